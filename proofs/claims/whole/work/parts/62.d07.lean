theorem md_X18_onLocal_5 : (.fieldLink RX18 347 "ResourceLedgerModel" "locals" "[I" : Cond) ∈ wsX18_onLocal := List.mem_of_getElem? (i := 5) rfl
theorem iwd_X18_onLocal_X18 : ∀ w ∈ wsX180, w ∈ wsX18_onLocal := fun _ h => List.mem_cons_of_mem _ (List.mem_append_left _ (List.mem_append_right _ h))
theorem md_X18_onLocal_7 : (.fieldLink RX18 350 "ResourceLedgerModel" "localRefers" "[Z" : Cond) ∈ wsX18_onLocal := List.mem_of_getElem? (i := 7) rfl
theorem md_X18_onLocal_8 : (.fieldLink RX18 40 "ResourceLedgerModel" "trees" "LResourceLedgerModel$Trees;" : Cond) ∈ wsX18_onLocal := List.mem_of_getElem? (i := 8) rfl
theorem md_X18_onLocal_6 : (.fieldLink RX18 334 "ResourceLedgerModel" "taken" "I" : Cond) ∈ wsX18_onLocal := List.mem_of_getElem? (i := 6) rfl
theorem md_X18_onLocal_1 : (.fieldLink RX18 312 "ResourceLedgerModel" "height" "I" : Cond) ∈ wsX18_onLocal := List.mem_of_getElem? (i := 1) rfl
theorem md_X18_onLocal_2 : (.fieldLink RX18 325 "ResourceLedgerModel" "bases" "[I" : Cond) ∈ wsX18_onLocal := List.mem_of_getElem? (i := 2) rfl
theorem md_X18_onLocal_3 : (.fieldLink RX18 328 "ResourceLedgerModel" "frames" "I" : Cond) ∈ wsX18_onLocal := List.mem_of_getElem? (i := 3) rfl
theorem md_X18_onLocal_4 : (.fieldLink RX18 315 "ResourceLedgerModel" "refers" "[Z" : Cond) ∈ wsX18_onLocal := List.mem_of_getElem? (i := 4) rfl
set_option maxHeartbeats 4000000 in
set_option maxRecDepth 100000 in
theorem de_X18_onLocal (l : Launch) (dC : Nat → ClassId) (dI : Nat → Nat → Nat) (cy : Nat → ClassId) (a : Nat → Nat) (sh : Nat → Nat × Nat) (n sz : Nat) (F : Nat) (z : St) (h0 : Nat) (x0 : Int32) (x1 : Int32) {z8 : St} {r8 : Unit} (hf : fn_X18_onLocal F sh n z h0 x0 x1 = some (z8, r8)) : Met l yX18_onLocal wsX18_onLocal ({ frames := 50, cells := 0, slots := 0, locals := 1153 }) (va_Pc [.ref (a h0), .int x0, .int x1] (fun U => U.heap.size = sz ∧ va_P (dC, dI) vwCl (Wd cy a sh n z) U.heap ∧ va_K (dC, dI) vwCl (TYS cy) U ∧ va_D (fun _ => True) (Wd cy a sh n z) ∧ NK U)) (va_Qv (fun u : Unit => True) (fun u t => va_P (dC, dI) vwCl (Wd cy a sh n z8) t.heap ∧ va_K (dC, dI) vwCl (TYS cy) t ∧ va_D (va_A (Wd cy a sh n z) sz) (Wd cy a sh n z8)) (va_A (Wd cy a sh n z) sz)) 0 0 (va_A (Wd cy a sh n z) sz) := by
  refine Met.ofW (cc := cX18_onLocal) (maxL := 5) (ret := none) (by decide) rfl ?_
  intro p e s m args below meth c s₁ B hml hv
  obtain ⟨rfl, hsz, hP, hK, hD0, hN⟩ := hv
  have hx := B.exec
  have hb := B.bytes
  have hr := B.returns
  have hts := atoms_spec (ws := wsX18_onLocal) B.pre
  have hown : s.vm.findClass RX18 = some m.cls := findClass_of_methodNamed B.named
  have hlocks := B.notSynchronized
  subst hsz
  have hD := hD0.self (sz := s.heap.size)
  clear hD0
  generalize hAe : va_A (Wd cy a sh n z) s.heap.size = A at hD ⊢
  have hA : ∀ q : Nat, s.heap.size ≤ q → A q := fun q h => by rw [← hAe]; exact Or.inr h
  clear hAe
  have hS : va_S A s.heap s.heap [] := va_S.rf
  have hl := lv_entry ([.ref (a h0), .int x0, .int x1]) (n := 5) (Nat.le_of_ble_eq_true rfl)
  rw [lg_entry_eq]
  generalize (lg_sl ([.ref (a h0), .int x0, .int x1]) ++ List.replicate (5 - (lg_sl ([.ref (a h0), .int x0, .int x1])).length) Slot.unset).toArray = ls at hl ⊢
  replace hl : lv_has ls 5 [(0, .ref (a h0)), (1, .int x0), (2, .int x1)] := hl
  unfold fn_X18_onLocal at hf
  refine de_start hS hP (fun H locs hS hP => ?_)
  refine lv_aload_n hx hb dX18_onLocal_0 rfl (lv_at hl 0 rfl) ?_
  refine lv_iload_n hx hb dX18_onLocal_1 rfl (lv_at hl 2 rfl) ?_
  obtain ⟨g_3, hf⟩ := grd_some hf
  obtain ⟨kg_3, sg_3⟩ := okO_at g_3
  obtain ⟨z_1, r_2, hfc, hf⟩ := cal_some hf
  have hFc := de_free hD hS hA
  refine va_calli (va_runV (As := [.int x1]) (rest := []) ⟨hx, hb, hml, hown, hts⟩ (de_X18_local l dC dI cy a sh n H.size F z h0 x1 hfc) (cwV 1 hts gX18_onLocal_X18_local rfl rfl rfl (by decide +kernel) ⟨Nat.le_of_ble_eq_true rfl, Nat.le_of_ble_eq_true rfl⟩) ⟨fun a U g mk q => by obtain ⟨q0, q1, qP, qK, qD, qN⟩ := q; exact ⟨q0, q1, qP, va_K.moved (u := U) (U := U.calling g mk a) (Vm.Alike.refl U.vm) qK, qD, qN.same rfl⟩, va_recv hK hP (ci := 18) (q0 := h0) rfl (Wd_ob kg_3 sg_3 (by decide)), fun U hU hW => ⟨rfl, by rw [hU], by rw [hU]; exact hP, va_K.moved hW.alike hK, hD.weaken (fun _ _ _ _ => trivial), hN.warm hW⟩⟩ rfl rfl hl.1 rfl (lv_room (Nat.le_of_ble_eq_true rfl)) dX18_onLocal_2 ⟨Nat.le_of_ble_eq_true rfl, Nat.le_of_ble_eq_true rfl⟩) hS (fun q _ h => hFc q h) hFc (fun rr u t H_4 locs ht hvm hw hB hz1 hk1 hS2 => ?_)
  rw [hw]
  clear hw
  obtain ⟨hP1, -, hD1⟩ := hB
  rw [ht] at hP1
  replace hD := hD1.weaken (fun _ _ _ h => hFc _ h)
  replace hP := hP1
  replace hS := hS2
  clear hP1 hD1 hS2 hFc hfc hz1 hk1 hvm ht
  refine lv_istore_n (lv' := [(3, .int r_2), (0, .ref (a h0)), (1, .int x0), (2, .int x1)]) hx hb dX18_onLocal_5 rfl hl (by decide) rfl (fun ls hl2 => ?_)
  replace hl := hl2
  clear hl2
  refine lv_iload_n hx hb dX18_onLocal_6 rfl (lv_at hl 2 rfl) ?_
  refine lv_bipush (v := 13) hx hb dX18_onLocal_7 (by decide) ?_
  refine lv_icmp_ne (tgt := 92) hx hb dX18_onLocal_9 (by decide) (fun c_5 => ?_) (fun c_5 => ?_)
  · skip
    rw [if_neg c_5] at hf
    refine lv_aload_n hx hb dX18_onLocal_92 rfl (lv_at hl 1 rfl) ?_
    obtain ⟨k_6, ek_6, hf⟩ := lnk_some hf
    refine va_get (D := (dC, dI)) (ci := 18) (v := .ref (a k_6)) (C := RX18) (T := TX18) (N := 78) hx hb hts iwd_X18_onLocal_X18 hown hK hP h0 (Wd_ob kg_3 sg_3 (by decide)) rfl 41 (by decide) (hts _ md_X18_onLocal_5) (fun _ h9 => h9) (fl_q rfl ek_6) dX18_onLocal_93 ?_
    refine lv_iload_n hx hb dX18_onLocal_96 rfl (lv_at hl 0 rfl) ?_
    obtain ⟨g_7, hf⟩ := grd_some hf
    obtain ⟨kg_7, sg_7, ig_7⟩ := okA_at g_7
    refine va_iald hx hb hK hP k_6 1 (Wd_ai kg_7 sg_7) rfl ig_7 dX18_onLocal_97 ?_
    refine lv_iconst (v := (-1)) hx hb dX18_onLocal_98 (by decide) ?_
    refine de_cut (h := 106) (fun (x : St) => []) (fun x ls H locs => lv_has ls 5 [(3, .int r_2), (0, .ref (a h0)), (1, .int x0)] ∧ va_P (dC, dI) vwCl (Wd cy a sh n x) H ∧ va_D A (Wd cy a sh n x) ∧ va_S A s.heap H locs) (fun x => fn_X18_onLocal_B106 F sh n h0 x0 r_2 x) (z8, r8) ?_ (fun B106 => ?_)
    · intro x ls H locs hI hf
      obtain ⟨z_8, ez⟩ : ∃ w, w = x := ⟨_, rfl⟩
      subst ez
      obtain ⟨hl2, hP2, hD2, hS2⟩ := hI
      replace hl : lv_has ls 5 [(3, .int r_2), (0, .ref (a h0)), (1, .int x0)] := hl2
      replace hP := hP2
      replace hD := hD2
      replace hS := hS2
      clear hl2 hP2 hD2 hS2
      replace hf := fn_X18_onLocal_B106_s hf
      refine W.eq (g2 := F0 m 106 ls []) rfl ?_
      refine lv_aload_n hx hb dX18_onLocal_106 rfl (lv_at hl 1 rfl) ?_
      obtain ⟨z_9, r_10, hfc, hf⟩ := cal_some hf
      have hFc := de_free hD hS hA
      refine va_calli (va_runV (As := []) (rest := []) ⟨hx, hb, hml, hown, hts⟩ (de_X18_goesOn l dC dI cy a sh n H.size F z_8 h0 hfc) (cwV 0 hts gX18_onLocal_X18_goesOn rfl rfl rfl (by decide +kernel) ⟨Nat.le_of_ble_eq_true rfl, Nat.le_of_ble_eq_true rfl⟩) ⟨fun a U g mk q => by obtain ⟨q0, q1, qP, qK, qD, qN⟩ := q; exact ⟨q0, q1, qP, va_K.moved (u := U) (U := U.calling g mk a) (Vm.Alike.refl U.vm) qK, qD, qN.same rfl⟩, va_recv hK hP (ci := 18) (q0 := h0) rfl (Wd_ob kg_3 sg_3 (by decide)), fun U hU hW => ⟨rfl, by rw [hU], by rw [hU]; exact hP, va_K.moved hW.alike hK, hD.weaken (fun _ _ _ _ => trivial), hN.warm hW⟩⟩ rfl rfl hl.1 rfl (lv_room (Nat.le_of_ble_eq_true rfl)) dX18_onLocal_107 ⟨Nat.le_of_ble_eq_true rfl, Nat.le_of_ble_eq_true rfl⟩) hS (fun q _ h => hFc q h) hFc (fun rr u t H_11 locs ht hvm hw hB hz1 hk1 hS2 => ?_)
      rw [hw]
      clear hw
      obtain ⟨hP1, -, hD1⟩ := hB
      rw [ht] at hP1
      replace hD := hD1.weaken (fun _ _ _ h => hFc _ h)
      replace hP := hP1
      replace hS := hS2
      clear hP1 hD1 hS2 hFc hfc hz1 hk1 hvm ht
      refine lv_if_ne (tgt := 114) hx hb dX18_onLocal_110 (by decide) (fun c_12 => ?_) (fun c_12 => ?_)
      · skip
        rw [if_neg c_12] at hf
        refine lv_iload_n hx hb dX18_onLocal_114 rfl (lv_at hl 2 rfl) ?_
        refine lv_bipush (v := 11) hx hb dX18_onLocal_115 (by decide) ?_
        refine lv_icmp_ne (tgt := 192) hx hb dX18_onLocal_117 (by decide) (fun c_13 => ?_) (fun c_13 => ?_)
        · skip
          rw [if_neg c_13] at hf
          refine lv_iload_n hx hb dX18_onLocal_192 rfl (lv_at hl 2 rfl) ?_
          refine lv_bipush (v := 12) hx hb dX18_onLocal_193 (by decide) ?_
          refine lv_icmp_ne (tgt := 224) hx hb dX18_onLocal_195 (by decide) (fun c_14 => ?_) (fun c_14 => ?_)
          · skip
            rw [if_neg c_14] at hf
            refine lv_aload_n hx hb dX18_onLocal_224 rfl (lv_at hl 1 rfl) ?_
            refine lv_aload_n hx hb dX18_onLocal_225 rfl (lv_at hl 1 rfl) ?_
            obtain ⟨k_15, ek_15, hf⟩ := lnk_some hf
            refine va_get (D := (dC, dI)) (ci := 18) (v := .ref (a k_15)) (C := RX18) (T := TX18) (N := 78) hx hb hts iwd_X18_onLocal_X18 hown hK hP h0 (Wd_ob kg_3 sg_3 (by decide)) rfl 41 (by decide) (hts _ md_X18_onLocal_5) (fun _ h9 => h9) (fl_q rfl ek_15) dX18_onLocal_226 ?_
            refine lv_iload_n hx hb dX18_onLocal_229 rfl (lv_at hl 0 rfl) ?_
            obtain ⟨g_16, hf⟩ := grd_some hf
            obtain ⟨kg_16, sg_16, ig_16⟩ := okA_at g_16
            refine va_iald hx hb hK hP k_15 1 (Wd_ai kg_16 sg_16) rfl ig_16 dX18_onLocal_230 ?_
            refine lv_iconst (v := 1) hx hb dX18_onLocal_231 (by decide) ?_
            obtain ⟨z_17, _u, hfc, hf⟩ := cal_some hf
            have hFc := de_free hD hS hA
            refine va_callv (va_runV (As := [.int (z_9.1 k_15 r_2.toNatClampNeg), .int 1]) (rest := []) ⟨hx, hb, hml, hown, hts⟩ (de_X18_push l dC dI cy a sh n H_11.size F z_9 h0 (z_9.1 k_15 r_2.toNatClampNeg) 1 hfc) (cwV 2 hts gX18_onLocal_X18_push rfl rfl rfl (by decide +kernel) ⟨Nat.le_of_ble_eq_true rfl, Nat.le_of_ble_eq_true rfl⟩) ⟨fun a U g mk q => by obtain ⟨q0, q1, qP, qK, qD, qN⟩ := q; exact ⟨q0, q1, qP, va_K.moved (u := U) (U := U.calling g mk a) (Vm.Alike.refl U.vm) qK, qD, qN.same rfl⟩, va_recv hK hP (ci := 18) (q0 := h0) rfl (Wd_ob kg_3 sg_3 (by decide)), fun U hU hW => ⟨rfl, by rw [hU], by rw [hU]; exact hP, va_K.moved hW.alike hK, hD.weaken (fun _ _ _ _ => trivial), hN.warm hW⟩⟩ rfl rfl hl.1 rfl (lv_room (Nat.le_of_ble_eq_true rfl)) dX18_onLocal_232 ⟨Nat.le_of_ble_eq_true rfl, Nat.le_of_ble_eq_true rfl⟩) hS (fun q _ h => hFc q h) hFc (fun u t H_18 locs ht hvm hw hB hz1 hk1 hS2 => ?_)
            obtain ⟨hP1, -, hD1⟩ := hB
            rw [ht] at hP1
            replace hD := hD1.weaken (fun _ _ _ h => hFc _ h)
            replace hP := hP1
            replace hS := hS2
            clear hP1 hD1 hS2 hFc hfc hz1 hk1 hvm ht
            obtain ⟨h8, h9⟩ := ret_some hf
            rw [h8]
            exact W.vret hx hb hr (fun t ht hW => ⟨⟨(), rfl, trivial, by rw [ht]; exact hP, va_K.moved hW.alike hK, hD⟩, hS.F ht⟩) hS.2.2 dX18_onLocal_235
          · skip
            rw [if_pos c_14] at hf
            refine lv_aload_n hx hb dX18_onLocal_198 rfl (lv_at hl 1 rfl) ?_
            refine lv_aload_n hx hb dX18_onLocal_199 rfl (lv_at hl 1 rfl) ?_
            obtain ⟨k_19, ek_19, hf⟩ := lnk_some hf
            refine va_get (D := (dC, dI)) (ci := 18) (v := .ref (a k_19)) (C := RX18) (T := TX18) (N := 78) hx hb hts iwd_X18_onLocal_X18 hown hK hP h0 (Wd_ob kg_3 sg_3 (by decide)) rfl 41 (by decide) (hts _ md_X18_onLocal_5) (fun _ h9 => h9) (fl_q rfl ek_19) dX18_onLocal_200 ?_
            refine lv_iload_n hx hb dX18_onLocal_203 rfl (lv_at hl 0 rfl) ?_
            obtain ⟨g_20, hf⟩ := grd_some hf
            obtain ⟨kg_20, sg_20, ig_20⟩ := okA_at g_20
            refine va_iald hx hb hK hP k_19 1 (Wd_ai kg_20 sg_20) rfl ig_20 dX18_onLocal_204 ?_
            refine lv_aload_n hx hb dX18_onLocal_205 rfl (lv_at hl 1 rfl) ?_
            obtain ⟨k_21, ek_21, hf⟩ := lnk_some hf
            refine va_get (D := (dC, dI)) (ci := 18) (v := .ref (a k_21)) (C := RX18) (T := TX18) (N := 78) hx hb hts iwd_X18_onLocal_X18 hown hK hP h0 (Wd_ob kg_3 sg_3 (by decide)) rfl 42 (by decide) (hts _ md_X18_onLocal_7) (fun _ h9 => h9) (fl_q rfl ek_21) dX18_onLocal_206 ?_
            refine lv_iload_n hx hb dX18_onLocal_209 rfl (lv_at hl 0 rfl) ?_
            obtain ⟨g_22, hf⟩ := grd_some hf
            obtain ⟨kg_22, sg_22, ig_22⟩ := okA_at g_22
            refine va_zald hx hb hK hP k_21 3 (Wd_az kg_22 sg_22) rfl ig_22 dX18_onLocal_210 ?_
            obtain ⟨z_23, _u, hfc, hf⟩ := cal_some hf
            have hFc := de_free hD hS hA
            refine va_callv (va_runV (As := [.int (z_9.1 k_19 r_2.toNatClampNeg), .int (z_9.1 k_21 r_2.toNatClampNeg)]) (rest := []) ⟨hx, hb, hml, hown, hts⟩ (de_X18_push l dC dI cy a sh n H_11.size F z_9 h0 (z_9.1 k_19 r_2.toNatClampNeg) (z_9.1 k_21 r_2.toNatClampNeg) hfc) (cwV 2 hts gX18_onLocal_X18_push rfl rfl rfl (by decide +kernel) ⟨Nat.le_of_ble_eq_true rfl, Nat.le_of_ble_eq_true rfl⟩) ⟨fun a U g mk q => by obtain ⟨q0, q1, qP, qK, qD, qN⟩ := q; exact ⟨q0, q1, qP, va_K.moved (u := U) (U := U.calling g mk a) (Vm.Alike.refl U.vm) qK, qD, qN.same rfl⟩, va_recv hK hP (ci := 18) (q0 := h0) rfl (Wd_ob kg_3 sg_3 (by decide)), fun U hU hW => ⟨rfl, by rw [hU], by rw [hU]; exact hP, va_K.moved hW.alike hK, hD.weaken (fun _ _ _ _ => trivial), hN.warm hW⟩⟩ rfl rfl hl.1 rfl (lv_room (Nat.le_of_ble_eq_true rfl)) dX18_onLocal_211 ⟨Nat.le_of_ble_eq_true rfl, Nat.le_of_ble_eq_true rfl⟩) hS (fun q _ h => hFc q h) hFc (fun u t H_24 locs ht hvm hw hB hz1 hk1 hS2 => ?_)
            obtain ⟨hP1, -, hD1⟩ := hB
            rw [ht] at hP1
            replace hD := hD1.weaken (fun _ _ _ h => hFc _ h)
            replace hP := hP1
            replace hS := hS2
            clear hP1 hD1 hS2 hFc hfc hz1 hk1 hvm ht
            refine lv_aload_n hx hb dX18_onLocal_214 rfl (lv_at hl 1 rfl) ?_
            obtain ⟨k_25, ek_25, hf⟩ := lnk_some hf
            refine va_get (D := (dC, dI)) (ci := 18) (v := .ref (a k_25)) (C := RX18) (T := TX18) (N := 78) hx hb hts iwd_X18_onLocal_X18 hown hK hP h0 (Wd_ob kg_3 sg_3 (by decide)) rfl 41 (by decide) (hts _ md_X18_onLocal_5) (fun _ h9 => h9) (fl_q rfl ek_25) dX18_onLocal_215 ?_
            refine lv_iload_n hx hb dX18_onLocal_218 rfl (lv_at hl 0 rfl) ?_
            refine lv_iconst (v := (-1)) hx hb dX18_onLocal_219 (by decide) ?_
            obtain ⟨g_26, hf⟩ := grd_some hf
            obtain ⟨kg_26, sg_26, ig_26⟩ := okA_at g_26
            refine va_iast hx hb hK hP hD hS k_25 1 (Wd_ai kg_26 sg_26) rfl ig_26 dX18_onLocal_220 (fun H_27 locs hP2 hD2 hS2 => ?_)
            rw [Wd_ti sg_26] at hP2 hD2
            obtain ⟨z_28, ez_28⟩ : ∃ w, w = si z_23 k_25 r_2.toNatClampNeg (-1) := ⟨_, rfl⟩
            rw [← ez_28] at hP2 hD2
            replace hf := lt_at ez_28 hf
            clear ez_28
            replace hP := hP2
            replace hD := hD2
            replace hS := hS2
            clear hP2 hD2 hS2
            refine lv_goto (tgt := 235) hx hb dX18_onLocal_221 (by decide) ?_
            obtain ⟨h8, h9⟩ := ret_some hf
            rw [h8]
            exact W.vret hx hb hr (fun t ht hW => ⟨⟨(), rfl, trivial, by rw [ht]; exact hP, va_K.moved hW.alike hK, hD⟩, hS.F ht⟩) hS.2.2 dX18_onLocal_235
        · skip
          rw [if_pos c_13] at hf
          refine lv_aload_n hx hb dX18_onLocal_120 rfl (lv_at hl 1 rfl) ?_
          obtain ⟨k_29, ek_29, hf⟩ := lnk_some hf
          refine va_get (D := (dC, dI)) (ci := 18) (v := .ref (a k_29)) (C := RX18) (T := TX18) (N := 78) hx hb hts iwd_X18_onLocal_X18 hown hK hP h0 (Wd_ob kg_3 sg_3 (by decide)) rfl 42 (by decide) (hts _ md_X18_onLocal_7) (fun _ h9 => h9) (fl_q rfl ek_29) dX18_onLocal_121 ?_
          refine lv_iload_n hx hb dX18_onLocal_124 rfl (lv_at hl 0 rfl) ?_
          obtain ⟨g_30, hf⟩ := grd_some hf
          obtain ⟨kg_30, sg_30, ig_30⟩ := okA_at g_30
          refine va_zald hx hb hK hP k_29 3 (Wd_az kg_30 sg_30) rfl ig_30 dX18_onLocal_125 ?_
          refine lv_if_eq (tgt := 151) hx hb dX18_onLocal_126 (by decide) (fun c_31 => ?_) (fun c_31 => ?_)
          · skip
            rw [if_pos c_31] at hf
            refine lv_aload_n hx hb dX18_onLocal_151 rfl (lv_at hl 1 rfl) ?_
            refine lv_aload_n hx hb dX18_onLocal_152 rfl (lv_at hl 1 rfl) ?_
            obtain ⟨k_32, ek_32, hf⟩ := lnk_some hf
            refine va_get (D := (dC, dI)) (ci := 18) (v := .ref (a k_32)) (C := RX18) (T := TX18) (N := 78) hx hb hts iwd_X18_onLocal_X18 hown hK hP h0 (Wd_ob kg_3 sg_3 (by decide)) rfl 15 (by decide) (hts _ md_X18_onLocal_8) (fun _ h9 => h9) (fl_q rfl ek_32) dX18_onLocal_153 ?_
            refine lv_aload_n hx hb dX18_onLocal_156 rfl (lv_at hl 1 rfl) ?_
            obtain ⟨k_33, ek_33, hf⟩ := lnk_some hf
            refine va_get (D := (dC, dI)) (ci := 18) (v := .ref (a k_33)) (C := RX18) (T := TX18) (N := 78) hx hb hts iwd_X18_onLocal_X18 hown hK hP h0 (Wd_ob kg_3 sg_3 (by decide)) rfl 41 (by decide) (hts _ md_X18_onLocal_5) (fun _ h9 => h9) (fl_q rfl ek_33) dX18_onLocal_157 ?_
            refine lv_iload_n hx hb dX18_onLocal_160 rfl (lv_at hl 0 rfl) ?_
            obtain ⟨g_34, hf⟩ := grd_some hf
            obtain ⟨kg_34, sg_34, ig_34⟩ := okA_at g_34
            refine va_iald hx hb hK hP k_33 1 (Wd_ai kg_34 sg_34) rfl ig_34 dX18_onLocal_161 ?_
            obtain ⟨g_37, hf⟩ := grd_some hf
            obtain ⟨kg_37, sg_37⟩ := okO_at g_37
            obtain ⟨z_35, r_36, hfc, hf⟩ := cal_some hf
            have hFc := de_free hD hS hA
            refine va_calli (va_runV (As := [.int (z_9.1 k_33 r_2.toNatClampNeg)]) (rest := [.ref (a h0)]) ⟨hx, hb, hml, hown, hts⟩ (de_X15_sizeOf l dC dI cy a sh n F 48 H_11.size z_9 k_32 (z_9.1 k_33 r_2.toNatClampNeg) hfc) (cwV 1 hts gX18_onLocal_X15_sizeOf rfl rfl rfl (by decide +kernel) ⟨Nat.le_of_ble_eq_true rfl, Nat.le_of_ble_eq_true rfl⟩) ⟨fun a U g mk q => by obtain ⟨q0, q1, qP, qK, qD, qN⟩ := q; exact ⟨q0, q1, qP, va_K.moved (u := U) (U := U.calling g mk a) (Vm.Alike.refl U.vm) qK, qD, qN.same rfl⟩, va_recv hK hP (ci := 15) (q0 := k_32) rfl (Wd_ob kg_37 sg_37 (by decide)), fun U hU hW => ⟨rfl, by rw [hU], by rw [hU]; exact hP, va_K.moved hW.alike hK, hD.weaken (fun _ _ _ _ => trivial), hN.warm hW⟩⟩ rfl rfl hl.1 rfl (lv_room (Nat.le_of_ble_eq_true rfl)) dX18_onLocal_162 ⟨Nat.le_of_ble_eq_true rfl, Nat.le_of_ble_eq_true rfl⟩) hS (fun q _ h => hFc q h) hFc (fun rr u t H_38 locs ht hvm hw hB hz1 hk1 hS2 => ?_)
            rw [hw]
            clear hw
            obtain ⟨hP1, -, hD1⟩ := hB
            rw [ht] at hP1
            replace hD := hD1.weaken (fun _ _ _ h => hFc _ h)
            replace hP := hP1
            replace hS := hS2
            clear hP1 hD1 hS2 hFc hfc hz1 hk1 hvm ht
            obtain ⟨z_39, r_40, hfc, hf⟩ := cal_some hf
            have hFc := de_free hD hS hA
            refine va_calli (va_runV (As := [.int r_36]) (rest := []) ⟨hx, hb, hml, hown, hts⟩ (de_X18_spend l dC dI cy a sh n H_38.size F z_35 h0 r_36 hfc) (cwV 1 hts gX18_onLocal_X18_spend rfl rfl rfl (by decide +kernel) ⟨Nat.le_of_ble_eq_true rfl, Nat.le_of_ble_eq_true rfl⟩) ⟨fun a U g mk q => by obtain ⟨q0, q1, qP, qK, qD, qN⟩ := q; exact ⟨q0, q1, qP, va_K.moved (u := U) (U := U.calling g mk a) (Vm.Alike.refl U.vm) qK, qD, qN.same rfl⟩, va_recv hK hP (ci := 18) (q0 := h0) rfl (Wd_ob kg_3 sg_3 (by decide)), fun U hU hW => ⟨rfl, by rw [hU], by rw [hU]; exact hP, va_K.moved hW.alike hK, hD.weaken (fun _ _ _ _ => trivial), hN.warm hW⟩⟩ rfl rfl hl.1 rfl (lv_room (Nat.le_of_ble_eq_true rfl)) dX18_onLocal_165 ⟨Nat.le_of_ble_eq_true rfl, Nat.le_of_ble_eq_true rfl⟩) hS (fun q _ h => hFc q h) hFc (fun rr u t H_41 locs ht hvm hw hB hz1 hk1 hS2 => ?_)
            rw [hw]
            clear hw
            obtain ⟨hP1, -, hD1⟩ := hB
            rw [ht] at hP1
            replace hD := hD1.weaken (fun _ _ _ h => hFc _ h)
            replace hP := hP1
            replace hS := hS2
            clear hP1 hD1 hS2 hFc hfc hz1 hk1 hvm ht
            refine lv_if_eq (tgt := 235) hx hb dX18_onLocal_168 (by decide) (fun c_42 => ?_) (fun c_42 => ?_)
            · skip
              rw [if_pos c_42] at hf
              obtain ⟨h8, h9⟩ := ret_some hf
              rw [h8]
              exact W.vret hx hb hr (fun t ht hW => ⟨⟨(), rfl, trivial, by rw [ht]; exact hP, va_K.moved hW.alike hK, hD⟩, hS.F ht⟩) hS.2.2 dX18_onLocal_235
            · skip
              rw [if_neg c_42] at hf
              refine lv_aload_n hx hb dX18_onLocal_171 rfl (lv_at hl 1 rfl) ?_
              refine lv_aload_n hx hb dX18_onLocal_172 rfl (lv_at hl 1 rfl) ?_
              obtain ⟨k_43, ek_43, hf⟩ := lnk_some hf
              refine va_get (D := (dC, dI)) (ci := 18) (v := .ref (a k_43)) (C := RX18) (T := TX18) (N := 78) hx hb hts iwd_X18_onLocal_X18 hown hK hP h0 (Wd_ob kg_3 sg_3 (by decide)) rfl 15 (by decide) (hts _ md_X18_onLocal_8) (fun _ h9 => h9) (fl_q rfl ek_43) dX18_onLocal_173 ?_
              refine lv_aload_n hx hb dX18_onLocal_176 rfl (lv_at hl 1 rfl) ?_
              obtain ⟨k_44, ek_44, hf⟩ := lnk_some hf
              refine va_get (D := (dC, dI)) (ci := 18) (v := .ref (a k_44)) (C := RX18) (T := TX18) (N := 78) hx hb hts iwd_X18_onLocal_X18 hown hK hP h0 (Wd_ob kg_3 sg_3 (by decide)) rfl 41 (by decide) (hts _ md_X18_onLocal_5) (fun _ h9 => h9) (fl_q rfl ek_44) dX18_onLocal_177 ?_
              refine lv_iload_n hx hb dX18_onLocal_180 rfl (lv_at hl 0 rfl) ?_
              obtain ⟨g_45, hf⟩ := grd_some hf
              obtain ⟨kg_45, sg_45, ig_45⟩ := okA_at g_45
              refine va_iald hx hb hK hP k_44 1 (Wd_ai kg_45 sg_45) rfl ig_45 dX18_onLocal_181 ?_
              obtain ⟨g_48, hf⟩ := grd_some hf
              obtain ⟨kg_48, sg_48⟩ := okO_at g_48
              obtain ⟨z_46, r_47, hfc, hf⟩ := cal_some hf
              have hFc := de_free hD hS hA
              refine va_calli (va_runV (As := [.int (z_39.1 k_44 r_2.toNatClampNeg)]) (rest := [.ref (a h0)]) ⟨hx, hb, hml, hown, hts⟩ (de_X15_copy l dC dI cy a sh n F 48 H_41.size z_39 k_43 (z_39.1 k_44 r_2.toNatClampNeg) hfc) (cwV 1 hts gX18_onLocal_X15_copy rfl rfl rfl (by decide +kernel) ⟨Nat.le_of_ble_eq_true rfl, Nat.le_of_ble_eq_true rfl⟩) ⟨fun a U g mk q => by obtain ⟨q0, q1, qP, qK, qD, qN⟩ := q; exact ⟨q0, q1, qP, va_K.moved (u := U) (U := U.calling g mk a) (Vm.Alike.refl U.vm) qK, qD, qN.same rfl⟩, va_recv hK hP (ci := 15) (q0 := k_43) rfl (Wd_ob kg_48 sg_48 (by decide)), fun U hU hW => ⟨rfl, by rw [hU], by rw [hU]; exact hP, va_K.moved hW.alike hK, hD.weaken (fun _ _ _ _ => trivial), hN.warm hW⟩⟩ rfl rfl hl.1 rfl (lv_room (Nat.le_of_ble_eq_true rfl)) dX18_onLocal_182 ⟨Nat.le_of_ble_eq_true rfl, Nat.le_of_ble_eq_true rfl⟩) hS (fun q _ h => hFc q h) hFc (fun rr u t H_49 locs ht hvm hw hB hz1 hk1 hS2 => ?_)
              rw [hw]
              clear hw
              obtain ⟨hP1, -, hD1⟩ := hB
              rw [ht] at hP1
              replace hD := hD1.weaken (fun _ _ _ h => hFc _ h)
              replace hP := hP1
              replace hS := hS2
              clear hP1 hD1 hS2 hFc hfc hz1 hk1 hvm ht
              refine lv_iconst (v := 0) hx hb dX18_onLocal_185 (by decide) ?_
              obtain ⟨z_50, _u, hfc, hf⟩ := cal_some hf
              have hFc := de_free hD hS hA
              refine va_callv (va_runV (As := [.int r_47, .int 0]) (rest := []) ⟨hx, hb, hml, hown, hts⟩ (de_X18_push l dC dI cy a sh n H_49.size F z_46 h0 r_47 0 hfc) (cwV 2 hts gX18_onLocal_X18_push rfl rfl rfl (by decide +kernel) ⟨Nat.le_of_ble_eq_true rfl, Nat.le_of_ble_eq_true rfl⟩) ⟨fun a U g mk q => by obtain ⟨q0, q1, qP, qK, qD, qN⟩ := q; exact ⟨q0, q1, qP, va_K.moved (u := U) (U := U.calling g mk a) (Vm.Alike.refl U.vm) qK, qD, qN.same rfl⟩, va_recv hK hP (ci := 18) (q0 := h0) rfl (Wd_ob kg_3 sg_3 (by decide)), fun U hU hW => ⟨rfl, by rw [hU], by rw [hU]; exact hP, va_K.moved hW.alike hK, hD.weaken (fun _ _ _ _ => trivial), hN.warm hW⟩⟩ rfl rfl hl.1 rfl (lv_room (Nat.le_of_ble_eq_true rfl)) dX18_onLocal_186 ⟨Nat.le_of_ble_eq_true rfl, Nat.le_of_ble_eq_true rfl⟩) hS (fun q _ h => hFc q h) hFc (fun u t H_51 locs ht hvm hw hB hz1 hk1 hS2 => ?_)
              obtain ⟨hP1, -, hD1⟩ := hB
              rw [ht] at hP1
              replace hD := hD1.weaken (fun _ _ _ h => hFc _ h)
              replace hP := hP1
              replace hS := hS2
              clear hP1 hD1 hS2 hFc hfc hz1 hk1 hvm ht
              refine lv_goto (tgt := 235) hx hb dX18_onLocal_189 (by decide) ?_
              obtain ⟨h8, h9⟩ := ret_some hf
              rw [h8]
              exact W.vret hx hb hr (fun t ht hW => ⟨⟨(), rfl, trivial, by rw [ht]; exact hP, va_K.moved hW.alike hK, hD⟩, hS.F ht⟩) hS.2.2 dX18_onLocal_235
          · skip
            rw [if_neg c_31] at hf
            refine lv_aload_n hx hb dX18_onLocal_129 rfl (lv_at hl 1 rfl) ?_
            refine lv_iconst (v := 1) hx hb dX18_onLocal_130 (by decide) ?_
            obtain ⟨z_52, r_53, hfc, hf⟩ := cal_some hf
            have hFc := de_free hD hS hA
            refine va_calli (va_runV (As := [.int 1]) (rest := []) ⟨hx, hb, hml, hown, hts⟩ (de_X18_spend l dC dI cy a sh n H_11.size F z_9 h0 1 hfc) (cwV 1 hts gX18_onLocal_X18_spend rfl rfl rfl (by decide +kernel) ⟨Nat.le_of_ble_eq_true rfl, Nat.le_of_ble_eq_true rfl⟩) ⟨fun a U g mk q => by obtain ⟨q0, q1, qP, qK, qD, qN⟩ := q; exact ⟨q0, q1, qP, va_K.moved (u := U) (U := U.calling g mk a) (Vm.Alike.refl U.vm) qK, qD, qN.same rfl⟩, va_recv hK hP (ci := 18) (q0 := h0) rfl (Wd_ob kg_3 sg_3 (by decide)), fun U hU hW => ⟨rfl, by rw [hU], by rw [hU]; exact hP, va_K.moved hW.alike hK, hD.weaken (fun _ _ _ _ => trivial), hN.warm hW⟩⟩ rfl rfl hl.1 rfl (lv_room (Nat.le_of_ble_eq_true rfl)) dX18_onLocal_131 ⟨Nat.le_of_ble_eq_true rfl, Nat.le_of_ble_eq_true rfl⟩) hS (fun q _ h => hFc q h) hFc (fun rr u t H_54 locs ht hvm hw hB hz1 hk1 hS2 => ?_)
            rw [hw]
            clear hw
            obtain ⟨hP1, -, hD1⟩ := hB
            rw [ht] at hP1
            replace hD := hD1.weaken (fun _ _ _ h => hFc _ h)
            replace hP := hP1
            replace hS := hS2
            clear hP1 hD1 hS2 hFc hfc hz1 hk1 hvm ht
            refine lv_if_eq (tgt := 235) hx hb dX18_onLocal_134 (by decide) (fun c_55 => ?_) (fun c_55 => ?_)
            · skip
              rw [if_pos c_55] at hf
              obtain ⟨h8, h9⟩ := ret_some hf
              rw [h8]
              exact W.vret hx hb hr (fun t ht hW => ⟨⟨(), rfl, trivial, by rw [ht]; exact hP, va_K.moved hW.alike hK, hD⟩, hS.F ht⟩) hS.2.2 dX18_onLocal_235
            · skip
              rw [if_neg c_55] at hf
              refine lv_aload_n hx hb dX18_onLocal_137 rfl (lv_at hl 1 rfl) ?_
              refine lv_aload_n hx hb dX18_onLocal_138 rfl (lv_at hl 1 rfl) ?_
              obtain ⟨k_56, ek_56, hf⟩ := lnk_some hf
              refine va_get (D := (dC, dI)) (ci := 18) (v := .ref (a k_56)) (C := RX18) (T := TX18) (N := 78) hx hb hts iwd_X18_onLocal_X18 hown hK hP h0 (Wd_ob kg_3 sg_3 (by decide)) rfl 41 (by decide) (hts _ md_X18_onLocal_5) (fun _ h9 => h9) (fl_q rfl ek_56) dX18_onLocal_139 ?_
              refine lv_iload_n hx hb dX18_onLocal_142 rfl (lv_at hl 0 rfl) ?_
              obtain ⟨g_57, hf⟩ := grd_some hf
              obtain ⟨kg_57, sg_57, ig_57⟩ := okA_at g_57
              refine va_iald hx hb hK hP k_56 1 (Wd_ai kg_57 sg_57) rfl ig_57 dX18_onLocal_143 ?_
              refine lv_iconst (v := 1) hx hb dX18_onLocal_144 (by decide) ?_
              obtain ⟨z_58, _u, hfc, hf⟩ := cal_some hf
              have hFc := de_free hD hS hA
              refine va_callv (va_runV (As := [.int (z_52.1 k_56 r_2.toNatClampNeg), .int 1]) (rest := []) ⟨hx, hb, hml, hown, hts⟩ (de_X18_push l dC dI cy a sh n H_54.size F z_52 h0 (z_52.1 k_56 r_2.toNatClampNeg) 1 hfc) (cwV 2 hts gX18_onLocal_X18_push rfl rfl rfl (by decide +kernel) ⟨Nat.le_of_ble_eq_true rfl, Nat.le_of_ble_eq_true rfl⟩) ⟨fun a U g mk q => by obtain ⟨q0, q1, qP, qK, qD, qN⟩ := q; exact ⟨q0, q1, qP, va_K.moved (u := U) (U := U.calling g mk a) (Vm.Alike.refl U.vm) qK, qD, qN.same rfl⟩, va_recv hK hP (ci := 18) (q0 := h0) rfl (Wd_ob kg_3 sg_3 (by decide)), fun U hU hW => ⟨rfl, by rw [hU], by rw [hU]; exact hP, va_K.moved hW.alike hK, hD.weaken (fun _ _ _ _ => trivial), hN.warm hW⟩⟩ rfl rfl hl.1 rfl (lv_room (Nat.le_of_ble_eq_true rfl)) dX18_onLocal_145 ⟨Nat.le_of_ble_eq_true rfl, Nat.le_of_ble_eq_true rfl⟩) hS (fun q _ h => hFc q h) hFc (fun u t H_59 locs ht hvm hw hB hz1 hk1 hS2 => ?_)
              obtain ⟨hP1, -, hD1⟩ := hB
              rw [ht] at hP1
              replace hD := hD1.weaken (fun _ _ _ h => hFc _ h)
              replace hP := hP1
              replace hS := hS2
              clear hP1 hD1 hS2 hFc hfc hz1 hk1 hvm ht
              refine lv_goto (tgt := 235) hx hb dX18_onLocal_148 (by decide) ?_
              obtain ⟨h8, h9⟩ := ret_some hf
              rw [h8]
              exact W.vret hx hb hr (fun t ht hW => ⟨⟨(), rfl, trivial, by rw [ht]; exact hP, va_K.moved hW.alike hK, hD⟩, hS.F ht⟩) hS.2.2 dX18_onLocal_235
      · skip
        rw [if_pos c_12] at hf
        obtain ⟨h8, h9⟩ := ret_some hf
        rw [h8]
        exact W.vret hx hb hr (fun t ht hW => ⟨⟨(), rfl, trivial, by rw [ht]; exact hP, va_K.moved hW.alike hK, hD⟩, hS.F ht⟩) hS.2.2 dX18_onLocal_113
    refine lv_icmp_ne (tgt := 106) hx hb dX18_onLocal_99 (by decide) (fun c_60 => ?_) (fun c_60 => ?_)
    · skip
      rw [if_neg c_60] at hf
      exact B106 (z_1) ls H_4 locs ⟨lv_sub hl [0, 1, 2] rfl, hP, hD, hS⟩ hf
    · skip
      rw [if_pos c_60] at hf
      refine lv_aload_n hx hb dX18_onLocal_102 rfl (lv_at hl 1 rfl) ?_
      obtain ⟨z_61, _u, hfc, hf⟩ := cal_some hf
      have hFc := de_free hD hS hA
      refine va_callv (va_runV (As := []) (rest := []) ⟨hx, hb, hml, hown, hts⟩ (de_X18_slip l dC dI cy a sh n H_4.size F z_1 h0 hfc) (cwV 0 hts gX18_onLocal_X18_slip rfl rfl rfl (by decide +kernel) ⟨Nat.le_of_ble_eq_true rfl, Nat.le_of_ble_eq_true rfl⟩) ⟨fun a U g mk q => by obtain ⟨q0, q1, qP, qK, qD, qN⟩ := q; exact ⟨q0, q1, qP, va_K.moved (u := U) (U := U.calling g mk a) (Vm.Alike.refl U.vm) qK, qD, qN.same rfl⟩, va_recv hK hP (ci := 18) (q0 := h0) rfl (Wd_ob kg_3 sg_3 (by decide)), fun U hU hW => ⟨rfl, by rw [hU], by rw [hU]; exact hP, va_K.moved hW.alike hK, hD.weaken (fun _ _ _ _ => trivial), hN.warm hW⟩⟩ rfl rfl hl.1 rfl (lv_room (Nat.le_of_ble_eq_true rfl)) dX18_onLocal_103 ⟨Nat.le_of_ble_eq_true rfl, Nat.le_of_ble_eq_true rfl⟩) hS (fun q _ h => hFc q h) hFc (fun u t H_62 locs ht hvm hw hB hz1 hk1 hS2 => ?_)
      obtain ⟨hP1, -, hD1⟩ := hB
      rw [ht] at hP1
      replace hD := hD1.weaken (fun _ _ _ h => hFc _ h)
      replace hP := hP1
      replace hS := hS2
      clear hP1 hD1 hS2 hFc hfc hz1 hk1 hvm ht
      exact B106 (z_61) ls H_62 locs ⟨lv_sub hl [0, 1, 2] rfl, hP, hD, hS⟩ hf
  · skip
    rw [if_pos c_5] at hf
    refine lv_aload_n hx hb dX18_onLocal_12 rfl (lv_at hl 1 rfl) ?_
    obtain ⟨z_63, r_64, hfc, hf⟩ := cal_some hf
    have hFc := de_free hD hS hA
    refine va_calli (va_runV (As := []) (rest := []) ⟨hx, hb, hml, hown, hts⟩ (de_X18_goesOn l dC dI cy a sh n H_4.size F z_1 h0 hfc) (cwV 0 hts gX18_onLocal_X18_goesOn rfl rfl rfl (by decide +kernel) ⟨Nat.le_of_ble_eq_true rfl, Nat.le_of_ble_eq_true rfl⟩) ⟨fun a U g mk q => by obtain ⟨q0, q1, qP, qK, qD, qN⟩ := q; exact ⟨q0, q1, qP, va_K.moved (u := U) (U := U.calling g mk a) (Vm.Alike.refl U.vm) qK, qD, qN.same rfl⟩, va_recv hK hP (ci := 18) (q0 := h0) rfl (Wd_ob kg_3 sg_3 (by decide)), fun U hU hW => ⟨rfl, by rw [hU], by rw [hU]; exact hP, va_K.moved hW.alike hK, hD.weaken (fun _ _ _ _ => trivial), hN.warm hW⟩⟩ rfl rfl hl.1 rfl (lv_room (Nat.le_of_ble_eq_true rfl)) dX18_onLocal_13 ⟨Nat.le_of_ble_eq_true rfl, Nat.le_of_ble_eq_true rfl⟩) hS (fun q _ h => hFc q h) hFc (fun rr u t H_65 locs ht hvm hw hB hz1 hk1 hS2 => ?_)
    rw [hw]
    clear hw
    obtain ⟨hP1, -, hD1⟩ := hB
    rw [ht] at hP1
    replace hD := hD1.weaken (fun _ _ _ h => hFc _ h)
    replace hP := hP1
    replace hS := hS2
    clear hP1 hD1 hS2 hFc hfc hz1 hk1 hvm ht
    refine de_cut (h := 56) (fun (x : St × Int32) => [.int x.2]) (fun x ls H locs => lv_has ls 5 [(3, .int r_2), (0, .ref (a h0))] ∧ va_P (dC, dI) vwCl (Wd cy a sh n x.1) H ∧ va_D A (Wd cy a sh n x.1) ∧ va_S A s.heap H locs) (fun x => fn_X18_onLocal_B56 F sh n h0 r_2 x.1 x.2) (z8, r8) ?_ (fun B56 => ?_)
    · intro x ls H locs hI hf
      obtain ⟨z_67, p_66⟩ := x
      obtain ⟨hl2, hP2, hD2, hS2⟩ := hI
      replace hl : lv_has ls 5 [(3, .int r_2), (0, .ref (a h0))] := hl2
      replace hP := hP2
      replace hD := hD2
      replace hS := hS2
      clear hl2 hP2 hD2 hS2
      replace hf := fn_X18_onLocal_B56_s hf
      refine W.eq (g2 := F0 m 56 ls [.int p_66]) rfl ?_
      refine lv_istore (lv' := [(4, .int p_66), (3, .int r_2), (0, .ref (a h0))]) hx hb dX18_onLocal_56 hl (by decide) rfl (fun ls hl2 => ?_)
      replace hl := hl2
      clear hl2
      refine lv_aload_n hx hb dX18_onLocal_58 rfl (lv_at hl 2 rfl) ?_
      refine lv_iload hx hb dX18_onLocal_59 (lv_at hl 0 rfl) ?_
      obtain ⟨z_68, r_69, hfc, hf⟩ := cal_some hf
      have hFc := de_free hD hS hA
      refine va_calli (va_runV (As := [.int p_66]) (rest := []) ⟨hx, hb, hml, hown, hts⟩ (de_X18_takeAny l dC dI cy a sh n H.size F z_67 h0 p_66 hfc) (cwV 1 hts gX18_onLocal_X18_takeAny rfl rfl rfl (by decide +kernel) ⟨Nat.le_of_ble_eq_true rfl, Nat.le_of_ble_eq_true rfl⟩) ⟨fun a U g mk q => by obtain ⟨q0, q1, qP, qK, qD, qN⟩ := q; exact ⟨q0, q1, qP, va_K.moved (u := U) (U := U.calling g mk a) (Vm.Alike.refl U.vm) qK, qD, qN.same rfl⟩, va_recv hK hP (ci := 18) (q0 := h0) rfl (Wd_ob kg_3 sg_3 (by decide)), fun U hU hW => ⟨rfl, by rw [hU], by rw [hU]; exact hP, va_K.moved hW.alike hK, hD.weaken (fun _ _ _ _ => trivial), hN.warm hW⟩⟩ rfl rfl hl.1 rfl (lv_room (Nat.le_of_ble_eq_true rfl)) dX18_onLocal_61 ⟨Nat.le_of_ble_eq_true rfl, Nat.le_of_ble_eq_true rfl⟩) hS (fun q _ h => hFc q h) hFc (fun rr u t H_70 locs ht hvm hw hB hz1 hk1 hS2 => ?_)
      rw [hw]
      clear hw
      obtain ⟨hP1, -, hD1⟩ := hB
      rw [ht] at hP1
      replace hD := hD1.weaken (fun _ _ _ h => hFc _ h)
      replace hP := hP1
      replace hS := hS2
      clear hP1 hD1 hS2 hFc hfc hz1 hk1 hvm ht
      refine lv_pop hx hb dX18_onLocal_64 rfl ?_
      refine lv_aload_n hx hb dX18_onLocal_65 rfl (lv_at hl 2 rfl) ?_
      obtain ⟨z_71, r_72, hfc, hf⟩ := cal_some hf
      have hFc := de_free hD hS hA
      refine va_calli (va_runV (As := []) (rest := []) ⟨hx, hb, hml, hown, hts⟩ (de_X18_goesOn l dC dI cy a sh n H_70.size F z_68 h0 hfc) (cwV 0 hts gX18_onLocal_X18_goesOn rfl rfl rfl (by decide +kernel) ⟨Nat.le_of_ble_eq_true rfl, Nat.le_of_ble_eq_true rfl⟩) ⟨fun a U g mk q => by obtain ⟨q0, q1, qP, qK, qD, qN⟩ := q; exact ⟨q0, q1, qP, va_K.moved (u := U) (U := U.calling g mk a) (Vm.Alike.refl U.vm) qK, qD, qN.same rfl⟩, va_recv hK hP (ci := 18) (q0 := h0) rfl (Wd_ob kg_3 sg_3 (by decide)), fun U hU hW => ⟨rfl, by rw [hU], by rw [hU]; exact hP, va_K.moved hW.alike hK, hD.weaken (fun _ _ _ _ => trivial), hN.warm hW⟩⟩ rfl rfl hl.1 rfl (lv_room (Nat.le_of_ble_eq_true rfl)) dX18_onLocal_66 ⟨Nat.le_of_ble_eq_true rfl, Nat.le_of_ble_eq_true rfl⟩) hS (fun q _ h => hFc q h) hFc (fun rr u t H_73 locs ht hvm hw hB hz1 hk1 hS2 => ?_)
      rw [hw]
      clear hw
      obtain ⟨hP1, -, hD1⟩ := hB
      rw [ht] at hP1
      replace hD := hD1.weaken (fun _ _ _ h => hFc _ h)
      replace hP := hP1
      replace hS := hS2
      clear hP1 hD1 hS2 hFc hfc hz1 hk1 hvm ht
      refine lv_if_ne (tgt := 73) hx hb dX18_onLocal_69 (by decide) (fun c_74 => ?_) (fun c_74 => ?_)
      · skip
        rw [if_neg c_74] at hf
        refine lv_aload_n hx hb dX18_onLocal_73 rfl (lv_at hl 2 rfl) ?_
        obtain ⟨k_75, ek_75, hf⟩ := lnk_some hf
        refine va_get (D := (dC, dI)) (ci := 18) (v := .ref (a k_75)) (C := RX18) (T := TX18) (N := 78) hx hb hts iwd_X18_onLocal_X18 hown hK hP h0 (Wd_ob kg_3 sg_3 (by decide)) rfl 41 (by decide) (hts _ md_X18_onLocal_5) (fun _ h9 => h9) (fl_q rfl ek_75) dX18_onLocal_74 ?_
        refine lv_iload_n hx hb dX18_onLocal_77 rfl (lv_at hl 1 rfl) ?_
        refine lv_aload_n hx hb dX18_onLocal_78 rfl (lv_at hl 2 rfl) ?_
        refine va_get (D := (dC, dI)) (ci := 18) (v := .int (z_71.1 h0 46)) (C := RX18) (T := TX18) (N := 78) hx hb hts iwd_X18_onLocal_X18 hown hK hP h0 (Wd_ob kg_3 sg_3 (by decide)) rfl 46 (by decide) (hts _ md_X18_onLocal_6) (fun _ h9 => h9) (fl_at (t := 0) rfl) dX18_onLocal_79 ?_
        obtain ⟨g_76, hf⟩ := grd_some hf
        obtain ⟨kg_76, sg_76, ig_76⟩ := okA_at g_76
        refine va_iast hx hb hK hP hD hS k_75 1 (Wd_ai kg_76 sg_76) rfl ig_76 dX18_onLocal_82 (fun H_77 locs hP2 hD2 hS2 => ?_)
        rw [Wd_ti sg_76] at hP2 hD2
        obtain ⟨z_78, ez_78⟩ : ∃ w, w = si z_71 k_75 r_2.toNatClampNeg (z_71.1 h0 46) := ⟨_, rfl⟩
        rw [← ez_78] at hP2 hD2
        replace hf := lt_at ez_78 hf
        clear ez_78
        replace hP := hP2
        replace hD := hD2
        replace hS := hS2
        clear hP2 hD2 hS2
        refine lv_aload_n hx hb dX18_onLocal_83 rfl (lv_at hl 2 rfl) ?_
        obtain ⟨k_79, ek_79, hf⟩ := lnk_some hf
        refine va_get (D := (dC, dI)) (ci := 18) (v := .ref (a k_79)) (C := RX18) (T := TX18) (N := 78) hx hb hts iwd_X18_onLocal_X18 hown hK hP h0 (Wd_ob kg_3 sg_3 (by decide)) rfl 42 (by decide) (hts _ md_X18_onLocal_7) (fun _ h9 => h9) (fl_q rfl ek_79) dX18_onLocal_84 ?_
        refine lv_iload_n hx hb dX18_onLocal_87 rfl (lv_at hl 1 rfl) ?_
        refine lv_iload hx hb dX18_onLocal_88 (lv_at hl 0 rfl) ?_
        obtain ⟨g_80, hf⟩ := grd_some hf
        obtain ⟨kg_80, sg_80, ig_80⟩ := okA_at g_80
        refine va_zast hx hb hK hP hD hS k_79 3 (Wd_az kg_80 sg_80) rfl ig_80 dX18_onLocal_90 (fun H_81 locs hP2 hD2 hS2 => ?_)
        rw [Wd_tz sg_80] at hP2 hD2
        obtain ⟨z_82, ez_82⟩ : ∃ w, w = si z_78 k_79 r_2.toNatClampNeg (vp_nar .boolean p_66) := ⟨_, rfl⟩
        rw [← ez_82] at hP2 hD2
        replace hf := lt_at ez_82 hf
        clear ez_82
        replace hP := hP2
        replace hD := hD2
        replace hS := hS2
        clear hP2 hD2 hS2
        obtain ⟨h8, h9⟩ := ret_some hf
        rw [h8]
        exact W.vret hx hb hr (fun t ht hW => ⟨⟨(), rfl, trivial, by rw [ht]; exact hP, va_K.moved hW.alike hK, hD⟩, hS.F ht⟩) hS.2.2 dX18_onLocal_91
      · skip
        rw [if_pos c_74] at hf
        obtain ⟨h8, h9⟩ := ret_some hf
        rw [h8]
        exact W.vret hx hb hr (fun t ht hW => ⟨⟨(), rfl, trivial, by rw [ht]; exact hP, va_K.moved hW.alike hK, hD⟩, hS.F ht⟩) hS.2.2 dX18_onLocal_72
    refine de_cut (h := 55) (fun (x : St) => []) (fun x ls H locs => lv_has ls 5 [(3, .int r_2), (0, .ref (a h0))] ∧ va_P (dC, dI) vwCl (Wd cy a sh n x) H ∧ va_D A (Wd cy a sh n x) ∧ va_S A s.heap H locs) (fun x => fn_X18_onLocal_B55 F sh n h0 r_2 x) (z8, r8) ?_ (fun B55 => ?_)
    · intro x ls H locs hI hf
      obtain ⟨z_83, ez⟩ : ∃ w, w = x := ⟨_, rfl⟩
      subst ez
      obtain ⟨hl2, hP2, hD2, hS2⟩ := hI
      replace hl : lv_has ls 5 [(3, .int r_2), (0, .ref (a h0))] := hl2
      replace hP := hP2
      replace hD := hD2
      replace hS := hS2
      clear hl2 hP2 hD2 hS2
      replace hf := fn_X18_onLocal_B55_s hf
      refine W.eq (g2 := F0 m 55 ls []) rfl ?_
      refine lv_iconst (v := 0) hx hb dX18_onLocal_55 (by decide) ?_
      exact B56 (z_83, 0) ls H locs ⟨lv_sub hl [0, 1] rfl, hP, hD, hS⟩ hf
    refine lv_if_eq (tgt := 55) hx hb dX18_onLocal_16 (by decide) (fun c_84 => ?_) (fun c_84 => ?_)
    · skip
      rw [if_pos c_84] at hf
      exact B55 (z_63) ls H_65 locs ⟨lv_sub hl [0, 1] rfl, hP, hD, hS⟩ hf
    · skip
      rw [if_neg c_84] at hf
      refine lv_aload_n hx hb dX18_onLocal_19 rfl (lv_at hl 1 rfl) ?_
      refine va_get (D := (dC, dI)) (ci := 18) (v := .int (z_63.1 h0 45)) (C := RX18) (T := TX18) (N := 78) hx hb hts iwd_X18_onLocal_X18 hown hK hP h0 (Wd_ob kg_3 sg_3 (by decide)) rfl 45 (by decide) (hts _ md_X18_onLocal_1) (fun _ h9 => h9) (fl_at (t := 0) rfl) dX18_onLocal_20 ?_
      refine lv_aload_n hx hb dX18_onLocal_23 rfl (lv_at hl 1 rfl) ?_
      obtain ⟨k_85, ek_85, hf⟩ := lnk_some hf
      refine va_get (D := (dC, dI)) (ci := 18) (v := .ref (a k_85)) (C := RX18) (T := TX18) (N := 78) hx hb hts iwd_X18_onLocal_X18 hown hK hP h0 (Wd_ob kg_3 sg_3 (by decide)) rfl 40 (by decide) (hts _ md_X18_onLocal_2) (fun _ h9 => h9) (fl_q rfl ek_85) dX18_onLocal_24 ?_
      refine lv_aload_n hx hb dX18_onLocal_27 rfl (lv_at hl 1 rfl) ?_
      refine va_get (D := (dC, dI)) (ci := 18) (v := .int (z_63.1 h0 36)) (C := RX18) (T := TX18) (N := 78) hx hb hts iwd_X18_onLocal_X18 hown hK hP h0 (Wd_ob kg_3 sg_3 (by decide)) rfl 36 (by decide) (hts _ md_X18_onLocal_3) (fun _ h9 => h9) (fl_at (t := 0) rfl) dX18_onLocal_28 ?_
      refine lv_iconst (v := 1) hx hb dX18_onLocal_31 (by decide) ?_
      refine lv_isub hx hb dX18_onLocal_32 ?_
      obtain ⟨g_86, hf⟩ := grd_some hf
      obtain ⟨kg_86, sg_86, ig_86⟩ := okA_at g_86
      refine va_iald hx hb hK hP k_85 1 (Wd_ai kg_86 sg_86) rfl ig_86 dX18_onLocal_33 ?_
      refine lv_icmp_le (tgt := 55) hx hb dX18_onLocal_34 (by decide) (fun c_87 => ?_) (fun c_87 => ?_)
      · skip
        rw [if_pos c_87] at hf
        exact B55 (z_63) ls H_65 locs ⟨lv_sub hl [0, 1] rfl, hP, hD, hS⟩ hf
      · skip
        rw [if_neg c_87] at hf
        refine lv_aload_n hx hb dX18_onLocal_37 rfl (lv_at hl 1 rfl) ?_
        obtain ⟨k_88, ek_88, hf⟩ := lnk_some hf
        refine va_get (D := (dC, dI)) (ci := 18) (v := .ref (a k_88)) (C := RX18) (T := TX18) (N := 78) hx hb hts iwd_X18_onLocal_X18 hown hK hP h0 (Wd_ob kg_3 sg_3 (by decide)) rfl 44 (by decide) (hts _ md_X18_onLocal_4) (fun _ h9 => h9) (fl_q rfl ek_88) dX18_onLocal_38 ?_
        refine lv_aload_n hx hb dX18_onLocal_41 rfl (lv_at hl 1 rfl) ?_
        refine va_get (D := (dC, dI)) (ci := 18) (v := .int (z_63.1 h0 45)) (C := RX18) (T := TX18) (N := 78) hx hb hts iwd_X18_onLocal_X18 hown hK hP h0 (Wd_ob kg_3 sg_3 (by decide)) rfl 45 (by decide) (hts _ md_X18_onLocal_1) (fun _ h9 => h9) (fl_at (t := 0) rfl) dX18_onLocal_42 ?_
        refine lv_iconst (v := 1) hx hb dX18_onLocal_45 (by decide) ?_
        refine lv_isub hx hb dX18_onLocal_46 ?_
        obtain ⟨g_89, hf⟩ := grd_some hf
        obtain ⟨kg_89, sg_89, ig_89⟩ := okA_at g_89
        refine va_zald hx hb hK hP k_88 3 (Wd_az kg_89 sg_89) rfl ig_89 dX18_onLocal_47 ?_
        refine lv_if_eq (tgt := 55) hx hb dX18_onLocal_48 (by decide) (fun c_90 => ?_) (fun c_90 => ?_)
        · skip
          rw [if_pos c_90] at hf
          exact B55 (z_63) ls H_65 locs ⟨lv_sub hl [0, 1] rfl, hP, hD, hS⟩ hf
        · skip
          rw [if_neg c_90] at hf
          refine lv_iconst (v := 1) hx hb dX18_onLocal_51 (by decide) ?_
          refine lv_goto (tgt := 56) hx hb dX18_onLocal_52 (by decide) ?_
          exact B56 (z_63, 1) ls H_65 locs ⟨lv_sub hl [0, 1] rfl, hP, hD, hS⟩ hf

theorem md_X18_settle_1 : (.fieldLink RX18 300 "ResourceLedgerModel" "askedBalances" "[J" : Cond) ∈ wsX18_settle := List.mem_of_getElem? (i := 1) rfl
theorem iwd_X18_settle_X18 : ∀ w ∈ wsX180, w ∈ wsX18_settle := fun _ h => List.mem_cons_of_mem _ (List.mem_append_left _ (List.mem_append_right _ h))
theorem md_X18_settle_2 : (.fieldLink RX18 264 "ResourceLedgerModel" "limit" "I" : Cond) ∈ wsX18_settle := List.mem_of_getElem? (i := 2) rfl
theorem md_X18_settle_3 : (.fieldLink RX18 271 "ResourceLedgerModel" "asked" "I" : Cond) ∈ wsX18_settle := List.mem_of_getElem? (i := 3) rfl
theorem md_X18_settle_5 : (.fieldLink RX18 296 "ResourceLedgerModel" "askedThere" "[Z" : Cond) ∈ wsX18_settle := List.mem_of_getElem? (i := 5) rfl
theorem md_X18_settle_4 : (.fieldLink RX18 274 "ResourceLedgerModel" "askedSorts" "[I" : Cond) ∈ wsX18_settle := List.mem_of_getElem? (i := 4) rfl
theorem md_X18_settle_6 : (.fieldLink RX18 277 "ResourceLedgerModel" "askedAddresses" "[J" : Cond) ∈ wsX18_settle := List.mem_of_getElem? (i := 6) rfl
theorem md_X18_settle_7 : (.fieldLink RX18 280 "ResourceLedgerModel" "askedKinds" "[I" : Cond) ∈ wsX18_settle := List.mem_of_getElem? (i := 7) rfl
theorem md_X18_settle_12 : (.fieldLink RX18 285 "ResourceLedgerModel" "askedTrees" "[I" : Cond) ∈ wsX18_settle := List.mem_of_getElem? (i := 12) rfl
theorem md_X18_settle_9 : (.fieldLink RX18 10 "ResourceLedgerModel" "resources" "I" : Cond) ∈ wsX18_settle := List.mem_of_getElem? (i := 9) rfl
theorem md_X18_settle_10 : (.fieldLink RX18 27 "ResourceLedgerModel" "owners" "[J" : Cond) ∈ wsX18_settle := List.mem_of_getElem? (i := 10) rfl
theorem md_X18_settle_11 : (.fieldLink RX18 30 "ResourceLedgerModel" "kindsOf" "[I" : Cond) ∈ wsX18_settle := List.mem_of_getElem? (i := 11) rfl
theorem md_X18_settle_8 : (.fieldLink RX18 303 "ResourceLedgerModel" "balances" "[J" : Cond) ∈ wsX18_settle := List.mem_of_getElem? (i := 8) rfl
set_option maxHeartbeats 4000000 in
set_option maxRecDepth 100000 in
theorem de_X18_settle (l : Launch) (dC : Nat → ClassId) (dI : Nat → Nat → Nat) (cy : Nat → ClassId) (a : Nat → Nat) (sh : Nat → Nat × Nat) (n sz : Nat) (F : Nat) (z : St) (h0 : Nat) {z8 : St} {r8 : Unit} (hf : fn_X18_settle F sh n z h0 = some (z8, r8)) : Met l yX18_settle wsX18_settle ({ frames := 51, cells := 0, slots := 0, locals := 1172 }) (va_Pc [.ref (a h0)] (fun U => U.heap.size = sz ∧ va_P (dC, dI) vwCl (Wd cy a sh n z) U.heap ∧ va_K (dC, dI) vwCl (TYS cy) U ∧ va_D (fun _ => True) (Wd cy a sh n z) ∧ NK U)) (va_Qv (fun u : Unit => True) (fun u t => va_P (dC, dI) vwCl (Wd cy a sh n z8) t.heap ∧ va_K (dC, dI) vwCl (TYS cy) t ∧ va_D (va_A (Wd cy a sh n z) sz) (Wd cy a sh n z8)) (va_A (Wd cy a sh n z) sz)) 0 0 (va_A (Wd cy a sh n z) sz) := by
  refine Met.ofW (cc := cX18_settle) (maxL := 3) (ret := none) (by decide) rfl ?_
  intro p e s m args below meth c s₁ B hml hv
  obtain ⟨rfl, hsz, hP, hK, hD0, hN⟩ := hv
  have hx := B.exec
  have hb := B.bytes
  have hr := B.returns
  have hts := atoms_spec (ws := wsX18_settle) B.pre
  have hown : s.vm.findClass RX18 = some m.cls := findClass_of_methodNamed B.named
  have hlocks := B.notSynchronized
  subst hsz
  have hD := hD0.self (sz := s.heap.size)
  clear hD0
  generalize hAe : va_A (Wd cy a sh n z) s.heap.size = A at hD ⊢
  have hA : ∀ q : Nat, s.heap.size ≤ q → A q := fun q h => by rw [← hAe]; exact Or.inr h
  clear hAe
  have hS : va_S A s.heap s.heap [] := va_S.rf
  have hl := lv_entry ([.ref (a h0)]) (n := 3) (Nat.le_of_ble_eq_true rfl)
  rw [lg_entry_eq]
  generalize (lg_sl ([.ref (a h0)]) ++ List.replicate (3 - (lg_sl ([.ref (a h0)])).length) Slot.unset).toArray = ls at hl ⊢
  replace hl : lv_has ls 3 [(0, .ref (a h0))] := hl
  unfold fn_X18_settle at hf
  refine de_start hS hP (fun H locs hS hP => ?_)
  refine lv_aload_n hx hb dX18_settle_0 rfl (lv_at hl 0 rfl) ?_
  obtain ⟨g_1, hf⟩ := grd_some hf
  obtain ⟨kg_1, sg_1⟩ := okO_at g_1
  obtain ⟨k_2, ek_2, hf⟩ := lnk_some hf
  refine va_get (D := (dC, dI)) (ci := 18) (v := .ref (a k_2)) (C := RX18) (T := TX18) (N := 78) hx hb hts iwd_X18_settle_X18 hown hK hP h0 (Wd_ob kg_1 sg_1 (by decide)) rfl 33 (by decide) (hts _ md_X18_settle_1) (fun _ h9 => h9) (fl_q rfl ek_2) dX18_settle_1 ?_
  refine lv_iconst (v := 0) hx hb dX18_settle_4 (by decide) ?_
  refine lv_dup2_11 hx hb dX18_settle_5 rfl rfl ?_
  obtain ⟨g_3, hf⟩ := grd_some hf
  obtain ⟨kg_3, sg_3, ig_3⟩ := okA_at g_3
  refine va_lald hx hb hK hP k_2 2 (Wd_al kg_3 sg_3) rfl ig_3 dX18_settle_6 ?_
  refine lv_aload_n hx hb dX18_settle_7 rfl (lv_at hl 0 rfl) ?_
  refine va_get (D := (dC, dI)) (ci := 18) (v := .int (z.1 h0 25)) (C := RX18) (T := TX18) (N := 78) hx hb hts iwd_X18_settle_X18 hown hK hP h0 (Wd_ob kg_1 sg_1 (by decide)) rfl 25 (by decide) (hts _ md_X18_settle_2) (fun _ h9 => h9) (fl_at (t := 0) rfl) dX18_settle_8 ?_
  refine lv_i2l (v := ((z.1 h0 25) : Int32).toInt64) hx hb dX18_settle_11 rfl ?_
  refine lv_ladd hx hb dX18_settle_12 ?_
  obtain ⟨g_4, hf⟩ := grd_some hf
  obtain ⟨kg_4, sg_4, ig_4⟩ := okA_at g_4
  refine va_last hx hb hK hP hD hS k_2 2 (Wd_al kg_4 sg_4) rfl ig_4 dX18_settle_13 (fun H_5 locs hP2 hD2 hS2 => ?_)
  rw [Wd_tl sg_4] at hP2 hD2
  obtain ⟨z_6, ez_6⟩ : ∃ w, w = sl z k_2 (0 : Int32).toNatClampNeg ((z.2.1 k_2 (0 : Int32).toNatClampNeg) + (((z.1 h0 25) : Int32).toInt64)) := ⟨_, rfl⟩
  rw [← ez_6] at hP2 hD2
  replace hf := lt_at ez_6 hf
  clear ez_6
  replace hP := hP2
  replace hD := hD2
  replace hS := hS2
  clear hP2 hD2 hS2
  refine lv_iconst (v := 0) hx hb dX18_settle_14 (by decide) ?_
  refine lv_istore_n (lv' := [(1, .int 0), (0, .ref (a h0))]) hx hb dX18_settle_15 rfl hl (by decide) rfl (fun ls hl2 => ?_)
  replace hl := hl2
  clear hl2
  have hl0 : lv_has ls 3 [(1, .int 0), (0, .ref (a h0))] := lv_sub hl [0, 1] rfl
  refine de_loop (h := 16) (fun (x : St × Int32) ls H locs => lv_has ls 3 [(1, .int x.2), (0, .ref (a h0))] ∧ va_P (dC, dI) vwCl (Wd cy a sh n x.1) H ∧ va_D A (Wd cy a sh n x.1) ∧ va_S A s.heap H locs) (fun f x => fn_X18_settle_L16 F sh n h0 f x.1 x.2) (z8, r8) ?_ (fun _ => rfl) F (z_6, 0) ls H_5 locs ⟨hl0, hP, hD, hS⟩ hf
  intro f_9 x ls H locs ih16 hI hf
  obtain ⟨z_8, p_7⟩ := x
  obtain ⟨hl2, hP2, hD2, hS2⟩ := hI
  replace hl : lv_has ls 3 [(1, .int p_7), (0, .ref (a h0))] := hl2
  replace hP := hP2
  replace hD := hD2
  replace hS := hS2
  clear hl2 hP2 hD2 hS2 hl0
  replace hf := fn_X18_settle_L16_s hf
  refine lv_iload_n hx hb dX18_settle_16 rfl (lv_at hl 0 rfl) ?_
  refine lv_aload_n hx hb dX18_settle_17 rfl (lv_at hl 1 rfl) ?_
  refine va_get (D := (dC, dI)) (ci := 18) (v := .int (z_8.1 h0 29)) (C := RX18) (T := TX18) (N := 78) hx hb hts iwd_X18_settle_X18 hown hK hP h0 (Wd_ob kg_1 sg_1 (by decide)) rfl 29 (by decide) (hts _ md_X18_settle_3) (fun _ h9 => h9) (fl_at (t := 0) rfl) dX18_settle_18 ?_
  refine lv_icmp_ge (tgt := 78) hx hb dX18_settle_21 (by decide) (fun c_10 => ?_) (fun c_10 => ?_)
  · skip
    rw [if_pos c_10] at hf
    refine lv_iconst (v := 0) hx hb dX18_settle_78 (by decide) ?_
    refine lv_istore_n (lv' := [(1, .int 0), (0, .ref (a h0))]) hx hb dX18_settle_79 rfl hl (by decide) rfl (fun ls hl2 => ?_)
    replace hl := hl2
    clear hl2
    have hl0 : lv_has ls 3 [(1, .int 0), (0, .ref (a h0))] := lv_sub hl [0, 1] rfl
    refine de_loop (h := 80) (fun (x : St × Int32) ls H locs => lv_has ls 3 [(1, .int x.2), (0, .ref (a h0))] ∧ va_P (dC, dI) vwCl (Wd cy a sh n x.1) H ∧ va_D A (Wd cy a sh n x.1) ∧ va_S A s.heap H locs) (fun f x => fn_X18_settle_L80 F sh n h0 f x.1 x.2) (z8, r8) ?_ (fun _ => rfl) F (z_8, 0) ls H locs ⟨hl0, hP, hD, hS⟩ hf
    intro f_13 x ls H locs ih80 hI hf
    obtain ⟨z_12, p_11⟩ := x
    obtain ⟨hl2, hP2, hD2, hS2⟩ := hI
    replace hl : lv_has ls 3 [(1, .int p_11), (0, .ref (a h0))] := hl2
    replace hP := hP2
    replace hD := hD2
    replace hS := hS2
    clear hl2 hP2 hD2 hS2 hl0
    replace hf := fn_X18_settle_L80_s hf
    refine lv_iload_n hx hb dX18_settle_80 rfl (lv_at hl 0 rfl) ?_
    refine lv_aload_n hx hb dX18_settle_81 rfl (lv_at hl 1 rfl) ?_
    refine va_get (D := (dC, dI)) (ci := 18) (v := .int (z_12.1 h0 29)) (C := RX18) (T := TX18) (N := 78) hx hb hts iwd_X18_settle_X18 hown hK hP h0 (Wd_ob kg_1 sg_1 (by decide)) rfl 29 (by decide) (hts _ md_X18_settle_3) (fun _ h9 => h9) (fl_at (t := 0) rfl) dX18_settle_82 ?_
    refine lv_icmp_ge (tgt := 240) hx hb dX18_settle_85 (by decide) (fun c_14 => ?_) (fun c_14 => ?_)
    · skip
      rw [if_pos c_14] at hf
      obtain ⟨h8, h9⟩ := ret_some hf
      rw [h8]
      exact W.vret hx hb hr (fun t ht hW => ⟨⟨(), rfl, trivial, by rw [ht]; exact hP, va_K.moved hW.alike hK, hD⟩, hS.F ht⟩) hS.2.2 dX18_settle_240
    · skip
      rw [if_neg c_14] at hf
      refine lv_aload_n hx hb dX18_settle_88 rfl (lv_at hl 1 rfl) ?_
      obtain ⟨k_15, ek_15, hf⟩ := lnk_some hf
      refine va_get (D := (dC, dI)) (ci := 18) (v := .ref (a k_15)) (C := RX18) (T := TX18) (N := 78) hx hb hts iwd_X18_settle_X18 hown hK hP h0 (Wd_ob kg_1 sg_1 (by decide)) rfl 35 (by decide) (hts _ md_X18_settle_5) (fun _ h9 => h9) (fl_q rfl ek_15) dX18_settle_89 ?_
      refine lv_iload_n hx hb dX18_settle_92 rfl (lv_at hl 0 rfl) ?_
      obtain ⟨g_16, hf⟩ := grd_some hf
      obtain ⟨kg_16, sg_16, ig_16⟩ := okA_at g_16
      refine va_zald hx hb hK hP k_15 3 (Wd_az kg_16 sg_16) rfl ig_16 dX18_settle_93 ?_
      refine de_cut (h := 234) (fun (x : St) => []) (fun x ls H locs => lv_has ls 3 [(1, .int p_11), (0, .ref (a h0))] ∧ va_P (dC, dI) vwCl (Wd cy a sh n x) H ∧ va_D A (Wd cy a sh n x) ∧ va_S A s.heap H locs) (fun x => fn_X18_settle_B234 F sh n p_11 (fun z9 q1 => fn_X18_settle_L80 F sh n h0 f_13 z9 q1) x) (z8, r8) ?_ (fun B234 => ?_)
      · intro x ls H locs hI hf
        obtain ⟨z_17, ez⟩ : ∃ w, w = x := ⟨_, rfl⟩
        subst ez
        obtain ⟨hl2, hP2, hD2, hS2⟩ := hI
        replace hl : lv_has ls 3 [(1, .int p_11), (0, .ref (a h0))] := hl2
        replace hP := hP2
        replace hD := hD2
        replace hS := hS2
        clear hl2 hP2 hD2 hS2
        replace hf := fn_X18_settle_B234_s hf
        refine W.eq (g2 := F0 m 234 ls []) rfl ?_
        refine lv_iinc (v := (p_11 + 1)) (lv' := [(1, .int (p_11 + 1)), (0, .ref (a h0))]) hx hb dX18_settle_234 hl (k := 0) rfl rfl (by decide) rfl (fun ls hl2 => ?_)
        replace hl := hl2
        clear hl2
        refine lv_goto (tgt := 80) hx hb dX18_settle_237 (by decide) ?_
        exact ih80 (z_17, (p_11 + 1)) ls H locs ⟨lv_sub hl [0, 1] rfl, hP, hD, hS⟩ hf
      refine lv_if_eq (tgt := 234) hx hb dX18_settle_94 (by decide) (fun c_18 => ?_) (fun c_18 => ?_)
      · skip
        rw [if_pos c_18] at hf
        exact B234 (z_12) ls H locs ⟨lv_sub hl [0, 1] rfl, hP, hD, hS⟩ hf
      · skip
        rw [if_neg c_18] at hf
        refine lv_aload_n hx hb dX18_settle_97 rfl (lv_at hl 1 rfl) ?_
        obtain ⟨k_19, ek_19, hf⟩ := lnk_some hf
        refine va_get (D := (dC, dI)) (ci := 18) (v := .ref (a k_19)) (C := RX18) (T := TX18) (N := 78) hx hb hts iwd_X18_settle_X18 hown hK hP h0 (Wd_ob kg_1 sg_1 (by decide)) rfl 30 (by decide) (hts _ md_X18_settle_4) (fun _ h9 => h9) (fl_q rfl ek_19) dX18_settle_98 ?_
        refine lv_iload_n hx hb dX18_settle_101 rfl (lv_at hl 0 rfl) ?_
        obtain ⟨g_20, hf⟩ := grd_some hf
        obtain ⟨kg_20, sg_20, ig_20⟩ := okA_at g_20
        refine va_iald hx hb hK hP k_19 1 (Wd_ai kg_20 sg_20) rfl ig_20 dX18_settle_102 ?_
        refine lv_iconst (v := 2) hx hb dX18_settle_103 (by decide) ?_
        refine lv_icmp_ne (tgt := 110) hx hb dX18_settle_104 (by decide) (fun c_21 => ?_) (fun c_21 => ?_)
        · skip
          rw [if_neg c_21] at hf
          refine lv_aload_n hx hb dX18_settle_110 rfl (lv_at hl 1 rfl) ?_
          obtain ⟨k_22, ek_22, hf⟩ := lnk_some hf
          refine va_get (D := (dC, dI)) (ci := 18) (v := .ref (a k_22)) (C := RX18) (T := TX18) (N := 78) hx hb hts iwd_X18_settle_X18 hown hK hP h0 (Wd_ob kg_1 sg_1 (by decide)) rfl 30 (by decide) (hts _ md_X18_settle_4) (fun _ h9 => h9) (fl_q rfl ek_22) dX18_settle_111 ?_
          refine lv_iload_n hx hb dX18_settle_114 rfl (lv_at hl 0 rfl) ?_
          obtain ⟨g_23, hf⟩ := grd_some hf
          obtain ⟨kg_23, sg_23, ig_23⟩ := okA_at g_23
          refine va_iald hx hb hK hP k_22 1 (Wd_ai kg_23 sg_23) rfl ig_23 dX18_settle_115 ?_
          refine lv_iconst (v := 1) hx hb dX18_settle_116 (by decide) ?_
          refine lv_icmp_ne (tgt := 163) hx hb dX18_settle_117 (by decide) (fun c_24 => ?_) (fun c_24 => ?_)
          · skip
            rw [if_neg c_24] at hf
            refine lv_aload_n hx hb dX18_settle_163 rfl (lv_at hl 1 rfl) ?_
            refine lv_aload_n hx hb dX18_settle_164 rfl (lv_at hl 1 rfl) ?_
            obtain ⟨k_25, ek_25, hf⟩ := lnk_some hf
            refine va_get (D := (dC, dI)) (ci := 18) (v := .ref (a k_25)) (C := RX18) (T := TX18) (N := 78) hx hb hts iwd_X18_settle_X18 hown hK hP h0 (Wd_ob kg_1 sg_1 (by decide)) rfl 31 (by decide) (hts _ md_X18_settle_6) (fun _ h9 => h9) (fl_q rfl ek_25) dX18_settle_165 ?_
            refine lv_iload_n hx hb dX18_settle_168 rfl (lv_at hl 0 rfl) ?_
            obtain ⟨g_26, hf⟩ := grd_some hf
            obtain ⟨kg_26, sg_26, ig_26⟩ := okA_at g_26
            refine va_lald hx hb hK hP k_25 2 (Wd_al kg_26 sg_26) rfl ig_26 dX18_settle_169 ?_
            refine lv_aload_n hx hb dX18_settle_170 rfl (lv_at hl 1 rfl) ?_
            obtain ⟨k_27, ek_27, hf⟩ := lnk_some hf
            refine va_get (D := (dC, dI)) (ci := 18) (v := .ref (a k_27)) (C := RX18) (T := TX18) (N := 78) hx hb hts iwd_X18_settle_X18 hown hK hP h0 (Wd_ob kg_1 sg_1 (by decide)) rfl 32 (by decide) (hts _ md_X18_settle_7) (fun _ h9 => h9) (fl_q rfl ek_27) dX18_settle_171 ?_
            refine lv_iload_n hx hb dX18_settle_174 rfl (lv_at hl 0 rfl) ?_
            obtain ⟨g_28, hf⟩ := grd_some hf
            obtain ⟨kg_28, sg_28, ig_28⟩ := okA_at g_28
            refine va_iald hx hb hK hP k_27 1 (Wd_ai kg_28 sg_28) rfl ig_28 dX18_settle_175 ?_
            obtain ⟨z_29, r_30, hfc, hf⟩ := cal_some hf
            have hFc := de_free hD hS hA
            refine va_calli (va_runV (As := [.long (z_12.2.1 k_25 p_11.toNatClampNeg), .int (z_12.1 k_27 p_11.toNatClampNeg)]) (rest := []) ⟨hx, hb, hml, hown, hts⟩ (de_X18_findResource l dC dI cy a sh n H.size F z_12 h0 (z_12.2.1 k_25 p_11.toNatClampNeg) (z_12.1 k_27 p_11.toNatClampNeg) hfc) (cwV 2 hts gX18_settle_X18_findResource rfl rfl rfl (by decide +kernel) ⟨Nat.le_of_ble_eq_true rfl, Nat.le_of_ble_eq_true rfl⟩) ⟨fun a U g mk q => by obtain ⟨q0, q1, qP, qK, qD, qN⟩ := q; exact ⟨q0, q1, qP, va_K.moved (u := U) (U := U.calling g mk a) (Vm.Alike.refl U.vm) qK, qD, qN.same rfl⟩, va_recv hK hP (ci := 18) (q0 := h0) rfl (Wd_ob kg_1 sg_1 (by decide)), fun U hU hW => ⟨rfl, by rw [hU], by rw [hU]; exact hP, va_K.moved hW.alike hK, hD.weaken (fun _ _ _ _ => trivial), hN.warm hW⟩⟩ rfl rfl hl.1 rfl (lv_room (Nat.le_of_ble_eq_true rfl)) dX18_settle_176 ⟨Nat.le_of_ble_eq_true rfl, Nat.le_of_ble_eq_true rfl⟩) hS (fun q _ h => hFc q h) hFc (fun rr u t H_31 locs ht hvm hw hB hz1 hk1 hS2 => ?_)
            rw [hw]
            clear hw
            obtain ⟨hP1, -, hD1⟩ := hB
            rw [ht] at hP1
            replace hD := hD1.weaken (fun _ _ _ h => hFc _ h)
            replace hP := hP1
            replace hS := hS2
            clear hP1 hD1 hS2 hFc hfc hz1 hk1 hvm ht
            refine lv_istore_n (lv' := [(2, .int r_30), (1, .int p_11), (0, .ref (a h0))]) hx hb dX18_settle_179 rfl hl (by decide) rfl (fun ls hl2 => ?_)
            replace hl := hl2
            clear hl2
            refine lv_iload_n hx hb dX18_settle_180 rfl (lv_at hl 0 rfl) ?_
            refine de_cut (h := 223) (fun (x : St × Int32) => []) (fun x ls H locs => lv_has ls 3 [(2, .int x.2), (1, .int p_11), (0, .ref (a h0))] ∧ va_P (dC, dI) vwCl (Wd cy a sh n x.1) H ∧ va_D A (Wd cy a sh n x.1) ∧ va_S A s.heap H locs) (fun x => fn_X18_settle_B223 F sh n h0 p_11 (fun z9 q1 => fn_X18_settle_L80 F sh n h0 f_13 z9 q1) x.1 x.2) (z8, r8) ?_ (fun B223 => ?_)
            · intro x ls H locs hI hf
              obtain ⟨z_33, p_32⟩ := x
              obtain ⟨hl2, hP2, hD2, hS2⟩ := hI
              replace hl : lv_has ls 3 [(2, .int p_32), (1, .int p_11), (0, .ref (a h0))] := hl2
              replace hP := hP2
              replace hD := hD2
              replace hS := hS2
              clear hl2 hP2 hD2 hS2
              replace hf := fn_X18_settle_B223_s hf
              refine W.eq (g2 := F0 m 223 ls []) rfl ?_
              refine lv_aload_n hx hb dX18_settle_223 rfl (lv_at hl 2 rfl) ?_
              refine lv_iload_n hx hb dX18_settle_224 rfl (lv_at hl 0 rfl) ?_
              refine lv_aload_n hx hb dX18_settle_225 rfl (lv_at hl 2 rfl) ?_
              obtain ⟨k_34, ek_34, hf⟩ := lnk_some hf
              refine va_get (D := (dC, dI)) (ci := 18) (v := .ref (a k_34)) (C := RX18) (T := TX18) (N := 78) hx hb hts iwd_X18_settle_X18 hown hK hP h0 (Wd_ob kg_1 sg_1 (by decide)) rfl 34 (by decide) (hts _ md_X18_settle_12) (fun _ h9 => h9) (fl_q rfl ek_34) dX18_settle_226 ?_
              refine lv_iload_n hx hb dX18_settle_229 rfl (lv_at hl 1 rfl) ?_
              obtain ⟨g_35, hf⟩ := grd_some hf
              obtain ⟨kg_35, sg_35, ig_35⟩ := okA_at g_35
              refine va_iald hx hb hK hP k_34 1 (Wd_ai kg_35 sg_35) rfl ig_35 dX18_settle_230 ?_
              obtain ⟨z_36, _u, hfc, hf⟩ := cal_some hf
              have hFc := de_free hD hS hA
              refine va_callv (va_runV (As := [.int p_32, .int (z_33.1 k_34 p_11.toNatClampNeg)]) (rest := []) ⟨hx, hb, hml, hown, hts⟩ (de_X18_keep l dC dI cy a sh n H.size F z_33 h0 p_32 (z_33.1 k_34 p_11.toNatClampNeg) hfc) (cwV 2 hts gX18_settle_X18_keep rfl rfl rfl (by decide +kernel) ⟨Nat.le_of_ble_eq_true rfl, Nat.le_of_ble_eq_true rfl⟩) ⟨fun a U g mk q => by obtain ⟨q0, q1, qP, qK, qD, qN⟩ := q; exact ⟨q0, q1, qP, va_K.moved (u := U) (U := U.calling g mk a) (Vm.Alike.refl U.vm) qK, qD, qN.same rfl⟩, va_recv hK hP (ci := 18) (q0 := h0) rfl (Wd_ob kg_1 sg_1 (by decide)), fun U hU hW => ⟨rfl, by rw [hU], by rw [hU]; exact hP, va_K.moved hW.alike hK, hD.weaken (fun _ _ _ _ => trivial), hN.warm hW⟩⟩ rfl rfl hl.1 rfl (lv_room (Nat.le_of_ble_eq_true rfl)) dX18_settle_231 ⟨Nat.le_of_ble_eq_true rfl, Nat.le_of_ble_eq_true rfl⟩) hS (fun q _ h => hFc q h) hFc (fun u t H_37 locs ht hvm hw hB hz1 hk1 hS2 => ?_)
              obtain ⟨hP1, -, hD1⟩ := hB
              rw [ht] at hP1
              replace hD := hD1.weaken (fun _ _ _ h => hFc _ h)
              replace hP := hP1
              replace hS := hS2
              clear hP1 hD1 hS2 hFc hfc hz1 hk1 hvm ht
              exact B234 (z_36) ls H_37 locs ⟨lv_sub hl [1, 2] rfl, hP, hD, hS⟩ hf
            refine lv_if_ge (tgt := 223) hx hb dX18_settle_181 (by decide) (fun c_38 => ?_) (fun c_38 => ?_)
            · skip
              rw [if_pos c_38] at hf
              exact B223 (z_29, r_30) ls H_31 locs ⟨lv_sub hl [0, 1, 2] rfl, hP, hD, hS⟩ hf
            · skip
              rw [if_neg c_38] at hf
              refine lv_aload_n hx hb dX18_settle_184 rfl (lv_at hl 2 rfl) ?_
              refine va_get (D := (dC, dI)) (ci := 18) (v := .int (z_29.1 h0 9)) (C := RX18) (T := TX18) (N := 78) hx hb hts iwd_X18_settle_X18 hown hK hP h0 (Wd_ob kg_1 sg_1 (by decide)) rfl 9 (by decide) (hts _ md_X18_settle_9) (fun _ h9 => h9) (fl_at (t := 0) rfl) dX18_settle_185 ?_
              refine lv_topi (fun v_39 ev_39 => ?_)
              replace hf := lt_at ev_39 hf
              clear ev_39
              refine lv_istore_n (lv' := [(2, .int v_39), (1, .int p_11), (0, .ref (a h0))]) hx hb dX18_settle_188 rfl hl (by decide) rfl (fun ls hl2 => ?_)
              replace hl := hl2
              clear hl2
              refine lv_aload_n hx hb dX18_settle_189 rfl (lv_at hl 2 rfl) ?_
              obtain ⟨k_40, ek_40, hf⟩ := lnk_some hf
              refine va_get (D := (dC, dI)) (ci := 18) (v := .ref (a k_40)) (C := RX18) (T := TX18) (N := 78) hx hb hts iwd_X18_settle_X18 hown hK hP h0 (Wd_ob kg_1 sg_1 (by decide)) rfl 7 (by decide) (hts _ md_X18_settle_10) (fun _ h9 => h9) (fl_q rfl ek_40) dX18_settle_190 ?_
              refine lv_iload_n hx hb dX18_settle_193 rfl (lv_at hl 0 rfl) ?_
              refine lv_aload_n hx hb dX18_settle_194 rfl (lv_at hl 2 rfl) ?_
              obtain ⟨k_41, ek_41, hf⟩ := lnk_some hf
              refine va_get (D := (dC, dI)) (ci := 18) (v := .ref (a k_41)) (C := RX18) (T := TX18) (N := 78) hx hb hts iwd_X18_settle_X18 hown hK hP h0 (Wd_ob kg_1 sg_1 (by decide)) rfl 31 (by decide) (hts _ md_X18_settle_6) (fun _ h9 => h9) (fl_q rfl ek_41) dX18_settle_195 ?_
              refine lv_iload_n hx hb dX18_settle_198 rfl (lv_at hl 1 rfl) ?_
              obtain ⟨g_42, hf⟩ := grd_some hf
              obtain ⟨kg_42, sg_42, ig_42⟩ := okA_at g_42
              refine va_lald hx hb hK hP k_41 2 (Wd_al kg_42 sg_42) rfl ig_42 dX18_settle_199 ?_
              obtain ⟨g_43, hf⟩ := grd_some hf
              obtain ⟨kg_43, sg_43, ig_43⟩ := okA_at g_43
              refine va_last hx hb hK hP hD hS k_40 2 (Wd_al kg_43 sg_43) rfl ig_43 dX18_settle_200 (fun H_44 locs hP2 hD2 hS2 => ?_)
              rw [Wd_tl sg_43] at hP2 hD2
              obtain ⟨z_45, ez_45⟩ : ∃ w, w = sl z_29 k_40 v_39.toNatClampNeg (z_29.2.1 k_41 p_11.toNatClampNeg) := ⟨_, rfl⟩
              rw [← ez_45] at hP2 hD2
              replace hf := lt_at ez_45 hf
              clear ez_45
              replace hP := hP2
              replace hD := hD2
              replace hS := hS2
              clear hP2 hD2 hS2
              refine lv_aload_n hx hb dX18_settle_201 rfl (lv_at hl 2 rfl) ?_
              obtain ⟨k_46, ek_46, hf⟩ := lnk_some hf
              refine va_get (D := (dC, dI)) (ci := 18) (v := .ref (a k_46)) (C := RX18) (T := TX18) (N := 78) hx hb hts iwd_X18_settle_X18 hown hK hP h0 (Wd_ob kg_1 sg_1 (by decide)) rfl 8 (by decide) (hts _ md_X18_settle_11) (fun _ h9 => h9) (fl_q rfl ek_46) dX18_settle_202 ?_
              refine lv_iload_n hx hb dX18_settle_205 rfl (lv_at hl 0 rfl) ?_
              refine lv_aload_n hx hb dX18_settle_206 rfl (lv_at hl 2 rfl) ?_
              obtain ⟨k_47, ek_47, hf⟩ := lnk_some hf
              refine va_get (D := (dC, dI)) (ci := 18) (v := .ref (a k_47)) (C := RX18) (T := TX18) (N := 78) hx hb hts iwd_X18_settle_X18 hown hK hP h0 (Wd_ob kg_1 sg_1 (by decide)) rfl 32 (by decide) (hts _ md_X18_settle_7) (fun _ h9 => h9) (fl_q rfl ek_47) dX18_settle_207 ?_
              refine lv_iload_n hx hb dX18_settle_210 rfl (lv_at hl 1 rfl) ?_
              obtain ⟨g_48, hf⟩ := grd_some hf
              obtain ⟨kg_48, sg_48, ig_48⟩ := okA_at g_48
              refine va_iald hx hb hK hP k_47 1 (Wd_ai kg_48 sg_48) rfl ig_48 dX18_settle_211 ?_
              obtain ⟨g_49, hf⟩ := grd_some hf
              obtain ⟨kg_49, sg_49, ig_49⟩ := okA_at g_49
              refine va_iast hx hb hK hP hD hS k_46 1 (Wd_ai kg_49 sg_49) rfl ig_49 dX18_settle_212 (fun H_50 locs hP2 hD2 hS2 => ?_)
              rw [Wd_ti sg_49] at hP2 hD2
              obtain ⟨z_51, ez_51⟩ : ∃ w, w = si z_45 k_46 v_39.toNatClampNeg (z_45.1 k_47 p_11.toNatClampNeg) := ⟨_, rfl⟩
              rw [← ez_51] at hP2 hD2
              replace hf := lt_at ez_51 hf
              clear ez_51
              replace hP := hP2
              replace hD := hD2
              replace hS := hS2
              clear hP2 hD2 hS2
              refine lv_aload_n hx hb dX18_settle_213 rfl (lv_at hl 2 rfl) ?_
              refine lv_dup hx hb dX18_settle_214 rfl ?_
              refine va_get (D := (dC, dI)) (ci := 18) (v := .int (z_51.1 h0 9)) (C := RX18) (T := TX18) (N := 78) hx hb hts iwd_X18_settle_X18 hown hK hP h0 (Wd_ob kg_1 sg_1 (by decide)) rfl 9 (by decide) (hts _ md_X18_settle_9) (fun _ h9 => h9) (fl_at (t := 0) rfl) dX18_settle_215 ?_
              refine lv_iconst (v := 1) hx hb dX18_settle_218 (by decide) ?_
              refine lv_iadd hx hb dX18_settle_219 ?_
              refine va_put (D := (dC, dI)) (ci := 18) (v := .int ((z_51.1 h0 9) + 1)) (ty := .int) (C := RX18) (T := TX18) (N := 78) hx hb hts iwd_X18_settle_X18 tyX18 tyX18_ok nmX18 hown hK hP hD hS h0 (Wd_ob kg_1 sg_1 (by decide)) rfl 9 (by decide) (hts _ md_X18_settle_9) (fun _ h9 => h9) rfl (by decide +kernel) rfl rfl (by rw [fl_len]; decide) dX18_settle_220 (fun H_52 locs hP2 hD2 hS2 => ?_)
              rw [Wd_si sg_1 (by decide) rfl] at hP2 hD2
              obtain ⟨z_53, ez_53⟩ : ∃ w, w = si z_51 h0 9 ((z_51.1 h0 9) + 1) := ⟨_, rfl⟩
              rw [← ez_53] at hP2 hD2
              replace hf := lt_at ez_53 hf
              clear ez_53
              replace hP := hP2
              replace hD := hD2
              replace hS := hS2
              clear hP2 hD2 hS2
              exact B223 (z_53, v_39) ls H_52 locs ⟨lv_sub hl [0, 1, 2] rfl, hP, hD, hS⟩ hf
          · skip
            rw [if_pos c_24] at hf
            refine lv_aload_n hx hb dX18_settle_120 rfl (lv_at hl 1 rfl) ?_
            refine lv_aload_n hx hb dX18_settle_121 rfl (lv_at hl 1 rfl) ?_
            obtain ⟨k_54, ek_54, hf⟩ := lnk_some hf
            refine va_get (D := (dC, dI)) (ci := 18) (v := .ref (a k_54)) (C := RX18) (T := TX18) (N := 78) hx hb hts iwd_X18_settle_X18 hown hK hP h0 (Wd_ob kg_1 sg_1 (by decide)) rfl 31 (by decide) (hts _ md_X18_settle_6) (fun _ h9 => h9) (fl_q rfl ek_54) dX18_settle_122 ?_
            refine lv_iload_n hx hb dX18_settle_125 rfl (lv_at hl 0 rfl) ?_
            obtain ⟨g_55, hf⟩ := grd_some hf
            obtain ⟨kg_55, sg_55, ig_55⟩ := okA_at g_55
            refine va_lald hx hb hK hP k_54 2 (Wd_al kg_55 sg_55) rfl ig_55 dX18_settle_126 ?_
            obtain ⟨z_56, r_57, hfc, hf⟩ := cal_some hf
            have hFc := de_free hD hS hA
            refine va_calli (va_runV (As := [.long (z_12.2.1 k_54 p_11.toNatClampNeg)]) (rest := []) ⟨hx, hb, hml, hown, hts⟩ (de_X18_findAccount l dC dI cy a sh n H.size F z_12 h0 (z_12.2.1 k_54 p_11.toNatClampNeg) hfc) (cwV 1 hts gX18_settle_X18_findAccount rfl rfl rfl (by decide +kernel) ⟨Nat.le_of_ble_eq_true rfl, Nat.le_of_ble_eq_true rfl⟩) ⟨fun a U g mk q => by obtain ⟨q0, q1, qP, qK, qD, qN⟩ := q; exact ⟨q0, q1, qP, va_K.moved (u := U) (U := U.calling g mk a) (Vm.Alike.refl U.vm) qK, qD, qN.same rfl⟩, va_recv hK hP (ci := 18) (q0 := h0) rfl (Wd_ob kg_1 sg_1 (by decide)), fun U hU hW => ⟨rfl, by rw [hU], by rw [hU]; exact hP, va_K.moved hW.alike hK, hD.weaken (fun _ _ _ _ => trivial), hN.warm hW⟩⟩ rfl rfl hl.1 rfl (lv_room (Nat.le_of_ble_eq_true rfl)) dX18_settle_127 ⟨Nat.le_of_ble_eq_true rfl, Nat.le_of_ble_eq_true rfl⟩) hS (fun q _ h => hFc q h) hFc (fun rr u t H_58 locs ht hvm hw hB hz1 hk1 hS2 => ?_)
            rw [hw]
            clear hw
            obtain ⟨hP1, -, hD1⟩ := hB
            rw [ht] at hP1
            replace hD := hD1.weaken (fun _ _ _ h => hFc _ h)
            replace hP := hP1
            replace hS := hS2
            clear hP1 hD1 hS2 hFc hfc hz1 hk1 hvm ht
            refine lv_istore_n (lv' := [(2, .int r_57), (1, .int p_11), (0, .ref (a h0))]) hx hb dX18_settle_130 rfl hl (by decide) rfl (fun ls hl2 => ?_)
            replace hl := hl2
            clear hl2
            refine lv_aload_n hx hb dX18_settle_131 rfl (lv_at hl 2 rfl) ?_
            obtain ⟨k_59, ek_59, hf⟩ := lnk_some hf
            refine va_get (D := (dC, dI)) (ci := 18) (v := .ref (a k_59)) (C := RX18) (T := TX18) (N := 78) hx hb hts iwd_X18_settle_X18 hown hK hP h0 (Wd_ob kg_1 sg_1 (by decide)) rfl 1 (by decide) (hts _ md_X18_settle_8) (fun _ h9 => h9) (fl_q rfl ek_59) dX18_settle_132 ?_
            refine lv_iload_n hx hb dX18_settle_135 rfl (lv_at hl 0 rfl) ?_
            refine de_cut (h := 153) (fun (x : St × Int32) => [.int x.2, .ref (a k_59)]) (fun x ls H locs => lv_has ls 3 [(1, .int p_11), (0, .ref (a h0))] ∧ va_P (dC, dI) vwCl (Wd cy a sh n x.1) H ∧ va_D A (Wd cy a sh n x.1) ∧ va_S A s.heap H locs) (fun x => fn_X18_settle_B153 F sh n h0 p_11 k_59 (fun z9 q1 => fn_X18_settle_L80 F sh n h0 f_13 z9 q1) x.1 x.2) (z8, r8) ?_ (fun B153 => ?_)
            · intro x ls H locs hI hf
              obtain ⟨z_61, p_60⟩ := x
              obtain ⟨hl2, hP2, hD2, hS2⟩ := hI
              replace hl : lv_has ls 3 [(1, .int p_11), (0, .ref (a h0))] := hl2
              replace hP := hP2
              replace hD := hD2
              replace hS := hS2
              clear hl2 hP2 hD2 hS2
              replace hf := fn_X18_settle_B153_s hf
              refine W.eq (g2 := F0 m 153 ls [.int p_60, .ref (a k_59)]) rfl ?_
              refine lv_aload_n hx hb dX18_settle_153 rfl (lv_at hl 1 rfl) ?_
              obtain ⟨k_62, ek_62, hf⟩ := lnk_some hf
              refine va_get (D := (dC, dI)) (ci := 18) (v := .ref (a k_62)) (C := RX18) (T := TX18) (N := 78) hx hb hts iwd_X18_settle_X18 hown hK hP h0 (Wd_ob kg_1 sg_1 (by decide)) rfl 33 (by decide) (hts _ md_X18_settle_1) (fun _ h9 => h9) (fl_q rfl ek_62) dX18_settle_154 ?_
              refine lv_iload_n hx hb dX18_settle_157 rfl (lv_at hl 0 rfl) ?_
              obtain ⟨g_63, hf⟩ := grd_some hf
              obtain ⟨kg_63, sg_63, ig_63⟩ := okA_at g_63
              refine va_lald hx hb hK hP k_62 2 (Wd_al kg_63 sg_63) rfl ig_63 dX18_settle_158 ?_
              obtain ⟨g_64, hf⟩ := grd_some hf
              obtain ⟨kg_64, sg_64, ig_64⟩ := okA_at g_64
              refine va_last hx hb hK hP hD hS k_59 2 (Wd_al kg_64 sg_64) rfl ig_64 dX18_settle_159 (fun H_65 locs hP2 hD2 hS2 => ?_)
              rw [Wd_tl sg_64] at hP2 hD2
              obtain ⟨z_66, ez_66⟩ : ∃ w, w = sl z_61 k_59 p_60.toNatClampNeg (z_61.2.1 k_62 p_11.toNatClampNeg) := ⟨_, rfl⟩
              rw [← ez_66] at hP2 hD2
              replace hf := lt_at ez_66 hf
              clear ez_66
              replace hP := hP2
              replace hD := hD2
              replace hS := hS2
              clear hP2 hD2 hS2
              refine lv_goto (tgt := 234) hx hb dX18_settle_160 (by decide) ?_
              exact B234 (z_66) ls H_65 locs ⟨lv_sub hl [0, 1] rfl, hP, hD, hS⟩ hf
            refine lv_if_ge (tgt := 152) hx hb dX18_settle_136 (by decide) (fun c_67 => ?_) (fun c_67 => ?_)
            · skip
              rw [if_pos c_67] at hf
              refine lv_iload_n hx hb dX18_settle_152 rfl (lv_at hl 0 rfl) ?_
              exact B153 (z_56, r_57) ls H_58 locs ⟨lv_sub hl [1, 2] rfl, hP, hD, hS⟩ hf
            · skip
              rw [if_neg c_67] at hf
              refine lv_aload_n hx hb dX18_settle_139 rfl (lv_at hl 2 rfl) ?_
              refine lv_aload_n hx hb dX18_settle_140 rfl (lv_at hl 2 rfl) ?_
              obtain ⟨k_68, ek_68, hf⟩ := lnk_some hf
              refine va_get (D := (dC, dI)) (ci := 18) (v := .ref (a k_68)) (C := RX18) (T := TX18) (N := 78) hx hb hts iwd_X18_settle_X18 hown hK hP h0 (Wd_ob kg_1 sg_1 (by decide)) rfl 31 (by decide) (hts _ md_X18_settle_6) (fun _ h9 => h9) (fl_q rfl ek_68) dX18_settle_141 ?_
              refine lv_iload_n hx hb dX18_settle_144 rfl (lv_at hl 1 rfl) ?_
              obtain ⟨g_69, hf⟩ := grd_some hf
              obtain ⟨kg_69, sg_69, ig_69⟩ := okA_at g_69
              refine va_lald hx hb hK hP k_68 2 (Wd_al kg_69 sg_69) rfl ig_69 dX18_settle_145 ?_
              obtain ⟨z_70, r_71, hfc, hf⟩ := cal_some hf
              have hFc := de_free hD hS hA
              refine va_calli (va_runV (As := [.long (z_56.2.1 k_68 p_11.toNatClampNeg)]) (rest := [.ref (a k_59)]) ⟨hx, hb, hml, hown, hts⟩ (de_X18_newAccount l dC dI cy a sh n H_58.size F z_56 h0 (z_56.2.1 k_68 p_11.toNatClampNeg) hfc) (cwV 1 hts gX18_settle_X18_newAccount rfl rfl rfl (by decide +kernel) ⟨Nat.le_of_ble_eq_true rfl, Nat.le_of_ble_eq_true rfl⟩) ⟨fun a U g mk q => by obtain ⟨q0, q1, qP, qK, qD, qN⟩ := q; exact ⟨q0, q1, qP, va_K.moved (u := U) (U := U.calling g mk a) (Vm.Alike.refl U.vm) qK, qD, qN.same rfl⟩, va_recv hK hP (ci := 18) (q0 := h0) rfl (Wd_ob kg_1 sg_1 (by decide)), fun U hU hW => ⟨rfl, by rw [hU], by rw [hU]; exact hP, va_K.moved hW.alike hK, hD.weaken (fun _ _ _ _ => trivial), hN.warm hW⟩⟩ rfl rfl hl.1 rfl (lv_room (Nat.le_of_ble_eq_true rfl)) dX18_settle_146 ⟨Nat.le_of_ble_eq_true rfl, Nat.le_of_ble_eq_true rfl⟩) hS (fun q _ h => hFc q h) hFc (fun rr u t H_72 locs ht hvm hw hB hz1 hk1 hS2 => ?_)
              rw [hw]
              clear hw
              obtain ⟨hP1, -, hD1⟩ := hB
              rw [ht] at hP1
              replace hD := hD1.weaken (fun _ _ _ h => hFc _ h)
              replace hP := hP1
              replace hS := hS2
              clear hP1 hD1 hS2 hFc hfc hz1 hk1 hvm ht
              refine lv_goto (tgt := 153) hx hb dX18_settle_149 (by decide) ?_
              exact B153 (z_70, r_71) ls H_72 locs ⟨lv_sub hl [1, 2] rfl, hP, hD, hS⟩ hf
        · skip
          rw [if_pos c_21] at hf
          refine lv_goto (tgt := 234) hx hb dX18_settle_107 (by decide) ?_
          exact B234 (z_12) ls H locs ⟨lv_sub hl [0, 1] rfl, hP, hD, hS⟩ hf
  · skip
    rw [if_neg c_10] at hf
    refine lv_aload_n hx hb dX18_settle_24 rfl (lv_at hl 1 rfl) ?_
    obtain ⟨k_73, ek_73, hf⟩ := lnk_some hf
    refine va_get (D := (dC, dI)) (ci := 18) (v := .ref (a k_73)) (C := RX18) (T := TX18) (N := 78) hx hb hts iwd_X18_settle_X18 hown hK hP h0 (Wd_ob kg_1 sg_1 (by decide)) rfl 30 (by decide) (hts _ md_X18_settle_4) (fun _ h9 => h9) (fl_q rfl ek_73) dX18_settle_25 ?_
    refine lv_iload_n hx hb dX18_settle_28 rfl (lv_at hl 0 rfl) ?_
    obtain ⟨g_74, hf⟩ := grd_some hf
    obtain ⟨kg_74, sg_74, ig_74⟩ := okA_at g_74
    refine va_iald hx hb hK hP k_73 1 (Wd_ai kg_74 sg_74) rfl ig_74 dX18_settle_29 ?_
    refine lv_iconst (v := 3) hx hb dX18_settle_30 (by decide) ?_
    refine de_cut (h := 72) (fun (x : St) => []) (fun x ls H locs => lv_has ls 3 [(1, .int p_7), (0, .ref (a h0))] ∧ va_P (dC, dI) vwCl (Wd cy a sh n x) H ∧ va_D A (Wd cy a sh n x) ∧ va_S A s.heap H locs) (fun x => fn_X18_settle_B72 F sh n p_7 (fun z9 q1 => fn_X18_settle_L16 F sh n h0 f_9 z9 q1) x) (z8, r8) ?_ (fun B72 => ?_)
    · intro x ls H locs hI hf
      obtain ⟨z_75, ez⟩ : ∃ w, w = x := ⟨_, rfl⟩
      subst ez
      obtain ⟨hl2, hP2, hD2, hS2⟩ := hI
      replace hl : lv_has ls 3 [(1, .int p_7), (0, .ref (a h0))] := hl2
      replace hP := hP2
      replace hD := hD2
      replace hS := hS2
      clear hl2 hP2 hD2 hS2
      replace hf := fn_X18_settle_B72_s hf
      refine W.eq (g2 := F0 m 72 ls []) rfl ?_
      refine lv_iinc (v := (p_7 + 1)) (lv' := [(1, .int (p_7 + 1)), (0, .ref (a h0))]) hx hb dX18_settle_72 hl (k := 0) rfl rfl (by decide) rfl (fun ls hl2 => ?_)
      replace hl := hl2
      clear hl2
      refine lv_goto (tgt := 16) hx hb dX18_settle_75 (by decide) ?_
      exact ih16 (z_75, (p_7 + 1)) ls H locs ⟨lv_sub hl [0, 1] rfl, hP, hD, hS⟩ hf
    refine lv_icmp_ne (tgt := 72) hx hb dX18_settle_31 (by decide) (fun c_76 => ?_) (fun c_76 => ?_)
    · skip
      rw [if_neg c_76] at hf
      exact B72 (z_8) ls H locs ⟨lv_sub hl [0, 1] rfl, hP, hD, hS⟩ hf
    · skip
      rw [if_pos c_76] at hf
      refine lv_aload_n hx hb dX18_settle_34 rfl (lv_at hl 1 rfl) ?_
      obtain ⟨k_77, ek_77, hf⟩ := lnk_some hf
      refine va_get (D := (dC, dI)) (ci := 18) (v := .ref (a k_77)) (C := RX18) (T := TX18) (N := 78) hx hb hts iwd_X18_settle_X18 hown hK hP h0 (Wd_ob kg_1 sg_1 (by decide)) rfl 35 (by decide) (hts _ md_X18_settle_5) (fun _ h9 => h9) (fl_q rfl ek_77) dX18_settle_35 ?_
      refine lv_iload_n hx hb dX18_settle_38 rfl (lv_at hl 0 rfl) ?_
      obtain ⟨g_78, hf⟩ := grd_some hf
      obtain ⟨kg_78, sg_78, ig_78⟩ := okA_at g_78
      refine va_zald hx hb hK hP k_77 3 (Wd_az kg_78 sg_78) rfl ig_78 dX18_settle_39 ?_
      refine lv_if_eq (tgt := 46) hx hb dX18_settle_40 (by decide) (fun c_79 => ?_) (fun c_79 => ?_)
      · skip
        rw [if_pos c_79] at hf
        refine lv_aload_n hx hb dX18_settle_46 rfl (lv_at hl 1 rfl) ?_
        refine lv_aload_n hx hb dX18_settle_47 rfl (lv_at hl 1 rfl) ?_
        obtain ⟨k_80, ek_80, hf⟩ := lnk_some hf
        refine va_get (D := (dC, dI)) (ci := 18) (v := .ref (a k_80)) (C := RX18) (T := TX18) (N := 78) hx hb hts iwd_X18_settle_X18 hown hK hP h0 (Wd_ob kg_1 sg_1 (by decide)) rfl 31 (by decide) (hts _ md_X18_settle_6) (fun _ h9 => h9) (fl_q rfl ek_80) dX18_settle_48 ?_
        refine lv_iload_n hx hb dX18_settle_51 rfl (lv_at hl 0 rfl) ?_
        obtain ⟨g_81, hf⟩ := grd_some hf
        obtain ⟨kg_81, sg_81, ig_81⟩ := okA_at g_81
        refine va_lald hx hb hK hP k_80 2 (Wd_al kg_81 sg_81) rfl ig_81 dX18_settle_52 ?_
        refine lv_aload_n hx hb dX18_settle_53 rfl (lv_at hl 1 rfl) ?_
        obtain ⟨k_82, ek_82, hf⟩ := lnk_some hf
        refine va_get (D := (dC, dI)) (ci := 18) (v := .ref (a k_82)) (C := RX18) (T := TX18) (N := 78) hx hb hts iwd_X18_settle_X18 hown hK hP h0 (Wd_ob kg_1 sg_1 (by decide)) rfl 32 (by decide) (hts _ md_X18_settle_7) (fun _ h9 => h9) (fl_q rfl ek_82) dX18_settle_54 ?_
        refine lv_iload_n hx hb dX18_settle_57 rfl (lv_at hl 0 rfl) ?_
        obtain ⟨g_83, hf⟩ := grd_some hf
        obtain ⟨kg_83, sg_83, ig_83⟩ := okA_at g_83
        refine va_iald hx hb hK hP k_82 1 (Wd_ai kg_83 sg_83) rfl ig_83 dX18_settle_58 ?_
        obtain ⟨z_84, r_85, hfc, hf⟩ := cal_some hf
        have hFc := de_free hD hS hA
        refine va_calli (va_runV (As := [.long (z_8.2.1 k_80 p_7.toNatClampNeg), .int (z_8.1 k_82 p_7.toNatClampNeg)]) (rest := []) ⟨hx, hb, hml, hown, hts⟩ (de_X18_findResource l dC dI cy a sh n H.size F z_8 h0 (z_8.2.1 k_80 p_7.toNatClampNeg) (z_8.1 k_82 p_7.toNatClampNeg) hfc) (cwV 2 hts gX18_settle_X18_findResource rfl rfl rfl (by decide +kernel) ⟨Nat.le_of_ble_eq_true rfl, Nat.le_of_ble_eq_true rfl⟩) ⟨fun a U g mk q => by obtain ⟨q0, q1, qP, qK, qD, qN⟩ := q; exact ⟨q0, q1, qP, va_K.moved (u := U) (U := U.calling g mk a) (Vm.Alike.refl U.vm) qK, qD, qN.same rfl⟩, va_recv hK hP (ci := 18) (q0 := h0) rfl (Wd_ob kg_1 sg_1 (by decide)), fun U hU hW => ⟨rfl, by rw [hU], by rw [hU]; exact hP, va_K.moved hW.alike hK, hD.weaken (fun _ _ _ _ => trivial), hN.warm hW⟩⟩ rfl rfl hl.1 rfl (lv_room (Nat.le_of_ble_eq_true rfl)) dX18_settle_59 ⟨Nat.le_of_ble_eq_true rfl, Nat.le_of_ble_eq_true rfl⟩) hS (fun q _ h => hFc q h) hFc (fun rr u t H_86 locs ht hvm hw hB hz1 hk1 hS2 => ?_)
        rw [hw]
        clear hw
        obtain ⟨hP1, -, hD1⟩ := hB
        rw [ht] at hP1
        replace hD := hD1.weaken (fun _ _ _ h => hFc _ h)
        replace hP := hP1
        replace hS := hS2
        clear hP1 hD1 hS2 hFc hfc hz1 hk1 hvm ht
        refine lv_istore_n (lv' := [(2, .int r_85), (1, .int p_7), (0, .ref (a h0))]) hx hb dX18_settle_62 rfl hl (by decide) rfl (fun ls hl2 => ?_)
        replace hl := hl2
        clear hl2
        refine lv_iload_n hx hb dX18_settle_63 rfl (lv_at hl 0 rfl) ?_
        refine lv_if_lt (tgt := 72) hx hb dX18_settle_64 (by decide) (fun c_87 => ?_) (fun c_87 => ?_)
        · skip
          rw [if_pos c_87] at hf
          exact B72 (z_84) ls H_86 locs ⟨lv_sub hl [1, 2] rfl, hP, hD, hS⟩ hf
        · skip
          rw [if_neg c_87] at hf
          refine lv_aload_n hx hb dX18_settle_67 rfl (lv_at hl 2 rfl) ?_
          refine lv_iload_n hx hb dX18_settle_68 rfl (lv_at hl 0 rfl) ?_
          obtain ⟨z_88, _u, hfc, hf⟩ := cal_some hf
          have hFc := de_free hD hS hA
          refine va_callv (va_runV (As := [.int r_85]) (rest := []) ⟨hx, hb, hml, hown, hts⟩ (de_X18_removeResource l dC dI cy a sh n H_86.size F z_84 h0 r_85 hfc) (cwV 1 hts gX18_settle_X18_removeResource rfl rfl rfl (by decide +kernel) ⟨Nat.le_of_ble_eq_true rfl, Nat.le_of_ble_eq_true rfl⟩) ⟨fun a U g mk q => by obtain ⟨q0, q1, qP, qK, qD, qN⟩ := q; exact ⟨q0, q1, qP, va_K.moved (u := U) (U := U.calling g mk a) (Vm.Alike.refl U.vm) qK, qD, qN.same rfl⟩, va_recv hK hP (ci := 18) (q0 := h0) rfl (Wd_ob kg_1 sg_1 (by decide)), fun U hU hW => ⟨rfl, by rw [hU], by rw [hU]; exact hP, va_K.moved hW.alike hK, hD.weaken (fun _ _ _ _ => trivial), hN.warm hW⟩⟩ rfl rfl hl.1 rfl (lv_room (Nat.le_of_ble_eq_true rfl)) dX18_settle_69 ⟨Nat.le_of_ble_eq_true rfl, Nat.le_of_ble_eq_true rfl⟩) hS (fun q _ h => hFc q h) hFc (fun u t H_89 locs ht hvm hw hB hz1 hk1 hS2 => ?_)
          obtain ⟨hP1, -, hD1⟩ := hB
          rw [ht] at hP1
          replace hD := hD1.weaken (fun _ _ _ h => hFc _ h)
          replace hP := hP1
          replace hS := hS2
          clear hP1 hD1 hS2 hFc hfc hz1 hk1 hvm ht
          exact B72 (z_88) ls H_89 locs ⟨lv_sub hl [1, 2] rfl, hP, hD, hS⟩ hf
      · skip
        rw [if_neg c_79] at hf
        refine lv_goto (tgt := 72) hx hb dX18_settle_43 (by decide) ?_
        exact B72 (z_8) ls H locs ⟨lv_sub hl [0, 1] rfl, hP, hD, hS⟩ hf

theorem md_X2_ask_1 : (.fieldLink RX2 46 "ResourceLedger$Journal" "count" "I" : Cond) ∈ wsX2_ask := List.mem_of_getElem? (i := 1) rfl
theorem iwd_X2_ask_X2 : ∀ w ∈ wsX20, w ∈ wsX2_ask := fun _ h => List.mem_cons_of_mem _ (List.mem_append_left _ (List.mem_append_left _ (List.mem_append_right _ h)))
theorem md_X2_ask_2 : (.fieldLink RX2 11 "ResourceLedger$Journal" "kind" "[I" : Cond) ∈ wsX2_ask := List.mem_of_getElem? (i := 2) rfl
theorem md_X2_ask_3 : (.fieldLink RX2 15 "ResourceLedger$Journal" "address" "[J" : Cond) ∈ wsX2_ask := List.mem_of_getElem? (i := 3) rfl
theorem md_X2_ask_4 : (.fieldLink RX2 19 "ResourceLedger$Journal" "module" "[I" : Cond) ∈ wsX2_ask := List.mem_of_getElem? (i := 4) rfl
theorem md_X2_ask_5 : (.fieldLink RX2 22 "ResourceLedger$Journal" "structure" "[I" : Cond) ∈ wsX2_ask := List.mem_of_getElem? (i := 5) rfl
theorem md_X2_ask_6 : (.fieldLink RX2 32 "ResourceLedger$Journal" "balance" "[J" : Cond) ∈ wsX2_ask := List.mem_of_getElem? (i := 6) rfl
theorem md_X2_ask_7 : (.fieldLink RX2 35 "ResourceLedger$Journal" "node" "[I" : Cond) ∈ wsX2_ask := List.mem_of_getElem? (i := 7) rfl
theorem md_X2_ask_11 : (.fieldLink RX2 25 "ResourceLedger$Journal" "wasThere" "[Z" : Cond) ∈ wsX2_ask := List.mem_of_getElem? (i := 11) rfl
theorem md_X2_ask_12 : (.fieldLink RX2 29 "ResourceLedger$Journal" "isThere" "[Z" : Cond) ∈ wsX2_ask := List.mem_of_getElem? (i := 12) rfl
theorem md_X2_ask_8 : (.fieldLink RX2 38 "ResourceLedger$Journal" "state" "LResourceLedger$State;" : Cond) ∈ wsX2_ask := List.mem_of_getElem? (i := 8) rfl
theorem md_X2_ask_10 : (.fieldLink RX2 42 "ResourceLedger$Journal" "heap" "LResourceLedger$Heap;" : Cond) ∈ wsX2_ask := List.mem_of_getElem? (i := 10) rfl
theorem md_X2_ask_9 : (.fieldLink RX2 68 "ResourceLedger$State" "balance" "[J" : Cond) ∈ wsX2_ask := List.mem_of_getElem? (i := 9) rfl
theorem iwd_X2_ask_X7 : ∀ w ∈ wsX70, w ∈ wsX2_ask := fun _ h => List.mem_cons_of_mem _ (List.mem_append_left _ (List.mem_append_right _ h))
set_option maxHeartbeats 4000000 in
set_option maxRecDepth 100000 in
theorem de_X2_ask (l : Launch) (dC : Nat → ClassId) (dI : Nat → Nat → Nat) (cy : Nat → ClassId) (a : Nat → Nat) (sh : Nat → Nat × Nat) (n sz : Nat) (F : Nat) (z : St) (h0 : Nat) (x0 : Int32) (x1 : Int64) (x2 : Int32) (x3 : Int32) {z8 : St} {r8 : Int32} (hf : fn_X2_ask F sh n z h0 x0 x1 x2 x3 = some (z8, r8)) : Met l yX2_ask wsX2_ask ({ frames := 51, cells := 0, slots := 0, locals := 1419 }) (va_Pc [.ref (a h0), .int x0, .long x1, .int x2, .int x3] (fun U => U.heap.size = sz ∧ va_P (dC, dI) vwCl (Wd cy a sh n z) U.heap ∧ va_K (dC, dI) vwCl (TYS cy) U ∧ va_D (fun _ => True) (Wd cy a sh n z) ∧ NK U)) (va_Qi (fun (r9 : Int32) (u : Unit) => r9 = r8) (fun u t => va_P (dC, dI) vwCl (Wd cy a sh n z8) t.heap ∧ va_K (dC, dI) vwCl (TYS cy) t ∧ va_D (va_A (Wd cy a sh n z) sz) (Wd cy a sh n z8)) (va_A (Wd cy a sh n z) sz)) 0 0 (va_A (Wd cy a sh n z) sz) := by
  refine Met.ofW (cc := cX2_ask) (maxL := 8) (ret := (some .int)) (by decide) rfl ?_
  intro p e s m args below meth c s₁ B hml hv
  obtain ⟨rfl, hsz, hP, hK, hD0, hN⟩ := hv
  have hx := B.exec
  have hb := B.bytes
  have hr := B.returns
  have hts := atoms_spec (ws := wsX2_ask) B.pre
  have hown : s.vm.findClass RX2 = some m.cls := findClass_of_methodNamed B.named
  have hlocks := B.notSynchronized
  subst hsz
  have hD := hD0.self (sz := s.heap.size)
  clear hD0
  generalize hAe : va_A (Wd cy a sh n z) s.heap.size = A at hD ⊢
  have hA : ∀ q : Nat, s.heap.size ≤ q → A q := fun q h => by rw [← hAe]; exact Or.inr h
  clear hAe
  have hS : va_S A s.heap s.heap [] := va_S.rf
  have hl := lv_entry ([.ref (a h0), .int x0, .long x1, .int x2, .int x3]) (n := 8) (Nat.le_of_ble_eq_true rfl)
  rw [lg_entry_eq]
  generalize (lg_sl ([.ref (a h0), .int x0, .long x1, .int x2, .int x3]) ++ List.replicate (8 - (lg_sl ([.ref (a h0), .int x0, .long x1, .int x2, .int x3])).length) Slot.unset).toArray = ls at hl ⊢
  replace hl : lv_has ls 8 [(0, .ref (a h0)), (1, .int x0), (2, .long x1), (4, .int x2), (5, .int x3)] := hl
  unfold fn_X2_ask at hf
  refine de_start hS hP (fun H locs hS hP => ?_)
  refine lv_iconst (v := 0) hx hb dX2_ask_0 (by decide) ?_
  refine lv_istore (lv' := [(6, .int 0), (0, .ref (a h0)), (1, .int x0), (2, .long x1), (4, .int x2), (5, .int x3)]) hx hb dX2_ask_1 hl (by decide) rfl (fun ls hl2 => ?_)
  replace hl := hl2
  clear hl2
  have hl0 : lv_has ls 8 [(6, .int 0), (0, .ref (a h0)), (1, .int x0), (2, .long x1), (4, .int x2), (5, .int x3)] := lv_sub hl [0, 1, 2, 3, 4, 5] rfl
  refine de_loop (h := 3) (fun (x : St × Int32) ls H locs => lv_has ls 8 [(6, .int x.2), (0, .ref (a h0)), (1, .int x0), (2, .long x1), (4, .int x2), (5, .int x3)] ∧ va_P (dC, dI) vwCl (Wd cy a sh n x.1) H ∧ va_D A (Wd cy a sh n x.1) ∧ va_S A s.heap H locs) (fun f x => fn_X2_ask_L3 F sh n h0 x0 x1 x2 x3 f x.1 x.2) (z8, r8) ?_ (fun _ => rfl) F (z, 0) ls H locs ⟨hl0, hP, hD, hS⟩ hf
  intro f_3 x ls H locs ih3 hI hf
  obtain ⟨z_2, p_1⟩ := x
  obtain ⟨hl2, hP2, hD2, hS2⟩ := hI
  replace hl : lv_has ls 8 [(6, .int p_1), (0, .ref (a h0)), (1, .int x0), (2, .long x1), (4, .int x2), (5, .int x3)] := hl2
  replace hP := hP2
  replace hD := hD2
  replace hS := hS2
  clear hl2 hP2 hD2 hS2 hl0
  replace hf := fn_X2_ask_L3_s hf
  refine lv_iload hx hb dX2_ask_3 (lv_at hl 0 rfl) ?_
  refine lv_aload_n hx hb dX2_ask_5 rfl (lv_at hl 1 rfl) ?_
  obtain ⟨g_4, hf⟩ := grd_some hf
  obtain ⟨kg_4, sg_4⟩ := okO_at g_4
  refine va_get (D := (dC, dI)) (ci := 2) (v := .int (z_2.1 h0 7)) (C := RX2) (T := TX2) (N := 11) hx hb hts iwd_X2_ask_X2 hown hK hP h0 (Wd_ob kg_4 sg_4 (by decide)) rfl 7 (by decide) (hts _ md_X2_ask_1) (fun _ h9 => h9) (fl_at (t := 0) rfl) dX2_ask_6 ?_
  refine lv_icmp_ge (tgt := 68) hx hb dX2_ask_9 (by decide) (fun c_5 => ?_) (fun c_5 => ?_)
  · skip
    rw [if_pos c_5] at hf
    refine lv_aload_n hx hb dX2_ask_68 rfl (lv_at hl 1 rfl) ?_
    refine va_get (D := (dC, dI)) (ci := 2) (v := .int (z_2.1 h0 7)) (C := RX2) (T := TX2) (N := 11) hx hb hts iwd_X2_ask_X2 hown hK hP h0 (Wd_ob kg_4 sg_4 (by decide)) rfl 7 (by decide) (hts _ md_X2_ask_1) (fun _ h9 => h9) (fl_at (t := 0) rfl) dX2_ask_69 ?_
    refine lv_bipush (v := 24) hx hb dX2_ask_72 (by decide) ?_
    refine lv_icmp_lt (tgt := 79) hx hb dX2_ask_74 (by decide) (fun c_6 => ?_) (fun c_6 => ?_)
    · skip
      rw [if_pos c_6] at hf
      refine lv_aload_n hx hb dX2_ask_79 rfl (lv_at hl 1 rfl) ?_
      refine lv_dup hx hb dX2_ask_80 rfl ?_
      refine va_get (D := (dC, dI)) (ci := 2) (v := .int (z_2.1 h0 7)) (C := RX2) (T := TX2) (N := 11) hx hb hts iwd_X2_ask_X2 hown hK hP h0 (Wd_ob kg_4 sg_4 (by decide)) rfl 7 (by decide) (hts _ md_X2_ask_1) (fun _ h9 => h9) (fl_at (t := 0) rfl) dX2_ask_81 ?_
      refine lv_topi (fun v_7 ev_7 => ?_)
      replace hf := lt_at ev_7 hf
      clear ev_7
      refine lv_dup_x1 hx hb dX2_ask_84 rfl rfl ?_
      refine lv_iconst (v := 1) hx hb dX2_ask_85 (by decide) ?_
      refine lv_iadd hx hb dX2_ask_86 ?_
      refine va_put (D := (dC, dI)) (ci := 2) (v := .int (v_7 + 1)) (ty := .int) (C := RX2) (T := TX2) (N := 11) hx hb hts iwd_X2_ask_X2 tyX2 tyX2_ok nmX2 hown hK hP hD hS h0 (Wd_ob kg_4 sg_4 (by decide)) rfl 7 (by decide) (hts _ md_X2_ask_1) (fun _ h9 => h9) rfl (by decide +kernel) rfl rfl (by rw [fl_len]; decide) dX2_ask_87 (fun H_8 locs hP2 hD2 hS2 => ?_)
      rw [Wd_si sg_4 (by decide) rfl] at hP2 hD2
      obtain ⟨z_9, ez_9⟩ : ∃ w, w = si z_2 h0 7 (v_7 + 1) := ⟨_, rfl⟩
      rw [← ez_9] at hP2 hD2
      replace hf := lt_at ez_9 hf
      clear ez_9
      replace hP := hP2
      replace hD := hD2
      replace hS := hS2
      clear hP2 hD2 hS2
      refine lv_istore (lv' := [(6, .int v_7), (0, .ref (a h0)), (1, .int x0), (2, .long x1), (4, .int x2), (5, .int x3)]) hx hb dX2_ask_90 hl (by decide) rfl (fun ls hl2 => ?_)
      replace hl := hl2
      clear hl2
      refine lv_aload_n hx hb dX2_ask_92 rfl (lv_at hl 1 rfl) ?_
      obtain ⟨k_10, ek_10, hf⟩ := lnk_some hf
      refine va_get (D := (dC, dI)) (ci := 2) (v := .ref (a k_10)) (C := RX2) (T := TX2) (N := 11) hx hb hts iwd_X2_ask_X2 hown hK hP h0 (Wd_ob kg_4 sg_4 (by decide)) rfl 2 (by decide) (hts _ md_X2_ask_2) (fun _ h9 => h9) (fl_q rfl ek_10) dX2_ask_93 ?_
      refine lv_iload hx hb dX2_ask_96 (lv_at hl 0 rfl) ?_
      refine lv_iload_n hx hb dX2_ask_98 rfl (lv_at hl 2 rfl) ?_
      obtain ⟨g_11, hf⟩ := grd_some hf
      obtain ⟨kg_11, sg_11, ig_11⟩ := okA_at g_11
      refine va_iast hx hb hK hP hD hS k_10 1 (Wd_ai kg_11 sg_11) rfl ig_11 dX2_ask_99 (fun H_12 locs hP2 hD2 hS2 => ?_)
      rw [Wd_ti sg_11] at hP2 hD2
      obtain ⟨z_13, ez_13⟩ : ∃ w, w = si z_9 k_10 v_7.toNatClampNeg x0 := ⟨_, rfl⟩
      rw [← ez_13] at hP2 hD2
      replace hf := lt_at ez_13 hf
      clear ez_13
      replace hP := hP2
      replace hD := hD2
      replace hS := hS2
      clear hP2 hD2 hS2
      refine lv_aload_n hx hb dX2_ask_100 rfl (lv_at hl 1 rfl) ?_
      obtain ⟨k_14, ek_14, hf⟩ := lnk_some hf
      refine va_get (D := (dC, dI)) (ci := 2) (v := .ref (a k_14)) (C := RX2) (T := TX2) (N := 11) hx hb hts iwd_X2_ask_X2 hown hK hP h0 (Wd_ob kg_4 sg_4 (by decide)) rfl 3 (by decide) (hts _ md_X2_ask_3) (fun _ h9 => h9) (fl_q rfl ek_14) dX2_ask_101 ?_
      refine lv_iload hx hb dX2_ask_104 (lv_at hl 0 rfl) ?_
      refine lv_lload_n hx hb dX2_ask_106 rfl (lv_at hl 3 rfl) ?_
      obtain ⟨g_15, hf⟩ := grd_some hf
      obtain ⟨kg_15, sg_15, ig_15⟩ := okA_at g_15
      refine va_last hx hb hK hP hD hS k_14 2 (Wd_al kg_15 sg_15) rfl ig_15 dX2_ask_107 (fun H_16 locs hP2 hD2 hS2 => ?_)
      rw [Wd_tl sg_15] at hP2 hD2
      obtain ⟨z_17, ez_17⟩ : ∃ w, w = sl z_13 k_14 v_7.toNatClampNeg x1 := ⟨_, rfl⟩
      rw [← ez_17] at hP2 hD2
      replace hf := lt_at ez_17 hf
      clear ez_17
      replace hP := hP2
      replace hD := hD2
      replace hS := hS2
      clear hP2 hD2 hS2
      refine lv_aload_n hx hb dX2_ask_108 rfl (lv_at hl 1 rfl) ?_
      obtain ⟨k_18, ek_18, hf⟩ := lnk_some hf
      refine va_get (D := (dC, dI)) (ci := 2) (v := .ref (a k_18)) (C := RX2) (T := TX2) (N := 11) hx hb hts iwd_X2_ask_X2 hown hK hP h0 (Wd_ob kg_4 sg_4 (by decide)) rfl 4 (by decide) (hts _ md_X2_ask_4) (fun _ h9 => h9) (fl_q rfl ek_18) dX2_ask_109 ?_
      refine lv_iload hx hb dX2_ask_112 (lv_at hl 0 rfl) ?_
      refine lv_iload hx hb dX2_ask_114 (lv_at hl 4 rfl) ?_
      obtain ⟨g_19, hf⟩ := grd_some hf
      obtain ⟨kg_19, sg_19, ig_19⟩ := okA_at g_19
      refine va_iast hx hb hK hP hD hS k_18 1 (Wd_ai kg_19 sg_19) rfl ig_19 dX2_ask_116 (fun H_20 locs hP2 hD2 hS2 => ?_)
      rw [Wd_ti sg_19] at hP2 hD2
      obtain ⟨z_21, ez_21⟩ : ∃ w, w = si z_17 k_18 v_7.toNatClampNeg x2 := ⟨_, rfl⟩
      rw [← ez_21] at hP2 hD2
      replace hf := lt_at ez_21 hf
      clear ez_21
      replace hP := hP2
      replace hD := hD2
      replace hS := hS2
      clear hP2 hD2 hS2
      refine lv_aload_n hx hb dX2_ask_117 rfl (lv_at hl 1 rfl) ?_
      obtain ⟨k_22, ek_22, hf⟩ := lnk_some hf
      refine va_get (D := (dC, dI)) (ci := 2) (v := .ref (a k_22)) (C := RX2) (T := TX2) (N := 11) hx hb hts iwd_X2_ask_X2 hown hK hP h0 (Wd_ob kg_4 sg_4 (by decide)) rfl 5 (by decide) (hts _ md_X2_ask_5) (fun _ h9 => h9) (fl_q rfl ek_22) dX2_ask_118 ?_
      refine lv_iload hx hb dX2_ask_121 (lv_at hl 0 rfl) ?_
      refine lv_iload hx hb dX2_ask_123 (lv_at hl 5 rfl) ?_
      obtain ⟨g_23, hf⟩ := grd_some hf
      obtain ⟨kg_23, sg_23, ig_23⟩ := okA_at g_23
      refine va_iast hx hb hK hP hD hS k_22 1 (Wd_ai kg_23 sg_23) rfl ig_23 dX2_ask_125 (fun H_24 locs hP2 hD2 hS2 => ?_)
      rw [Wd_ti sg_23] at hP2 hD2
      obtain ⟨z_25, ez_25⟩ : ∃ w, w = si z_21 k_22 v_7.toNatClampNeg x3 := ⟨_, rfl⟩
      rw [← ez_25] at hP2 hD2
      replace hf := lt_at ez_25 hf
      clear ez_25
      replace hP := hP2
      replace hD := hD2
      replace hS := hS2
      clear hP2 hD2 hS2
      refine lv_aload_n hx hb dX2_ask_126 rfl (lv_at hl 1 rfl) ?_
      obtain ⟨k_26, ek_26, hf⟩ := lnk_some hf
      refine va_get (D := (dC, dI)) (ci := 2) (v := .ref (a k_26)) (C := RX2) (T := TX2) (N := 11) hx hb hts iwd_X2_ask_X2 hown hK hP h0 (Wd_ob kg_4 sg_4 (by decide)) rfl 9 (by decide) (hts _ md_X2_ask_6) (fun _ h9 => h9) (fl_q rfl ek_26) dX2_ask_127 ?_
      refine lv_iload hx hb dX2_ask_130 (lv_at hl 0 rfl) ?_
      refine lv_lconst (v := 0) hx hb dX2_ask_132 (by decide) ?_
      obtain ⟨g_27, hf⟩ := grd_some hf
      obtain ⟨kg_27, sg_27, ig_27⟩ := okA_at g_27
      refine va_last hx hb hK hP hD hS k_26 2 (Wd_al kg_27 sg_27) rfl ig_27 dX2_ask_133 (fun H_28 locs hP2 hD2 hS2 => ?_)
      rw [Wd_tl sg_27] at hP2 hD2
      obtain ⟨z_29, ez_29⟩ : ∃ w, w = sl z_25 k_26 v_7.toNatClampNeg 0 := ⟨_, rfl⟩
      rw [← ez_29] at hP2 hD2
      replace hf := lt_at ez_29 hf
      clear ez_29
      replace hP := hP2
      replace hD := hD2
      replace hS := hS2
      clear hP2 hD2 hS2
      refine lv_aload_n hx hb dX2_ask_134 rfl (lv_at hl 1 rfl) ?_
      obtain ⟨k_30, ek_30, hf⟩ := lnk_some hf
      refine va_get (D := (dC, dI)) (ci := 2) (v := .ref (a k_30)) (C := RX2) (T := TX2) (N := 11) hx hb hts iwd_X2_ask_X2 hown hK hP h0 (Wd_ob kg_4 sg_4 (by decide)) rfl 10 (by decide) (hts _ md_X2_ask_7) (fun _ h9 => h9) (fl_q rfl ek_30) dX2_ask_135 ?_
      refine lv_iload hx hb dX2_ask_138 (lv_at hl 0 rfl) ?_
      refine lv_iconst (v := 0) hx hb dX2_ask_140 (by decide) ?_
      obtain ⟨g_31, hf⟩ := grd_some hf
      obtain ⟨kg_31, sg_31, ig_31⟩ := okA_at g_31
      refine va_iast hx hb hK hP hD hS k_30 1 (Wd_ai kg_31 sg_31) rfl ig_31 dX2_ask_141 (fun H_32 locs hP2 hD2 hS2 => ?_)
      rw [Wd_ti sg_31] at hP2 hD2
      obtain ⟨z_33, ez_33⟩ : ∃ w, w = si z_29 k_30 v_7.toNatClampNeg 0 := ⟨_, rfl⟩
      rw [← ez_33] at hP2 hD2
      replace hf := lt_at ez_33 hf
      clear ez_33
      replace hP := hP2
      replace hD := hD2
      replace hS := hS2
      clear hP2 hD2 hS2
      refine lv_iconst (v := 0) hx hb dX2_ask_142 (by decide) ?_
      refine lv_istore (lv' := [(7, .int 0), (6, .int v_7), (0, .ref (a h0)), (1, .int x0), (2, .long x1), (4, .int x2), (5, .int x3)]) hx hb dX2_ask_143 hl (by decide) rfl (fun ls hl2 => ?_)
      replace hl := hl2
      clear hl2
      refine lv_iload_n hx hb dX2_ask_145 rfl (lv_at hl 3 rfl) ?_
      refine lv_iconst (v := 1) hx hb dX2_ask_146 (by decide) ?_
      refine de_cut (h := 237) (fun (x : St × Int32) => []) (fun x ls H locs => lv_has ls 8 [(7, .int x.2), (6, .int v_7), (0, .ref (a h0))] ∧ va_P (dC, dI) vwCl (Wd cy a sh n x.1) H ∧ va_D A (Wd cy a sh n x.1) ∧ va_S A s.heap H locs) (fun x => fn_X2_ask_B237 F sh n h0 v_7 x.1 x.2) (z8, r8) ?_ (fun B237 => ?_)
      · intro x ls H locs hI hf
        obtain ⟨z_35, p_34⟩ := x
        obtain ⟨hl2, hP2, hD2, hS2⟩ := hI
        replace hl : lv_has ls 8 [(7, .int p_34), (6, .int v_7), (0, .ref (a h0))] := hl2
        replace hP := hP2
        replace hD := hD2
        replace hS := hS2
        clear hl2 hP2 hD2 hS2
        replace hf := fn_X2_ask_B237_s hf
        refine W.eq (g2 := F0 m 237 ls []) rfl ?_
        refine lv_aload_n hx hb dX2_ask_237 rfl (lv_at hl 2 rfl) ?_
        obtain ⟨k_36, ek_36, hf⟩ := lnk_some hf
        refine va_get (D := (dC, dI)) (ci := 2) (v := .ref (a k_36)) (C := RX2) (T := TX2) (N := 11) hx hb hts iwd_X2_ask_X2 hown hK hP h0 (Wd_ob kg_4 sg_4 (by decide)) rfl 6 (by decide) (hts _ md_X2_ask_11) (fun _ h9 => h9) (fl_q rfl ek_36) dX2_ask_238 ?_
        refine lv_iload hx hb dX2_ask_241 (lv_at hl 1 rfl) ?_
        refine lv_iload hx hb dX2_ask_243 (lv_at hl 0 rfl) ?_
        refine de_cut (h := 253) (fun (x : St × Int32) => [.int x.2, .int v_7, .ref (a k_36)]) (fun x ls H locs => lv_has ls 8 [(7, .int p_34), (6, .int v_7), (0, .ref (a h0))] ∧ va_P (dC, dI) vwCl (Wd cy a sh n x.1) H ∧ va_D A (Wd cy a sh n x.1) ∧ va_S A s.heap H locs) (fun x => fn_X2_ask_B253 F sh n k_36 v_7 h0 p_34 x.1 x.2) (z8, r8) ?_ (fun B253 => ?_)
        · intro x ls H locs hI hf
          obtain ⟨z_38, p_37⟩ := x
          obtain ⟨hl2, hP2, hD2, hS2⟩ := hI
          replace hl : lv_has ls 8 [(7, .int p_34), (6, .int v_7), (0, .ref (a h0))] := hl2
          replace hP := hP2
          replace hD := hD2
          replace hS := hS2
          clear hl2 hP2 hD2 hS2
          replace hf := fn_X2_ask_B253_s hf
          refine W.eq (g2 := F0 m 253 ls [.int p_37, .int v_7, .ref (a k_36)]) rfl ?_
          obtain ⟨g_39, hf⟩ := grd_some hf
          obtain ⟨kg_39, sg_39, ig_39⟩ := okA_at g_39
          refine va_zast hx hb hK hP hD hS k_36 3 (Wd_az kg_39 sg_39) rfl ig_39 dX2_ask_253 (fun H_40 locs hP2 hD2 hS2 => ?_)
          rw [Wd_tz sg_39] at hP2 hD2
          obtain ⟨z_41, ez_41⟩ : ∃ w, w = si z_38 k_36 v_7.toNatClampNeg (vp_nar .boolean p_37) := ⟨_, rfl⟩
          rw [← ez_41] at hP2 hD2
          replace hf := lt_at ez_41 hf
          clear ez_41
          replace hP := hP2
          replace hD := hD2
          replace hS := hS2
          clear hP2 hD2 hS2
          refine lv_aload_n hx hb dX2_ask_254 rfl (lv_at hl 2 rfl) ?_
          obtain ⟨k_42, ek_42, hf⟩ := lnk_some hf
          refine va_get (D := (dC, dI)) (ci := 2) (v := .ref (a k_42)) (C := RX2) (T := TX2) (N := 11) hx hb hts iwd_X2_ask_X2 hown hK hP h0 (Wd_ob kg_4 sg_4 (by decide)) rfl 8 (by decide) (hts _ md_X2_ask_12) (fun _ h9 => h9) (fl_q rfl ek_42) dX2_ask_255 ?_
          refine lv_iload hx hb dX2_ask_258 (lv_at hl 1 rfl) ?_
          refine lv_iload hx hb dX2_ask_260 (lv_at hl 0 rfl) ?_
          refine lv_if_lt (tgt := 269) hx hb dX2_ask_262 (by decide) (fun c_43 => ?_) (fun c_43 => ?_)
          · skip
            rw [if_pos c_43] at hf
            refine lv_iconst (v := 0) hx hb dX2_ask_269 (by decide) ?_
            obtain ⟨g_44, hf⟩ := grd_some hf
            obtain ⟨kg_44, sg_44, ig_44⟩ := okA_at g_44
            refine va_zast hx hb hK hP hD hS k_42 3 (Wd_az kg_44 sg_44) rfl ig_44 dX2_ask_270 (fun H_45 locs hP2 hD2 hS2 => ?_)
            rw [Wd_tz sg_44] at hP2 hD2
            obtain ⟨z_46, ez_46⟩ : ∃ w, w = si z_41 k_42 v_7.toNatClampNeg (vp_nar .boolean 0) := ⟨_, rfl⟩
            rw [← ez_46] at hP2 hD2
            replace hf := lt_at ez_46 hf
            clear ez_46
            replace hP := hP2
            replace hD := hD2
            replace hS := hS2
            clear hP2 hD2 hS2
            refine lv_iload hx hb dX2_ask_271 (lv_at hl 1 rfl) ?_
            obtain ⟨h8, h9⟩ := ret_some hf
            rw [h8, h9]
            exact W.iret (v := v_7) hx hb hr (fun t ht hW => ⟨⟨v_7, (), rfl, rfl, by rw [ht]; exact hP, va_K.moved hW.alike hK, hD⟩, hS.F ht⟩) hS.2.2 dX2_ask_273
          · skip
            rw [if_neg c_43] at hf
            refine lv_iconst (v := 1) hx hb dX2_ask_265 (by decide) ?_
            refine lv_goto (tgt := 270) hx hb dX2_ask_266 (by decide) ?_
            obtain ⟨g_47, hf⟩ := grd_some hf
            obtain ⟨kg_47, sg_47, ig_47⟩ := okA_at g_47
            refine va_zast hx hb hK hP hD hS k_42 3 (Wd_az kg_47 sg_47) rfl ig_47 dX2_ask_270 (fun H_48 locs hP2 hD2 hS2 => ?_)
            rw [Wd_tz sg_47] at hP2 hD2
            obtain ⟨z_49, ez_49⟩ : ∃ w, w = si z_41 k_42 v_7.toNatClampNeg (vp_nar .boolean 1) := ⟨_, rfl⟩
            rw [← ez_49] at hP2 hD2
            replace hf := lt_at ez_49 hf
            clear ez_49
            replace hP := hP2
            replace hD := hD2
            replace hS := hS2
            clear hP2 hD2 hS2
            refine lv_iload hx hb dX2_ask_271 (lv_at hl 1 rfl) ?_
            obtain ⟨h8, h9⟩ := ret_some hf
            rw [h8, h9]
            exact W.iret (v := v_7) hx hb hr (fun t ht hW => ⟨⟨v_7, (), rfl, rfl, by rw [ht]; exact hP, va_K.moved hW.alike hK, hD⟩, hS.F ht⟩) hS.2.2 dX2_ask_273
        refine lv_if_lt (tgt := 252) hx hb dX2_ask_245 (by decide) (fun c_50 => ?_) (fun c_50 => ?_)
        · skip
          rw [if_pos c_50] at hf
          refine lv_iconst (v := 0) hx hb dX2_ask_252 (by decide) ?_
          exact B253 (z_35, 0) ls H locs ⟨lv_sub hl [0, 1, 2] rfl, hP, hD, hS⟩ hf
        · skip
          rw [if_neg c_50] at hf
          refine lv_iconst (v := 1) hx hb dX2_ask_248 (by decide) ?_
          refine lv_goto (tgt := 253) hx hb dX2_ask_249 (by decide) ?_
          exact B253 (z_35, 1) ls H locs ⟨lv_sub hl [0, 1, 2] rfl, hP, hD, hS⟩ hf
      refine lv_icmp_ne (tgt := 189) hx hb dX2_ask_147 (by decide) (fun c_51 => ?_) (fun c_51 => ?_)
      · skip
        rw [if_neg c_51] at hf
        refine lv_iload_n hx hb dX2_ask_189 rfl (lv_at hl 3 rfl) ?_
        refine lv_iconst (v := 3) hx hb dX2_ask_190 (by decide) ?_
        refine lv_icmp_ne (tgt := 237) hx hb dX2_ask_191 (by decide) (fun c_52 => ?_) (fun c_52 => ?_)
        · skip
          rw [if_neg c_52] at hf
          exact B237 (z_33, 0) ls H_32 locs ⟨lv_sub hl [0, 1, 2] rfl, hP, hD, hS⟩ hf
        · skip
          rw [if_pos c_52] at hf
          refine lv_aload_n hx hb dX2_ask_194 rfl (lv_at hl 2 rfl) ?_
          obtain ⟨k_53, ek_53, hf⟩ := lnk_some hf
          refine va_get (D := (dC, dI)) (ci := 2) (v := .ref (a k_53)) (C := RX2) (T := TX2) (N := 11) hx hb hts iwd_X2_ask_X2 hown hK hP h0 (Wd_ob kg_4 sg_4 (by decide)) rfl 0 (by decide) (hts _ md_X2_ask_8) (fun _ h9 => h9) (fl_q rfl ek_53) dX2_ask_195 ?_
          refine lv_lload_n hx hb dX2_ask_198 rfl (lv_at hl 4 rfl) ?_
          refine lv_iload hx hb dX2_ask_199 (lv_at hl 5 rfl) ?_
          refine lv_iload hx hb dX2_ask_201 (lv_at hl 6 rfl) ?_
          obtain ⟨g_56, hf⟩ := grd_some hf
          obtain ⟨kg_56, sg_56⟩ := okO_at g_56
          obtain ⟨z_54, r_55, hfc, hf⟩ := cal_some hf
          have hFc := de_free hD hS hA
          refine va_calli (va_runV (As := [.long x1, .int x2, .int x3]) (rest := []) ⟨hx, hb, hml, hown, hts⟩ (de_X7_findResource l dC dI cy a sh n H_32.size F z_33 k_53 x1 x2 x3 hfc) (cwV 3 hts gX2_ask_X7_findResource rfl rfl rfl (by decide +kernel) ⟨Nat.le_of_ble_eq_true rfl, Nat.le_of_ble_eq_true rfl⟩) ⟨fun a U g mk q => by obtain ⟨q0, q1, qP, qK, qD, qN⟩ := q; exact ⟨q0, q1, qP, va_K.moved (u := U) (U := U.calling g mk a) (Vm.Alike.refl U.vm) qK, qD, qN.same rfl⟩, va_recv hK hP (ci := 7) (q0 := k_53) rfl (Wd_ob kg_56 sg_56 (by decide)), fun U hU hW => ⟨rfl, by rw [hU], by rw [hU]; exact hP, va_K.moved hW.alike hK, hD.weaken (fun _ _ _ _ => trivial), hN.warm hW⟩⟩ rfl rfl hl.1 rfl (lv_room (Nat.le_of_ble_eq_true rfl)) dX2_ask_203 ⟨Nat.le_of_ble_eq_true rfl, Nat.le_of_ble_eq_true rfl⟩) hS (fun q _ h => hFc q h) hFc (fun rr u t H_57 locs ht hvm hw hB hz1 hk1 hS2 => ?_)
          rw [hw]
          clear hw
          obtain ⟨hP1, -, hD1⟩ := hB
          rw [ht] at hP1
          replace hD := hD1.weaken (fun _ _ _ h => hFc _ h)
          replace hP := hP1
          replace hS := hS2
          clear hP1 hD1 hS2 hFc hfc hz1 hk1 hvm ht
          refine lv_istore (lv' := [(7, .int r_55), (6, .int v_7), (0, .ref (a h0)), (1, .int x0), (2, .long x1), (4, .int x2), (5, .int x3)]) hx hb dX2_ask_206 hl (by decide) rfl (fun ls hl2 => ?_)
          replace hl := hl2
          clear hl2
          refine lv_aload_n hx hb dX2_ask_208 rfl (lv_at hl 2 rfl) ?_
          obtain ⟨k_58, ek_58, hf⟩ := lnk_some hf
          refine va_get (D := (dC, dI)) (ci := 2) (v := .ref (a k_58)) (C := RX2) (T := TX2) (N := 11) hx hb hts iwd_X2_ask_X2 hown hK hP h0 (Wd_ob kg_4 sg_4 (by decide)) rfl 10 (by decide) (hts _ md_X2_ask_7) (fun _ h9 => h9) (fl_q rfl ek_58) dX2_ask_209 ?_
          refine lv_iload hx hb dX2_ask_212 (lv_at hl 1 rfl) ?_
          refine lv_iload hx hb dX2_ask_214 (lv_at hl 0 rfl) ?_
          refine de_cut (h := 236) (fun (x : St × Int32) => [.int x.2, .int v_7, .ref (a k_58)]) (fun x ls H locs => lv_has ls 8 [(7, .int r_55), (6, .int v_7), (0, .ref (a h0))] ∧ va_P (dC, dI) vwCl (Wd cy a sh n x.1) H ∧ va_D A (Wd cy a sh n x.1) ∧ va_S A s.heap H locs) (fun x => fn_X2_ask_B236 F sh n k_58 v_7 h0 r_55 x.1 x.2) (z8, r8) ?_ (fun B236 => ?_)
          · intro x ls H locs hI hf
            obtain ⟨z_60, p_59⟩ := x
            obtain ⟨hl2, hP2, hD2, hS2⟩ := hI
            replace hl : lv_has ls 8 [(7, .int r_55), (6, .int v_7), (0, .ref (a h0))] := hl2
            replace hP := hP2
            replace hD := hD2
            replace hS := hS2
            clear hl2 hP2 hD2 hS2
            replace hf := fn_X2_ask_B236_s hf
            refine W.eq (g2 := F0 m 236 ls [.int p_59, .int v_7, .ref (a k_58)]) rfl ?_
            obtain ⟨g_61, hf⟩ := grd_some hf
            obtain ⟨kg_61, sg_61, ig_61⟩ := okA_at g_61
            refine va_iast hx hb hK hP hD hS k_58 1 (Wd_ai kg_61 sg_61) rfl ig_61 dX2_ask_236 (fun H_62 locs hP2 hD2 hS2 => ?_)
            rw [Wd_ti sg_61] at hP2 hD2
            obtain ⟨z_63, ez_63⟩ : ∃ w, w = si z_60 k_58 v_7.toNatClampNeg p_59 := ⟨_, rfl⟩
            rw [← ez_63] at hP2 hD2
            replace hf := lt_at ez_63 hf
            clear ez_63
            replace hP := hP2
            replace hD := hD2
            replace hS := hS2
            clear hP2 hD2 hS2
            exact B237 (z_63, r_55) ls H_62 locs ⟨lv_sub hl [0, 1, 2] rfl, hP, hD, hS⟩ hf
          refine lv_if_ge (tgt := 223) hx hb dX2_ask_216 (by decide) (fun c_64 => ?_) (fun c_64 => ?_)
          · skip
            rw [if_pos c_64] at hf
            refine lv_aload_n hx hb dX2_ask_223 rfl (lv_at hl 2 rfl) ?_
            obtain ⟨k_65, ek_65, hf⟩ := lnk_some hf
            refine va_get (D := (dC, dI)) (ci := 2) (v := .ref (a k_65)) (C := RX2) (T := TX2) (N := 11) hx hb hts iwd_X2_ask_X2 hown hK hP h0 (Wd_ob kg_4 sg_4 (by decide)) rfl 1 (by decide) (hts _ md_X2_ask_10) (fun _ h9 => h9) (fl_q rfl ek_65) dX2_ask_224 ?_
            refine lv_aload_n hx hb dX2_ask_227 rfl (lv_at hl 2 rfl) ?_
            obtain ⟨k_66, ek_66, hf⟩ := lnk_some hf
            refine va_get (D := (dC, dI)) (ci := 2) (v := .ref (a k_66)) (C := RX2) (T := TX2) (N := 11) hx hb hts iwd_X2_ask_X2 hown hK hP h0 (Wd_ob kg_4 sg_4 (by decide)) rfl 0 (by decide) (hts _ md_X2_ask_8) (fun _ h9 => h9) (fl_q rfl ek_66) dX2_ask_228 ?_
            refine lv_iload hx hb dX2_ask_231 (lv_at hl 0 rfl) ?_
            obtain ⟨g_69, hf⟩ := grd_some hf
            obtain ⟨kg_69, sg_69⟩ := okO_at g_69
            obtain ⟨z_67, r_68, hfc, hf⟩ := cal_some hf
            have hFc := de_free hD hS hA
            refine va_calli (va_runV (As := [.ref (a k_66), .int r_55]) (rest := [.int v_7, .ref (a k_58)]) ⟨hx, hb, hml, hown, hts⟩ (de_X1_load l dC dI cy a sh n H_57.size F z_54 k_65 k_66 r_55 hfc) (cwV 2 hts gX2_ask_X1_load rfl rfl rfl (by decide +kernel) ⟨Nat.le_of_ble_eq_true rfl, Nat.le_of_ble_eq_true rfl⟩) ⟨fun a U g mk q => by obtain ⟨q0, q1, qP, qK, qD, qN⟩ := q; exact ⟨q0, q1, qP, va_K.moved (u := U) (U := U.calling g mk a) (Vm.Alike.refl U.vm) qK, qD, qN.same rfl⟩, va_recv hK hP (ci := 1) (q0 := k_65) rfl (Wd_ob kg_69 sg_69 (by decide)), fun U hU hW => ⟨rfl, by rw [hU], by rw [hU]; exact hP, va_K.moved hW.alike hK, hD.weaken (fun _ _ _ _ => trivial), hN.warm hW⟩⟩ rfl rfl hl.1 rfl (lv_room (Nat.le_of_ble_eq_true rfl)) dX2_ask_233 ⟨Nat.le_of_ble_eq_true rfl, Nat.le_of_ble_eq_true rfl⟩) hS (fun q _ h => hFc q h) hFc (fun rr u t H_70 locs ht hvm hw hB hz1 hk1 hS2 => ?_)
            rw [hw]
            clear hw
            obtain ⟨hP1, -, hD1⟩ := hB
            rw [ht] at hP1
            replace hD := hD1.weaken (fun _ _ _ h => hFc _ h)
            replace hP := hP1
            replace hS := hS2
            clear hP1 hD1 hS2 hFc hfc hz1 hk1 hvm ht
            exact B236 (z_67, r_68) ls H_70 locs ⟨lv_sub hl [0, 1, 2] rfl, hP, hD, hS⟩ hf
          · skip
            rw [if_neg c_64] at hf
            refine lv_iconst (v := 0) hx hb dX2_ask_219 (by decide) ?_
            refine lv_goto (tgt := 236) hx hb dX2_ask_220 (by decide) ?_
            exact B236 (z_54, 0) ls H_57 locs ⟨lv_sub hl [0, 1, 2] rfl, hP, hD, hS⟩ hf
      · skip
        rw [if_pos c_51] at hf
        refine lv_aload_n hx hb dX2_ask_150 rfl (lv_at hl 2 rfl) ?_
        obtain ⟨k_71, ek_71, hf⟩ := lnk_some hf
        refine va_get (D := (dC, dI)) (ci := 2) (v := .ref (a k_71)) (C := RX2) (T := TX2) (N := 11) hx hb hts iwd_X2_ask_X2 hown hK hP h0 (Wd_ob kg_4 sg_4 (by decide)) rfl 0 (by decide) (hts _ md_X2_ask_8) (fun _ h9 => h9) (fl_q rfl ek_71) dX2_ask_151 ?_
        refine lv_lload_n hx hb dX2_ask_154 rfl (lv_at hl 4 rfl) ?_
        obtain ⟨g_74, hf⟩ := grd_some hf
        obtain ⟨kg_74, sg_74⟩ := okO_at g_74
        obtain ⟨z_72, r_73, hfc, hf⟩ := cal_some hf
        have hFc := de_free hD hS hA
        refine va_calli (va_runV (As := [.long x1]) (rest := []) ⟨hx, hb, hml, hown, hts⟩ (de_X7_findAccount l dC dI cy a sh n H_32.size F z_33 k_71 x1 hfc) (cwV 1 hts gX2_ask_X7_findAccount rfl rfl rfl (by decide +kernel) ⟨Nat.le_of_ble_eq_true rfl, Nat.le_of_ble_eq_true rfl⟩) ⟨fun a U g mk q => by obtain ⟨q0, q1, qP, qK, qD, qN⟩ := q; exact ⟨q0, q1, qP, va_K.moved (u := U) (U := U.calling g mk a) (Vm.Alike.refl U.vm) qK, qD, qN.same rfl⟩, va_recv hK hP (ci := 7) (q0 := k_71) rfl (Wd_ob kg_74 sg_74 (by decide)), fun U hU hW => ⟨rfl, by rw [hU], by rw [hU]; exact hP, va_K.moved hW.alike hK, hD.weaken (fun _ _ _ _ => trivial), hN.warm hW⟩⟩ rfl rfl hl.1 rfl (lv_room (Nat.le_of_ble_eq_true rfl)) dX2_ask_155 ⟨Nat.le_of_ble_eq_true rfl, Nat.le_of_ble_eq_true rfl⟩) hS (fun q _ h => hFc q h) hFc (fun rr u t H_75 locs ht hvm hw hB hz1 hk1 hS2 => ?_)
        rw [hw]
        clear hw
        obtain ⟨hP1, -, hD1⟩ := hB
        rw [ht] at hP1
        replace hD := hD1.weaken (fun _ _ _ h => hFc _ h)
        replace hP := hP1
        replace hS := hS2
        clear hP1 hD1 hS2 hFc hfc hz1 hk1 hvm ht
        refine lv_istore (lv' := [(7, .int r_73), (6, .int v_7), (0, .ref (a h0)), (1, .int x0), (2, .long x1), (4, .int x2), (5, .int x3)]) hx hb dX2_ask_158 hl (by decide) rfl (fun ls hl2 => ?_)
        replace hl := hl2
        clear hl2
        refine lv_aload_n hx hb dX2_ask_160 rfl (lv_at hl 2 rfl) ?_
        obtain ⟨k_76, ek_76, hf⟩ := lnk_some hf
        refine va_get (D := (dC, dI)) (ci := 2) (v := .ref (a k_76)) (C := RX2) (T := TX2) (N := 11) hx hb hts iwd_X2_ask_X2 hown hK hP h0 (Wd_ob kg_4 sg_4 (by decide)) rfl 9 (by decide) (hts _ md_X2_ask_6) (fun _ h9 => h9) (fl_q rfl ek_76) dX2_ask_161 ?_
        refine lv_iload hx hb dX2_ask_164 (lv_at hl 1 rfl) ?_
        refine lv_iload hx hb dX2_ask_166 (lv_at hl 0 rfl) ?_
        refine de_cut (h := 185) (fun (x : St × Int64) => [.long x.2, .int v_7, .ref (a k_76)]) (fun x ls H locs => lv_has ls 8 [(7, .int r_73), (6, .int v_7), (0, .ref (a h0))] ∧ va_P (dC, dI) vwCl (Wd cy a sh n x.1) H ∧ va_D A (Wd cy a sh n x.1) ∧ va_S A s.heap H locs) (fun x => fn_X2_ask_B185 F sh n k_76 v_7 h0 r_73 x.1 x.2) (z8, r8) ?_ (fun B185 => ?_)
        · intro x ls H locs hI hf
          obtain ⟨z_78, p_77⟩ := x
          obtain ⟨hl2, hP2, hD2, hS2⟩ := hI
          replace hl : lv_has ls 8 [(7, .int r_73), (6, .int v_7), (0, .ref (a h0))] := hl2
          replace hP := hP2
          replace hD := hD2
          replace hS := hS2
          clear hl2 hP2 hD2 hS2
          replace hf := fn_X2_ask_B185_s hf
          refine W.eq (g2 := F0 m 185 ls [.long p_77, .int v_7, .ref (a k_76)]) rfl ?_
          obtain ⟨g_79, hf⟩ := grd_some hf
          obtain ⟨kg_79, sg_79, ig_79⟩ := okA_at g_79
          refine va_last hx hb hK hP hD hS k_76 2 (Wd_al kg_79 sg_79) rfl ig_79 dX2_ask_185 (fun H_80 locs hP2 hD2 hS2 => ?_)
          rw [Wd_tl sg_79] at hP2 hD2
          obtain ⟨z_81, ez_81⟩ : ∃ w, w = sl z_78 k_76 v_7.toNatClampNeg p_77 := ⟨_, rfl⟩
          rw [← ez_81] at hP2 hD2
          replace hf := lt_at ez_81 hf
          clear ez_81
          replace hP := hP2
          replace hD := hD2
          replace hS := hS2
          clear hP2 hD2 hS2
          refine lv_goto (tgt := 237) hx hb dX2_ask_186 (by decide) ?_
          exact B237 (z_81, r_73) ls H_80 locs ⟨lv_sub hl [0, 1, 2] rfl, hP, hD, hS⟩ hf
        refine lv_if_ge (tgt := 175) hx hb dX2_ask_168 (by decide) (fun c_82 => ?_) (fun c_82 => ?_)
        · skip
          rw [if_pos c_82] at hf
          refine lv_aload_n hx hb dX2_ask_175 rfl (lv_at hl 2 rfl) ?_
          obtain ⟨k_83, ek_83, hf⟩ := lnk_some hf
          refine va_get (D := (dC, dI)) (ci := 2) (v := .ref (a k_83)) (C := RX2) (T := TX2) (N := 11) hx hb hts iwd_X2_ask_X2 hown hK hP h0 (Wd_ob kg_4 sg_4 (by decide)) rfl 0 (by decide) (hts _ md_X2_ask_8) (fun _ h9 => h9) (fl_q rfl ek_83) dX2_ask_176 ?_
          obtain ⟨g_84, hf⟩ := grd_some hf
          obtain ⟨kg_84, sg_84⟩ := okO_at g_84
          obtain ⟨k_85, ek_85, hf⟩ := lnk_some hf
          refine va_get (D := (dC, dI)) (ci := 7) (v := .ref (a k_85)) (C := RX7) (T := TX7) (N := 16) hx hb hts iwd_X2_ask_X7 hown hK hP k_83 (Wd_ob kg_84 sg_84 (by decide)) rfl 1 (by decide) (hts _ md_X2_ask_9) (fun _ h9 => h9) (fl_q rfl ek_85) dX2_ask_179 ?_
          refine lv_iload hx hb dX2_ask_182 (lv_at hl 0 rfl) ?_
          obtain ⟨g_86, hf⟩ := grd_some hf
          obtain ⟨kg_86, sg_86, ig_86⟩ := okA_at g_86
          refine va_lald hx hb hK hP k_85 2 (Wd_al kg_86 sg_86) rfl ig_86 dX2_ask_184 ?_
          exact B185 (z_72, (z_72.2.1 k_85 r_73.toNatClampNeg)) ls H_75 locs ⟨lv_sub hl [0, 1, 2] rfl, hP, hD, hS⟩ hf
        · skip
          rw [if_neg c_82] at hf
          refine lv_lconst (v := 0) hx hb dX2_ask_171 (by decide) ?_
          refine lv_goto (tgt := 185) hx hb dX2_ask_172 (by decide) ?_
          exact B185 (z_72, 0) ls H_75 locs ⟨lv_sub hl [0, 1, 2] rfl, hP, hD, hS⟩ hf
    · skip
      rw [if_neg c_6] at hf
      refine lv_iconst (v := (-1)) hx hb dX2_ask_77 (by decide) ?_
      obtain ⟨h8, h9⟩ := ret_some hf
      rw [h8, h9]
      exact W.iret (v := (-1)) hx hb hr (fun t ht hW => ⟨⟨(-1), (), rfl, rfl, by rw [ht]; exact hP, va_K.moved hW.alike hK, hD⟩, hS.F ht⟩) hS.2.2 dX2_ask_78
  · skip
    rw [if_neg c_5] at hf
    refine lv_aload_n hx hb dX2_ask_12 rfl (lv_at hl 1 rfl) ?_
    obtain ⟨k_87, ek_87, hf⟩ := lnk_some hf
    refine va_get (D := (dC, dI)) (ci := 2) (v := .ref (a k_87)) (C := RX2) (T := TX2) (N := 11) hx hb hts iwd_X2_ask_X2 hown hK hP h0 (Wd_ob kg_4 sg_4 (by decide)) rfl 2 (by decide) (hts _ md_X2_ask_2) (fun _ h9 => h9) (fl_q rfl ek_87) dX2_ask_13 ?_
    refine lv_iload hx hb dX2_ask_16 (lv_at hl 0 rfl) ?_
    obtain ⟨g_88, hf⟩ := grd_some hf
    obtain ⟨kg_88, sg_88, ig_88⟩ := okA_at g_88
    refine va_iald hx hb hK hP k_87 1 (Wd_ai kg_88 sg_88) rfl ig_88 dX2_ask_18 ?_
    refine lv_iload_n hx hb dX2_ask_19 rfl (lv_at hl 2 rfl) ?_
    refine de_cut (h := 62) (fun (x : St) => []) (fun x ls H locs => lv_has ls 8 [(6, .int p_1), (0, .ref (a h0)), (1, .int x0), (2, .long x1), (4, .int x2), (5, .int x3)] ∧ va_P (dC, dI) vwCl (Wd cy a sh n x) H ∧ va_D A (Wd cy a sh n x) ∧ va_S A s.heap H locs) (fun x => fn_X2_ask_B62 F sh n p_1 (fun z9 q6 => fn_X2_ask_L3 F sh n h0 x0 x1 x2 x3 f_3 z9 q6) x) (z8, r8) ?_ (fun B62 => ?_)
    · intro x ls H locs hI hf
      obtain ⟨z_89, ez⟩ : ∃ w, w = x := ⟨_, rfl⟩
      subst ez
      obtain ⟨hl2, hP2, hD2, hS2⟩ := hI
      replace hl : lv_has ls 8 [(6, .int p_1), (0, .ref (a h0)), (1, .int x0), (2, .long x1), (4, .int x2), (5, .int x3)] := hl2
      replace hP := hP2
      replace hD := hD2
      replace hS := hS2
      clear hl2 hP2 hD2 hS2
      replace hf := fn_X2_ask_B62_s hf
      refine W.eq (g2 := F0 m 62 ls []) rfl ?_
      refine lv_iinc (v := (p_1 + 1)) (lv' := [(6, .int (p_1 + 1)), (0, .ref (a h0)), (1, .int x0), (2, .long x1), (4, .int x2), (5, .int x3)]) hx hb dX2_ask_62 hl (k := 0) rfl rfl (by decide) rfl (fun ls hl2 => ?_)
      replace hl := hl2
      clear hl2
      refine lv_goto (tgt := 3) hx hb dX2_ask_65 (by decide) ?_
      exact ih3 (z_89, (p_1 + 1)) ls H locs ⟨lv_sub hl [0, 1, 2, 3, 4, 5] rfl, hP, hD, hS⟩ hf
    refine lv_icmp_ne (tgt := 62) hx hb dX2_ask_20 (by decide) (fun c_90 => ?_) (fun c_90 => ?_)
    · skip
      rw [if_neg c_90] at hf
      exact B62 (z_2) ls H locs ⟨lv_sub hl [0, 1, 2, 3, 4, 5] rfl, hP, hD, hS⟩ hf
    · skip
      rw [if_pos c_90] at hf
      refine lv_aload_n hx hb dX2_ask_23 rfl (lv_at hl 1 rfl) ?_
      obtain ⟨k_91, ek_91, hf⟩ := lnk_some hf
      refine va_get (D := (dC, dI)) (ci := 2) (v := .ref (a k_91)) (C := RX2) (T := TX2) (N := 11) hx hb hts iwd_X2_ask_X2 hown hK hP h0 (Wd_ob kg_4 sg_4 (by decide)) rfl 3 (by decide) (hts _ md_X2_ask_3) (fun _ h9 => h9) (fl_q rfl ek_91) dX2_ask_24 ?_
      refine lv_iload hx hb dX2_ask_27 (lv_at hl 0 rfl) ?_
      obtain ⟨g_92, hf⟩ := grd_some hf
      obtain ⟨kg_92, sg_92, ig_92⟩ := okA_at g_92
      refine va_lald hx hb hK hP k_91 2 (Wd_al kg_92 sg_92) rfl ig_92 dX2_ask_29 ?_
      refine lv_lload_n hx hb dX2_ask_30 rfl (lv_at hl 3 rfl) ?_
      refine W.lcmp hx hb dX2_ask_31 ?_
      refine lv_if_ne (tgt := 62) hx hb dX2_ask_32 (by decide) (fun c_93 => ?_) (fun c_93 => ?_)
      · skip
        rw [lg_cmp_eq] at c_93
        rw [if_neg c_93] at hf
        exact B62 (z_2) ls H locs ⟨lv_sub hl [0, 1, 2, 3, 4, 5] rfl, hP, hD, hS⟩ hf
      · skip
        rw [lg_cmp_eq] at c_93
        rw [if_pos c_93] at hf
        refine lv_aload_n hx hb dX2_ask_35 rfl (lv_at hl 1 rfl) ?_
        obtain ⟨k_94, ek_94, hf⟩ := lnk_some hf
        refine va_get (D := (dC, dI)) (ci := 2) (v := .ref (a k_94)) (C := RX2) (T := TX2) (N := 11) hx hb hts iwd_X2_ask_X2 hown hK hP h0 (Wd_ob kg_4 sg_4 (by decide)) rfl 4 (by decide) (hts _ md_X2_ask_4) (fun _ h9 => h9) (fl_q rfl ek_94) dX2_ask_36 ?_
        refine lv_iload hx hb dX2_ask_39 (lv_at hl 0 rfl) ?_
        obtain ⟨g_95, hf⟩ := grd_some hf
        obtain ⟨kg_95, sg_95, ig_95⟩ := okA_at g_95
        refine va_iald hx hb hK hP k_94 1 (Wd_ai kg_95 sg_95) rfl ig_95 dX2_ask_41 ?_
        refine lv_iload hx hb dX2_ask_42 (lv_at hl 4 rfl) ?_
        refine lv_icmp_ne (tgt := 62) hx hb dX2_ask_44 (by decide) (fun c_96 => ?_) (fun c_96 => ?_)
        · skip
          rw [if_neg c_96] at hf
          exact B62 (z_2) ls H locs ⟨lv_sub hl [0, 1, 2, 3, 4, 5] rfl, hP, hD, hS⟩ hf
        · skip
          rw [if_pos c_96] at hf
          refine lv_aload_n hx hb dX2_ask_47 rfl (lv_at hl 1 rfl) ?_
          obtain ⟨k_97, ek_97, hf⟩ := lnk_some hf
          refine va_get (D := (dC, dI)) (ci := 2) (v := .ref (a k_97)) (C := RX2) (T := TX2) (N := 11) hx hb hts iwd_X2_ask_X2 hown hK hP h0 (Wd_ob kg_4 sg_4 (by decide)) rfl 5 (by decide) (hts _ md_X2_ask_5) (fun _ h9 => h9) (fl_q rfl ek_97) dX2_ask_48 ?_
          refine lv_iload hx hb dX2_ask_51 (lv_at hl 0 rfl) ?_
          obtain ⟨g_98, hf⟩ := grd_some hf
          obtain ⟨kg_98, sg_98, ig_98⟩ := okA_at g_98
          refine va_iald hx hb hK hP k_97 1 (Wd_ai kg_98 sg_98) rfl ig_98 dX2_ask_53 ?_
          refine lv_iload hx hb dX2_ask_54 (lv_at hl 5 rfl) ?_
          refine lv_icmp_ne (tgt := 62) hx hb dX2_ask_56 (by decide) (fun c_99 => ?_) (fun c_99 => ?_)
          · skip
            rw [if_neg c_99] at hf
            exact B62 (z_2) ls H locs ⟨lv_sub hl [0, 1, 2, 3, 4, 5] rfl, hP, hD, hS⟩ hf
          · skip
            rw [if_pos c_99] at hf
            refine lv_iload hx hb dX2_ask_59 (lv_at hl 0 rfl) ?_
            obtain ⟨h8, h9⟩ := ret_some hf
            rw [h8, h9]
            exact W.iret (v := p_1) hx hb hr (fun t ht hW => ⟨⟨p_1, (), rfl, rfl, by rw [ht]; exact hP, va_K.moved hW.alike hK, hD⟩, hS.F ht⟩) hS.2.2 dX2_ask_61

theorem md_X3_enter_1 : (.fieldLink RX3 44 "ResourceLedger$Looker" "p" "LResourceLedger$Program;" : Cond) ∈ wsX3_enter := List.mem_of_getElem? (i := 1) rfl
theorem iwd_X3_enter_X3 : ∀ w ∈ wsX30, w ∈ wsX3_enter := fun _ h => List.mem_cons_of_mem _ (List.mem_append_left _ (List.mem_append_right _ h))
theorem md_X3_enter_2 : (.fieldLink RX3 48 "ResourceLedger$Looker" "fault" "I" : Cond) ∈ wsX3_enter := List.mem_of_getElem? (i := 2) rfl
theorem md_X3_enter_4 : (.fieldLink RX3 95 "ResourceLedger$Looker" "depth" "I" : Cond) ∈ wsX3_enter := List.mem_of_getElem? (i := 4) rfl
theorem md_X3_enter_7 : (.constantLong RX3 285 (-281474976710656) : Cond) ∈ wsX3_enter := List.mem_of_getElem? (i := 7) rfl
theorem md_X3_enter_5 : (.fieldLink RX3 11 "ResourceLedger$Looker" "stackType" "[J" : Cond) ∈ wsX3_enter := List.mem_of_getElem? (i := 5) rfl
theorem md_X3_enter_6 : (.fieldLink RX3 15 "ResourceLedger$Looker" "stackOrigins" "[J" : Cond) ∈ wsX3_enter := List.mem_of_getElem? (i := 6) rfl
theorem md_X3_enter_3 : (.fieldLink RX3 77 "ResourceLedger$Looker" "function" "I" : Cond) ∈ wsX3_enter := List.mem_of_getElem? (i := 3) rfl
set_option maxHeartbeats 4000000 in
set_option maxRecDepth 100000 in
theorem de_X3_enter (l : Launch) (dC : Nat → ClassId) (dI : Nat → Nat → Nat) (cy : Nat → ClassId) (a : Nat → Nat) (sh : Nat → Nat × Nat) (n sz : Nat) (F : Nat) (z : St) (h0 : Nat) (x0 : Int32) {z8 : St} {r8 : Unit} (hf : fn_X3_enter F sh n z h0 x0 = some (z8, r8)) : Met l yX3_enter wsX3_enter ({ frames := 3, cells := 0, slots := 0, locals := 67 }) (va_Pc [.ref (a h0), .int x0] (fun U => U.heap.size = sz ∧ va_P (dC, dI) vwCl (Wd cy a sh n z) U.heap ∧ va_K (dC, dI) vwCl (TYS cy) U ∧ va_D (fun _ => True) (Wd cy a sh n z) ∧ NK U)) (va_Qv (fun u : Unit => True) (fun u t => va_P (dC, dI) vwCl (Wd cy a sh n z8) t.heap ∧ va_K (dC, dI) vwCl (TYS cy) t ∧ va_D (va_A (Wd cy a sh n z) sz) (Wd cy a sh n z8)) (va_A (Wd cy a sh n z) sz)) 0 0 (va_A (Wd cy a sh n z) sz) := by
  refine Met.ofW (cc := cX3_enter) (maxL := 12) (ret := none) (by decide) rfl ?_
  intro p e s m args below meth c s₁ B hml hv
  obtain ⟨rfl, hsz, hP, hK, hD0, hN⟩ := hv
  have hx := B.exec
  have hb := B.bytes
  have hr := B.returns
  have hts := atoms_spec (ws := wsX3_enter) B.pre
  have hown : s.vm.findClass RX3 = some m.cls := findClass_of_methodNamed B.named
  have hlocks := B.notSynchronized
  subst hsz
  have hD := hD0.self (sz := s.heap.size)
  clear hD0
  generalize hAe : va_A (Wd cy a sh n z) s.heap.size = A at hD ⊢
  have hA : ∀ q : Nat, s.heap.size ≤ q → A q := fun q h => by rw [← hAe]; exact Or.inr h
  clear hAe
  have hS : va_S A s.heap s.heap [] := va_S.rf
  have hl := lv_entry ([.ref (a h0), .int x0]) (n := 12) (Nat.le_of_ble_eq_true rfl)
  rw [lg_entry_eq]
  generalize (lg_sl ([.ref (a h0), .int x0]) ++ List.replicate (12 - (lg_sl ([.ref (a h0), .int x0])).length) Slot.unset).toArray = ls at hl ⊢
  replace hl : lv_has ls 12 [(0, .ref (a h0)), (1, .int x0)] := hl
  unfold fn_X3_enter at hf
  refine de_start hS hP (fun H locs hS hP => ?_)
  refine lv_aload_n hx hb dX3_enter_0 rfl (lv_at hl 0 rfl) ?_
  obtain ⟨g_1, hf⟩ := grd_some hf
  obtain ⟨kg_1, sg_1⟩ := okO_at g_1
  obtain ⟨k_2, ek_2, hf⟩ := lnk_some hf
  refine va_get (D := (dC, dI)) (ci := 3) (v := .ref (a k_2)) (C := RX3) (T := TX3) (N := 22) hx hb hts iwd_X3_enter_X3 hown hK hP h0 (Wd_ob kg_1 sg_1 (by decide)) rfl 2 (by decide) (hts _ md_X3_enter_1) (fun _ h9 => h9) (fl_q rfl ek_2) dX3_enter_1 ?_
  refine lv_iload_n hx hb dX3_enter_4 rfl (lv_at hl 1 rfl) ?_
  obtain ⟨g_5, hf⟩ := grd_some hf
  obtain ⟨kg_5, sg_5⟩ := okO_at g_5
  obtain ⟨z_3, r_4, hfc, hf⟩ := cal_some hf
  have hFc := de_free hD hS hA
  refine va_calli (va_runV (As := [.int x0]) (rest := []) ⟨hx, hb, hml, hown, hts⟩ (de_X5_takes l dC dI cy a sh n H.size F z k_2 x0 hfc) (cwV 1 hts gX3_enter_X5_takes rfl rfl rfl (by decide +kernel) ⟨Nat.le_of_ble_eq_true rfl, Nat.le_of_ble_eq_true rfl⟩) ⟨fun a U g mk q => by obtain ⟨q0, q1, qP, qK, qD, qN⟩ := q; exact ⟨q0, q1, qP, va_K.moved (u := U) (U := U.calling g mk a) (Vm.Alike.refl U.vm) qK, qD, qN.same rfl⟩, va_recv hK hP (ci := 5) (q0 := k_2) rfl (Wd_ob kg_5 sg_5 (by decide)), fun U hU hW => ⟨rfl, by rw [hU], by rw [hU]; exact hP, va_K.moved hW.alike hK, hD.weaken (fun _ _ _ _ => trivial), hN.warm hW⟩⟩ rfl rfl hl.1 rfl (lv_room (Nat.le_of_ble_eq_true rfl)) dX3_enter_5 ⟨Nat.le_of_ble_eq_true rfl, Nat.le_of_ble_eq_true rfl⟩) hS (fun q _ h => hFc q h) hFc (fun rr u t H_6 locs ht hvm hw hB hz1 hk1 hS2 => ?_)
  rw [hw]
  clear hw
  obtain ⟨hP1, -, hD1⟩ := hB
  rw [ht] at hP1
  replace hD := hD1.weaken (fun _ _ _ h => hFc _ h)
  replace hP := hP1
  replace hS := hS2
  clear hP1 hD1 hS2 hFc hfc hz1 hk1 hvm ht
  refine lv_istore_n (lv' := [(2, .int r_4), (0, .ref (a h0)), (1, .int x0)]) hx hb dX3_enter_8 rfl hl (by decide) rfl (fun ls hl2 => ?_)
  replace hl := hl2
  clear hl2
  refine lv_iload_n hx hb dX3_enter_9 rfl (lv_at hl 0 rfl) ?_
  refine lv_iconst (v := 1) hx hb dX3_enter_10 (by decide) ?_
  refine lv_isub hx hb dX3_enter_11 ?_
  refine lv_topi (fun v_7 ev_7 => ?_)
  replace hf := lt_at ev_7 hf
  clear ev_7
  refine lv_istore_n (lv' := [(3, .int v_7), (2, .int r_4), (0, .ref (a h0)), (1, .int x0)]) hx hb dX3_enter_12 rfl hl (by decide) rfl (fun ls hl2 => ?_)
  replace hl := hl2
  clear hl2
  have hl0 : lv_has ls 12 [(3, .int v_7), (2, .int r_4), (0, .ref (a h0)), (1, .int x0)] := lv_sub hl [0, 1, 2, 3] rfl
  refine de_loop (h := 13) (fun (x : St × Int32) ls H locs => lv_has ls 12 [(3, .int x.2), (2, .int r_4), (0, .ref (a h0)), (1, .int x0)] ∧ va_P (dC, dI) vwCl (Wd cy a sh n x.1) H ∧ va_D A (Wd cy a sh n x.1) ∧ va_S A s.heap H locs) (fun f x => fn_X3_enter_L13 F sh n h0 x0 r_4 f x.1 x.2) (z8, r8) ?_ (fun _ => rfl) F (z_3, v_7) ls H_6 locs ⟨hl0, hP, hD, hS⟩ hf
  intro f_10 x ls H locs ih13 hI hf
  obtain ⟨z_9, p_8⟩ := x
  obtain ⟨hl2, hP2, hD2, hS2⟩ := hI
  replace hl : lv_has ls 12 [(3, .int p_8), (2, .int r_4), (0, .ref (a h0)), (1, .int x0)] := hl2
  replace hP := hP2
  replace hD := hD2
  replace hS := hS2
  clear hl2 hP2 hD2 hS2 hl0
  replace hf := fn_X3_enter_L13_s hf
  refine lv_iload_n hx hb dX3_enter_13 rfl (lv_at hl 0 rfl) ?_
  refine lv_if_lt (tgt := 36) hx hb dX3_enter_14 (by decide) (fun c_11 => ?_) (fun c_11 => ?_)
  · skip
    rw [if_pos c_11] at hf
    refine lv_aload_n hx hb dX3_enter_36 rfl (lv_at hl 2 rfl) ?_
    refine va_get (D := (dC, dI)) (ci := 3) (v := .int (z_9.1 h0 1)) (C := RX3) (T := TX3) (N := 22) hx hb hts iwd_X3_enter_X3 hown hK hP h0 (Wd_ob kg_1 sg_1 (by decide)) rfl 1 (by decide) (hts _ md_X3_enter_2) (fun _ h9 => h9) (fl_at (t := 0) rfl) dX3_enter_37 ?_
    refine lv_if_eq (tgt := 44) hx hb dX3_enter_40 (by decide) (fun c_12 => ?_) (fun c_12 => ?_)
    · skip
      rw [if_pos c_12] at hf
      refine lv_aload_n hx hb dX3_enter_44 rfl (lv_at hl 2 rfl) ?_
      obtain ⟨k_13, ek_13, hf⟩ := lnk_some hf
      refine va_get (D := (dC, dI)) (ci := 3) (v := .ref (a k_13)) (C := RX3) (T := TX3) (N := 22) hx hb hts iwd_X3_enter_X3 hown hK hP h0 (Wd_ob kg_1 sg_1 (by decide)) rfl 2 (by decide) (hts _ md_X3_enter_1) (fun _ h9 => h9) (fl_q rfl ek_13) dX3_enter_45 ?_
      refine lv_iload_n hx hb dX3_enter_48 rfl (lv_at hl 3 rfl) ?_
      obtain ⟨g_16, hf⟩ := grd_some hf
      obtain ⟨kg_16, sg_16⟩ := okO_at g_16
      obtain ⟨z_14, r_15, hfc, hf⟩ := cal_some hf
      have hFc := de_free hD hS hA
      refine va_calli (va_runV (As := [.int x0]) (rest := []) ⟨hx, hb, hml, hown, hts⟩ (de_X5_flags l dC dI cy a sh n H.size F z_9 k_13 x0 hfc) (cwV 1 hts gX3_enter_X5_flags rfl rfl rfl (by decide +kernel) ⟨Nat.le_of_ble_eq_true rfl, Nat.le_of_ble_eq_true rfl⟩) ⟨fun a U g mk q => by obtain ⟨q0, q1, qP, qK, qD, qN⟩ := q; exact ⟨q0, q1, qP, va_K.moved (u := U) (U := U.calling g mk a) (Vm.Alike.refl U.vm) qK, qD, qN.same rfl⟩, va_recv hK hP (ci := 5) (q0 := k_13) rfl (Wd_ob kg_16 sg_16 (by decide)), fun U hU hW => ⟨rfl, by rw [hU], by rw [hU]; exact hP, va_K.moved hW.alike hK, hD.weaken (fun _ _ _ _ => trivial), hN.warm hW⟩⟩ rfl rfl hl.1 rfl (lv_room (Nat.le_of_ble_eq_true rfl)) dX3_enter_49 ⟨Nat.le_of_ble_eq_true rfl, Nat.le_of_ble_eq_true rfl⟩) hS (fun q _ h => hFc q h) hFc (fun rr u t H_17 locs ht hvm hw hB hz1 hk1 hS2 => ?_)
      rw [hw]
      clear hw
      obtain ⟨hP1, -, hD1⟩ := hB
      rw [ht] at hP1
      replace hD := hD1.weaken (fun _ _ _ h => hFc _ h)
      replace hP := hP1
      replace hS := hS2
      clear hP1 hD1 hS2 hFc hfc hz1 hk1 hvm ht
      refine lv_iconst (v := 4) hx hb dX3_enter_52 (by decide) ?_
      refine lv_iand hx hb dX3_enter_53 ?_
      refine de_cut (h := 62) (fun (x : St × Int32) => [.int x.2]) (fun x ls H locs => lv_has ls 12 [(2, .int r_4), (0, .ref (a h0)), (1, .int x0)] ∧ va_P (dC, dI) vwCl (Wd cy a sh n x.1) H ∧ va_D A (Wd cy a sh n x.1) ∧ va_S A s.heap H locs) (fun x => fn_X3_enter_B62 F sh n h0 r_4 x0 x.1 x.2) (z8, r8) ?_ (fun B62 => ?_)
      · intro x ls H locs hI hf
        obtain ⟨z_19, p_18⟩ := x
        obtain ⟨hl2, hP2, hD2, hS2⟩ := hI
        replace hl : lv_has ls 12 [(2, .int r_4), (0, .ref (a h0)), (1, .int x0)] := hl2
        replace hP := hP2
        replace hD := hD2
        replace hS := hS2
        clear hl2 hP2 hD2 hS2
        replace hf := fn_X3_enter_B62_s hf
        refine W.eq (g2 := F0 m 62 ls [.int p_18]) rfl ?_
        refine lv_istore_n (lv' := [(3, .int p_18), (2, .int r_4), (0, .ref (a h0)), (1, .int x0)]) hx hb dX3_enter_62 rfl hl (by decide) rfl (fun ls hl2 => ?_)
        replace hl := hl2
        clear hl2
        refine lv_iload_n hx hb dX3_enter_63 rfl (lv_at hl 0 rfl) ?_
        refine de_cut (h := 89) (fun (x : St) => []) (fun x ls H locs => lv_has ls 12 [(3, .int p_18), (2, .int r_4), (0, .ref (a h0)), (1, .int x0)] ∧ va_P (dC, dI) vwCl (Wd cy a sh n x) H ∧ va_D A (Wd cy a sh n x) ∧ va_S A s.heap H locs) (fun x => fn_X3_enter_B89 F sh n h0 r_4 p_18 x0 x) (z8, r8) ?_ (fun B89 => ?_)
        · intro x ls H locs hI hf
          obtain ⟨z_20, ez⟩ : ∃ w, w = x := ⟨_, rfl⟩
          subst ez
          obtain ⟨hl2, hP2, hD2, hS2⟩ := hI
          replace hl : lv_has ls 12 [(3, .int p_18), (2, .int r_4), (0, .ref (a h0)), (1, .int x0)] := hl2
          replace hP := hP2
          replace hD := hD2
          replace hS := hS2
          clear hl2 hP2 hD2 hS2
          replace hf := fn_X3_enter_B89_s hf
          refine W.eq (g2 := F0 m 89 ls []) rfl ?_
          refine lv_lconst (v := 0) hx hb dX3_enter_89 (by decide) ?_
          refine lv_lstore (lv' := [(4, .long 0), (3, .int p_18), (2, .int r_4), (0, .ref (a h0)), (1, .int x0)]) hx hb dX3_enter_90 hl (by decide) rfl (fun ls hl2 => ?_)
          replace hl := hl2
          clear hl2
          refine lv_lconst (v := 0) hx hb dX3_enter_92 (by decide) ?_
          refine lv_lstore (lv' := [(6, .long 0), (4, .long 0), (3, .int p_18), (2, .int r_4), (0, .ref (a h0)), (1, .int x0)]) hx hb dX3_enter_93 hl (by decide) rfl (fun ls hl2 => ?_)
          replace hl := hl2
          clear hl2
          refine lv_aload_n hx hb dX3_enter_95 rfl (lv_at hl 4 rfl) ?_
          refine va_get (D := (dC, dI)) (ci := 3) (v := .int (z_20.1 h0 8)) (C := RX3) (T := TX3) (N := 22) hx hb hts iwd_X3_enter_X3 hown hK hP h0 (Wd_ob kg_1 sg_1 (by decide)) rfl 8 (by decide) (hts _ md_X3_enter_4) (fun _ h9 => h9) (fl_at (t := 0) rfl) dX3_enter_96 ?_
          refine lv_topi (fun v_21 ev_21 => ?_)
          replace hf := lt_at ev_21 hf
          clear ev_21
          refine lv_istore (lv' := [(8, .int v_21), (6, .long 0), (4, .long 0), (3, .int p_18), (2, .int r_4), (0, .ref (a h0)), (1, .int x0)]) hx hb dX3_enter_99 hl (by decide) rfl (fun ls hl2 => ?_)
          replace hl := hl2
          clear hl2
          have hl0 : lv_has ls 12 [(8, .int v_21), (6, .long 0), (4, .long 0), (3, .int p_18), (2, .int r_4), (0, .ref (a h0)), (1, .int x0)] := lv_sub hl [0, 1, 2, 3, 4, 5, 6] rfl
          refine de_loop (h := 101) (fun (x : St × Int64 × Int64 × Int32) ls H locs => lv_has ls 12 [(8, .int x.2.2.2), (6, .long x.2.2.1), (4, .long x.2.1), (3, .int p_18), (2, .int r_4), (0, .ref (a h0)), (1, .int x0)] ∧ va_P (dC, dI) vwCl (Wd cy a sh n x.1) H ∧ va_D A (Wd cy a sh n x.1) ∧ va_S A s.heap H locs) (fun f x => fn_X3_enter_L101 F sh n h0 r_4 p_18 x0 f x.1 x.2.1 x.2.2.1 x.2.2.2) (z8, r8) ?_ (fun _ => rfl) F (z_20, 0, 0, v_21) ls H locs ⟨hl0, hP, hD, hS⟩ hf
          intro f_26 x ls H locs ih101 hI hf
          obtain ⟨z_25, p_22, p_23, p_24⟩ := x
          obtain ⟨hl2, hP2, hD2, hS2⟩ := hI
          replace hl : lv_has ls 12 [(8, .int p_24), (6, .long p_23), (4, .long p_22), (3, .int p_18), (2, .int r_4), (0, .ref (a h0)), (1, .int x0)] := hl2
          replace hP := hP2
          replace hD := hD2
          replace hS := hS2
          clear hl2 hP2 hD2 hS2 hl0
          replace hf := fn_X3_enter_L101_s hf
          refine lv_iload hx hb dX3_enter_101 (lv_at hl 0 rfl) ?_
          refine lv_aload_n hx hb dX3_enter_103 rfl (lv_at hl 5 rfl) ?_
          refine va_get (D := (dC, dI)) (ci := 3) (v := .int (z_25.1 h0 8)) (C := RX3) (T := TX3) (N := 22) hx hb hts iwd_X3_enter_X3 hown hK hP h0 (Wd_ob kg_1 sg_1 (by decide)) rfl 8 (by decide) (hts _ md_X3_enter_4) (fun _ h9 => h9) (fl_at (t := 0) rfl) dX3_enter_104 ?_
          refine lv_iload_n hx hb dX3_enter_107 rfl (lv_at hl 4 rfl) ?_
          refine lv_iadd hx hb dX3_enter_108 ?_
          refine lv_icmp_ge (tgt := 185) hx hb dX3_enter_109 (by decide) (fun c_27 => ?_) (fun c_27 => ?_)
          · skip
            rw [if_pos c_27] at hf
            refine lv_iload_n hx hb dX3_enter_185 rfl (lv_at hl 3 rfl) ?_
            refine de_cut (h := 217) (fun (x : St) => []) (fun x ls H locs => lv_has ls 12 [(6, .long p_23), (4, .long p_22), (0, .ref (a h0)), (1, .int x0)] ∧ va_P (dC, dI) vwCl (Wd cy a sh n x) H ∧ va_D A (Wd cy a sh n x) ∧ va_S A s.heap H locs) (fun x => fn_X3_enter_B217 F sh n h0 x0 p_22 p_23 x) (z8, r8) ?_ (fun B217 => ?_)
            · intro x ls H locs hI hf
              obtain ⟨z_28, ez⟩ : ∃ w, w = x := ⟨_, rfl⟩
              subst ez
              obtain ⟨hl2, hP2, hD2, hS2⟩ := hI
              replace hl : lv_has ls 12 [(6, .long p_23), (4, .long p_22), (0, .ref (a h0)), (1, .int x0)] := hl2
              replace hP := hP2
              replace hD := hD2
              replace hS := hS2
              clear hl2 hP2 hD2 hS2
              replace hf := fn_X3_enter_B217_s hf
              refine W.eq (g2 := F0 m 217 ls []) rfl ?_
              refine lv_iconst (v := 0) hx hb dX3_enter_217 (by decide) ?_
              refine lv_istore (lv' := [(8, .int 0), (6, .long p_23), (4, .long p_22), (0, .ref (a h0)), (1, .int x0)]) hx hb dX3_enter_218 hl (by decide) rfl (fun ls hl2 => ?_)
              replace hl := hl2
              clear hl2
              have hl0 : lv_has ls 12 [(8, .int 0), (6, .long p_23), (4, .long p_22), (0, .ref (a h0)), (1, .int x0)] := lv_sub hl [0, 1, 2, 3, 4] rfl
              refine de_loop (h := 220) (fun (x : St × Int32) ls H locs => lv_has ls 12 [(8, .int x.2), (6, .long p_23), (4, .long p_22), (0, .ref (a h0)), (1, .int x0)] ∧ va_P (dC, dI) vwCl (Wd cy a sh n x.1) H ∧ va_D A (Wd cy a sh n x.1) ∧ va_S A s.heap H locs) (fun f x => fn_X3_enter_L220 F sh n h0 x0 p_22 p_23 f x.1 x.2) (z8, r8) ?_ (fun _ => rfl) F (z_28, 0) ls H locs ⟨hl0, hP, hD, hS⟩ hf
              intro f_31 x ls H locs ih220 hI hf
              obtain ⟨z_30, p_29⟩ := x
              obtain ⟨hl2, hP2, hD2, hS2⟩ := hI
              replace hl : lv_has ls 12 [(8, .int p_29), (6, .long p_23), (4, .long p_22), (0, .ref (a h0)), (1, .int x0)] := hl2
              replace hP := hP2
              replace hD := hD2
              replace hS := hS2
              clear hl2 hP2 hD2 hS2 hl0
              replace hf := fn_X3_enter_L220_s hf
              refine lv_iload hx hb dX3_enter_220 (lv_at hl 0 rfl) ?_
              refine lv_aload_n hx hb dX3_enter_222 rfl (lv_at hl 3 rfl) ?_
              obtain ⟨k_32, ek_32, hf⟩ := lnk_some hf
              refine va_get (D := (dC, dI)) (ci := 3) (v := .ref (a k_32)) (C := RX3) (T := TX3) (N := 22) hx hb hts iwd_X3_enter_X3 hown hK hP h0 (Wd_ob kg_1 sg_1 (by decide)) rfl 2 (by decide) (hts _ md_X3_enter_1) (fun _ h9 => h9) (fl_q rfl ek_32) dX3_enter_223 ?_
              refine lv_iload_n hx hb dX3_enter_226 rfl (lv_at hl 4 rfl) ?_
              obtain ⟨g_35, hf⟩ := grd_some hf
              obtain ⟨kg_35, sg_35⟩ := okO_at g_35
              obtain ⟨z_33, r_34, hfc, hf⟩ := cal_some hf
              have hFc := de_free hD hS hA
              refine va_calli (va_runV (As := [.int x0]) (rest := [.int p_29]) ⟨hx, hb, hml, hown, hts⟩ (de_X5_gives l dC dI cy a sh n H.size F z_30 k_32 x0 hfc) (cwV 1 hts gX3_enter_X5_gives rfl rfl rfl (by decide +kernel) ⟨Nat.le_of_ble_eq_true rfl, Nat.le_of_ble_eq_true rfl⟩) ⟨fun a U g mk q => by obtain ⟨q0, q1, qP, qK, qD, qN⟩ := q; exact ⟨q0, q1, qP, va_K.moved (u := U) (U := U.calling g mk a) (Vm.Alike.refl U.vm) qK, qD, qN.same rfl⟩, va_recv hK hP (ci := 5) (q0 := k_32) rfl (Wd_ob kg_35 sg_35 (by decide)), fun U hU hW => ⟨rfl, by rw [hU], by rw [hU]; exact hP, va_K.moved hW.alike hK, hD.weaken (fun _ _ _ _ => trivial), hN.warm hW⟩⟩ rfl rfl hl.1 rfl (lv_room (Nat.le_of_ble_eq_true rfl)) dX3_enter_227 ⟨Nat.le_of_ble_eq_true rfl, Nat.le_of_ble_eq_true rfl⟩) hS (fun q _ h => hFc q h) hFc (fun rr u t H_36 locs ht hvm hw hB hz1 hk1 hS2 => ?_)
              rw [hw]
              clear hw
              obtain ⟨hP1, -, hD1⟩ := hB
              rw [ht] at hP1
              replace hD := hD1.weaken (fun _ _ _ h => hFc _ h)
              replace hP := hP1
              replace hS := hS2
              clear hP1 hD1 hS2 hFc hfc hz1 hk1 hvm ht
              refine lv_icmp_ge (tgt := 290) hx hb dX3_enter_230 (by decide) (fun c_37 => ?_) (fun c_37 => ?_)
              · skip
                rw [if_pos c_37] at hf
                obtain ⟨h8, h9⟩ := ret_some hf
                rw [h8]
                exact W.vret hx hb hr (fun t ht hW => ⟨⟨(), rfl, trivial, by rw [ht]; exact hP, va_K.moved hW.alike hK, hD⟩, hS.F ht⟩) hS.2.2 dX3_enter_290
              · skip
                rw [if_neg c_37] at hf
                refine lv_aload_n hx hb dX3_enter_233 rfl (lv_at hl 3 rfl) ?_
                obtain ⟨k_38, ek_38, hf⟩ := lnk_some hf
                refine va_get (D := (dC, dI)) (ci := 3) (v := .ref (a k_38)) (C := RX3) (T := TX3) (N := 22) hx hb hts iwd_X3_enter_X3 hown hK hP h0 (Wd_ob kg_1 sg_1 (by decide)) rfl 2 (by decide) (hts _ md_X3_enter_1) (fun _ h9 => h9) (fl_q rfl ek_38) dX3_enter_234 ?_
                refine lv_iload_n hx hb dX3_enter_237 rfl (lv_at hl 4 rfl) ?_
                refine lv_iload hx hb dX3_enter_238 (lv_at hl 0 rfl) ?_
                obtain ⟨g_41, hf⟩ := grd_some hf
                obtain ⟨kg_41, sg_41⟩ := okO_at g_41
                obtain ⟨z_39, r_40, hfc, hf⟩ := cal_some hf
                have hFc := de_free hD hS hA
                refine va_calll (va_runV (As := [.int x0, .int p_29]) (rest := []) ⟨hx, hb, hml, hown, hts⟩ (de_X5_givenType l dC dI cy a sh n H_36.size F z_33 k_38 x0 p_29 hfc) (cwV 2 hts gX3_enter_X5_givenType rfl rfl rfl (by decide +kernel) ⟨Nat.le_of_ble_eq_true rfl, Nat.le_of_ble_eq_true rfl⟩) ⟨fun a U g mk q => by obtain ⟨q0, q1, qP, qK, qD, qN⟩ := q; exact ⟨q0, q1, qP, va_K.moved (u := U) (U := U.calling g mk a) (Vm.Alike.refl U.vm) qK, qD, qN.same rfl⟩, va_recv hK hP (ci := 5) (q0 := k_38) rfl (Wd_ob kg_41 sg_41 (by decide)), fun U hU hW => ⟨rfl, by rw [hU], by rw [hU]; exact hP, va_K.moved hW.alike hK, hD.weaken (fun _ _ _ _ => trivial), hN.warm hW⟩⟩ rfl rfl hl.1 rfl (lv_room (Nat.le_of_ble_eq_true rfl)) dX3_enter_240 ⟨Nat.le_of_ble_eq_true rfl, Nat.le_of_ble_eq_true rfl⟩) hS (fun q _ h => hFc q h) hFc (fun rr u t H_42 locs ht hvm hw hB hz1 hk1 hS2 => ?_)
                rw [hw]
                clear hw
                obtain ⟨hP1, -, hD1⟩ := hB
                rw [ht] at hP1
                replace hD := hD1.weaken (fun _ _ _ h => hFc _ h)
                replace hP := hP1
                replace hS := hS2
                clear hP1 hD1 hS2 hFc hfc hz1 hk1 hvm ht
                refine lv_lstore (lv' := [(9, .long r_40), (8, .int p_29), (6, .long p_23), (4, .long p_22), (0, .ref (a h0)), (1, .int x0)]) hx hb dX3_enter_243 hl (by decide) rfl (fun ls hl2 => ?_)
                replace hl := hl2
                clear hl2
                refine lv_lload hx hb dX3_enter_245 (lv_at hl 0 rfl) ?_
                obtain ⟨z_43, r_44, hfc, hf⟩ := cal_some hf
                have hFc := de_free hD hS hA
                refine va_calli (va_runS (As := [.long r_40]) (rest := []) ⟨hx, hb, hml, hown, hts⟩ (de_X5_isReference l dC dI cy a sh n H_42.size F z_39 r_40 hfc) (va_cwS 1 hts gX3_enter_X5_isReference rfl rfl rfl (by decide +kernel) ⟨Nat.le_of_ble_eq_true rfl, Nat.le_of_ble_eq_true rfl⟩) ⟨fun a U g mk q => by obtain ⟨q0, q1, qP, qK, qD, qN⟩ := q; exact ⟨q0, q1, qP, va_K.moved (u := U) (U := U.calling g mk a) (Vm.Alike.refl U.vm) qK, qD, qN.same rfl⟩, fun U hU hW => ⟨rfl, by rw [hU], by rw [hU]; exact hP, va_K.moved hW.alike hK, hD.weaken (fun _ _ _ _ => trivial), hN.warm hW⟩⟩ rfl rfl hl.1 rfl (lv_room (Nat.le_of_ble_eq_true rfl)) dX3_enter_247 ⟨Nat.le_of_ble_eq_true rfl, Nat.le_of_ble_eq_true rfl⟩) hS (fun q _ h => hFc q h) hFc (fun rr u t H_45 locs ht hvm hw hB hz1 hk1 hS2 => ?_)
                rw [hw]
                clear hw
                obtain ⟨hP1, -, hD1⟩ := hB
                rw [ht] at hP1
                replace hD := hD1.weaken (fun _ _ _ h => hFc _ h)
                replace hP := hP1
                replace hS := hS2
                clear hP1 hD1 hS2 hFc hfc hz1 hk1 hvm ht
                refine lv_istore (lv' := [(11, .int r_44), (9, .long r_40), (8, .int p_29), (6, .long p_23), (4, .long p_22), (0, .ref (a h0)), (1, .int x0)]) hx hb dX3_enter_250 hl (by decide) rfl (fun ls hl2 => ?_)
                replace hl := hl2
                clear hl2
                refine lv_aload_n hx hb dX3_enter_252 rfl (lv_at hl 5 rfl) ?_
                refine lv_lload hx hb dX3_enter_253 (lv_at hl 1 rfl) ?_
                refine lv_iload hx hb dX3_enter_255 (lv_at hl 0 rfl) ?_
                refine de_cut (h := 279) (fun (x : St × Int64) => [.long x.2, .long r_40, .ref (a h0)]) (fun x ls H locs => lv_has ls 12 [(11, .int r_44), (8, .int p_29), (6, .long p_23), (4, .long p_22), (0, .ref (a h0)), (1, .int x0)] ∧ va_P (dC, dI) vwCl (Wd cy a sh n x.1) H ∧ va_D A (Wd cy a sh n x.1) ∧ va_S A s.heap H locs) (fun x => fn_X3_enter_B279 F sh n h0 r_40 r_44 p_29 (fun z9 q8 => fn_X3_enter_L220 F sh n h0 x0 p_22 p_23 f_31 z9 q8) x.1 x.2) (z8, r8) ?_ (fun B279 => ?_)
                · intro x ls H locs hI hf
                  obtain ⟨z_47, p_46⟩ := x
                  obtain ⟨hl2, hP2, hD2, hS2⟩ := hI
                  replace hl : lv_has ls 12 [(11, .int r_44), (8, .int p_29), (6, .long p_23), (4, .long p_22), (0, .ref (a h0)), (1, .int x0)] := hl2
                  replace hP := hP2
                  replace hD := hD2
                  replace hS := hS2
                  clear hl2 hP2 hD2 hS2
                  replace hf := fn_X3_enter_B279_s hf
                  refine W.eq (g2 := F0 m 279 ls [.long p_46, .long r_40, .ref (a h0)]) rfl ?_
                  refine lv_iload hx hb dX3_enter_279 (lv_at hl 0 rfl) ?_
                  obtain ⟨z_48, _u, hfc, hf⟩ := cal_some hf
                  have hFc := de_free hD hS hA
                  refine va_callv (va_runV (As := [.long r_40, .long p_46, .int r_44]) (rest := []) ⟨hx, hb, hml, hown, hts⟩ (de_X3_putReference l dC dI cy a sh n H.size F z_47 h0 r_40 p_46 r_44 hfc) (cwV 3 hts gX3_enter_X3_putReference rfl rfl rfl (by decide +kernel) ⟨Nat.le_of_ble_eq_true rfl, Nat.le_of_ble_eq_true rfl⟩) ⟨fun a U g mk q => by obtain ⟨q0, q1, qP, qK, qD, qN⟩ := q; exact ⟨q0, q1, qP, va_K.moved (u := U) (U := U.calling g mk a) (Vm.Alike.refl U.vm) qK, qD, qN.same rfl⟩, va_recv hK hP (ci := 3) (q0 := h0) rfl (Wd_ob kg_1 sg_1 (by decide)), fun U hU hW => ⟨rfl, by rw [hU], by rw [hU]; exact hP, va_K.moved hW.alike hK, hD.weaken (fun _ _ _ _ => trivial), hN.warm hW⟩⟩ rfl rfl hl.1 rfl (lv_room (Nat.le_of_ble_eq_true rfl)) dX3_enter_281 ⟨Nat.le_of_ble_eq_true rfl, Nat.le_of_ble_eq_true rfl⟩) hS (fun q _ h => hFc q h) hFc (fun u t H_49 locs ht hvm hw hB hz1 hk1 hS2 => ?_)
                  obtain ⟨hP1, -, hD1⟩ := hB
                  rw [ht] at hP1
                  replace hD := hD1.weaken (fun _ _ _ h => hFc _ h)
                  replace hP := hP1
                  replace hS := hS2
                  clear hP1 hD1 hS2 hFc hfc hz1 hk1 hvm ht
                  refine lv_iinc (v := (p_29 + 1)) (lv' := [(8, .int (p_29 + 1)), (11, .int r_44), (6, .long p_23), (4, .long p_22), (0, .ref (a h0)), (1, .int x0)]) hx hb dX3_enter_284 hl (k := 1) rfl rfl (by decide) rfl (fun ls hl2 => ?_)
                  replace hl := hl2
                  clear hl2
                  refine lv_goto (tgt := 220) hx hb dX3_enter_287 (by decide) ?_
                  exact ih220 (z_48, (p_29 + 1)) ls H_49 locs ⟨lv_sub hl [0, 2, 3, 4, 5] rfl, hP, hD, hS⟩ hf
                refine lv_if_ne (tgt := 264) hx hb dX3_enter_257 (by decide) (fun c_50 => ?_) (fun c_50 => ?_)
                · skip
                  rw [if_neg c_50] at hf
                  refine lv_lload hx hb dX3_enter_264 (lv_at hl 1 rfl) ?_
                  obtain ⟨z_51, r_52, hfc, hf⟩ := cal_some hf
                  have hFc := de_free hD hS hA
                  refine va_calli (va_runS (As := [.long r_40]) (rest := [.long r_40, .ref (a h0)]) ⟨hx, hb, hml, hown, hts⟩ (de_X3_writes l dC dI cy a sh n H_45.size F z_43 r_40 hfc) (va_cwS 1 hts gX3_enter_X3_writes rfl rfl rfl (by decide +kernel) ⟨Nat.le_of_ble_eq_true rfl, Nat.le_of_ble_eq_true rfl⟩) ⟨fun a U g mk q => by obtain ⟨q0, q1, qP, qK, qD, qN⟩ := q; exact ⟨q0, q1, qP, va_K.moved (u := U) (U := U.calling g mk a) (Vm.Alike.refl U.vm) qK, qD, qN.same rfl⟩, fun U hU hW => ⟨rfl, by rw [hU], by rw [hU]; exact hP, va_K.moved hW.alike hK, hD.weaken (fun _ _ _ _ => trivial), hN.warm hW⟩⟩ rfl rfl hl.1 rfl (lv_room (Nat.le_of_ble_eq_true rfl)) dX3_enter_266 ⟨Nat.le_of_ble_eq_true rfl, Nat.le_of_ble_eq_true rfl⟩) hS (fun q _ h => hFc q h) hFc (fun rr u t H_53 locs ht hvm hw hB hz1 hk1 hS2 => ?_)
                  rw [hw]
                  clear hw
                  obtain ⟨hP1, -, hD1⟩ := hB
                  rw [ht] at hP1
                  replace hD := hD1.weaken (fun _ _ _ h => hFc _ h)
                  replace hP := hP1
                  replace hS := hS2
                  clear hP1 hD1 hS2 hFc hfc hz1 hk1 hvm ht
                  refine lv_if_eq (tgt := 277) hx hb dX3_enter_269 (by decide) (fun c_54 => ?_) (fun c_54 => ?_)
                  · skip
                    rw [if_pos c_54] at hf
                    refine lv_lload hx hb dX3_enter_277 (lv_at hl 4 rfl) ?_
                    exact B279 (z_51, p_22) ls H_53 locs ⟨lv_sub hl [0, 2, 3, 4, 5, 6] rfl, hP, hD, hS⟩ hf
                  · skip
                    rw [if_neg c_54] at hf
                    refine lv_lload hx hb dX3_enter_272 (lv_at hl 3 rfl) ?_
                    refine lv_goto (tgt := 279) hx hb dX3_enter_274 (by decide) ?_
                    exact B279 (z_51, p_23) ls H_53 locs ⟨lv_sub hl [0, 2, 3, 4, 5, 6] rfl, hP, hD, hS⟩ hf
                · skip
                  rw [if_pos c_50] at hf
                  refine lv_lconst (v := 0) hx hb dX3_enter_260 (by decide) ?_
                  refine lv_goto (tgt := 279) hx hb dX3_enter_261 (by decide) ?_
                  exact B279 (z_43, 0) ls H_45 locs ⟨lv_sub hl [0, 2, 3, 4, 5, 6] rfl, hP, hD, hS⟩ hf
            refine lv_if_eq (tgt := 217) hx hb dX3_enter_186 (by decide) (fun c_55 => ?_) (fun c_55 => ?_)
            · skip
              rw [if_pos c_55] at hf
              exact B217 (z_25) ls H locs ⟨lv_sub hl [1, 2, 5, 6] rfl, hP, hD, hS⟩ hf
            · skip
              rw [if_neg c_55] at hf
              refine lv_lload hx hb dX3_enter_189 (lv_at hl 2 rfl) ?_
              refine lv_ldc2 hx hb hown (hts _ md_X3_enter_7) dX3_enter_191 ?_
              refine lv_land hx hb dX3_enter_194 ?_
              refine lv_lconst (v := 0) hx hb dX3_enter_195 (by decide) ?_
              refine W.lcmp hx hb dX3_enter_196 ?_
              refine de_cut (h := 211) (fun (x : St) => []) (fun x ls H locs => lv_has ls 12 [(6, .long p_23), (4, .long p_22), (0, .ref (a h0)), (1, .int x0)] ∧ va_P (dC, dI) vwCl (Wd cy a sh n x) H ∧ va_D A (Wd cy a sh n x) ∧ va_S A s.heap H locs) (fun x => fn_X3_enter_B211 F sh n h0 x0 p_22 p_23 x) (z8, r8) ?_ (fun B211 => ?_)
              · intro x ls H locs hI hf
                obtain ⟨z_56, ez⟩ : ∃ w, w = x := ⟨_, rfl⟩
                subst ez
                obtain ⟨hl2, hP2, hD2, hS2⟩ := hI
                replace hl : lv_has ls 12 [(6, .long p_23), (4, .long p_22), (0, .ref (a h0)), (1, .int x0)] := hl2
                replace hP := hP2
                replace hD := hD2
                replace hS := hS2
                clear hl2 hP2 hD2 hS2
                replace hf := fn_X3_enter_B211_s hf
                refine W.eq (g2 := F0 m 211 ls []) rfl ?_
                refine lv_aload_n hx hb dX3_enter_211 rfl (lv_at hl 2 rfl) ?_
                refine lv_bipush (v := 6) hx hb dX3_enter_212 (by decide) ?_
                obtain ⟨z_57, _u, hfc, hf⟩ := cal_some hf
                have hFc := de_free hD hS hA
                refine va_callv (va_runV (As := [.int 6]) (rest := []) ⟨hx, hb, hml, hown, hts⟩ (de_X3_fail l dC dI cy a sh n H.size F z_56 h0 6 hfc) (cwV 1 hts gX3_enter_X3_fail rfl rfl rfl (by decide +kernel) ⟨Nat.le_of_ble_eq_true rfl, Nat.le_of_ble_eq_true rfl⟩) ⟨fun a U g mk q => by obtain ⟨q0, q1, qP, qK, qD, qN⟩ := q; exact ⟨q0, q1, qP, va_K.moved (u := U) (U := U.calling g mk a) (Vm.Alike.refl U.vm) qK, qD, qN.same rfl⟩, va_recv hK hP (ci := 3) (q0 := h0) rfl (Wd_ob kg_1 sg_1 (by decide)), fun U hU hW => ⟨rfl, by rw [hU], by rw [hU]; exact hP, va_K.moved hW.alike hK, hD.weaken (fun _ _ _ _ => trivial), hN.warm hW⟩⟩ rfl rfl hl.1 rfl (lv_room (Nat.le_of_ble_eq_true rfl)) dX3_enter_214 ⟨Nat.le_of_ble_eq_true rfl, Nat.le_of_ble_eq_true rfl⟩) hS (fun q _ h => hFc q h) hFc (fun u t H_58 locs ht hvm hw hB hz1 hk1 hS2 => ?_)
                obtain ⟨hP1, -, hD1⟩ := hB
                rw [ht] at hP1
                replace hD := hD1.weaken (fun _ _ _ h => hFc _ h)
                replace hP := hP1
                replace hS := hS2
                clear hP1 hD1 hS2 hFc hfc hz1 hk1 hvm ht
                exact B217 (z_57) ls H_58 locs ⟨lv_sub hl [0, 1, 2, 3] rfl, hP, hD, hS⟩ hf
              refine lv_if_ne (tgt := 211) hx hb dX3_enter_197 (by decide) (fun c_59 => ?_) (fun c_59 => ?_)
              · skip
                rw [lg_cmp_eq] at c_59
                rw [if_neg c_59] at hf
                exact B211 (z_25) ls H locs ⟨lv_sub hl [1, 2, 5, 6] rfl, hP, hD, hS⟩ hf
              · skip
                rw [lg_cmp_eq] at c_59
                rw [if_pos c_59] at hf
                refine lv_aload_n hx hb dX3_enter_200 rfl (lv_at hl 5 rfl) ?_
                refine lv_ldc2 hx hb hown (hts _ md_X3_enter_7) dX3_enter_201 ?_
                refine lv_iconst (v := 0) hx hb dX3_enter_204 (by decide) ?_
                obtain ⟨z_60, r_61, hfc, hf⟩ := cal_some hf
                have hFc := de_free hD hS hA
                refine va_calli (va_runV (As := [.long (-281474976710656), .int 0]) (rest := []) ⟨hx, hb, hml, hown, hts⟩ (de_X3_isLive l dC dI cy a sh n H.size F z_25 h0 (-281474976710656) 0 hfc) (cwV 2 hts gX3_enter_X3_isLive rfl rfl rfl (by decide +kernel) ⟨Nat.le_of_ble_eq_true rfl, Nat.le_of_ble_eq_true rfl⟩) ⟨fun a U g mk q => by obtain ⟨q0, q1, qP, qK, qD, qN⟩ := q; exact ⟨q0, q1, qP, va_K.moved (u := U) (U := U.calling g mk a) (Vm.Alike.refl U.vm) qK, qD, qN.same rfl⟩, va_recv hK hP (ci := 3) (q0 := h0) rfl (Wd_ob kg_1 sg_1 (by decide)), fun U hU hW => ⟨rfl, by rw [hU], by rw [hU]; exact hP, va_K.moved hW.alike hK, hD.weaken (fun _ _ _ _ => trivial), hN.warm hW⟩⟩ rfl rfl hl.1 rfl (lv_room (Nat.le_of_ble_eq_true rfl)) dX3_enter_205 ⟨Nat.le_of_ble_eq_true rfl, Nat.le_of_ble_eq_true rfl⟩) hS (fun q _ h => hFc q h) hFc (fun rr u t H_62 locs ht hvm hw hB hz1 hk1 hS2 => ?_)
                rw [hw]
                clear hw
                obtain ⟨hP1, -, hD1⟩ := hB
                rw [ht] at hP1
                replace hD := hD1.weaken (fun _ _ _ h => hFc _ h)
                replace hP := hP1
                replace hS := hS2
                clear hP1 hD1 hS2 hFc hfc hz1 hk1 hvm ht
                refine lv_if_eq (tgt := 217) hx hb dX3_enter_208 (by decide) (fun c_63 => ?_) (fun c_63 => ?_)
                · skip
                  rw [if_pos c_63] at hf
                  exact B217 (z_60) ls H_62 locs ⟨lv_sub hl [1, 2, 5, 6] rfl, hP, hD, hS⟩ hf
                · skip
                  rw [if_neg c_63] at hf
                  exact B211 (z_60) ls H_62 locs ⟨lv_sub hl [1, 2, 5, 6] rfl, hP, hD, hS⟩ hf
          · skip
            rw [if_neg c_27] at hf
            refine lv_aload_n hx hb dX3_enter_112 rfl (lv_at hl 5 rfl) ?_
            obtain ⟨k_64, ek_64, hf⟩ := lnk_some hf
            refine va_get (D := (dC, dI)) (ci := 3) (v := .ref (a k_64)) (C := RX3) (T := TX3) (N := 22) hx hb hts iwd_X3_enter_X3 hown hK hP h0 (Wd_ob kg_1 sg_1 (by decide)) rfl 5 (by decide) (hts _ md_X3_enter_5) (fun _ h9 => h9) (fl_q rfl ek_64) dX3_enter_113 ?_
            refine lv_iload hx hb dX3_enter_116 (lv_at hl 0 rfl) ?_
            obtain ⟨g_65, hf⟩ := grd_some hf
            obtain ⟨kg_65, sg_65, ig_65⟩ := okA_at g_65
            refine va_lald hx hb hK hP k_64 2 (Wd_al kg_65 sg_65) rfl ig_65 dX3_enter_118 ?_
            obtain ⟨z_66, r_67, hfc, hf⟩ := cal_some hf
            have hFc := de_free hD hS hA
            refine va_calli (va_runS (As := [.long (z_25.2.1 k_64 p_24.toNatClampNeg)]) (rest := []) ⟨hx, hb, hml, hown, hts⟩ (de_X3_writes l dC dI cy a sh n H.size F z_25 (z_25.2.1 k_64 p_24.toNatClampNeg) hfc) (va_cwS 1 hts gX3_enter_X3_writes rfl rfl rfl (by decide +kernel) ⟨Nat.le_of_ble_eq_true rfl, Nat.le_of_ble_eq_true rfl⟩) ⟨fun a U g mk q => by obtain ⟨q0, q1, qP, qK, qD, qN⟩ := q; exact ⟨q0, q1, qP, va_K.moved (u := U) (U := U.calling g mk a) (Vm.Alike.refl U.vm) qK, qD, qN.same rfl⟩, fun U hU hW => ⟨rfl, by rw [hU], by rw [hU]; exact hP, va_K.moved hW.alike hK, hD.weaken (fun _ _ _ _ => trivial), hN.warm hW⟩⟩ rfl rfl hl.1 rfl (lv_room (Nat.le_of_ble_eq_true rfl)) dX3_enter_119 ⟨Nat.le_of_ble_eq_true rfl, Nat.le_of_ble_eq_true rfl⟩) hS (fun q _ h => hFc q h) hFc (fun rr u t H_68 locs ht hvm hw hB hz1 hk1 hS2 => ?_)
            rw [hw]
            clear hw
            obtain ⟨hP1, -, hD1⟩ := hB
            rw [ht] at hP1
            replace hD := hD1.weaken (fun _ _ _ h => hFc _ h)
            replace hP := hP1
            replace hS := hS2
            clear hP1 hD1 hS2 hFc hfc hz1 hk1 hvm ht
            refine de_cut (h := 167) (fun (x : St × Int64) => []) (fun x ls H locs => lv_has ls 12 [(6, .long x.2), (8, .int p_24), (4, .long p_22), (3, .int p_18), (2, .int r_4), (0, .ref (a h0)), (1, .int x0)] ∧ va_P (dC, dI) vwCl (Wd cy a sh n x.1) H ∧ va_D A (Wd cy a sh n x.1) ∧ va_S A s.heap H locs) (fun x => fn_X3_enter_B167 F sh n h0 p_24 p_22 (fun z9 q4 q6 q8 => fn_X3_enter_L101 F sh n h0 r_4 p_18 x0 f_26 z9 q4 q6 q8) x.1 x.2) (z8, r8) ?_ (fun B167 => ?_)
            · intro x ls H locs hI hf
              obtain ⟨z_70, p_69⟩ := x
              obtain ⟨hl2, hP2, hD2, hS2⟩ := hI
              replace hl : lv_has ls 12 [(6, .long p_69), (8, .int p_24), (4, .long p_22), (3, .int p_18), (2, .int r_4), (0, .ref (a h0)), (1, .int x0)] := hl2
              replace hP := hP2
              replace hD := hD2
              replace hS := hS2
              clear hl2 hP2 hD2 hS2
              replace hf := fn_X3_enter_B167_s hf
              refine W.eq (g2 := F0 m 167 ls []) rfl ?_
              refine lv_lload hx hb dX3_enter_167 (lv_at hl 2 rfl) ?_
              refine lv_aload_n hx hb dX3_enter_169 rfl (lv_at hl 5 rfl) ?_
              obtain ⟨k_71, ek_71, hf⟩ := lnk_some hf
              refine va_get (D := (dC, dI)) (ci := 3) (v := .ref (a k_71)) (C := RX3) (T := TX3) (N := 22) hx hb hts iwd_X3_enter_X3 hown hK hP h0 (Wd_ob kg_1 sg_1 (by decide)) rfl 6 (by decide) (hts _ md_X3_enter_6) (fun _ h9 => h9) (fl_q rfl ek_71) dX3_enter_170 ?_
              refine lv_iload hx hb dX3_enter_173 (lv_at hl 1 rfl) ?_
              obtain ⟨g_72, hf⟩ := grd_some hf
              obtain ⟨kg_72, sg_72, ig_72⟩ := okA_at g_72
              refine va_lald hx hb hK hP k_71 2 (Wd_al kg_72 sg_72) rfl ig_72 dX3_enter_175 ?_
              refine lv_lor hx hb dX3_enter_176 ?_
              refine lv_topl (fun v_73 ev_73 => ?_)
              replace hf := lt_at ev_73 hf
              clear ev_73
              refine lv_lstore (lv' := [(4, .long v_73), (6, .long p_69), (8, .int p_24), (3, .int p_18), (2, .int r_4), (0, .ref (a h0)), (1, .int x0)]) hx hb dX3_enter_177 hl (by decide) rfl (fun ls hl2 => ?_)
              replace hl := hl2
              clear hl2
              refine lv_iinc (v := (p_24 + 1)) (lv' := [(8, .int (p_24 + 1)), (4, .long v_73), (6, .long p_69), (3, .int p_18), (2, .int r_4), (0, .ref (a h0)), (1, .int x0)]) hx hb dX3_enter_179 hl (k := 2) rfl rfl (by decide) rfl (fun ls hl2 => ?_)
              replace hl := hl2
              clear hl2
              refine lv_goto (tgt := 101) hx hb dX3_enter_182 (by decide) ?_
              exact ih101 (z_70, v_73, p_69, (p_24 + 1)) ls H locs ⟨lv_sub hl [0, 2, 1, 3, 4, 5, 6] rfl, hP, hD, hS⟩ hf
            refine lv_if_eq (tgt := 167) hx hb dX3_enter_122 (by decide) (fun c_74 => ?_) (fun c_74 => ?_)
            · skip
              rw [if_pos c_74] at hf
              exact B167 (z_66, p_23) ls H_68 locs ⟨lv_sub hl [1, 0, 2, 3, 4, 5, 6] rfl, hP, hD, hS⟩ hf
            · skip
              rw [if_neg c_74] at hf
              refine lv_aload_n hx hb dX3_enter_125 rfl (lv_at hl 5 rfl) ?_
              refine lv_aload_n hx hb dX3_enter_126 rfl (lv_at hl 5 rfl) ?_
              obtain ⟨k_75, ek_75, hf⟩ := lnk_some hf
              refine va_get (D := (dC, dI)) (ci := 3) (v := .ref (a k_75)) (C := RX3) (T := TX3) (N := 22) hx hb hts iwd_X3_enter_X3 hown hK hP h0 (Wd_ob kg_1 sg_1 (by decide)) rfl 6 (by decide) (hts _ md_X3_enter_6) (fun _ h9 => h9) (fl_q rfl ek_75) dX3_enter_127 ?_
              refine lv_iload hx hb dX3_enter_130 (lv_at hl 0 rfl) ?_
              obtain ⟨g_76, hf⟩ := grd_some hf
              obtain ⟨kg_76, sg_76, ig_76⟩ := okA_at g_76
              refine va_lald hx hb hK hP k_75 2 (Wd_al kg_76 sg_76) rfl ig_76 dX3_enter_132 ?_
              obtain ⟨z_77, r_78, hfc, hf⟩ := cal_some hf
              have hFc := de_free hD hS hA
              refine va_calli (va_runV (As := [.long (z_66.2.1 k_75 p_24.toNatClampNeg)]) (rest := []) ⟨hx, hb, hml, hown, hts⟩ (de_X3_isSole l dC dI cy a sh n H_68.size F z_66 h0 (z_66.2.1 k_75 p_24.toNatClampNeg) hfc) (cwV 1 hts gX3_enter_X3_isSole rfl rfl rfl (by decide +kernel) ⟨Nat.le_of_ble_eq_true rfl, Nat.le_of_ble_eq_true rfl⟩) ⟨fun a U g mk q => by obtain ⟨q0, q1, qP, qK, qD, qN⟩ := q; exact ⟨q0, q1, qP, va_K.moved (u := U) (U := U.calling g mk a) (Vm.Alike.refl U.vm) qK, qD, qN.same rfl⟩, va_recv hK hP (ci := 3) (q0 := h0) rfl (Wd_ob kg_1 sg_1 (by decide)), fun U hU hW => ⟨rfl, by rw [hU], by rw [hU]; exact hP, va_K.moved hW.alike hK, hD.weaken (fun _ _ _ _ => trivial), hN.warm hW⟩⟩ rfl rfl hl.1 rfl (lv_room (Nat.le_of_ble_eq_true rfl)) dX3_enter_133 ⟨Nat.le_of_ble_eq_true rfl, Nat.le_of_ble_eq_true rfl⟩) hS (fun q _ h => hFc q h) hFc (fun rr u t H_79 locs ht hvm hw hB hz1 hk1 hS2 => ?_)
              rw [hw]
              clear hw
              obtain ⟨hP1, -, hD1⟩ := hB
              rw [ht] at hP1
              replace hD := hD1.weaken (fun _ _ _ h => hFc _ h)
              replace hP := hP1
              replace hS := hS2
              clear hP1 hD1 hS2 hFc hfc hz1 hk1 hvm ht
              refine de_cut (h := 155) (fun (x : St) => []) (fun x ls H locs => lv_has ls 12 [(8, .int p_24), (6, .long p_23), (4, .long p_22), (3, .int p_18), (2, .int r_4), (0, .ref (a h0)), (1, .int x0)] ∧ va_P (dC, dI) vwCl (Wd cy a sh n x) H ∧ va_D A (Wd cy a sh n x) ∧ va_S A s.heap H locs) (fun x => fn_X3_enter_B155 F sh n h0 p_24 p_23 p_22 (fun z9 q4 q6 q8 => fn_X3_enter_L101 F sh n h0 r_4 p_18 x0 f_26 z9 q4 q6 q8) x) (z8, r8) ?_ (fun B155 => ?_)
              · intro x ls H locs hI hf
                obtain ⟨z_80, ez⟩ : ∃ w, w = x := ⟨_, rfl⟩
                subst ez
                obtain ⟨hl2, hP2, hD2, hS2⟩ := hI
                replace hl : lv_has ls 12 [(8, .int p_24), (6, .long p_23), (4, .long p_22), (3, .int p_18), (2, .int r_4), (0, .ref (a h0)), (1, .int x0)] := hl2
                replace hP := hP2
                replace hD := hD2
                replace hS := hS2
                clear hl2 hP2 hD2 hS2
                replace hf := fn_X3_enter_B155_s hf
                refine W.eq (g2 := F0 m 155 ls []) rfl ?_
                refine lv_lload hx hb dX3_enter_155 (lv_at hl 1 rfl) ?_
                refine lv_aload_n hx hb dX3_enter_157 rfl (lv_at hl 5 rfl) ?_
                obtain ⟨k_81, ek_81, hf⟩ := lnk_some hf
                refine va_get (D := (dC, dI)) (ci := 3) (v := .ref (a k_81)) (C := RX3) (T := TX3) (N := 22) hx hb hts iwd_X3_enter_X3 hown hK hP h0 (Wd_ob kg_1 sg_1 (by decide)) rfl 6 (by decide) (hts _ md_X3_enter_6) (fun _ h9 => h9) (fl_q rfl ek_81) dX3_enter_158 ?_
                refine lv_iload hx hb dX3_enter_161 (lv_at hl 0 rfl) ?_
                obtain ⟨g_82, hf⟩ := grd_some hf
                obtain ⟨kg_82, sg_82, ig_82⟩ := okA_at g_82
                refine va_lald hx hb hK hP k_81 2 (Wd_al kg_82 sg_82) rfl ig_82 dX3_enter_163 ?_
                refine lv_lor hx hb dX3_enter_164 ?_
                refine lv_topl (fun v_83 ev_83 => ?_)
                replace hf := lt_at ev_83 hf
                clear ev_83
                refine lv_lstore (lv' := [(6, .long v_83), (8, .int p_24), (4, .long p_22), (3, .int p_18), (2, .int r_4), (0, .ref (a h0)), (1, .int x0)]) hx hb dX3_enter_165 hl (by decide) rfl (fun ls hl2 => ?_)
                replace hl := hl2
                clear hl2
                exact B167 (z_80, v_83) ls H locs ⟨lv_sub hl [0, 1, 2, 3, 4, 5, 6] rfl, hP, hD, hS⟩ hf
              refine de_cut (h := 149) (fun (x : St) => []) (fun x ls H locs => lv_has ls 12 [(8, .int p_24), (6, .long p_23), (4, .long p_22), (3, .int p_18), (2, .int r_4), (0, .ref (a h0)), (1, .int x0)] ∧ va_P (dC, dI) vwCl (Wd cy a sh n x) H ∧ va_D A (Wd cy a sh n x) ∧ va_S A s.heap H locs) (fun x => fn_X3_enter_B149 F sh n h0 p_24 p_23 p_22 (fun z9 q4 q6 q8 => fn_X3_enter_L101 F sh n h0 r_4 p_18 x0 f_26 z9 q4 q6 q8) x) (z8, r8) ?_ (fun B149 => ?_)
              · intro x ls H locs hI hf
                obtain ⟨z_84, ez⟩ : ∃ w, w = x := ⟨_, rfl⟩
                subst ez
                obtain ⟨hl2, hP2, hD2, hS2⟩ := hI
                replace hl : lv_has ls 12 [(8, .int p_24), (6, .long p_23), (4, .long p_22), (3, .int p_18), (2, .int r_4), (0, .ref (a h0)), (1, .int x0)] := hl2
                replace hP := hP2
                replace hD := hD2
                replace hS := hS2
                clear hl2 hP2 hD2 hS2
                replace hf := fn_X3_enter_B149_s hf
                refine W.eq (g2 := F0 m 149 ls []) rfl ?_
                refine lv_aload_n hx hb dX3_enter_149 rfl (lv_at hl 5 rfl) ?_
                refine lv_bipush (v := 6) hx hb dX3_enter_150 (by decide) ?_
                obtain ⟨z_85, _u, hfc, hf⟩ := cal_some hf
                have hFc := de_free hD hS hA
                refine va_callv (va_runV (As := [.int 6]) (rest := []) ⟨hx, hb, hml, hown, hts⟩ (de_X3_fail l dC dI cy a sh n H.size F z_84 h0 6 hfc) (cwV 1 hts gX3_enter_X3_fail rfl rfl rfl (by decide +kernel) ⟨Nat.le_of_ble_eq_true rfl, Nat.le_of_ble_eq_true rfl⟩) ⟨fun a U g mk q => by obtain ⟨q0, q1, qP, qK, qD, qN⟩ := q; exact ⟨q0, q1, qP, va_K.moved (u := U) (U := U.calling g mk a) (Vm.Alike.refl U.vm) qK, qD, qN.same rfl⟩, va_recv hK hP (ci := 3) (q0 := h0) rfl (Wd_ob kg_1 sg_1 (by decide)), fun U hU hW => ⟨rfl, by rw [hU], by rw [hU]; exact hP, va_K.moved hW.alike hK, hD.weaken (fun _ _ _ _ => trivial), hN.warm hW⟩⟩ rfl rfl hl.1 rfl (lv_room (Nat.le_of_ble_eq_true rfl)) dX3_enter_152 ⟨Nat.le_of_ble_eq_true rfl, Nat.le_of_ble_eq_true rfl⟩) hS (fun q _ h => hFc q h) hFc (fun u t H_86 locs ht hvm hw hB hz1 hk1 hS2 => ?_)
                obtain ⟨hP1, -, hD1⟩ := hB
                rw [ht] at hP1
                replace hD := hD1.weaken (fun _ _ _ h => hFc _ h)
                replace hP := hP1
                replace hS := hS2
                clear hP1 hD1 hS2 hFc hfc hz1 hk1 hvm ht
                exact B155 (z_85) ls H_86 locs ⟨lv_sub hl [0, 1, 2, 3, 4, 5, 6] rfl, hP, hD, hS⟩ hf
              refine lv_if_eq (tgt := 149) hx hb dX3_enter_136 (by decide) (fun c_87 => ?_) (fun c_87 => ?_)
              · skip
                rw [if_pos c_87] at hf
                exact B149 (z_77) ls H_79 locs ⟨lv_sub hl [0, 1, 2, 3, 4, 5, 6] rfl, hP, hD, hS⟩ hf
              · skip
                rw [if_neg c_87] at hf
                refine lv_aload_n hx hb dX3_enter_139 rfl (lv_at hl 5 rfl) ?_
                refine lv_iload hx hb dX3_enter_140 (lv_at hl 0 rfl) ?_
                refine lv_iload_n hx hb dX3_enter_142 rfl (lv_at hl 4 rfl) ?_
                obtain ⟨z_88, r_89, hfc, hf⟩ := cal_some hf
                have hFc := de_free hD hS hA
                refine va_calli (va_runV (As := [.int p_24, .int r_4]) (rest := []) ⟨hx, hb, hml, hown, hts⟩ (de_X3_meetsOther l dC dI cy a sh n H_79.size F z_77 h0 p_24 r_4 hfc) (cwV 2 hts gX3_enter_X3_meetsOther rfl rfl rfl (by decide +kernel) ⟨Nat.le_of_ble_eq_true rfl, Nat.le_of_ble_eq_true rfl⟩) ⟨fun a U g mk q => by obtain ⟨q0, q1, qP, qK, qD, qN⟩ := q; exact ⟨q0, q1, qP, va_K.moved (u := U) (U := U.calling g mk a) (Vm.Alike.refl U.vm) qK, qD, qN.same rfl⟩, va_recv hK hP (ci := 3) (q0 := h0) rfl (Wd_ob kg_1 sg_1 (by decide)), fun U hU hW => ⟨rfl, by rw [hU], by rw [hU]; exact hP, va_K.moved hW.alike hK, hD.weaken (fun _ _ _ _ => trivial), hN.warm hW⟩⟩ rfl rfl hl.1 rfl (lv_room (Nat.le_of_ble_eq_true rfl)) dX3_enter_143 ⟨Nat.le_of_ble_eq_true rfl, Nat.le_of_ble_eq_true rfl⟩) hS (fun q _ h => hFc q h) hFc (fun rr u t H_90 locs ht hvm hw hB hz1 hk1 hS2 => ?_)
                rw [hw]
                clear hw
                obtain ⟨hP1, -, hD1⟩ := hB
                rw [ht] at hP1
                replace hD := hD1.weaken (fun _ _ _ h => hFc _ h)
                replace hP := hP1
                replace hS := hS2
                clear hP1 hD1 hS2 hFc hfc hz1 hk1 hvm ht
                refine lv_if_eq (tgt := 155) hx hb dX3_enter_146 (by decide) (fun c_91 => ?_) (fun c_91 => ?_)
                · skip
                  rw [if_pos c_91] at hf
                  exact B155 (z_88) ls H_90 locs ⟨lv_sub hl [0, 1, 2, 3, 4, 5, 6] rfl, hP, hD, hS⟩ hf
                · skip
                  rw [if_neg c_91] at hf
                  exact B149 (z_88) ls H_90 locs ⟨lv_sub hl [0, 1, 2, 3, 4, 5, 6] rfl, hP, hD, hS⟩ hf
        refine lv_if_eq (tgt := 89) hx hb dX3_enter_64 (by decide) (fun c_92 => ?_) (fun c_92 => ?_)
        · skip
          rw [if_pos c_92] at hf
          exact B89 (z_19) ls H locs ⟨lv_sub hl [0, 1, 2, 3] rfl, hP, hD, hS⟩ hf
        · skip
          rw [if_neg c_92] at hf
          refine lv_aload_n hx hb dX3_enter_67 rfl (lv_at hl 2 rfl) ?_
          obtain ⟨k_93, ek_93, hf⟩ := lnk_some hf
          refine va_get (D := (dC, dI)) (ci := 3) (v := .ref (a k_93)) (C := RX3) (T := TX3) (N := 22) hx hb hts iwd_X3_enter_X3 hown hK hP h0 (Wd_ob kg_1 sg_1 (by decide)) rfl 2 (by decide) (hts _ md_X3_enter_1) (fun _ h9 => h9) (fl_q rfl ek_93) dX3_enter_68 ?_
          refine lv_aload_n hx hb dX3_enter_71 rfl (lv_at hl 2 rfl) ?_
          refine va_get (D := (dC, dI)) (ci := 3) (v := .int (z_19.1 h0 3)) (C := RX3) (T := TX3) (N := 22) hx hb hts iwd_X3_enter_X3 hown hK hP h0 (Wd_ob kg_1 sg_1 (by decide)) rfl 3 (by decide) (hts _ md_X3_enter_3) (fun _ h9 => h9) (fl_at (t := 0) rfl) dX3_enter_72 ?_
          obtain ⟨g_96, hf⟩ := grd_some hf
          obtain ⟨kg_96, sg_96⟩ := okO_at g_96
          obtain ⟨z_94, r_95, hfc, hf⟩ := cal_some hf
          have hFc := de_free hD hS hA
          refine va_calli (va_runV (As := [.int (z_19.1 h0 3)]) (rest := []) ⟨hx, hb, hml, hown, hts⟩ (de_X5_flags l dC dI cy a sh n H.size F z_19 k_93 (z_19.1 h0 3) hfc) (cwV 1 hts gX3_enter_X5_flags rfl rfl rfl (by decide +kernel) ⟨Nat.le_of_ble_eq_true rfl, Nat.le_of_ble_eq_true rfl⟩) ⟨fun a U g mk q => by obtain ⟨q0, q1, qP, qK, qD, qN⟩ := q; exact ⟨q0, q1, qP, va_K.moved (u := U) (U := U.calling g mk a) (Vm.Alike.refl U.vm) qK, qD, qN.same rfl⟩, va_recv hK hP (ci := 5) (q0 := k_93) rfl (Wd_ob kg_96 sg_96 (by decide)), fun U hU hW => ⟨rfl, by rw [hU], by rw [hU]; exact hP, va_K.moved hW.alike hK, hD.weaken (fun _ _ _ _ => trivial), hN.warm hW⟩⟩ rfl rfl hl.1 rfl (lv_room (Nat.le_of_ble_eq_true rfl)) dX3_enter_75 ⟨Nat.le_of_ble_eq_true rfl, Nat.le_of_ble_eq_true rfl⟩) hS (fun q _ h => hFc q h) hFc (fun rr u t H_97 locs ht hvm hw hB hz1 hk1 hS2 => ?_)
          rw [hw]
          clear hw
          obtain ⟨hP1, -, hD1⟩ := hB
          rw [ht] at hP1
          replace hD := hD1.weaken (fun _ _ _ h => hFc _ h)
          replace hP := hP1
          replace hS := hS2
          clear hP1 hD1 hS2 hFc hfc hz1 hk1 hvm ht
          refine lv_iconst (v := 4) hx hb dX3_enter_78 (by decide) ?_
          refine lv_iand hx hb dX3_enter_79 ?_
          refine lv_if_ne (tgt := 89) hx hb dX3_enter_80 (by decide) (fun c_98 => ?_) (fun c_98 => ?_)
          · skip
            rw [if_neg c_98] at hf
            exact B89 (z_94) ls H_97 locs ⟨lv_sub hl [0, 1, 2, 3] rfl, hP, hD, hS⟩ hf
          · skip
            rw [if_pos c_98] at hf
            refine lv_aload_n hx hb dX3_enter_83 rfl (lv_at hl 2 rfl) ?_
            refine lv_bipush (v := 15) hx hb dX3_enter_84 (by decide) ?_
            obtain ⟨z_99, _u, hfc, hf⟩ := cal_some hf
            have hFc := de_free hD hS hA
            refine va_callv (va_runV (As := [.int 15]) (rest := []) ⟨hx, hb, hml, hown, hts⟩ (de_X3_fail l dC dI cy a sh n H_97.size F z_94 h0 15 hfc) (cwV 1 hts gX3_enter_X3_fail rfl rfl rfl (by decide +kernel) ⟨Nat.le_of_ble_eq_true rfl, Nat.le_of_ble_eq_true rfl⟩) ⟨fun a U g mk q => by obtain ⟨q0, q1, qP, qK, qD, qN⟩ := q; exact ⟨q0, q1, qP, va_K.moved (u := U) (U := U.calling g mk a) (Vm.Alike.refl U.vm) qK, qD, qN.same rfl⟩, va_recv hK hP (ci := 3) (q0 := h0) rfl (Wd_ob kg_1 sg_1 (by decide)), fun U hU hW => ⟨rfl, by rw [hU], by rw [hU]; exact hP, va_K.moved hW.alike hK, hD.weaken (fun _ _ _ _ => trivial), hN.warm hW⟩⟩ rfl rfl hl.1 rfl (lv_room (Nat.le_of_ble_eq_true rfl)) dX3_enter_86 ⟨Nat.le_of_ble_eq_true rfl, Nat.le_of_ble_eq_true rfl⟩) hS (fun q _ h => hFc q h) hFc (fun u t H_100 locs ht hvm hw hB hz1 hk1 hS2 => ?_)
            obtain ⟨hP1, -, hD1⟩ := hB
            rw [ht] at hP1
            replace hD := hD1.weaken (fun _ _ _ h => hFc _ h)
            replace hP := hP1
            replace hS := hS2
            clear hP1 hD1 hS2 hFc hfc hz1 hk1 hvm ht
            exact B89 (z_99) ls H_100 locs ⟨lv_sub hl [0, 1, 2, 3] rfl, hP, hD, hS⟩ hf
      refine lv_if_eq (tgt := 61) hx hb dX3_enter_54 (by decide) (fun c_101 => ?_) (fun c_101 => ?_)
      · skip
        rw [if_pos c_101] at hf
        refine lv_iconst (v := 0) hx hb dX3_enter_61 (by decide) ?_
        exact B62 (z_14, 0) ls H_17 locs ⟨lv_sub hl [1, 2, 3] rfl, hP, hD, hS⟩ hf
      · skip
        rw [if_neg c_101] at hf
        refine lv_iconst (v := 1) hx hb dX3_enter_57 (by decide) ?_
        refine lv_goto (tgt := 62) hx hb dX3_enter_58 (by decide) ?_
        exact B62 (z_14, 1) ls H_17 locs ⟨lv_sub hl [1, 2, 3] rfl, hP, hD, hS⟩ hf
    · skip
      rw [if_neg c_12] at hf
      obtain ⟨h8, h9⟩ := ret_some hf
      rw [h8]
      exact W.vret hx hb hr (fun t ht hW => ⟨⟨(), rfl, trivial, by rw [ht]; exact hP, va_K.moved hW.alike hK, hD⟩, hS.F ht⟩) hS.2.2 dX3_enter_43
  · skip
    rw [if_neg c_11] at hf
    refine lv_aload_n hx hb dX3_enter_17 rfl (lv_at hl 2 rfl) ?_
    refine lv_aload_n hx hb dX3_enter_18 rfl (lv_at hl 2 rfl) ?_
    obtain ⟨k_102, ek_102, hf⟩ := lnk_some hf
    refine va_get (D := (dC, dI)) (ci := 3) (v := .ref (a k_102)) (C := RX3) (T := TX3) (N := 22) hx hb hts iwd_X3_enter_X3 hown hK hP h0 (Wd_ob kg_1 sg_1 (by decide)) rfl 2 (by decide) (hts _ md_X3_enter_1) (fun _ h9 => h9) (fl_q rfl ek_102) dX3_enter_19 ?_
    refine lv_iload_n hx hb dX3_enter_22 rfl (lv_at hl 3 rfl) ?_
    refine lv_iload_n hx hb dX3_enter_23 rfl (lv_at hl 0 rfl) ?_
    obtain ⟨g_105, hf⟩ := grd_some hf
    obtain ⟨kg_105, sg_105⟩ := okO_at g_105
    obtain ⟨z_103, r_104, hfc, hf⟩ := cal_some hf
    have hFc := de_free hD hS hA
    refine va_calll (va_runV (As := [.int x0, .int p_8]) (rest := [.ref (a h0)]) ⟨hx, hb, hml, hown, hts⟩ (de_X5_takenType l dC dI cy a sh n H.size F z_9 k_102 x0 p_8 hfc) (cwV 2 hts gX3_enter_X5_takenType rfl rfl rfl (by decide +kernel) ⟨Nat.le_of_ble_eq_true rfl, Nat.le_of_ble_eq_true rfl⟩) ⟨fun a U g mk q => by obtain ⟨q0, q1, qP, qK, qD, qN⟩ := q; exact ⟨q0, q1, qP, va_K.moved (u := U) (U := U.calling g mk a) (Vm.Alike.refl U.vm) qK, qD, qN.same rfl⟩, va_recv hK hP (ci := 5) (q0 := k_102) rfl (Wd_ob kg_105 sg_105 (by decide)), fun U hU hW => ⟨rfl, by rw [hU], by rw [hU]; exact hP, va_K.moved hW.alike hK, hD.weaken (fun _ _ _ _ => trivial), hN.warm hW⟩⟩ rfl rfl hl.1 rfl (lv_room (Nat.le_of_ble_eq_true rfl)) dX3_enter_24 ⟨Nat.le_of_ble_eq_true rfl, Nat.le_of_ble_eq_true rfl⟩) hS (fun q _ h => hFc q h) hFc (fun rr u t H_106 locs ht hvm hw hB hz1 hk1 hS2 => ?_)
    rw [hw]
    clear hw
    obtain ⟨hP1, -, hD1⟩ := hB
    rw [ht] at hP1
    replace hD := hD1.weaken (fun _ _ _ h => hFc _ h)
    replace hP := hP1
    replace hS := hS2
    clear hP1 hD1 hS2 hFc hfc hz1 hk1 hvm ht
    obtain ⟨z_107, _u, hfc, hf⟩ := cal_some hf
    have hFc := de_free hD hS hA
    refine va_callv (va_runV (As := [.long r_104]) (rest := []) ⟨hx, hb, hml, hown, hts⟩ (de_X3_takeOnly l dC dI cy a sh n H_106.size F z_103 h0 r_104 hfc) (cwV 1 hts gX3_enter_X3_takeOnly rfl rfl rfl (by decide +kernel) ⟨Nat.le_of_ble_eq_true rfl, Nat.le_of_ble_eq_true rfl⟩) ⟨fun a U g mk q => by obtain ⟨q0, q1, qP, qK, qD, qN⟩ := q; exact ⟨q0, q1, qP, va_K.moved (u := U) (U := U.calling g mk a) (Vm.Alike.refl U.vm) qK, qD, qN.same rfl⟩, va_recv hK hP (ci := 3) (q0 := h0) rfl (Wd_ob kg_1 sg_1 (by decide)), fun U hU hW => ⟨rfl, by rw [hU], by rw [hU]; exact hP, va_K.moved hW.alike hK, hD.weaken (fun _ _ _ _ => trivial), hN.warm hW⟩⟩ rfl rfl hl.1 rfl (lv_room (Nat.le_of_ble_eq_true rfl)) dX3_enter_27 ⟨Nat.le_of_ble_eq_true rfl, Nat.le_of_ble_eq_true rfl⟩) hS (fun q _ h => hFc q h) hFc (fun u t H_108 locs ht hvm hw hB hz1 hk1 hS2 => ?_)
    obtain ⟨hP1, -, hD1⟩ := hB
    rw [ht] at hP1
    replace hD := hD1.weaken (fun _ _ _ h => hFc _ h)
    replace hP := hP1
    replace hS := hS2
    clear hP1 hD1 hS2 hFc hfc hz1 hk1 hvm ht
    refine lv_iinc (v := (p_8 + (-1))) (lv' := [(3, .int (p_8 + (-1))), (2, .int r_4), (0, .ref (a h0)), (1, .int x0)]) hx hb dX3_enter_30 hl (k := 0) rfl rfl (by decide) rfl (fun ls hl2 => ?_)
    replace hl := hl2
    clear hl2
    refine lv_goto (tgt := 13) hx hb dX3_enter_33 (by decide) ?_
    exact ih13 (z_107, (p_8 + (-1))) ls H_108 locs ⟨lv_sub hl [0, 1, 2, 3] rfl, hP, hD, hS⟩ hf

theorem md_X6_readInstruction_1 : (.fieldLink RX6 17 "ResourceLedger$Reader" "p" "LResourceLedger$Program;" : Cond) ∈ wsX6_readInstruction := List.mem_of_getElem? (i := 1) rfl
theorem iwd_X6_readInstruction_X6 : ∀ w ∈ wsX60, w ∈ wsX6_readInstruction := fun _ h => List.mem_cons_of_mem _ (List.mem_append_left _ (List.mem_append_right _ h))
theorem md_X6_readInstruction_2 : (.fieldLink RX6 32 "ResourceLedger$Reader" "at" "I" : Cond) ∈ wsX6_readInstruction := List.mem_of_getElem? (i := 2) rfl
theorem md_X6_readInstruction_8 : (.fieldLink RX6 63 "ResourceLedger$Program" "elementCount" "I" : Cond) ∈ wsX6_readInstruction := List.mem_of_getElem? (i := 8) rfl
theorem iwd_X6_readInstruction_X5 : ∀ w ∈ wsX50, w ∈ wsX6_readInstruction := fun _ h => List.mem_cons_of_mem _ (List.mem_append_right _ h)
theorem md_X6_readInstruction_6 : (.fieldLink RX6 120 "ResourceLedger$Program" "ownFunctions" "I" : Cond) ∈ wsX6_readInstruction := List.mem_of_getElem? (i := 6) rfl
theorem md_X6_readInstruction_7 : (.fieldLink RX6 110 "ResourceLedger$Program" "foreignFunctions" "I" : Cond) ∈ wsX6_readInstruction := List.mem_of_getElem? (i := 7) rfl
theorem md_X6_readInstruction_5 : (.fieldLink RX6 123 "ResourceLedger$Reader" "locals" "I" : Cond) ∈ wsX6_readInstruction := List.mem_of_getElem? (i := 5) rfl
theorem md_X6_readInstruction_3 : (.fieldLink RX6 126 "ResourceLedger$Reader" "instructions" "I" : Cond) ∈ wsX6_readInstruction := List.mem_of_getElem? (i := 3) rfl
theorem md_X6_readInstruction_4 : (.fieldLink RX6 28 "ResourceLedger$Reader" "judging" "Z" : Cond) ∈ wsX6_readInstruction := List.mem_of_getElem? (i := 4) rfl
set_option maxHeartbeats 4000000 in
set_option maxRecDepth 100000 in
theorem de_X6_readInstruction (l : Launch) (dC : Nat → ClassId) (dI : Nat → Nat → Nat) (cy : Nat → ClassId) (a : Nat → Nat) (sh : Nat → Nat × Nat) (n sz : Nat) (F : Nat) (sk : Nat → Nat) (z : St) (h0 : Nat) {z8 : St} {r8 : Unit} (hf : fn_X6_readInstruction F sh n z h0 = some (z8, r8)) : Met l yX6_readInstruction wsX6_readInstruction ({ frames := 3, cells := 0, slots := 0, locals := 68 }) (va_Pc [.ref (a h0)] (fun U => U.heap.size = sz ∧ va_P (dC, dI) vwCl (Wd cy a sh n z) U.heap ∧ va_K (dC, dI) vwCl (TYS cy) U ∧ va_D (fun _ => True) (Wd cy a sh n z) ∧ NK U ∧ SKs sk (a CBK) (va_A (Wd cy a sh n z) sz) U U.heap)) (va_Qv (fun u : Unit => True) (fun u t => va_P (dC, dI) vwCl (Wd cy a sh n z8) t.heap ∧ va_K (dC, dI) vwCl (TYS cy) t ∧ va_D (va_A (Wd cy a sh n z) sz) (Wd cy a sh n z8)) (va_A (Wd cy a sh n z) sz)) 0 0 (va_A (Wd cy a sh n z) sz) := by
  refine Met.ofW (cc := cX6_readInstruction) (maxL := 4) (ret := none) (by decide) rfl ?_
  intro p e s m args below meth c s₁ B hml hv
  obtain ⟨rfl, hsz, hP, hK, hD0, hN, hSK⟩ := hv
  have hx := B.exec
  have hb := B.bytes
  have hr := B.returns
  have hts := atoms_spec (ws := wsX6_readInstruction) B.pre
  have hown : s.vm.findClass RX6 = some m.cls := findClass_of_methodNamed B.named
  have hlocks := B.notSynchronized
  subst hsz
  have hD := hD0.self (sz := s.heap.size)
  clear hD0
  generalize hAe : va_A (Wd cy a sh n z) s.heap.size = A at hD hSK ⊢
  have hA : ∀ q : Nat, s.heap.size ≤ q → A q := fun q h => by rw [← hAe]; exact Or.inr h
  clear hAe
  have hS : va_S A s.heap s.heap [] := va_S.rf
  have hl := lv_entry ([.ref (a h0)]) (n := 4) (Nat.le_of_ble_eq_true rfl)
  rw [lg_entry_eq]
  generalize (lg_sl ([.ref (a h0)]) ++ List.replicate (4 - (lg_sl ([.ref (a h0)])).length) Slot.unset).toArray = ls at hl ⊢
  replace hl : lv_has ls 4 [(0, .ref (a h0))] := hl
  unfold fn_X6_readInstruction at hf
  refine de_start hS hP (fun H locs hS hP => ?_)
  refine lv_aload_n hx hb dX6_readInstruction_0 rfl (lv_at hl 0 rfl) ?_
  obtain ⟨g_1, hf⟩ := grd_some hf
  obtain ⟨kg_1, sg_1⟩ := okO_at g_1
  obtain ⟨k_2, ek_2, hf⟩ := lnk_some hf
  refine va_get (D := (dC, dI)) (ci := 6) (v := .ref (a k_2)) (C := RX6) (T := TX6) (N := 9) hx hb hts iwd_X6_readInstruction_X6 hown hK hP h0 (Wd_ob kg_1 sg_1 (by decide)) rfl 2 (by decide) (hts _ md_X6_readInstruction_1) (fun _ h9 => h9) (fl_q rfl ek_2) dX6_readInstruction_1 ?_
  refine lv_aload_n hx hb dX6_readInstruction_4 rfl (lv_at hl 0 rfl) ?_
  refine va_get (D := (dC, dI)) (ci := 6) (v := .int (z.1 h0 3)) (C := RX6) (T := TX6) (N := 9) hx hb hts iwd_X6_readInstruction_X6 hown hK hP h0 (Wd_ob kg_1 sg_1 (by decide)) rfl 3 (by decide) (hts _ md_X6_readInstruction_2) (fun _ h9 => h9) (fl_at (t := 0) rfl) dX6_readInstruction_5 ?_
  obtain ⟨g_4, hf⟩ := grd_some hf
  obtain ⟨kg_4, sg_4⟩ := okO_at g_4
  obtain ⟨z_3, _u, hfc, hf⟩ := cal_some hf
  have hFc := de_free hD hS hA
  refine va_callv (va_runV (As := [.int (z.1 h0 3)]) (rest := []) ⟨hx, hb, hml, hown, hts⟩ (de_X5_addStart l dC dI cy a sh n H.size F z k_2 (z.1 h0 3) hfc) (cwV 1 hts gX6_readInstruction_X5_addStart rfl rfl rfl (by decide +kernel) ⟨Nat.le_of_ble_eq_true rfl, Nat.le_of_ble_eq_true rfl⟩) ⟨fun a U g mk q => by obtain ⟨q0, q1, qP, qK, qD, qN⟩ := q; exact ⟨q0, q1, qP, va_K.moved (u := U) (U := U.calling g mk a) (Vm.Alike.refl U.vm) qK, qD, qN.same rfl⟩, va_recv hK hP (ci := 5) (q0 := k_2) rfl (Wd_ob kg_4 sg_4 (by decide)), fun U hU hW => ⟨rfl, by rw [hU], by rw [hU]; exact hP, va_K.moved hW.alike hK, hD.weaken (fun _ _ _ _ => trivial), hN.warm hW⟩⟩ rfl rfl hl.1 rfl (lv_room (Nat.le_of_ble_eq_true rfl)) dX6_readInstruction_8 ⟨Nat.le_of_ble_eq_true rfl, Nat.le_of_ble_eq_true rfl⟩) hS (fun q _ h => hFc q h) hFc (fun u t H_5 locs ht hvm hw hB hz1 hk1 hS2 => ?_)
  obtain ⟨hP1, -, hD1⟩ := hB
  rw [ht] at hP1
  replace hD := hD1.weaken (fun _ _ _ h => hFc _ h)
  replace hP := hP1
  replace hS := hS2
  clear hP1 hD1 hS2 hFc hfc hz1 hk1 hvm ht
  refine lv_aload_n hx hb dX6_readInstruction_11 rfl (lv_at hl 0 rfl) ?_
  refine va_get (D := (dC, dI)) (ci := 6) (v := .int (z_3.1 h0 3)) (C := RX6) (T := TX6) (N := 9) hx hb hts iwd_X6_readInstruction_X6 hown hK hP h0 (Wd_ob kg_1 sg_1 (by decide)) rfl 3 (by decide) (hts _ md_X6_readInstruction_2) (fun _ h9 => h9) (fl_at (t := 0) rfl) dX6_readInstruction_12 ?_
  refine lv_topi (fun v_6 ev_6 => ?_)
  replace hf := lt_at ev_6 hf
  clear ev_6
  refine lv_istore_n (lv' := [(1, .int v_6), (0, .ref (a h0))]) hx hb dX6_readInstruction_15 rfl hl (by decide) rfl (fun ls hl2 => ?_)
  replace hl := hl2
  clear hl2
  refine lv_aload_n hx hb dX6_readInstruction_16 rfl (lv_at hl 1 rfl) ?_
  obtain ⟨z_7, r_8, hfc, hf⟩ := cal_some hf
  have hFc := de_free hD hS hA
  refine va_calli (va_runV (As := []) (rest := []) ⟨hx, hb, hml, hown, hts⟩ (de_X6_readByte l dC dI cy a sh n H_5.size F sk z_3 h0 hfc) (cwV 0 hts gX6_readInstruction_X6_readByte rfl rfl rfl (by decide +kernel) ⟨Nat.le_of_ble_eq_true rfl, Nat.le_of_ble_eq_true rfl⟩) ⟨fun a U g mk q => by obtain ⟨q0, q1, qP, qK, qD, qN, qS⟩ := q; exact ⟨q0, q1, qP, va_K.moved (u := U) (U := U.calling g mk a) (Vm.Alike.refl U.vm) qK, qD, qN.same rfl, SKs.moved (u := U) (U := U.calling g mk a) (Vm.Alike.refl U.vm) qS⟩, va_recv hK hP (ci := 6) (q0 := h0) rfl (Wd_ob kg_1 sg_1 (by decide)), fun U hU hW => ⟨rfl, by rw [hU], by rw [hU]; exact hP, va_K.moved hW.alike hK, hD.weaken (fun _ _ _ _ => trivial), hN.warm hW, by rw [hU]; exact ((hSK.kept hS.2.1).narrow hFc).moved hW.alike⟩⟩ rfl rfl hl.1 rfl (lv_room (Nat.le_of_ble_eq_true rfl)) dX6_readInstruction_17 ⟨Nat.le_of_ble_eq_true rfl, Nat.le_of_ble_eq_true rfl⟩) hS (fun q _ h => hFc q h) hFc (fun rr u t H_9 locs ht hvm hw hB hz1 hk1 hS2 => ?_)
  rw [hw]
  clear hw
  obtain ⟨hP1, -, hD1⟩ := hB
  rw [ht] at hP1
  replace hD := hD1.weaken (fun _ _ _ h => hFc _ h)
  replace hP := hP1
  replace hS := hS2
  clear hP1 hD1 hS2 hFc hfc hz1 hk1 hvm ht
  refine lv_istore_n (lv' := [(2, .int r_8), (1, .int v_6), (0, .ref (a h0))]) hx hb dX6_readInstruction_20 rfl hl (by decide) rfl (fun ls hl2 => ?_)
  replace hl := hl2
  clear hl2
  refine lv_iload_n hx hb dX6_readInstruction_21 rfl (lv_at hl 0 rfl) ?_
  refine lv_bipush (v := 59) hx hb dX6_readInstruction_22 (by decide) ?_
  refine lv_icmp_le (tgt := 36) hx hb dX6_readInstruction_24 (by decide) (fun c_10 => ?_) (fun c_10 => ?_)
  · skip
    rw [if_pos c_10] at hf
    refine lv_iload_n hx hb dX6_readInstruction_36 rfl (lv_at hl 0 rfl) ?_
    refine lv_iconst (v := 2) hx hb dX6_readInstruction_37 (by decide) ?_
    refine de_cut (h := 79) (fun (x : St) => []) (fun x ls H locs => lv_has ls 4 [(2, .int r_8), (0, .ref (a h0))] ∧ va_P (dC, dI) vwCl (Wd cy a sh n x) H ∧ va_D A (Wd cy a sh n x) ∧ va_S A s.heap H locs) (fun x => fn_X6_readInstruction_B79 F sh n r_8 h0 x) (z8, r8) ?_ (fun B79 => ?_)
    · intro x ls H locs hI hf
      obtain ⟨z_11, ez⟩ : ∃ w, w = x := ⟨_, rfl⟩
      subst ez
      obtain ⟨hl2, hP2, hD2, hS2⟩ := hI
      replace hl : lv_has ls 4 [(2, .int r_8), (0, .ref (a h0))] := hl2
      replace hP := hP2
      replace hD := hD2
      replace hS := hS2
      clear hl2 hP2 hD2 hS2
      replace hf := fn_X6_readInstruction_B79_s hf
      refine W.eq (g2 := F0 m 79 ls []) rfl ?_
      refine lv_iload_n hx hb dX6_readInstruction_79 rfl (lv_at hl 0 rfl) ?_
      refine lv_iconst (v := 5) hx hb dX6_readInstruction_80 (by decide) ?_
      refine de_cut (h := 135) (fun (x : St) => []) (fun x ls H locs => lv_has ls 4 [(2, .int r_8), (0, .ref (a h0))] ∧ va_P (dC, dI) vwCl (Wd cy a sh n x) H ∧ va_D A (Wd cy a sh n x) ∧ va_S A s.heap H locs) (fun x => fn_X6_readInstruction_B135 F sh n r_8 h0 x) (z8, r8) ?_ (fun B135 => ?_)
      · intro x ls H locs hI hf
        obtain ⟨z_12, ez⟩ : ∃ w, w = x := ⟨_, rfl⟩
        subst ez
        obtain ⟨hl2, hP2, hD2, hS2⟩ := hI
        replace hl : lv_has ls 4 [(2, .int r_8), (0, .ref (a h0))] := hl2
        replace hP := hP2
        replace hD := hD2
        replace hS := hS2
        clear hl2 hP2 hD2 hS2
        replace hf := fn_X6_readInstruction_B135_s hf
        refine W.eq (g2 := F0 m 135 ls []) rfl ?_
        refine lv_iload_n hx hb dX6_readInstruction_135 rfl (lv_at hl 0 rfl) ?_
        refine lv_bipush (v := 11) hx hb dX6_readInstruction_136 (by decide) ?_
        refine de_cut (h := 161) (fun (x : St) => []) (fun x ls H locs => lv_has ls 4 [(2, .int r_8), (0, .ref (a h0))] ∧ va_P (dC, dI) vwCl (Wd cy a sh n x) H ∧ va_D A (Wd cy a sh n x) ∧ va_S A s.heap H locs) (fun x => fn_X6_readInstruction_B161 F sh n r_8 h0 x) (z8, r8) ?_ (fun B161 => ?_)
        · intro x ls H locs hI hf
          obtain ⟨z_13, ez⟩ : ∃ w, w = x := ⟨_, rfl⟩
          subst ez
          obtain ⟨hl2, hP2, hD2, hS2⟩ := hI
          replace hl : lv_has ls 4 [(2, .int r_8), (0, .ref (a h0))] := hl2
          replace hP := hP2
          replace hD := hD2
          replace hS := hS2
          clear hl2 hP2 hD2 hS2
          replace hf := fn_X6_readInstruction_B161_s hf
          refine W.eq (g2 := F0 m 161 ls []) rfl ?_
          refine lv_iload_n hx hb dX6_readInstruction_161 rfl (lv_at hl 0 rfl) ?_
          refine lv_bipush (v := 16) hx hb dX6_readInstruction_162 (by decide) ?_
          refine de_cut (h := 173) (fun (x : St) => []) (fun x ls H locs => lv_has ls 4 [(0, .ref (a h0))] ∧ va_P (dC, dI) vwCl (Wd cy a sh n x) H ∧ va_D A (Wd cy a sh n x) ∧ va_S A s.heap H locs) (fun x => fn_X6_readInstruction_B173 F sh n h0 x) (z8, r8) ?_ (fun B173 => ?_)
          · intro x ls H locs hI hf
            obtain ⟨z_14, ez⟩ : ∃ w, w = x := ⟨_, rfl⟩
            subst ez
            obtain ⟨hl2, hP2, hD2, hS2⟩ := hI
            replace hl : lv_has ls 4 [(0, .ref (a h0))] := hl2
            replace hP := hP2
            replace hD := hD2
            replace hS := hS2
            clear hl2 hP2 hD2 hS2
            replace hf := fn_X6_readInstruction_B173_s hf
            refine W.eq (g2 := F0 m 173 ls []) rfl ?_
            refine lv_aload_n hx hb dX6_readInstruction_173 rfl (lv_at hl 0 rfl) ?_
            obtain ⟨z_15, r_16, hfc, hf⟩ := cal_some hf
            have hFc := de_free hD hS hA
            refine va_calli (va_runV (As := []) (rest := []) ⟨hx, hb, hml, hown, hts⟩ (de_X6_readOwnStructure l dC dI cy a sh n H.size F sk z_14 h0 hfc) (cwV 0 hts gX6_readInstruction_X6_readOwnStructure rfl rfl rfl (by decide +kernel) ⟨Nat.le_of_ble_eq_true rfl, Nat.le_of_ble_eq_true rfl⟩) ⟨fun a U g mk q => by obtain ⟨q0, q1, qP, qK, qD, qN, qS⟩ := q; exact ⟨q0, q1, qP, va_K.moved (u := U) (U := U.calling g mk a) (Vm.Alike.refl U.vm) qK, qD, qN.same rfl, SKs.moved (u := U) (U := U.calling g mk a) (Vm.Alike.refl U.vm) qS⟩, va_recv hK hP (ci := 6) (q0 := h0) rfl (Wd_ob kg_1 sg_1 (by decide)), fun U hU hW => ⟨rfl, by rw [hU], by rw [hU]; exact hP, va_K.moved hW.alike hK, hD.weaken (fun _ _ _ _ => trivial), hN.warm hW, by rw [hU]; exact ((hSK.kept hS.2.1).narrow hFc).moved hW.alike⟩⟩ rfl rfl hl.1 rfl (lv_room (Nat.le_of_ble_eq_true rfl)) dX6_readInstruction_174 ⟨Nat.le_of_ble_eq_true rfl, Nat.le_of_ble_eq_true rfl⟩) hS (fun q _ h => hFc q h) hFc (fun rr u t H_17 locs ht hvm hw hB hz1 hk1 hS2 => ?_)
            rw [hw]
            clear hw
            obtain ⟨hP1, -, hD1⟩ := hB
            rw [ht] at hP1
            replace hD := hD1.weaken (fun _ _ _ h => hFc _ h)
            replace hP := hP1
            replace hS := hS2
            clear hP1 hD1 hS2 hFc hfc hz1 hk1 hvm ht
            refine lv_istore_n (lv' := [(3, .int r_16), (0, .ref (a h0))]) hx hb dX6_readInstruction_177 rfl hl (by decide) rfl (fun ls hl2 => ?_)
            replace hl := hl2
            clear hl2
            refine lv_aload_n hx hb dX6_readInstruction_178 rfl (lv_at hl 1 rfl) ?_
            refine lv_aload_n hx hb dX6_readInstruction_179 rfl (lv_at hl 1 rfl) ?_
            obtain ⟨k_18, ek_18, hf⟩ := lnk_some hf
            refine va_get (D := (dC, dI)) (ci := 6) (v := .ref (a k_18)) (C := RX6) (T := TX6) (N := 9) hx hb hts iwd_X6_readInstruction_X6 hown hK hP h0 (Wd_ob kg_1 sg_1 (by decide)) rfl 2 (by decide) (hts _ md_X6_readInstruction_1) (fun _ h9 => h9) (fl_q rfl ek_18) dX6_readInstruction_180 ?_
            refine lv_iload_n hx hb dX6_readInstruction_183 rfl (lv_at hl 0 rfl) ?_
            obtain ⟨g_21, hf⟩ := grd_some hf
            obtain ⟨kg_21, sg_21⟩ := okO_at g_21
            obtain ⟨z_19, r_20, hfc, hf⟩ := cal_some hf
            have hFc := de_free hD hS hA
            refine va_calli (va_runV (As := [.int r_16]) (rest := [.ref (a h0)]) ⟨hx, hb, hml, hown, hts⟩ (de_X5_fieldCount l dC dI cy a sh n H_17.size F z_15 k_18 r_16 hfc) (cwV 1 hts gX6_readInstruction_X5_fieldCount rfl rfl rfl (by decide +kernel) ⟨Nat.le_of_ble_eq_true rfl, Nat.le_of_ble_eq_true rfl⟩) ⟨fun a U g mk q => by obtain ⟨q0, q1, qP, qK, qD, qN⟩ := q; exact ⟨q0, q1, qP, va_K.moved (u := U) (U := U.calling g mk a) (Vm.Alike.refl U.vm) qK, qD, qN.same rfl⟩, va_recv hK hP (ci := 5) (q0 := k_18) rfl (Wd_ob kg_21 sg_21 (by decide)), fun U hU hW => ⟨rfl, by rw [hU], by rw [hU]; exact hP, va_K.moved hW.alike hK, hD.weaken (fun _ _ _ _ => trivial), hN.warm hW⟩⟩ rfl rfl hl.1 rfl (lv_room (Nat.le_of_ble_eq_true rfl)) dX6_readInstruction_184 ⟨Nat.le_of_ble_eq_true rfl, Nat.le_of_ble_eq_true rfl⟩) hS (fun q _ h => hFc q h) hFc (fun rr u t H_22 locs ht hvm hw hB hz1 hk1 hS2 => ?_)
            rw [hw]
            clear hw
            obtain ⟨hP1, -, hD1⟩ := hB
            rw [ht] at hP1
            replace hD := hD1.weaken (fun _ _ _ h => hFc _ h)
            replace hP := hP1
            replace hS := hS2
            clear hP1 hD1 hS2 hFc hfc hz1 hk1 hvm ht
            refine lv_bipush (v := 9) hx hb dX6_readInstruction_187 (by decide) ?_
            obtain ⟨z_23, r_24, hfc, hf⟩ := cal_some hf
            have hFc := de_free hD hS hA
            refine va_calli (va_runV (As := [.int r_20, .int 9]) (rest := []) ⟨hx, hb, hml, hown, hts⟩ (de_X6_readJudged l dC dI cy a sh n H_22.size F sk z_19 h0 r_20 9 hfc) (cwV 2 hts gX6_readInstruction_X6_readJudged rfl rfl rfl (by decide +kernel) ⟨Nat.le_of_ble_eq_true rfl, Nat.le_of_ble_eq_true rfl⟩) ⟨fun a U g mk q => by obtain ⟨q0, q1, qP, qK, qD, qN, qS⟩ := q; exact ⟨q0, q1, qP, va_K.moved (u := U) (U := U.calling g mk a) (Vm.Alike.refl U.vm) qK, qD, qN.same rfl, SKs.moved (u := U) (U := U.calling g mk a) (Vm.Alike.refl U.vm) qS⟩, va_recv hK hP (ci := 6) (q0 := h0) rfl (Wd_ob kg_1 sg_1 (by decide)), fun U hU hW => ⟨rfl, by rw [hU], by rw [hU]; exact hP, va_K.moved hW.alike hK, hD.weaken (fun _ _ _ _ => trivial), hN.warm hW, by rw [hU]; exact ((hSK.kept hS.2.1).narrow hFc).moved hW.alike⟩⟩ rfl rfl hl.1 rfl (lv_room (Nat.le_of_ble_eq_true rfl)) dX6_readInstruction_189 ⟨Nat.le_of_ble_eq_true rfl, Nat.le_of_ble_eq_true rfl⟩) hS (fun q _ h => hFc q h) hFc (fun rr u t H_25 locs ht hvm hw hB hz1 hk1 hS2 => ?_)
            rw [hw]
            clear hw
            obtain ⟨hP1, -, hD1⟩ := hB
            rw [ht] at hP1
            replace hD := hD1.weaken (fun _ _ _ h => hFc _ h)
            replace hP := hP1
            replace hS := hS2
            clear hP1 hD1 hS2 hFc hfc hz1 hk1 hvm ht
            refine lv_pop hx hb dX6_readInstruction_192 rfl ?_
            refine lv_goto (tgt := 299) hx hb dX6_readInstruction_193 (by decide) ?_
            obtain ⟨h8, h9⟩ := ret_some hf
            rw [h8]
            exact W.vret hx hb hr (fun t ht hW => ⟨⟨(), rfl, trivial, by rw [ht]; exact hP, va_K.moved hW.alike hK, hD⟩, hS.F ht⟩) hS.2.2 dX6_readInstruction_299
          refine lv_icmp_eq (tgt := 173) hx hb dX6_readInstruction_164 (by decide) (fun c_26 => ?_) (fun c_26 => ?_)
          · skip
            rw [if_pos c_26] at hf
            exact B173 (z_13) ls H locs ⟨lv_sub hl [1] rfl, hP, hD, hS⟩ hf
          · skip
            rw [if_neg c_26] at hf
            refine lv_iload_n hx hb dX6_readInstruction_167 rfl (lv_at hl 0 rfl) ?_
            refine lv_bipush (v := 17) hx hb dX6_readInstruction_168 (by decide) ?_
            refine lv_icmp_ne (tgt := 196) hx hb dX6_readInstruction_170 (by decide) (fun c_27 => ?_) (fun c_27 => ?_)
            · skip
              rw [if_neg c_27] at hf
              refine lv_iload_n hx hb dX6_readInstruction_196 rfl (lv_at hl 0 rfl) ?_
              refine lv_bipush (v := 21) hx hb dX6_readInstruction_197 (by decide) ?_
              refine lv_icmp_eq (tgt := 220) hx hb dX6_readInstruction_199 (by decide) (fun c_28 => ?_) (fun c_28 => ?_)
              · skip
                rw [if_pos c_28] at hf
                refine lv_aload_n hx hb dX6_readInstruction_220 rfl (lv_at hl 1 rfl) ?_
                obtain ⟨z_29, r_30, hfc, hf⟩ := cal_some hf
                have hFc := de_free hD hS hA
                refine va_calli (va_runV (As := []) (rest := []) ⟨hx, hb, hml, hown, hts⟩ (de_X6_readOwnStructure l dC dI cy a sh n H.size F sk z_13 h0 hfc) (cwV 0 hts gX6_readInstruction_X6_readOwnStructure rfl rfl rfl (by decide +kernel) ⟨Nat.le_of_ble_eq_true rfl, Nat.le_of_ble_eq_true rfl⟩) ⟨fun a U g mk q => by obtain ⟨q0, q1, qP, qK, qD, qN, qS⟩ := q; exact ⟨q0, q1, qP, va_K.moved (u := U) (U := U.calling g mk a) (Vm.Alike.refl U.vm) qK, qD, qN.same rfl, SKs.moved (u := U) (U := U.calling g mk a) (Vm.Alike.refl U.vm) qS⟩, va_recv hK hP (ci := 6) (q0 := h0) rfl (Wd_ob kg_1 sg_1 (by decide)), fun U hU hW => ⟨rfl, by rw [hU], by rw [hU]; exact hP, va_K.moved hW.alike hK, hD.weaken (fun _ _ _ _ => trivial), hN.warm hW, by rw [hU]; exact ((hSK.kept hS.2.1).narrow hFc).moved hW.alike⟩⟩ rfl rfl hl.1 rfl (lv_room (Nat.le_of_ble_eq_true rfl)) dX6_readInstruction_221 ⟨Nat.le_of_ble_eq_true rfl, Nat.le_of_ble_eq_true rfl⟩) hS (fun q _ h => hFc q h) hFc (fun rr u t H_31 locs ht hvm hw hB hz1 hk1 hS2 => ?_)
                rw [hw]
                clear hw
                obtain ⟨hP1, -, hD1⟩ := hB
                rw [ht] at hP1
                replace hD := hD1.weaken (fun _ _ _ h => hFc _ h)
                replace hP := hP1
                replace hS := hS2
                clear hP1 hD1 hS2 hFc hfc hz1 hk1 hvm ht
                refine lv_pop hx hb dX6_readInstruction_224 rfl ?_
                refine lv_goto (tgt := 299) hx hb dX6_readInstruction_225 (by decide) ?_
                obtain ⟨h8, h9⟩ := ret_some hf
                rw [h8]
                exact W.vret hx hb hr (fun t ht hW => ⟨⟨(), rfl, trivial, by rw [ht]; exact hP, va_K.moved hW.alike hK, hD⟩, hS.F ht⟩) hS.2.2 dX6_readInstruction_299
              · skip
                rw [if_neg c_28] at hf
                refine lv_iload_n hx hb dX6_readInstruction_202 rfl (lv_at hl 0 rfl) ?_
                refine lv_bipush (v := 22) hx hb dX6_readInstruction_203 (by decide) ?_
                refine lv_icmp_eq (tgt := 220) hx hb dX6_readInstruction_205 (by decide) (fun c_32 => ?_) (fun c_32 => ?_)
                · skip
                  rw [if_pos c_32] at hf
                  refine lv_aload_n hx hb dX6_readInstruction_220 rfl (lv_at hl 1 rfl) ?_
                  obtain ⟨z_33, r_34, hfc, hf⟩ := cal_some hf
                  have hFc := de_free hD hS hA
                  refine va_calli (va_runV (As := []) (rest := []) ⟨hx, hb, hml, hown, hts⟩ (de_X6_readOwnStructure l dC dI cy a sh n H.size F sk z_13 h0 hfc) (cwV 0 hts gX6_readInstruction_X6_readOwnStructure rfl rfl rfl (by decide +kernel) ⟨Nat.le_of_ble_eq_true rfl, Nat.le_of_ble_eq_true rfl⟩) ⟨fun a U g mk q => by obtain ⟨q0, q1, qP, qK, qD, qN, qS⟩ := q; exact ⟨q0, q1, qP, va_K.moved (u := U) (U := U.calling g mk a) (Vm.Alike.refl U.vm) qK, qD, qN.same rfl, SKs.moved (u := U) (U := U.calling g mk a) (Vm.Alike.refl U.vm) qS⟩, va_recv hK hP (ci := 6) (q0 := h0) rfl (Wd_ob kg_1 sg_1 (by decide)), fun U hU hW => ⟨rfl, by rw [hU], by rw [hU]; exact hP, va_K.moved hW.alike hK, hD.weaken (fun _ _ _ _ => trivial), hN.warm hW, by rw [hU]; exact ((hSK.kept hS.2.1).narrow hFc).moved hW.alike⟩⟩ rfl rfl hl.1 rfl (lv_room (Nat.le_of_ble_eq_true rfl)) dX6_readInstruction_221 ⟨Nat.le_of_ble_eq_true rfl, Nat.le_of_ble_eq_true rfl⟩) hS (fun q _ h => hFc q h) hFc (fun rr u t H_35 locs ht hvm hw hB hz1 hk1 hS2 => ?_)
                  rw [hw]
                  clear hw
                  obtain ⟨hP1, -, hD1⟩ := hB
                  rw [ht] at hP1
                  replace hD := hD1.weaken (fun _ _ _ h => hFc _ h)
                  replace hP := hP1
                  replace hS := hS2
                  clear hP1 hD1 hS2 hFc hfc hz1 hk1 hvm ht
                  refine lv_pop hx hb dX6_readInstruction_224 rfl ?_
                  refine lv_goto (tgt := 299) hx hb dX6_readInstruction_225 (by decide) ?_
                  obtain ⟨h8, h9⟩ := ret_some hf
                  rw [h8]
                  exact W.vret hx hb hr (fun t ht hW => ⟨⟨(), rfl, trivial, by rw [ht]; exact hP, va_K.moved hW.alike hK, hD⟩, hS.F ht⟩) hS.2.2 dX6_readInstruction_299
                · skip
                  rw [if_neg c_32] at hf
                  refine lv_iload_n hx hb dX6_readInstruction_208 rfl (lv_at hl 0 rfl) ?_
                  refine lv_bipush (v := 47) hx hb dX6_readInstruction_209 (by decide) ?_
                  refine de_cut (h := 228) (fun (x : St) => []) (fun x ls H locs => lv_has ls 4 [(2, .int r_8), (0, .ref (a h0))] ∧ va_P (dC, dI) vwCl (Wd cy a sh n x) H ∧ va_D A (Wd cy a sh n x) ∧ va_S A s.heap H locs) (fun x => fn_X6_readInstruction_B228 F sh n r_8 h0 x) (z8, r8) ?_ (fun B228 => ?_)
                  · intro x ls H locs hI hf
                    obtain ⟨z_36, ez⟩ : ∃ w, w = x := ⟨_, rfl⟩
                    subst ez
                    obtain ⟨hl2, hP2, hD2, hS2⟩ := hI
                    replace hl : lv_has ls 4 [(2, .int r_8), (0, .ref (a h0))] := hl2
                    replace hP := hP2
                    replace hD := hD2
                    replace hS := hS2
                    clear hl2 hP2 hD2 hS2
                    replace hf := fn_X6_readInstruction_B228_s hf
                    refine W.eq (g2 := F0 m 228 ls []) rfl ?_
                    refine lv_iload_n hx hb dX6_readInstruction_228 rfl (lv_at hl 0 rfl) ?_
                    refine lv_bipush (v := 23) hx hb dX6_readInstruction_229 (by decide) ?_
                    refine lv_icmp_ne (tgt := 259) hx hb dX6_readInstruction_231 (by decide) (fun c_37 => ?_) (fun c_37 => ?_)
                    · skip
                      rw [if_neg c_37] at hf
                      refine lv_iload_n hx hb dX6_readInstruction_259 rfl (lv_at hl 0 rfl) ?_
                      refine lv_bipush (v := 52) hx hb dX6_readInstruction_260 (by decide) ?_
                      refine lv_icmp_lt (tgt := 299) hx hb dX6_readInstruction_262 (by decide) (fun c_38 => ?_) (fun c_38 => ?_)
                      · skip
                        rw [if_pos c_38] at hf
                        obtain ⟨h8, h9⟩ := ret_some hf
                        rw [h8]
                        exact W.vret hx hb hr (fun t ht hW => ⟨⟨(), rfl, trivial, by rw [ht]; exact hP, va_K.moved hW.alike hK, hD⟩, hS.F ht⟩) hS.2.2 dX6_readInstruction_299
                      · skip
                        rw [if_neg c_38] at hf
                        refine lv_iload_n hx hb dX6_readInstruction_265 rfl (lv_at hl 0 rfl) ?_
                        refine lv_bipush (v := 58) hx hb dX6_readInstruction_266 (by decide) ?_
                        refine lv_icmp_gt (tgt := 299) hx hb dX6_readInstruction_268 (by decide) (fun c_39 => ?_) (fun c_39 => ?_)
                        · skip
                          rw [if_pos c_39] at hf
                          obtain ⟨h8, h9⟩ := ret_some hf
                          rw [h8]
                          exact W.vret hx hb hr (fun t ht hW => ⟨⟨(), rfl, trivial, by rw [ht]; exact hP, va_K.moved hW.alike hK, hD⟩, hS.F ht⟩) hS.2.2 dX6_readInstruction_299
                        · skip
                          rw [if_neg c_39] at hf
                          refine lv_aload_n hx hb dX6_readInstruction_271 rfl (lv_at hl 1 rfl) ?_
                          refine lv_aload_n hx hb dX6_readInstruction_272 rfl (lv_at hl 1 rfl) ?_
                          obtain ⟨k_40, ek_40, hf⟩ := lnk_some hf
                          refine va_get (D := (dC, dI)) (ci := 6) (v := .ref (a k_40)) (C := RX6) (T := TX6) (N := 9) hx hb hts iwd_X6_readInstruction_X6 hown hK hP h0 (Wd_ob kg_1 sg_1 (by decide)) rfl 2 (by decide) (hts _ md_X6_readInstruction_1) (fun _ h9 => h9) (fl_q rfl ek_40) dX6_readInstruction_273 ?_
                          obtain ⟨g_41, hf⟩ := grd_some hf
                          obtain ⟨kg_41, sg_41⟩ := okO_at g_41
                          refine va_get (D := (dC, dI)) (ci := 5) (v := .int (z_36.1 k_40 14)) (C := RX5) (T := TX5) (N := 15) hx hb hts iwd_X6_readInstruction_X5 hown hK hP k_40 (Wd_ob kg_41 sg_41 (by decide)) rfl 14 (by decide) (hts _ md_X6_readInstruction_8) (fun _ h9 => h9) (fl_at (t := 0) rfl) dX6_readInstruction_276 ?_
                          refine lv_bipush (v := 12) hx hb dX6_readInstruction_279 (by decide) ?_
                          obtain ⟨z_42, r_43, hfc, hf⟩ := cal_some hf
                          have hFc := de_free hD hS hA
                          refine va_calli (va_runV (As := [.int (z_36.1 k_40 14), .int 12]) (rest := []) ⟨hx, hb, hml, hown, hts⟩ (de_X6_readJudged l dC dI cy a sh n H.size F sk z_36 h0 (z_36.1 k_40 14) 12 hfc) (cwV 2 hts gX6_readInstruction_X6_readJudged rfl rfl rfl (by decide +kernel) ⟨Nat.le_of_ble_eq_true rfl, Nat.le_of_ble_eq_true rfl⟩) ⟨fun a U g mk q => by obtain ⟨q0, q1, qP, qK, qD, qN, qS⟩ := q; exact ⟨q0, q1, qP, va_K.moved (u := U) (U := U.calling g mk a) (Vm.Alike.refl U.vm) qK, qD, qN.same rfl, SKs.moved (u := U) (U := U.calling g mk a) (Vm.Alike.refl U.vm) qS⟩, va_recv hK hP (ci := 6) (q0 := h0) rfl (Wd_ob kg_1 sg_1 (by decide)), fun U hU hW => ⟨rfl, by rw [hU], by rw [hU]; exact hP, va_K.moved hW.alike hK, hD.weaken (fun _ _ _ _ => trivial), hN.warm hW, by rw [hU]; exact ((hSK.kept hS.2.1).narrow hFc).moved hW.alike⟩⟩ rfl rfl hl.1 rfl (lv_room (Nat.le_of_ble_eq_true rfl)) dX6_readInstruction_281 ⟨Nat.le_of_ble_eq_true rfl, Nat.le_of_ble_eq_true rfl⟩) hS (fun q _ h => hFc q h) hFc (fun rr u t H_44 locs ht hvm hw hB hz1 hk1 hS2 => ?_)
                          rw [hw]
                          clear hw
                          obtain ⟨hP1, -, hD1⟩ := hB
                          rw [ht] at hP1
                          replace hD := hD1.weaken (fun _ _ _ h => hFc _ h)
                          replace hP := hP1
                          replace hS := hS2
                          clear hP1 hD1 hS2 hFc hfc hz1 hk1 hvm ht
                          refine lv_pop hx hb dX6_readInstruction_284 rfl ?_
                          refine lv_iload_n hx hb dX6_readInstruction_285 rfl (lv_at hl 0 rfl) ?_
                          refine lv_bipush (v := 52) hx hb dX6_readInstruction_286 (by decide) ?_
                          refine lv_icmp_ne (tgt := 299) hx hb dX6_readInstruction_288 (by decide) (fun c_45 => ?_) (fun c_45 => ?_)
                          · skip
                            rw [if_neg c_45] at hf
                            obtain ⟨h8, h9⟩ := ret_some hf
                            rw [h8]
                            exact W.vret hx hb hr (fun t ht hW => ⟨⟨(), rfl, trivial, by rw [ht]; exact hP, va_K.moved hW.alike hK, hD⟩, hS.F ht⟩) hS.2.2 dX6_readInstruction_299
                          · skip
                            rw [if_pos c_45] at hf
                            refine lv_aload_n hx hb dX6_readInstruction_291 rfl (lv_at hl 1 rfl) ?_
                            refine lv_iconst (v := 0) hx hb dX6_readInstruction_292 (by decide) ?_
                            refine lv_bipush (v := 64) hx hb dX6_readInstruction_293 (by decide) ?_
                            obtain ⟨z_46, r_47, hfc, hf⟩ := cal_some hf
                            have hFc := de_free hD hS hA
                            refine va_calli (va_runV (As := [.int 0, .int 64]) (rest := []) ⟨hx, hb, hml, hown, hts⟩ (de_X6_readNumber l dC dI cy a sh n H_44.size F sk z_42 h0 0 64 hfc) (cwV 2 hts gX6_readInstruction_X6_readNumber rfl rfl rfl (by decide +kernel) ⟨Nat.le_of_ble_eq_true rfl, Nat.le_of_ble_eq_true rfl⟩) ⟨fun a U g mk q => by obtain ⟨q0, q1, qP, qK, qD, qN, qS⟩ := q; exact ⟨q0, q1, qP, va_K.moved (u := U) (U := U.calling g mk a) (Vm.Alike.refl U.vm) qK, qD, qN.same rfl, SKs.moved (u := U) (U := U.calling g mk a) (Vm.Alike.refl U.vm) qS⟩, va_recv hK hP (ci := 6) (q0 := h0) rfl (Wd_ob kg_1 sg_1 (by decide)), fun U hU hW => ⟨rfl, by rw [hU], by rw [hU]; exact hP, va_K.moved hW.alike hK, hD.weaken (fun _ _ _ _ => trivial), hN.warm hW, by rw [hU]; exact ((hSK.kept hS.2.1).narrow hFc).moved hW.alike⟩⟩ rfl rfl hl.1 rfl (lv_room (Nat.le_of_ble_eq_true rfl)) dX6_readInstruction_295 ⟨Nat.le_of_ble_eq_true rfl, Nat.le_of_ble_eq_true rfl⟩) hS (fun q _ h => hFc q h) hFc (fun rr u t H_48 locs ht hvm hw hB hz1 hk1 hS2 => ?_)
                            rw [hw]
                            clear hw
                            obtain ⟨hP1, -, hD1⟩ := hB
                            rw [ht] at hP1
                            replace hD := hD1.weaken (fun _ _ _ h => hFc _ h)
                            replace hP := hP1
                            replace hS := hS2
                            clear hP1 hD1 hS2 hFc hfc hz1 hk1 hvm ht
                            refine lv_pop hx hb dX6_readInstruction_298 rfl ?_
                            obtain ⟨h8, h9⟩ := ret_some hf
                            rw [h8]
                            exact W.vret hx hb hr (fun t ht hW => ⟨⟨(), rfl, trivial, by rw [ht]; exact hP, va_K.moved hW.alike hK, hD⟩, hS.F ht⟩) hS.2.2 dX6_readInstruction_299
                    · skip
                      rw [if_pos c_37] at hf
                      refine lv_aload_n hx hb dX6_readInstruction_234 rfl (lv_at hl 1 rfl) ?_
                      refine lv_aload_n hx hb dX6_readInstruction_235 rfl (lv_at hl 1 rfl) ?_
                      obtain ⟨k_49, ek_49, hf⟩ := lnk_some hf
                      refine va_get (D := (dC, dI)) (ci := 6) (v := .ref (a k_49)) (C := RX6) (T := TX6) (N := 9) hx hb hts iwd_X6_readInstruction_X6 hown hK hP h0 (Wd_ob kg_1 sg_1 (by decide)) rfl 2 (by decide) (hts _ md_X6_readInstruction_1) (fun _ h9 => h9) (fl_q rfl ek_49) dX6_readInstruction_236 ?_
                      obtain ⟨g_50, hf⟩ := grd_some hf
                      obtain ⟨kg_50, sg_50⟩ := okO_at g_50
                      refine va_get (D := (dC, dI)) (ci := 5) (v := .int (z_36.1 k_49 11)) (C := RX5) (T := TX5) (N := 15) hx hb hts iwd_X6_readInstruction_X5 hown hK hP k_49 (Wd_ob kg_50 sg_50 (by decide)) rfl 11 (by decide) (hts _ md_X6_readInstruction_6) (fun _ h9 => h9) (fl_at (t := 0) rfl) dX6_readInstruction_239 ?_
                      refine lv_aload_n hx hb dX6_readInstruction_242 rfl (lv_at hl 1 rfl) ?_
                      obtain ⟨k_51, ek_51, hf⟩ := lnk_some hf
                      refine va_get (D := (dC, dI)) (ci := 6) (v := .ref (a k_51)) (C := RX6) (T := TX6) (N := 9) hx hb hts iwd_X6_readInstruction_X6 hown hK hP h0 (Wd_ob kg_1 sg_1 (by decide)) rfl 2 (by decide) (hts _ md_X6_readInstruction_1) (fun _ h9 => h9) (fl_q rfl ek_51) dX6_readInstruction_243 ?_
                      obtain ⟨g_52, hf⟩ := grd_some hf
                      obtain ⟨kg_52, sg_52⟩ := okO_at g_52
                      refine va_get (D := (dC, dI)) (ci := 5) (v := .int (z_36.1 k_51 12)) (C := RX5) (T := TX5) (N := 15) hx hb hts iwd_X6_readInstruction_X5 hown hK hP k_51 (Wd_ob kg_52 sg_52 (by decide)) rfl 12 (by decide) (hts _ md_X6_readInstruction_7) (fun _ h9 => h9) (fl_at (t := 0) rfl) dX6_readInstruction_246 ?_
                      refine lv_iadd hx hb dX6_readInstruction_249 ?_
                      refine lv_bipush (v := 11) hx hb dX6_readInstruction_250 (by decide) ?_
                      obtain ⟨z_53, r_54, hfc, hf⟩ := cal_some hf
                      have hFc := de_free hD hS hA
                      refine va_calli (va_runV (As := [.int ((z_36.1 k_49 11) + (z_36.1 k_51 12)), .int 11]) (rest := []) ⟨hx, hb, hml, hown, hts⟩ (de_X6_readJudged l dC dI cy a sh n H.size F sk z_36 h0 ((z_36.1 k_49 11) + (z_36.1 k_51 12)) 11 hfc) (cwV 2 hts gX6_readInstruction_X6_readJudged rfl rfl rfl (by decide +kernel) ⟨Nat.le_of_ble_eq_true rfl, Nat.le_of_ble_eq_true rfl⟩) ⟨fun a U g mk q => by obtain ⟨q0, q1, qP, qK, qD, qN, qS⟩ := q; exact ⟨q0, q1, qP, va_K.moved (u := U) (U := U.calling g mk a) (Vm.Alike.refl U.vm) qK, qD, qN.same rfl, SKs.moved (u := U) (U := U.calling g mk a) (Vm.Alike.refl U.vm) qS⟩, va_recv hK hP (ci := 6) (q0 := h0) rfl (Wd_ob kg_1 sg_1 (by decide)), fun U hU hW => ⟨rfl, by rw [hU], by rw [hU]; exact hP, va_K.moved hW.alike hK, hD.weaken (fun _ _ _ _ => trivial), hN.warm hW, by rw [hU]; exact ((hSK.kept hS.2.1).narrow hFc).moved hW.alike⟩⟩ rfl rfl hl.1 rfl (lv_room (Nat.le_of_ble_eq_true rfl)) dX6_readInstruction_252 ⟨Nat.le_of_ble_eq_true rfl, Nat.le_of_ble_eq_true rfl⟩) hS (fun q _ h => hFc q h) hFc (fun rr u t H_55 locs ht hvm hw hB hz1 hk1 hS2 => ?_)
                      rw [hw]
                      clear hw
                      obtain ⟨hP1, -, hD1⟩ := hB
                      rw [ht] at hP1
                      replace hD := hD1.weaken (fun _ _ _ h => hFc _ h)
                      replace hP := hP1
                      replace hS := hS2
                      clear hP1 hD1 hS2 hFc hfc hz1 hk1 hvm ht
                      refine lv_pop hx hb dX6_readInstruction_255 rfl ?_
                      refine lv_goto (tgt := 299) hx hb dX6_readInstruction_256 (by decide) ?_
                      obtain ⟨h8, h9⟩ := ret_some hf
                      rw [h8]
                      exact W.vret hx hb hr (fun t ht hW => ⟨⟨(), rfl, trivial, by rw [ht]; exact hP, va_K.moved hW.alike hK, hD⟩, hS.F ht⟩) hS.2.2 dX6_readInstruction_299
                  refine lv_icmp_lt (tgt := 228) hx hb dX6_readInstruction_211 (by decide) (fun c_56 => ?_) (fun c_56 => ?_)
                  · skip
                    rw [if_pos c_56] at hf
                    exact B228 (z_13) ls H locs ⟨lv_sub hl [0, 1] rfl, hP, hD, hS⟩ hf
                  · skip
                    rw [if_neg c_56] at hf
                    refine lv_iload_n hx hb dX6_readInstruction_214 rfl (lv_at hl 0 rfl) ?_
                    refine lv_bipush (v := 51) hx hb dX6_readInstruction_215 (by decide) ?_
                    refine lv_icmp_gt (tgt := 228) hx hb dX6_readInstruction_217 (by decide) (fun c_57 => ?_) (fun c_57 => ?_)
                    · skip
                      rw [if_pos c_57] at hf
                      exact B228 (z_13) ls H locs ⟨lv_sub hl [0, 1] rfl, hP, hD, hS⟩ hf
                    · skip
                      rw [if_neg c_57] at hf
                      refine lv_aload_n hx hb dX6_readInstruction_220 rfl (lv_at hl 1 rfl) ?_
                      obtain ⟨z_58, r_59, hfc, hf⟩ := cal_some hf
                      have hFc := de_free hD hS hA
                      refine va_calli (va_runV (As := []) (rest := []) ⟨hx, hb, hml, hown, hts⟩ (de_X6_readOwnStructure l dC dI cy a sh n H.size F sk z_13 h0 hfc) (cwV 0 hts gX6_readInstruction_X6_readOwnStructure rfl rfl rfl (by decide +kernel) ⟨Nat.le_of_ble_eq_true rfl, Nat.le_of_ble_eq_true rfl⟩) ⟨fun a U g mk q => by obtain ⟨q0, q1, qP, qK, qD, qN, qS⟩ := q; exact ⟨q0, q1, qP, va_K.moved (u := U) (U := U.calling g mk a) (Vm.Alike.refl U.vm) qK, qD, qN.same rfl, SKs.moved (u := U) (U := U.calling g mk a) (Vm.Alike.refl U.vm) qS⟩, va_recv hK hP (ci := 6) (q0 := h0) rfl (Wd_ob kg_1 sg_1 (by decide)), fun U hU hW => ⟨rfl, by rw [hU], by rw [hU]; exact hP, va_K.moved hW.alike hK, hD.weaken (fun _ _ _ _ => trivial), hN.warm hW, by rw [hU]; exact ((hSK.kept hS.2.1).narrow hFc).moved hW.alike⟩⟩ rfl rfl hl.1 rfl (lv_room (Nat.le_of_ble_eq_true rfl)) dX6_readInstruction_221 ⟨Nat.le_of_ble_eq_true rfl, Nat.le_of_ble_eq_true rfl⟩) hS (fun q _ h => hFc q h) hFc (fun rr u t H_60 locs ht hvm hw hB hz1 hk1 hS2 => ?_)
                      rw [hw]
                      clear hw
                      obtain ⟨hP1, -, hD1⟩ := hB
                      rw [ht] at hP1
                      replace hD := hD1.weaken (fun _ _ _ h => hFc _ h)
                      replace hP := hP1
                      replace hS := hS2
                      clear hP1 hD1 hS2 hFc hfc hz1 hk1 hvm ht
                      refine lv_pop hx hb dX6_readInstruction_224 rfl ?_
                      refine lv_goto (tgt := 299) hx hb dX6_readInstruction_225 (by decide) ?_
                      obtain ⟨h8, h9⟩ := ret_some hf
                      rw [h8]
                      exact W.vret hx hb hr (fun t ht hW => ⟨⟨(), rfl, trivial, by rw [ht]; exact hP, va_K.moved hW.alike hK, hD⟩, hS.F ht⟩) hS.2.2 dX6_readInstruction_299
            · skip
              rw [if_pos c_27] at hf
              exact B173 (z_13) ls H locs ⟨lv_sub hl [1] rfl, hP, hD, hS⟩ hf
        refine lv_icmp_lt (tgt := 161) hx hb dX6_readInstruction_138 (by decide) (fun c_61 => ?_) (fun c_61 => ?_)
        · skip
          rw [if_pos c_61] at hf
          exact B161 (z_12) ls H locs ⟨lv_sub hl [0, 1] rfl, hP, hD, hS⟩ hf
        · skip
          rw [if_neg c_61] at hf
          refine lv_iload_n hx hb dX6_readInstruction_141 rfl (lv_at hl 0 rfl) ?_
          refine lv_bipush (v := 15) hx hb dX6_readInstruction_142 (by decide) ?_
          refine lv_icmp_gt (tgt := 161) hx hb dX6_readInstruction_144 (by decide) (fun c_62 => ?_) (fun c_62 => ?_)
          · skip
            rw [if_pos c_62] at hf
            exact B161 (z_12) ls H locs ⟨lv_sub hl [0, 1] rfl, hP, hD, hS⟩ hf
          · skip
            rw [if_neg c_62] at hf
            refine lv_aload_n hx hb dX6_readInstruction_147 rfl (lv_at hl 1 rfl) ?_
            refine lv_aload_n hx hb dX6_readInstruction_148 rfl (lv_at hl 1 rfl) ?_
            refine va_get (D := (dC, dI)) (ci := 6) (v := .int (z_12.1 h0 6)) (C := RX6) (T := TX6) (N := 9) hx hb hts iwd_X6_readInstruction_X6 hown hK hP h0 (Wd_ob kg_1 sg_1 (by decide)) rfl 6 (by decide) (hts _ md_X6_readInstruction_5) (fun _ h9 => h9) (fl_at (t := 0) rfl) dX6_readInstruction_149 ?_
            refine lv_bipush (v := 10) hx hb dX6_readInstruction_152 (by decide) ?_
            obtain ⟨z_63, r_64, hfc, hf⟩ := cal_some hf
            have hFc := de_free hD hS hA
            refine va_calli (va_runV (As := [.int (z_12.1 h0 6), .int 10]) (rest := []) ⟨hx, hb, hml, hown, hts⟩ (de_X6_readJudged l dC dI cy a sh n H.size F sk z_12 h0 (z_12.1 h0 6) 10 hfc) (cwV 2 hts gX6_readInstruction_X6_readJudged rfl rfl rfl (by decide +kernel) ⟨Nat.le_of_ble_eq_true rfl, Nat.le_of_ble_eq_true rfl⟩) ⟨fun a U g mk q => by obtain ⟨q0, q1, qP, qK, qD, qN, qS⟩ := q; exact ⟨q0, q1, qP, va_K.moved (u := U) (U := U.calling g mk a) (Vm.Alike.refl U.vm) qK, qD, qN.same rfl, SKs.moved (u := U) (U := U.calling g mk a) (Vm.Alike.refl U.vm) qS⟩, va_recv hK hP (ci := 6) (q0 := h0) rfl (Wd_ob kg_1 sg_1 (by decide)), fun U hU hW => ⟨rfl, by rw [hU], by rw [hU]; exact hP, va_K.moved hW.alike hK, hD.weaken (fun _ _ _ _ => trivial), hN.warm hW, by rw [hU]; exact ((hSK.kept hS.2.1).narrow hFc).moved hW.alike⟩⟩ rfl rfl hl.1 rfl (lv_room (Nat.le_of_ble_eq_true rfl)) dX6_readInstruction_154 ⟨Nat.le_of_ble_eq_true rfl, Nat.le_of_ble_eq_true rfl⟩) hS (fun q _ h => hFc q h) hFc (fun rr u t H_65 locs ht hvm hw hB hz1 hk1 hS2 => ?_)
            rw [hw]
            clear hw
            obtain ⟨hP1, -, hD1⟩ := hB
            rw [ht] at hP1
            replace hD := hD1.weaken (fun _ _ _ h => hFc _ h)
            replace hP := hP1
            replace hS := hS2
            clear hP1 hD1 hS2 hFc hfc hz1 hk1 hvm ht
            refine lv_pop hx hb dX6_readInstruction_157 rfl ?_
            refine lv_goto (tgt := 299) hx hb dX6_readInstruction_158 (by decide) ?_
            obtain ⟨h8, h9⟩ := ret_some hf
            rw [h8]
            exact W.vret hx hb hr (fun t ht hW => ⟨⟨(), rfl, trivial, by rw [ht]; exact hP, va_K.moved hW.alike hK, hD⟩, hS.F ht⟩) hS.2.2 dX6_readInstruction_299
      refine lv_icmp_lt (tgt := 135) hx hb dX6_readInstruction_81 (by decide) (fun c_66 => ?_) (fun c_66 => ?_)
      · skip
        rw [if_pos c_66] at hf
        exact B135 (z_11) ls H locs ⟨lv_sub hl [0, 1] rfl, hP, hD, hS⟩ hf
      · skip
        rw [if_neg c_66] at hf
        refine lv_iload_n hx hb dX6_readInstruction_84 rfl (lv_at hl 0 rfl) ?_
        refine lv_bipush (v := 10) hx hb dX6_readInstruction_85 (by decide) ?_
        refine lv_icmp_gt (tgt := 135) hx hb dX6_readInstruction_87 (by decide) (fun c_67 => ?_) (fun c_67 => ?_)
        · skip
          rw [if_pos c_67] at hf
          exact B135 (z_11) ls H locs ⟨lv_sub hl [0, 1] rfl, hP, hD, hS⟩ hf
        · skip
          rw [if_neg c_67] at hf
          refine lv_aload_n hx hb dX6_readInstruction_90 rfl (lv_at hl 1 rfl) ?_
          refine lv_iload_n hx hb dX6_readInstruction_91 rfl (lv_at hl 0 rfl) ?_
          refine lv_iconst (v := 5) hx hb dX6_readInstruction_92 (by decide) ?_
          refine lv_icmp_ne (tgt := 100) hx hb dX6_readInstruction_93 (by decide) (fun c_68 => ?_) (fun c_68 => ?_)
          · skip
            rw [if_neg c_68] at hf
            refine lv_iload_n hx hb dX6_readInstruction_100 rfl (lv_at hl 0 rfl) ?_
            refine lv_bipush (v := 7) hx hb dX6_readInstruction_101 (by decide) ?_
            refine lv_icmp_ne (tgt := 111) hx hb dX6_readInstruction_103 (by decide) (fun c_69 => ?_) (fun c_69 => ?_)
            · skip
              rw [if_neg c_69] at hf
              refine lv_iload_n hx hb dX6_readInstruction_111 rfl (lv_at hl 0 rfl) ?_
              refine lv_bipush (v := 6) hx hb dX6_readInstruction_112 (by decide) ?_
              refine lv_icmp_eq (tgt := 123) hx hb dX6_readInstruction_114 (by decide) (fun c_70 => ?_) (fun c_70 => ?_)
              · skip
                rw [if_pos c_70] at hf
                refine lv_bipush (v := 8) hx hb dX6_readInstruction_123 (by decide) ?_
                refine lv_goto (tgt := 129) hx hb dX6_readInstruction_125 (by decide) ?_
                obtain ⟨z_71, _u, hfc, hf⟩ := cal_some hf
                have hFc := de_free hD hS hA
                refine va_callv (va_runV (As := [.int 8]) (rest := []) ⟨hx, hb, hml, hown, hts⟩ (de_X6_pass l dC dI cy a sh n H.size F sk z_11 h0 8 hfc) (cwV 1 hts gX6_readInstruction_X6_pass rfl rfl rfl (by decide +kernel) ⟨Nat.le_of_ble_eq_true rfl, Nat.le_of_ble_eq_true rfl⟩) ⟨fun a U g mk q => by obtain ⟨q0, q1, qP, qK, qD, qN, qS⟩ := q; exact ⟨q0, q1, qP, va_K.moved (u := U) (U := U.calling g mk a) (Vm.Alike.refl U.vm) qK, qD, qN.same rfl, SKs.moved (u := U) (U := U.calling g mk a) (Vm.Alike.refl U.vm) qS⟩, va_recv hK hP (ci := 6) (q0 := h0) rfl (Wd_ob kg_1 sg_1 (by decide)), fun U hU hW => ⟨rfl, by rw [hU], by rw [hU]; exact hP, va_K.moved hW.alike hK, hD.weaken (fun _ _ _ _ => trivial), hN.warm hW, by rw [hU]; exact ((hSK.kept hS.2.1).narrow hFc).moved hW.alike⟩⟩ rfl rfl hl.1 rfl (lv_room (Nat.le_of_ble_eq_true rfl)) dX6_readInstruction_129 ⟨Nat.le_of_ble_eq_true rfl, Nat.le_of_ble_eq_true rfl⟩) hS (fun q _ h => hFc q h) hFc (fun u t H_72 locs ht hvm hw hB hz1 hk1 hS2 => ?_)
                obtain ⟨hP1, -, hD1⟩ := hB
                rw [ht] at hP1
                replace hD := hD1.weaken (fun _ _ _ h => hFc _ h)
                replace hP := hP1
                replace hS := hS2
                clear hP1 hD1 hS2 hFc hfc hz1 hk1 hvm ht
                refine lv_goto (tgt := 299) hx hb dX6_readInstruction_132 (by decide) ?_
                obtain ⟨h8, h9⟩ := ret_some hf
                rw [h8]
                exact W.vret hx hb hr (fun t ht hW => ⟨⟨(), rfl, trivial, by rw [ht]; exact hP, va_K.moved hW.alike hK, hD⟩, hS.F ht⟩) hS.2.2 dX6_readInstruction_299
              · skip
                rw [if_neg c_70] at hf
                refine lv_iload_n hx hb dX6_readInstruction_117 rfl (lv_at hl 0 rfl) ?_
                refine lv_bipush (v := 10) hx hb dX6_readInstruction_118 (by decide) ?_
                refine lv_icmp_ne (tgt := 128) hx hb dX6_readInstruction_120 (by decide) (fun c_73 => ?_) (fun c_73 => ?_)
                · skip
                  rw [if_neg c_73] at hf
                  refine lv_iconst (v := 0) hx hb dX6_readInstruction_128 (by decide) ?_
                  obtain ⟨z_74, _u, hfc, hf⟩ := cal_some hf
                  have hFc := de_free hD hS hA
                  refine va_callv (va_runV (As := [.int 0]) (rest := []) ⟨hx, hb, hml, hown, hts⟩ (de_X6_pass l dC dI cy a sh n H.size F sk z_11 h0 0 hfc) (cwV 1 hts gX6_readInstruction_X6_pass rfl rfl rfl (by decide +kernel) ⟨Nat.le_of_ble_eq_true rfl, Nat.le_of_ble_eq_true rfl⟩) ⟨fun a U g mk q => by obtain ⟨q0, q1, qP, qK, qD, qN, qS⟩ := q; exact ⟨q0, q1, qP, va_K.moved (u := U) (U := U.calling g mk a) (Vm.Alike.refl U.vm) qK, qD, qN.same rfl, SKs.moved (u := U) (U := U.calling g mk a) (Vm.Alike.refl U.vm) qS⟩, va_recv hK hP (ci := 6) (q0 := h0) rfl (Wd_ob kg_1 sg_1 (by decide)), fun U hU hW => ⟨rfl, by rw [hU], by rw [hU]; exact hP, va_K.moved hW.alike hK, hD.weaken (fun _ _ _ _ => trivial), hN.warm hW, by rw [hU]; exact ((hSK.kept hS.2.1).narrow hFc).moved hW.alike⟩⟩ rfl rfl hl.1 rfl (lv_room (Nat.le_of_ble_eq_true rfl)) dX6_readInstruction_129 ⟨Nat.le_of_ble_eq_true rfl, Nat.le_of_ble_eq_true rfl⟩) hS (fun q _ h => hFc q h) hFc (fun u t H_75 locs ht hvm hw hB hz1 hk1 hS2 => ?_)
                  obtain ⟨hP1, -, hD1⟩ := hB
                  rw [ht] at hP1
                  replace hD := hD1.weaken (fun _ _ _ h => hFc _ h)
                  replace hP := hP1
                  replace hS := hS2
                  clear hP1 hD1 hS2 hFc hfc hz1 hk1 hvm ht
                  refine lv_goto (tgt := 299) hx hb dX6_readInstruction_132 (by decide) ?_
                  obtain ⟨h8, h9⟩ := ret_some hf
                  rw [h8]
                  exact W.vret hx hb hr (fun t ht hW => ⟨⟨(), rfl, trivial, by rw [ht]; exact hP, va_K.moved hW.alike hK, hD⟩, hS.F ht⟩) hS.2.2 dX6_readInstruction_299
                · skip
                  rw [if_pos c_73] at hf
                  refine lv_bipush (v := 8) hx hb dX6_readInstruction_123 (by decide) ?_
                  refine lv_goto (tgt := 129) hx hb dX6_readInstruction_125 (by decide) ?_
                  obtain ⟨z_76, _u, hfc, hf⟩ := cal_some hf
                  have hFc := de_free hD hS hA
                  refine va_callv (va_runV (As := [.int 8]) (rest := []) ⟨hx, hb, hml, hown, hts⟩ (de_X6_pass l dC dI cy a sh n H.size F sk z_11 h0 8 hfc) (cwV 1 hts gX6_readInstruction_X6_pass rfl rfl rfl (by decide +kernel) ⟨Nat.le_of_ble_eq_true rfl, Nat.le_of_ble_eq_true rfl⟩) ⟨fun a U g mk q => by obtain ⟨q0, q1, qP, qK, qD, qN, qS⟩ := q; exact ⟨q0, q1, qP, va_K.moved (u := U) (U := U.calling g mk a) (Vm.Alike.refl U.vm) qK, qD, qN.same rfl, SKs.moved (u := U) (U := U.calling g mk a) (Vm.Alike.refl U.vm) qS⟩, va_recv hK hP (ci := 6) (q0 := h0) rfl (Wd_ob kg_1 sg_1 (by decide)), fun U hU hW => ⟨rfl, by rw [hU], by rw [hU]; exact hP, va_K.moved hW.alike hK, hD.weaken (fun _ _ _ _ => trivial), hN.warm hW, by rw [hU]; exact ((hSK.kept hS.2.1).narrow hFc).moved hW.alike⟩⟩ rfl rfl hl.1 rfl (lv_room (Nat.le_of_ble_eq_true rfl)) dX6_readInstruction_129 ⟨Nat.le_of_ble_eq_true rfl, Nat.le_of_ble_eq_true rfl⟩) hS (fun q _ h => hFc q h) hFc (fun u t H_77 locs ht hvm hw hB hz1 hk1 hS2 => ?_)
                  obtain ⟨hP1, -, hD1⟩ := hB
                  rw [ht] at hP1
                  replace hD := hD1.weaken (fun _ _ _ h => hFc _ h)
                  replace hP := hP1
                  replace hS := hS2
                  clear hP1 hD1 hS2 hFc hfc hz1 hk1 hvm ht
                  refine lv_goto (tgt := 299) hx hb dX6_readInstruction_132 (by decide) ?_
                  obtain ⟨h8, h9⟩ := ret_some hf
                  rw [h8]
                  exact W.vret hx hb hr (fun t ht hW => ⟨⟨(), rfl, trivial, by rw [ht]; exact hP, va_K.moved hW.alike hK, hD⟩, hS.F ht⟩) hS.2.2 dX6_readInstruction_299
            · skip
              rw [if_pos c_69] at hf
              refine lv_bipush (v := 16) hx hb dX6_readInstruction_106 (by decide) ?_
              refine lv_goto (tgt := 129) hx hb dX6_readInstruction_108 (by decide) ?_
              obtain ⟨z_78, _u, hfc, hf⟩ := cal_some hf
              have hFc := de_free hD hS hA
              refine va_callv (va_runV (As := [.int 16]) (rest := []) ⟨hx, hb, hml, hown, hts⟩ (de_X6_pass l dC dI cy a sh n H.size F sk z_11 h0 16 hfc) (cwV 1 hts gX6_readInstruction_X6_pass rfl rfl rfl (by decide +kernel) ⟨Nat.le_of_ble_eq_true rfl, Nat.le_of_ble_eq_true rfl⟩) ⟨fun a U g mk q => by obtain ⟨q0, q1, qP, qK, qD, qN, qS⟩ := q; exact ⟨q0, q1, qP, va_K.moved (u := U) (U := U.calling g mk a) (Vm.Alike.refl U.vm) qK, qD, qN.same rfl, SKs.moved (u := U) (U := U.calling g mk a) (Vm.Alike.refl U.vm) qS⟩, va_recv hK hP (ci := 6) (q0 := h0) rfl (Wd_ob kg_1 sg_1 (by decide)), fun U hU hW => ⟨rfl, by rw [hU], by rw [hU]; exact hP, va_K.moved hW.alike hK, hD.weaken (fun _ _ _ _ => trivial), hN.warm hW, by rw [hU]; exact ((hSK.kept hS.2.1).narrow hFc).moved hW.alike⟩⟩ rfl rfl hl.1 rfl (lv_room (Nat.le_of_ble_eq_true rfl)) dX6_readInstruction_129 ⟨Nat.le_of_ble_eq_true rfl, Nat.le_of_ble_eq_true rfl⟩) hS (fun q _ h => hFc q h) hFc (fun u t H_79 locs ht hvm hw hB hz1 hk1 hS2 => ?_)
              obtain ⟨hP1, -, hD1⟩ := hB
              rw [ht] at hP1
              replace hD := hD1.weaken (fun _ _ _ h => hFc _ h)
              replace hP := hP1
              replace hS := hS2
              clear hP1 hD1 hS2 hFc hfc hz1 hk1 hvm ht
              refine lv_goto (tgt := 299) hx hb dX6_readInstruction_132 (by decide) ?_
              obtain ⟨h8, h9⟩ := ret_some hf
              rw [h8]
              exact W.vret hx hb hr (fun t ht hW => ⟨⟨(), rfl, trivial, by rw [ht]; exact hP, va_K.moved hW.alike hK, hD⟩, hS.F ht⟩) hS.2.2 dX6_readInstruction_299
          · skip
            rw [if_pos c_68] at hf
            refine lv_iconst (v := 1) hx hb dX6_readInstruction_96 (by decide) ?_
            refine lv_goto (tgt := 129) hx hb dX6_readInstruction_97 (by decide) ?_
            obtain ⟨z_80, _u, hfc, hf⟩ := cal_some hf
            have hFc := de_free hD hS hA
            refine va_callv (va_runV (As := [.int 1]) (rest := []) ⟨hx, hb, hml, hown, hts⟩ (de_X6_pass l dC dI cy a sh n H.size F sk z_11 h0 1 hfc) (cwV 1 hts gX6_readInstruction_X6_pass rfl rfl rfl (by decide +kernel) ⟨Nat.le_of_ble_eq_true rfl, Nat.le_of_ble_eq_true rfl⟩) ⟨fun a U g mk q => by obtain ⟨q0, q1, qP, qK, qD, qN, qS⟩ := q; exact ⟨q0, q1, qP, va_K.moved (u := U) (U := U.calling g mk a) (Vm.Alike.refl U.vm) qK, qD, qN.same rfl, SKs.moved (u := U) (U := U.calling g mk a) (Vm.Alike.refl U.vm) qS⟩, va_recv hK hP (ci := 6) (q0 := h0) rfl (Wd_ob kg_1 sg_1 (by decide)), fun U hU hW => ⟨rfl, by rw [hU], by rw [hU]; exact hP, va_K.moved hW.alike hK, hD.weaken (fun _ _ _ _ => trivial), hN.warm hW, by rw [hU]; exact ((hSK.kept hS.2.1).narrow hFc).moved hW.alike⟩⟩ rfl rfl hl.1 rfl (lv_room (Nat.le_of_ble_eq_true rfl)) dX6_readInstruction_129 ⟨Nat.le_of_ble_eq_true rfl, Nat.le_of_ble_eq_true rfl⟩) hS (fun q _ h => hFc q h) hFc (fun u t H_81 locs ht hvm hw hB hz1 hk1 hS2 => ?_)
            obtain ⟨hP1, -, hD1⟩ := hB
            rw [ht] at hP1
            replace hD := hD1.weaken (fun _ _ _ h => hFc _ h)
            replace hP := hP1
            replace hS := hS2
            clear hP1 hD1 hS2 hFc hfc hz1 hk1 hvm ht
            refine lv_goto (tgt := 299) hx hb dX6_readInstruction_132 (by decide) ?_
            obtain ⟨h8, h9⟩ := ret_some hf
            rw [h8]
            exact W.vret hx hb hr (fun t ht hW => ⟨⟨(), rfl, trivial, by rw [ht]; exact hP, va_K.moved hW.alike hK, hD⟩, hS.F ht⟩) hS.2.2 dX6_readInstruction_299
    refine lv_icmp_lt (tgt := 79) hx hb dX6_readInstruction_38 (by decide) (fun c_82 => ?_) (fun c_82 => ?_)
    · skip
      rw [if_pos c_82] at hf
      exact B79 (z_7) ls H_9 locs ⟨lv_sub hl [0, 2] rfl, hP, hD, hS⟩ hf
    · skip
      rw [if_neg c_82] at hf
      refine lv_iload_n hx hb dX6_readInstruction_41 rfl (lv_at hl 0 rfl) ?_
      refine lv_iconst (v := 4) hx hb dX6_readInstruction_42 (by decide) ?_
      refine lv_icmp_gt (tgt := 79) hx hb dX6_readInstruction_43 (by decide) (fun c_83 => ?_) (fun c_83 => ?_)
      · skip
        rw [if_pos c_83] at hf
        exact B79 (z_7) ls H_9 locs ⟨lv_sub hl [0, 2] rfl, hP, hD, hS⟩ hf
      · skip
        rw [if_neg c_83] at hf
        refine lv_aload_n hx hb dX6_readInstruction_46 rfl (lv_at hl 2 rfl) ?_
        refine va_get (D := (dC, dI)) (ci := 6) (v := .int (z_7.1 h0 3)) (C := RX6) (T := TX6) (N := 9) hx hb hts iwd_X6_readInstruction_X6 hown hK hP h0 (Wd_ob kg_1 sg_1 (by decide)) rfl 3 (by decide) (hts _ md_X6_readInstruction_2) (fun _ h9 => h9) (fl_at (t := 0) rfl) dX6_readInstruction_47 ?_
        refine lv_topi (fun v_84 ev_84 => ?_)
        replace hf := lt_at ev_84 hf
        clear ev_84
        refine lv_istore_n (lv' := [(1, .int v_84), (2, .int r_8), (0, .ref (a h0))]) hx hb dX6_readInstruction_50 rfl hl (by decide) rfl (fun ls hl2 => ?_)
        replace hl := hl2
        clear hl2
        refine lv_aload_n hx hb dX6_readInstruction_51 rfl (lv_at hl 2 rfl) ?_
        obtain ⟨z_85, r_86, hfc, hf⟩ := cal_some hf
        have hFc := de_free hD hS hA
        refine va_calli (va_runV (As := []) (rest := []) ⟨hx, hb, hml, hown, hts⟩ (de_X6_readShort l dC dI cy a sh n H_9.size F sk z_7 h0 hfc) (cwV 0 hts gX6_readInstruction_X6_readShort rfl rfl rfl (by decide +kernel) ⟨Nat.le_of_ble_eq_true rfl, Nat.le_of_ble_eq_true rfl⟩) ⟨fun a U g mk q => by obtain ⟨q0, q1, qP, qK, qD, qN, qS⟩ := q; exact ⟨q0, q1, qP, va_K.moved (u := U) (U := U.calling g mk a) (Vm.Alike.refl U.vm) qK, qD, qN.same rfl, SKs.moved (u := U) (U := U.calling g mk a) (Vm.Alike.refl U.vm) qS⟩, va_recv hK hP (ci := 6) (q0 := h0) rfl (Wd_ob kg_1 sg_1 (by decide)), fun U hU hW => ⟨rfl, by rw [hU], by rw [hU]; exact hP, va_K.moved hW.alike hK, hD.weaken (fun _ _ _ _ => trivial), hN.warm hW, by rw [hU]; exact ((hSK.kept hS.2.1).narrow hFc).moved hW.alike⟩⟩ rfl rfl hl.1 rfl (lv_room (Nat.le_of_ble_eq_true rfl)) dX6_readInstruction_52 ⟨Nat.le_of_ble_eq_true rfl, Nat.le_of_ble_eq_true rfl⟩) hS (fun q _ h => hFc q h) hFc (fun rr u t H_87 locs ht hvm hw hB hz1 hk1 hS2 => ?_)
        rw [hw]
        clear hw
        obtain ⟨hP1, -, hD1⟩ := hB
        rw [ht] at hP1
        replace hD := hD1.weaken (fun _ _ _ h => hFc _ h)
        replace hP := hP1
        replace hS := hS2
        clear hP1 hD1 hS2 hFc hfc hz1 hk1 hvm ht
        refine lv_aload_n hx hb dX6_readInstruction_55 rfl (lv_at hl 2 rfl) ?_
        refine va_get (D := (dC, dI)) (ci := 6) (v := .int (z_85.1 h0 7)) (C := RX6) (T := TX6) (N := 9) hx hb hts iwd_X6_readInstruction_X6 hown hK hP h0 (Wd_ob kg_1 sg_1 (by decide)) rfl 7 (by decide) (hts _ md_X6_readInstruction_3) (fun _ h9 => h9) (fl_at (t := 0) rfl) dX6_readInstruction_56 ?_
        refine lv_icmp_lt (tgt := 299) hx hb dX6_readInstruction_59 (by decide) (fun c_88 => ?_) (fun c_88 => ?_)
        · skip
          rw [if_pos c_88] at hf
          obtain ⟨h8, h9⟩ := ret_some hf
          rw [h8]
          exact W.vret hx hb hr (fun t ht hW => ⟨⟨(), rfl, trivial, by rw [ht]; exact hP, va_K.moved hW.alike hK, hD⟩, hS.F ht⟩) hS.2.2 dX6_readInstruction_299
        · skip
          rw [if_neg c_88] at hf
          refine lv_aload_n hx hb dX6_readInstruction_62 rfl (lv_at hl 2 rfl) ?_
          refine va_get (D := (dC, dI)) (ci := 6) (v := .int (z_85.1 h0 4)) (C := RX6) (T := TX6) (N := 9) hx hb hts iwd_X6_readInstruction_X6 hown hK hP h0 (Wd_ob kg_1 sg_1 (by decide)) rfl 4 (by decide) (hts _ md_X6_readInstruction_4) (fun _ h9 => h9) (fl_at (t := 0) rfl) dX6_readInstruction_63 ?_
          refine lv_if_eq (tgt := 299) hx hb dX6_readInstruction_66 (by decide) (fun c_89 => ?_) (fun c_89 => ?_)
          · skip
            rw [if_pos c_89] at hf
            obtain ⟨h8, h9⟩ := ret_some hf
            rw [h8]
            exact W.vret hx hb hr (fun t ht hW => ⟨⟨(), rfl, trivial, by rw [ht]; exact hP, va_K.moved hW.alike hK, hD⟩, hS.F ht⟩) hS.2.2 dX6_readInstruction_299
          · skip
            rw [if_neg c_89] at hf
            refine lv_aload_n hx hb dX6_readInstruction_69 rfl (lv_at hl 2 rfl) ?_
            refine lv_bipush (v := 13) hx hb dX6_readInstruction_70 (by decide) ?_
            refine lv_iload_n hx hb dX6_readInstruction_72 rfl (lv_at hl 0 rfl) ?_
            obtain ⟨z_90, _u, hfc, hf⟩ := cal_some hf
            have hFc := de_free hD hS hA
            refine va_callv (va_runV (As := [.int 13, .int v_84]) (rest := []) ⟨hx, hb, hml, hown, hts⟩ (de_X6_fail l dC dI cy a sh n H_87.size F z_85 h0 13 v_84 hfc) (cwV 2 hts gX6_readInstruction_X6_fail rfl rfl rfl (by decide +kernel) ⟨Nat.le_of_ble_eq_true rfl, Nat.le_of_ble_eq_true rfl⟩) ⟨fun a U g mk q => by obtain ⟨q0, q1, qP, qK, qD, qN⟩ := q; exact ⟨q0, q1, qP, va_K.moved (u := U) (U := U.calling g mk a) (Vm.Alike.refl U.vm) qK, qD, qN.same rfl⟩, va_recv hK hP (ci := 6) (q0 := h0) rfl (Wd_ob kg_1 sg_1 (by decide)), fun U hU hW => ⟨rfl, by rw [hU], by rw [hU]; exact hP, va_K.moved hW.alike hK, hD.weaken (fun _ _ _ _ => trivial), hN.warm hW⟩⟩ rfl rfl hl.1 rfl (lv_room (Nat.le_of_ble_eq_true rfl)) dX6_readInstruction_73 ⟨Nat.le_of_ble_eq_true rfl, Nat.le_of_ble_eq_true rfl⟩) hS (fun q _ h => hFc q h) hFc (fun u t H_91 locs ht hvm hw hB hz1 hk1 hS2 => ?_)
            obtain ⟨hP1, -, hD1⟩ := hB
            rw [ht] at hP1
            replace hD := hD1.weaken (fun _ _ _ h => hFc _ h)
            replace hP := hP1
            replace hS := hS2
            clear hP1 hD1 hS2 hFc hfc hz1 hk1 hvm ht
            refine lv_goto (tgt := 299) hx hb dX6_readInstruction_76 (by decide) ?_
            obtain ⟨h8, h9⟩ := ret_some hf
            rw [h8]
            exact W.vret hx hb hr (fun t ht hW => ⟨⟨(), rfl, trivial, by rw [ht]; exact hP, va_K.moved hW.alike hK, hD⟩, hS.F ht⟩) hS.2.2 dX6_readInstruction_299
  · skip
    rw [if_neg c_10] at hf
    refine lv_aload_n hx hb dX6_readInstruction_27 rfl (lv_at hl 2 rfl) ?_
    refine lv_iconst (v := 5) hx hb dX6_readInstruction_28 (by decide) ?_
    refine lv_iload_n hx hb dX6_readInstruction_29 rfl (lv_at hl 1 rfl) ?_
    obtain ⟨z_92, _u, hfc, hf⟩ := cal_some hf
    have hFc := de_free hD hS hA
    refine va_callv (va_runV (As := [.int 5, .int v_6]) (rest := []) ⟨hx, hb, hml, hown, hts⟩ (de_X6_fail l dC dI cy a sh n H_9.size F z_7 h0 5 v_6 hfc) (cwV 2 hts gX6_readInstruction_X6_fail rfl rfl rfl (by decide +kernel) ⟨Nat.le_of_ble_eq_true rfl, Nat.le_of_ble_eq_true rfl⟩) ⟨fun a U g mk q => by obtain ⟨q0, q1, qP, qK, qD, qN⟩ := q; exact ⟨q0, q1, qP, va_K.moved (u := U) (U := U.calling g mk a) (Vm.Alike.refl U.vm) qK, qD, qN.same rfl⟩, va_recv hK hP (ci := 6) (q0 := h0) rfl (Wd_ob kg_1 sg_1 (by decide)), fun U hU hW => ⟨rfl, by rw [hU], by rw [hU]; exact hP, va_K.moved hW.alike hK, hD.weaken (fun _ _ _ _ => trivial), hN.warm hW⟩⟩ rfl rfl hl.1 rfl (lv_room (Nat.le_of_ble_eq_true rfl)) dX6_readInstruction_30 ⟨Nat.le_of_ble_eq_true rfl, Nat.le_of_ble_eq_true rfl⟩) hS (fun q _ h => hFc q h) hFc (fun u t H_93 locs ht hvm hw hB hz1 hk1 hS2 => ?_)
    obtain ⟨hP1, -, hD1⟩ := hB
    rw [ht] at hP1
    replace hD := hD1.weaken (fun _ _ _ h => hFc _ h)
    replace hP := hP1
    replace hS := hS2
    clear hP1 hD1 hS2 hFc hfc hz1 hk1 hvm ht
    refine lv_goto (tgt := 299) hx hb dX6_readInstruction_33 (by decide) ?_
    obtain ⟨h8, h9⟩ := ret_some hf
    rw [h8]
    exact W.vret hx hb hr (fun t ht hW => ⟨⟨(), rfl, trivial, by rw [ht]; exact hP, va_K.moved hW.alike hK, hD⟩, hS.F ht⟩) hS.2.2 dX6_readInstruction_299

theorem md_X3_prepare_1 : (.fieldLink RX3 77 "ResourceLedger$Looker" "function" "I" : Cond) ∈ wsX3_prepare := List.mem_of_getElem? (i := 1) rfl
theorem iwd_X3_prepare_X3 : ∀ w ∈ wsX30, w ∈ wsX3_prepare := fun _ h => List.mem_cons_of_mem _ (List.mem_append_left _ (List.mem_append_right _ h))
theorem md_X3_prepare_2 : (.fieldLink RX3 44 "ResourceLedger$Looker" "p" "LResourceLedger$Program;" : Cond) ∈ wsX3_prepare := List.mem_of_getElem? (i := 2) rfl
theorem md_X3_prepare_3 : (.methodLink RX3 80 Lib.Math.min.name : Cond) ∈ wsX3_prepare := List.mem_of_getElem? (i := 3) rfl
theorem md_X3_prepare_4 : (.static Lib.Math.min.name : Cond) ∈ wsX3_prepare := List.mem_of_getElem? (i := 4) rfl
theorem md_X3_prepare_5 : (.initialized "java/lang/Math" : Cond) ∈ wsX3_prepare := List.mem_of_getElem? (i := 5) rfl
theorem md_X3_prepare_6 : (.code Lib.Math.min.name Lib.Math.min.code 2 (some .int) : Cond) ∈ wsX3_prepare := List.mem_of_getElem? (i := 6) rfl
theorem md_X3_prepare_9 : (.fieldLink RX3 95 "ResourceLedger$Looker" "depth" "I" : Cond) ∈ wsX3_prepare := List.mem_of_getElem? (i := 9) rfl
theorem md_X3_prepare_10 : (.fieldLink RX3 98 "ResourceLedger$Looker" "inside" "J" : Cond) ∈ wsX3_prepare := List.mem_of_getElem? (i := 10) rfl
theorem md_X3_prepare_11 : (.fieldLink RX3 105 "ResourceLedger$Looker" "there" "J" : Cond) ∈ wsX3_prepare := List.mem_of_getElem? (i := 11) rfl
theorem md_X3_prepare_12 : (.fieldLink RX3 108 "ResourceLedger$Looker" "droppable" "J" : Cond) ∈ wsX3_prepare := List.mem_of_getElem? (i := 12) rfl
theorem md_X3_prepare_15 : (.fieldLink RX3 124 "ResourceLedger$Looker" "flowing" "Z" : Cond) ∈ wsX3_prepare := List.mem_of_getElem? (i := 15) rfl
theorem md_X3_prepare_7 : (.fieldLink RX3 28 "ResourceLedger$Looker" "target" "[Z" : Cond) ∈ wsX3_prepare := List.mem_of_getElem? (i := 7) rfl
theorem md_X3_prepare_13 : (.fieldLink RX3 22 "ResourceLedger$Looker" "localType" "[J" : Cond) ∈ wsX3_prepare := List.mem_of_getElem? (i := 13) rfl
theorem md_X3_prepare_14 : (.fieldLink RX3 25 "ResourceLedger$Looker" "localOrigins" "[J" : Cond) ∈ wsX3_prepare := List.mem_of_getElem? (i := 14) rfl
theorem md_X3_prepare_8 : (.fieldLink RX3 31 "ResourceLedger$Looker" "reached" "[Z" : Cond) ∈ wsX3_prepare := List.mem_of_getElem? (i := 8) rfl
set_option maxHeartbeats 4000000 in
set_option maxRecDepth 100000 in
theorem de_X3_prepare (l : Launch) (dC : Nat → ClassId) (dI : Nat → Nat → Nat) (cy : Nat → ClassId) (a : Nat → Nat) (sh : Nat → Nat × Nat) (n sz : Nat) (F : Nat) (sk : Nat → Nat) (z : St) (h0 : Nat) (x0 : Int32) {z8 : St} {r8 : Unit} (hf : fn_X3_prepare F sh n z h0 x0 = some (z8, r8)) : Met l yX3_prepare wsX3_prepare ({ frames := 3, cells := 0, slots := 0, locals := 66 }) (va_Pc [.ref (a h0), .int x0] (fun U => U.heap.size = sz ∧ va_P (dC, dI) vwCl (Wd cy a sh n z) U.heap ∧ va_K (dC, dI) vwCl (TYS cy) U ∧ va_D (fun _ => True) (Wd cy a sh n z) ∧ NK U ∧ SKs sk (a CBK) (va_A (Wd cy a sh n z) sz) U U.heap)) (va_Qv (fun u : Unit => True) (fun u t => va_P (dC, dI) vwCl (Wd cy a sh n z8) t.heap ∧ va_K (dC, dI) vwCl (TYS cy) t ∧ va_D (va_A (Wd cy a sh n z) sz) (Wd cy a sh n z8)) (va_A (Wd cy a sh n z) sz)) 0 0 (va_A (Wd cy a sh n z) sz) := by
  refine Met.ofW (cc := cX3_prepare) (maxL := 6) (ret := none) (by decide) rfl ?_
  intro p e s m args below meth c s₁ B hml hv
  obtain ⟨rfl, hsz, hP, hK, hD0, hN, hSK⟩ := hv
  have hx := B.exec
  have hb := B.bytes
  have hr := B.returns
  have hts := atoms_spec (ws := wsX3_prepare) B.pre
  have hown : s.vm.findClass RX3 = some m.cls := findClass_of_methodNamed B.named
  have hlocks := B.notSynchronized
  subst hsz
  have hD := hD0.self (sz := s.heap.size)
  clear hD0
  generalize hAe : va_A (Wd cy a sh n z) s.heap.size = A at hD hSK ⊢
  have hA : ∀ q : Nat, s.heap.size ≤ q → A q := fun q h => by rw [← hAe]; exact Or.inr h
  clear hAe
  have hS : va_S A s.heap s.heap [] := va_S.rf
  have hl := lv_entry ([.ref (a h0), .int x0]) (n := 6) (Nat.le_of_ble_eq_true rfl)
  rw [lg_entry_eq]
  generalize (lg_sl ([.ref (a h0), .int x0]) ++ List.replicate (6 - (lg_sl ([.ref (a h0), .int x0])).length) Slot.unset).toArray = ls at hl ⊢
  replace hl : lv_has ls 6 [(0, .ref (a h0)), (1, .int x0)] := hl
  unfold fn_X3_prepare at hf
  refine de_start hS hP (fun H locs hS hP => ?_)
  refine lv_aload_n hx hb dX3_prepare_0 rfl (lv_at hl 0 rfl) ?_
  refine lv_iload_n hx hb dX3_prepare_1 rfl (lv_at hl 1 rfl) ?_
  obtain ⟨g_1, hf⟩ := grd_some hf
  obtain ⟨kg_1, sg_1⟩ := okO_at g_1
  refine va_put (D := (dC, dI)) (ci := 3) (v := .int x0) (ty := .int) (C := RX3) (T := TX3) (N := 22) hx hb hts iwd_X3_prepare_X3 tyX3 tyX3_ok nmX3 hown hK hP hD hS h0 (Wd_ob kg_1 sg_1 (by decide)) rfl 3 (by decide) (hts _ md_X3_prepare_1) (fun _ h9 => h9) rfl (by decide +kernel) rfl rfl (by rw [fl_len]; decide) dX3_prepare_2 (fun H_2 locs hP2 hD2 hS2 => ?_)
  rw [Wd_si sg_1 (by decide) rfl] at hP2 hD2
  obtain ⟨z_3, ez_3⟩ : ∃ w, w = si z h0 3 x0 := ⟨_, rfl⟩
  rw [← ez_3] at hP2 hD2
  replace hf := lt_at ez_3 hf
  clear ez_3
  replace hP := hP2
  replace hD := hD2
  replace hS := hS2
  clear hP2 hD2 hS2
  refine lv_aload_n hx hb dX3_prepare_5 rfl (lv_at hl 0 rfl) ?_
  obtain ⟨k_4, ek_4, hf⟩ := lnk_some hf
  refine va_get (D := (dC, dI)) (ci := 3) (v := .ref (a k_4)) (C := RX3) (T := TX3) (N := 22) hx hb hts iwd_X3_prepare_X3 hown hK hP h0 (Wd_ob kg_1 sg_1 (by decide)) rfl 2 (by decide) (hts _ md_X3_prepare_2) (fun _ h9 => h9) (fl_q rfl ek_4) dX3_prepare_6 ?_
  refine lv_iload_n hx hb dX3_prepare_9 rfl (lv_at hl 1 rfl) ?_
  obtain ⟨g_7, hf⟩ := grd_some hf
  obtain ⟨kg_7, sg_7⟩ := okO_at g_7
  obtain ⟨z_5, r_6, hfc, hf⟩ := cal_some hf
  have hFc := de_free hD hS hA
  refine va_calli (va_runV (As := [.int x0]) (rest := []) ⟨hx, hb, hml, hown, hts⟩ (de_X5_instructions l dC dI cy a sh n H_2.size F z_3 k_4 x0 hfc) (cwV 1 hts gX3_prepare_X5_instructions rfl rfl rfl (by decide +kernel) ⟨Nat.le_of_ble_eq_true rfl, Nat.le_of_ble_eq_true rfl⟩) ⟨fun a U g mk q => by obtain ⟨q0, q1, qP, qK, qD, qN⟩ := q; exact ⟨q0, q1, qP, va_K.moved (u := U) (U := U.calling g mk a) (Vm.Alike.refl U.vm) qK, qD, qN.same rfl⟩, va_recv hK hP (ci := 5) (q0 := k_4) rfl (Wd_ob kg_7 sg_7 (by decide)), fun U hU hW => ⟨rfl, by rw [hU], by rw [hU]; exact hP, va_K.moved hW.alike hK, hD.weaken (fun _ _ _ _ => trivial), hN.warm hW⟩⟩ rfl rfl hl.1 rfl (lv_room (Nat.le_of_ble_eq_true rfl)) dX3_prepare_10 ⟨Nat.le_of_ble_eq_true rfl, Nat.le_of_ble_eq_true rfl⟩) hS (fun q _ h => hFc q h) hFc (fun rr u t H_8 locs ht hvm hw hB hz1 hk1 hS2 => ?_)
  rw [hw]
  clear hw
  obtain ⟨hP1, -, hD1⟩ := hB
  rw [ht] at hP1
  replace hD := hD1.weaken (fun _ _ _ h => hFc _ h)
  replace hP := hP1
  replace hS := hS2
  clear hP1 hD1 hS2 hFc hfc hz1 hk1 hvm ht
  refine lv_sipush (v := 1024) hx hb dX3_prepare_13 (by decide) ?_
  refine va_mmin hx hb (hml.trans hl.1.symm) hown (hts _ md_X3_prepare_3) (hts _ md_X3_prepare_4) (hts _ md_X3_prepare_5) (hts _ md_X3_prepare_6) (Nat.le_of_ble_eq_true rfl) (Nat.le_of_ble_eq_true rfl) (Nat.le_of_ble_eq_true rfl) (Nat.le_of_ble_eq_true rfl) dX3_prepare_16 ?_
  refine lv_topi (fun v_9 ev_9 => ?_)
  replace hf := lt_at ev_9 hf
  clear ev_9
  refine lv_istore_n (lv' := [(2, .int v_9), (0, .ref (a h0)), (1, .int x0)]) hx hb dX3_prepare_19 rfl hl (by decide) rfl (fun ls hl2 => ?_)
  replace hl := hl2
  clear hl2
  refine lv_iconst (v := 0) hx hb dX3_prepare_20 (by decide) ?_
  refine lv_istore_n (lv' := [(3, .int 0), (2, .int v_9), (0, .ref (a h0)), (1, .int x0)]) hx hb dX3_prepare_21 rfl hl (by decide) rfl (fun ls hl2 => ?_)
  replace hl := hl2
  clear hl2
  have hl0 : lv_has ls 6 [(3, .int 0), (2, .int v_9), (0, .ref (a h0)), (1, .int x0)] := lv_sub hl [0, 1, 2, 3] rfl
  refine de_loop (h := 22) (fun (x : St × Int32) ls H locs => lv_has ls 6 [(3, .int x.2), (2, .int v_9), (0, .ref (a h0)), (1, .int x0)] ∧ va_P (dC, dI) vwCl (Wd cy a sh n x.1) H ∧ va_D A (Wd cy a sh n x.1) ∧ va_S A s.heap H locs) (fun f x => fn_X3_prepare_L22 F sh n v_9 h0 x0 f x.1 x.2) (z8, r8) ?_ (fun _ => rfl) F (z_5, 0) ls H_8 locs ⟨hl0, hP, hD, hS⟩ hf
  intro f_12 x ls H locs ih22 hI hf
  obtain ⟨z_11, p_10⟩ := x
  obtain ⟨hl2, hP2, hD2, hS2⟩ := hI
  replace hl : lv_has ls 6 [(3, .int p_10), (2, .int v_9), (0, .ref (a h0)), (1, .int x0)] := hl2
  replace hP := hP2
  replace hD := hD2
  replace hS := hS2
  clear hl2 hP2 hD2 hS2 hl0
  replace hf := fn_X3_prepare_L22_s hf
  refine lv_iload_n hx hb dX3_prepare_22 rfl (lv_at hl 0 rfl) ?_
  refine lv_iload_n hx hb dX3_prepare_23 rfl (lv_at hl 1 rfl) ?_
  refine lv_icmp_ge (tgt := 47) hx hb dX3_prepare_24 (by decide) (fun c_13 => ?_) (fun c_13 => ?_)
  · skip
    rw [if_pos c_13] at hf
    refine lv_iconst (v := 0) hx hb dX3_prepare_47 (by decide) ?_
    refine lv_istore_n (lv' := [(3, .int 0), (2, .int v_9), (0, .ref (a h0)), (1, .int x0)]) hx hb dX3_prepare_48 rfl hl (by decide) rfl (fun ls hl2 => ?_)
    replace hl := hl2
    clear hl2
    have hl0 : lv_has ls 6 [(3, .int 0), (2, .int v_9), (0, .ref (a h0)), (1, .int x0)] := lv_sub hl [0, 1, 2, 3] rfl
    refine de_loop (h := 49) (fun (x : St × Int32) ls H locs => lv_has ls 6 [(3, .int x.2), (2, .int v_9), (0, .ref (a h0)), (1, .int x0)] ∧ va_P (dC, dI) vwCl (Wd cy a sh n x.1) H ∧ va_D A (Wd cy a sh n x.1) ∧ va_S A s.heap H locs) (fun f x => fn_X3_prepare_L49 F sh n v_9 h0 x0 f x.1 x.2) (z8, r8) ?_ (fun _ => rfl) F (z_11, 0) ls H locs ⟨hl0, hP, hD, hS⟩ hf
    intro f_16 x ls H locs ih49 hI hf
    obtain ⟨z_15, p_14⟩ := x
    obtain ⟨hl2, hP2, hD2, hS2⟩ := hI
    replace hl : lv_has ls 6 [(3, .int p_14), (2, .int v_9), (0, .ref (a h0)), (1, .int x0)] := hl2
    replace hP := hP2
    replace hD := hD2
    replace hS := hS2
    clear hl2 hP2 hD2 hS2 hl0
    replace hf := fn_X3_prepare_L49_s hf
    refine lv_iload_n hx hb dX3_prepare_49 rfl (lv_at hl 0 rfl) ?_
    refine lv_iload_n hx hb dX3_prepare_50 rfl (lv_at hl 1 rfl) ?_
    refine lv_icmp_ge (tgt := 126) hx hb dX3_prepare_51 (by decide) (fun c_17 => ?_) (fun c_17 => ?_)
    · skip
      rw [if_pos c_17] at hf
      refine lv_aload_n hx hb dX3_prepare_126 rfl (lv_at hl 2 rfl) ?_
      refine lv_iconst (v := 0) hx hb dX3_prepare_127 (by decide) ?_
      refine va_put (D := (dC, dI)) (ci := 3) (v := .int 0) (ty := .int) (C := RX3) (T := TX3) (N := 22) hx hb hts iwd_X3_prepare_X3 tyX3 tyX3_ok nmX3 hown hK hP hD hS h0 (Wd_ob kg_1 sg_1 (by decide)) rfl 8 (by decide) (hts _ md_X3_prepare_9) (fun _ h9 => h9) rfl (by decide +kernel) rfl rfl (by rw [fl_len]; decide) dX3_prepare_128 (fun H_18 locs hP2 hD2 hS2 => ?_)
      rw [Wd_si sg_1 (by decide) rfl] at hP2 hD2
      obtain ⟨z_19, ez_19⟩ : ∃ w, w = si z_15 h0 8 0 := ⟨_, rfl⟩
      rw [← ez_19] at hP2 hD2
      replace hf := lt_at ez_19 hf
      clear ez_19
      replace hP := hP2
      replace hD := hD2
      replace hS := hS2
      clear hP2 hD2 hS2
      refine lv_aload_n hx hb dX3_prepare_131 rfl (lv_at hl 2 rfl) ?_
      refine lv_lconst (v := 0) hx hb dX3_prepare_132 (by decide) ?_
      refine va_put (D := (dC, dI)) (ci := 3) (v := .long 0) (ty := .long) (C := RX3) (T := TX3) (N := 22) hx hb hts iwd_X3_prepare_X3 tyX3 tyX3_ok nmX3 hown hK hP hD hS h0 (Wd_ob kg_1 sg_1 (by decide)) rfl 13 (by decide) (hts _ md_X3_prepare_10) (fun _ h9 => h9) rfl (by decide +kernel) rfl rfl (by rw [fl_len]; decide) dX3_prepare_133 (fun H_20 locs hP2 hD2 hS2 => ?_)
      rw [Wd_sl sg_1 (by decide) rfl] at hP2 hD2
      obtain ⟨z_21, ez_21⟩ : ∃ w, w = sl z_19 h0 13 0 := ⟨_, rfl⟩
      rw [← ez_21] at hP2 hD2
      replace hf := lt_at ez_21 hf
      clear ez_21
      replace hP := hP2
      replace hD := hD2
      replace hS := hS2
      clear hP2 hD2 hS2
      refine lv_aload_n hx hb dX3_prepare_136 rfl (lv_at hl 2 rfl) ?_
      refine lv_lconst (v := 1) hx hb dX3_prepare_137 (by decide) ?_
      refine lv_aload_n hx hb dX3_prepare_138 rfl (lv_at hl 2 rfl) ?_
      obtain ⟨k_22, ek_22, hf⟩ := lnk_some hf
      refine va_get (D := (dC, dI)) (ci := 3) (v := .ref (a k_22)) (C := RX3) (T := TX3) (N := 22) hx hb hts iwd_X3_prepare_X3 hown hK hP h0 (Wd_ob kg_1 sg_1 (by decide)) rfl 2 (by decide) (hts _ md_X3_prepare_2) (fun _ h9 => h9) (fl_q rfl ek_22) dX3_prepare_139 ?_
      refine lv_iload_n hx hb dX3_prepare_142 rfl (lv_at hl 3 rfl) ?_
      obtain ⟨g_25, hf⟩ := grd_some hf
      obtain ⟨kg_25, sg_25⟩ := okO_at g_25
      obtain ⟨z_23, r_24, hfc, hf⟩ := cal_some hf
      have hFc := de_free hD hS hA
      refine va_calli (va_runV (As := [.int x0]) (rest := [.long 1, .ref (a h0)]) ⟨hx, hb, hml, hown, hts⟩ (de_X5_takes l dC dI cy a sh n H_20.size F z_21 k_22 x0 hfc) (cwV 1 hts gX3_prepare_X5_takes rfl rfl rfl (by decide +kernel) ⟨Nat.le_of_ble_eq_true rfl, Nat.le_of_ble_eq_true rfl⟩) ⟨fun a U g mk q => by obtain ⟨q0, q1, qP, qK, qD, qN⟩ := q; exact ⟨q0, q1, qP, va_K.moved (u := U) (U := U.calling g mk a) (Vm.Alike.refl U.vm) qK, qD, qN.same rfl⟩, va_recv hK hP (ci := 5) (q0 := k_22) rfl (Wd_ob kg_25 sg_25 (by decide)), fun U hU hW => ⟨rfl, by rw [hU], by rw [hU]; exact hP, va_K.moved hW.alike hK, hD.weaken (fun _ _ _ _ => trivial), hN.warm hW⟩⟩ rfl rfl hl.1 rfl (lv_room (Nat.le_of_ble_eq_true rfl)) dX3_prepare_143 ⟨Nat.le_of_ble_eq_true rfl, Nat.le_of_ble_eq_true rfl⟩) hS (fun q _ h => hFc q h) hFc (fun rr u t H_26 locs ht hvm hw hB hz1 hk1 hS2 => ?_)
      rw [hw]
      clear hw
      obtain ⟨hP1, -, hD1⟩ := hB
      rw [ht] at hP1
      replace hD := hD1.weaken (fun _ _ _ h => hFc _ h)
      replace hP := hP1
      replace hS := hS2
      clear hP1 hD1 hS2 hFc hfc hz1 hk1 hvm ht
      refine lv_lshl (v := (1 <<< ((r_24 : Int32).toInt64 &&& 63))) hx hb dX3_prepare_146 rfl ?_
      refine lv_lconst (v := 1) hx hb dX3_prepare_147 (by decide) ?_
      refine lv_lsub hx hb dX3_prepare_148 ?_
      refine va_put (D := (dC, dI)) (ci := 3) (v := .long (((1 <<< ((r_24 : Int32).toInt64 &&& 63))) - 1)) (ty := .long) (C := RX3) (T := TX3) (N := 22) hx hb hts iwd_X3_prepare_X3 tyX3 tyX3_ok nmX3 hown hK hP hD hS h0 (Wd_ob kg_1 sg_1 (by decide)) rfl 12 (by decide) (hts _ md_X3_prepare_11) (fun _ h9 => h9) rfl (by decide +kernel) rfl rfl (by rw [fl_len]; decide) dX3_prepare_149 (fun H_27 locs hP2 hD2 hS2 => ?_)
      rw [Wd_sl sg_1 (by decide) rfl] at hP2 hD2
      obtain ⟨z_28, ez_28⟩ : ∃ w, w = sl z_23 h0 12 (((1 <<< ((r_24 : Int32).toInt64 &&& 63))) - 1) := ⟨_, rfl⟩
      rw [← ez_28] at hP2 hD2
      replace hf := lt_at ez_28 hf
      clear ez_28
      replace hP := hP2
      replace hD := hD2
      replace hS := hS2
      clear hP2 hD2 hS2
      refine lv_aload_n hx hb dX3_prepare_152 rfl (lv_at hl 2 rfl) ?_
      refine lv_lconst (v := 0) hx hb dX3_prepare_153 (by decide) ?_
      refine va_put (D := (dC, dI)) (ci := 3) (v := .long 0) (ty := .long) (C := RX3) (T := TX3) (N := 22) hx hb hts iwd_X3_prepare_X3 tyX3 tyX3_ok nmX3 hown hK hP hD hS h0 (Wd_ob kg_1 sg_1 (by decide)) rfl 11 (by decide) (hts _ md_X3_prepare_12) (fun _ h9 => h9) rfl (by decide +kernel) rfl rfl (by rw [fl_len]; decide) dX3_prepare_154 (fun H_29 locs hP2 hD2 hS2 => ?_)
      rw [Wd_sl sg_1 (by decide) rfl] at hP2 hD2
      obtain ⟨z_30, ez_30⟩ : ∃ w, w = sl z_28 h0 11 0 := ⟨_, rfl⟩
      rw [← ez_30] at hP2 hD2
      replace hf := lt_at ez_30 hf
      clear ez_30
      replace hP := hP2
      replace hD := hD2
      replace hS := hS2
      clear hP2 hD2 hS2
      refine lv_iconst (v := 0) hx hb dX3_prepare_157 (by decide) ?_
      refine lv_istore_n (lv' := [(3, .int 0), (2, .int v_9), (0, .ref (a h0)), (1, .int x0)]) hx hb dX3_prepare_158 rfl hl (by decide) rfl (fun ls hl2 => ?_)
      replace hl := hl2
      clear hl2
      have hl0 : lv_has ls 6 [(3, .int 0), (0, .ref (a h0)), (1, .int x0)] := lv_sub hl [0, 2, 3] rfl
      refine de_loop (h := 159) (fun (x : St × Int32) ls H locs => lv_has ls 6 [(3, .int x.2), (0, .ref (a h0)), (1, .int x0)] ∧ va_P (dC, dI) vwCl (Wd cy a sh n x.1) H ∧ va_D A (Wd cy a sh n x.1) ∧ va_S A s.heap H locs) (fun f x => fn_X3_prepare_L159 F sh n h0 x0 f x.1 x.2) (z8, r8) ?_ (fun _ => rfl) F (z_30, 0) ls H_29 locs ⟨hl0, hP, hD, hS⟩ hf
      intro f_33 x ls H locs ih159 hI hf
      obtain ⟨z_32, p_31⟩ := x
      obtain ⟨hl2, hP2, hD2, hS2⟩ := hI
      replace hl : lv_has ls 6 [(3, .int p_31), (0, .ref (a h0)), (1, .int x0)] := hl2
      replace hP := hP2
      replace hD := hD2
      replace hS := hS2
      clear hl2 hP2 hD2 hS2 hl0
      replace hf := fn_X3_prepare_L159_s hf
      refine lv_iload_n hx hb dX3_prepare_159 rfl (lv_at hl 0 rfl) ?_
      refine lv_bipush (v := 40) hx hb dX3_prepare_160 (by decide) ?_
      refine lv_icmp_ge (tgt := 272) hx hb dX3_prepare_162 (by decide) (fun c_34 => ?_) (fun c_34 => ?_)
      · skip
        rw [if_pos c_34] at hf
        refine lv_aload_n hx hb dX3_prepare_272 rfl (lv_at hl 1 rfl) ?_
        refine lv_iconst (v := 1) hx hb dX3_prepare_273 (by decide) ?_
        refine va_put (D := (dC, dI)) (ci := 3) (v := .int 1) (ty := .boolean) (C := RX3) (T := TX3) (N := 22) hx hb hts iwd_X3_prepare_X3 tyX3 tyX3_ok nmX3 hown hK hP hD hS h0 (Wd_ob kg_1 sg_1 (by decide)) rfl 16 (by decide) (hts _ md_X3_prepare_15) (fun _ h9 => h9) rfl (by decide +kernel) rfl rfl (by rw [fl_len]; decide) dX3_prepare_274 (fun H_35 locs hP2 hD2 hS2 => ?_)
        rw [Wd_si sg_1 (by decide) rfl] at hP2 hD2
        obtain ⟨z_36, ez_36⟩ : ∃ w, w = si z_32 h0 16 1 := ⟨_, rfl⟩
        rw [← ez_36] at hP2 hD2
        replace hf := lt_at ez_36 hf
        clear ez_36
        replace hP := hP2
        replace hD := hD2
        replace hS := hS2
        clear hP2 hD2 hS2
        refine lv_aload_n hx hb dX3_prepare_277 rfl (lv_at hl 1 rfl) ?_
        obtain ⟨k_37, ek_37, hf⟩ := lnk_some hf
        refine va_get (D := (dC, dI)) (ci := 3) (v := .ref (a k_37)) (C := RX3) (T := TX3) (N := 22) hx hb hts iwd_X3_prepare_X3 hown hK hP h0 (Wd_ob kg_1 sg_1 (by decide)) rfl 17 (by decide) (hts _ md_X3_prepare_7) (fun _ h9 => h9) (fl_q rfl ek_37) dX3_prepare_278 ?_
        refine lv_iconst (v := 0) hx hb dX3_prepare_281 (by decide) ?_
        obtain ⟨g_38, hf⟩ := grd_some hf
        obtain ⟨kg_38, sg_38, ig_38⟩ := okA_at g_38
        refine va_zald hx hb hK hP k_37 3 (Wd_az kg_38 sg_38) rfl ig_38 dX3_prepare_282 ?_
        refine lv_if_eq (tgt := 291) hx hb dX3_prepare_283 (by decide) (fun c_39 => ?_) (fun c_39 => ?_)
        · skip
          rw [if_pos c_39] at hf
          obtain ⟨h8, h9⟩ := ret_some hf
          rw [h8]
          exact W.vret hx hb hr (fun t ht hW => ⟨⟨(), rfl, trivial, by rw [ht]; exact hP, va_K.moved hW.alike hK, hD⟩, hS.F ht⟩) hS.2.2 dX3_prepare_291
        · skip
          rw [if_neg c_39] at hf
          refine lv_aload_n hx hb dX3_prepare_286 rfl (lv_at hl 1 rfl) ?_
          refine lv_iconst (v := 0) hx hb dX3_prepare_287 (by decide) ?_
          obtain ⟨z_40, _u, hfc, hf⟩ := cal_some hf
          have hFc := de_free hD hS hA
          refine va_callv (va_runV (As := [.int 0]) (rest := []) ⟨hx, hb, hml, hown, hts⟩ (de_X3_join l dC dI cy a sh n H_35.size F z_36 h0 0 hfc) (cwV 1 hts gX3_prepare_X3_join rfl rfl rfl (by decide +kernel) ⟨Nat.le_of_ble_eq_true rfl, Nat.le_of_ble_eq_true rfl⟩) ⟨fun a U g mk q => by obtain ⟨q0, q1, qP, qK, qD, qN⟩ := q; exact ⟨q0, q1, qP, va_K.moved (u := U) (U := U.calling g mk a) (Vm.Alike.refl U.vm) qK, qD, qN.same rfl⟩, va_recv hK hP (ci := 3) (q0 := h0) rfl (Wd_ob kg_1 sg_1 (by decide)), fun U hU hW => ⟨rfl, by rw [hU], by rw [hU]; exact hP, va_K.moved hW.alike hK, hD.weaken (fun _ _ _ _ => trivial), hN.warm hW⟩⟩ rfl rfl hl.1 rfl (lv_room (Nat.le_of_ble_eq_true rfl)) dX3_prepare_288 ⟨Nat.le_of_ble_eq_true rfl, Nat.le_of_ble_eq_true rfl⟩) hS (fun q _ h => hFc q h) hFc (fun u t H_41 locs ht hvm hw hB hz1 hk1 hS2 => ?_)
          obtain ⟨hP1, -, hD1⟩ := hB
          rw [ht] at hP1
          replace hD := hD1.weaken (fun _ _ _ h => hFc _ h)
          replace hP := hP1
          replace hS := hS2
          clear hP1 hD1 hS2 hFc hfc hz1 hk1 hvm ht
          obtain ⟨h8, h9⟩ := ret_some hf
          rw [h8]
          exact W.vret hx hb hr (fun t ht hW => ⟨⟨(), rfl, trivial, by rw [ht]; exact hP, va_K.moved hW.alike hK, hD⟩, hS.F ht⟩) hS.2.2 dX3_prepare_291
      · skip
        rw [if_neg c_34] at hf
        refine lv_iload_n hx hb dX3_prepare_165 rfl (lv_at hl 0 rfl) ?_
        refine lv_aload_n hx hb dX3_prepare_166 rfl (lv_at hl 1 rfl) ?_
        obtain ⟨k_42, ek_42, hf⟩ := lnk_some hf
        refine va_get (D := (dC, dI)) (ci := 3) (v := .ref (a k_42)) (C := RX3) (T := TX3) (N := 22) hx hb hts iwd_X3_prepare_X3 hown hK hP h0 (Wd_ob kg_1 sg_1 (by decide)) rfl 2 (by decide) (hts _ md_X3_prepare_2) (fun _ h9 => h9) (fl_q rfl ek_42) dX3_prepare_167 ?_
        refine lv_iload_n hx hb dX3_prepare_170 rfl (lv_at hl 2 rfl) ?_
        obtain ⟨g_45, hf⟩ := grd_some hf
        obtain ⟨kg_45, sg_45⟩ := okO_at g_45
        obtain ⟨z_43, r_44, hfc, hf⟩ := cal_some hf
        have hFc := de_free hD hS hA
        refine va_calli (va_runV (As := [.int x0]) (rest := [.int p_31]) ⟨hx, hb, hml, hown, hts⟩ (de_X5_localCount l dC dI cy a sh n H.size F z_32 k_42 x0 hfc) (cwV 1 hts gX3_prepare_X5_localCount rfl rfl rfl (by decide +kernel) ⟨Nat.le_of_ble_eq_true rfl, Nat.le_of_ble_eq_true rfl⟩) ⟨fun a U g mk q => by obtain ⟨q0, q1, qP, qK, qD, qN⟩ := q; exact ⟨q0, q1, qP, va_K.moved (u := U) (U := U.calling g mk a) (Vm.Alike.refl U.vm) qK, qD, qN.same rfl⟩, va_recv hK hP (ci := 5) (q0 := k_42) rfl (Wd_ob kg_45 sg_45 (by decide)), fun U hU hW => ⟨rfl, by rw [hU], by rw [hU]; exact hP, va_K.moved hW.alike hK, hD.weaken (fun _ _ _ _ => trivial), hN.warm hW⟩⟩ rfl rfl hl.1 rfl (lv_room (Nat.le_of_ble_eq_true rfl)) dX3_prepare_171 ⟨Nat.le_of_ble_eq_true rfl, Nat.le_of_ble_eq_true rfl⟩) hS (fun q _ h => hFc q h) hFc (fun rr u t H_46 locs ht hvm hw hB hz1 hk1 hS2 => ?_)
        rw [hw]
        clear hw
        obtain ⟨hP1, -, hD1⟩ := hB
        rw [ht] at hP1
        replace hD := hD1.weaken (fun _ _ _ h => hFc _ h)
        replace hP := hP1
        replace hS := hS2
        clear hP1 hD1 hS2 hFc hfc hz1 hk1 hvm ht
        refine de_cut (h := 190) (fun (x : St × Int64) => [.long x.2]) (fun x ls H locs => lv_has ls 6 [(3, .int p_31), (0, .ref (a h0)), (1, .int x0)] ∧ va_P (dC, dI) vwCl (Wd cy a sh n x.1) H ∧ va_D A (Wd cy a sh n x.1) ∧ va_S A s.heap H locs) (fun x => fn_X3_prepare_B190 F sh n h0 p_31 x0 (fun z9 q3 => fn_X3_prepare_L159 F sh n h0 x0 f_33 z9 q3) x.1 x.2) (z8, r8) ?_ (fun B190 => ?_)
        · intro x ls H locs hI hf
          obtain ⟨z_48, p_47⟩ := x
          obtain ⟨hl2, hP2, hD2, hS2⟩ := hI
          replace hl : lv_has ls 6 [(3, .int p_31), (0, .ref (a h0)), (1, .int x0)] := hl2
          replace hP := hP2
          replace hD := hD2
          replace hS := hS2
          clear hl2 hP2 hD2 hS2
          replace hf := fn_X3_prepare_B190_s hf
          refine W.eq (g2 := F0 m 190 ls [.long p_47]) rfl ?_
          refine lv_lstore (lv' := [(4, .long p_47), (3, .int p_31), (0, .ref (a h0)), (1, .int x0)]) hx hb dX3_prepare_190 hl (by decide) rfl (fun ls hl2 => ?_)
          replace hl := hl2
          clear hl2
          refine lv_aload_n hx hb dX3_prepare_192 rfl (lv_at hl 2 rfl) ?_
          obtain ⟨k_49, ek_49, hf⟩ := lnk_some hf
          refine va_get (D := (dC, dI)) (ci := 3) (v := .ref (a k_49)) (C := RX3) (T := TX3) (N := 22) hx hb hts iwd_X3_prepare_X3 hown hK hP h0 (Wd_ob kg_1 sg_1 (by decide)) rfl 9 (by decide) (hts _ md_X3_prepare_13) (fun _ h9 => h9) (fl_q rfl ek_49) dX3_prepare_193 ?_
          refine lv_iload_n hx hb dX3_prepare_196 rfl (lv_at hl 1 rfl) ?_
          refine lv_lload hx hb dX3_prepare_197 (lv_at hl 0 rfl) ?_
          obtain ⟨g_50, hf⟩ := grd_some hf
          obtain ⟨kg_50, sg_50, ig_50⟩ := okA_at g_50
          refine va_last hx hb hK hP hD hS k_49 2 (Wd_al kg_50 sg_50) rfl ig_50 dX3_prepare_199 (fun H_51 locs hP2 hD2 hS2 => ?_)
          rw [Wd_tl sg_50] at hP2 hD2
          obtain ⟨z_52, ez_52⟩ : ∃ w, w = sl z_48 k_49 p_31.toNatClampNeg p_47 := ⟨_, rfl⟩
          rw [← ez_52] at hP2 hD2
          replace hf := lt_at ez_52 hf
          clear ez_52
          replace hP := hP2
          replace hD := hD2
          replace hS := hS2
          clear hP2 hD2 hS2
          refine lv_aload_n hx hb dX3_prepare_200 rfl (lv_at hl 2 rfl) ?_
          obtain ⟨k_53, ek_53, hf⟩ := lnk_some hf
          refine va_get (D := (dC, dI)) (ci := 3) (v := .ref (a k_53)) (C := RX3) (T := TX3) (N := 22) hx hb hts iwd_X3_prepare_X3 hown hK hP h0 (Wd_ob kg_1 sg_1 (by decide)) rfl 10 (by decide) (hts _ md_X3_prepare_14) (fun _ h9 => h9) (fl_q rfl ek_53) dX3_prepare_201 ?_
          refine lv_iload_n hx hb dX3_prepare_204 rfl (lv_at hl 1 rfl) ?_
          refine lv_iload_n hx hb dX3_prepare_205 rfl (lv_at hl 1 rfl) ?_
          refine lv_aload_n hx hb dX3_prepare_206 rfl (lv_at hl 2 rfl) ?_
          obtain ⟨k_54, ek_54, hf⟩ := lnk_some hf
          refine va_get (D := (dC, dI)) (ci := 3) (v := .ref (a k_54)) (C := RX3) (T := TX3) (N := 22) hx hb hts iwd_X3_prepare_X3 hown hK hP h0 (Wd_ob kg_1 sg_1 (by decide)) rfl 2 (by decide) (hts _ md_X3_prepare_2) (fun _ h9 => h9) (fl_q rfl ek_54) dX3_prepare_207 ?_
          refine lv_iload_n hx hb dX3_prepare_210 rfl (lv_at hl 3 rfl) ?_
          obtain ⟨g_57, hf⟩ := grd_some hf
          obtain ⟨kg_57, sg_57⟩ := okO_at g_57
          obtain ⟨z_55, r_56, hfc, hf⟩ := cal_some hf
          have hFc := de_free hD hS hA
          refine va_calli (va_runV (As := [.int x0]) (rest := [.int p_31, .int p_31, .ref (a k_53)]) ⟨hx, hb, hml, hown, hts⟩ (de_X5_takes l dC dI cy a sh n H_51.size F z_52 k_54 x0 hfc) (cwV 1 hts gX3_prepare_X5_takes rfl rfl rfl (by decide +kernel) ⟨Nat.le_of_ble_eq_true rfl, Nat.le_of_ble_eq_true rfl⟩) ⟨fun a U g mk q => by obtain ⟨q0, q1, qP, qK, qD, qN⟩ := q; exact ⟨q0, q1, qP, va_K.moved (u := U) (U := U.calling g mk a) (Vm.Alike.refl U.vm) qK, qD, qN.same rfl⟩, va_recv hK hP (ci := 5) (q0 := k_54) rfl (Wd_ob kg_57 sg_57 (by decide)), fun U hU hW => ⟨rfl, by rw [hU], by rw [hU]; exact hP, va_K.moved hW.alike hK, hD.weaken (fun _ _ _ _ => trivial), hN.warm hW⟩⟩ rfl rfl hl.1 rfl (lv_room (Nat.le_of_ble_eq_true rfl)) dX3_prepare_211 ⟨Nat.le_of_ble_eq_true rfl, Nat.le_of_ble_eq_true rfl⟩) hS (fun q _ h => hFc q h) hFc (fun rr u t H_58 locs ht hvm hw hB hz1 hk1 hS2 => ?_)
          rw [hw]
          clear hw
          obtain ⟨hP1, -, hD1⟩ := hB
          rw [ht] at hP1
          replace hD := hD1.weaken (fun _ _ _ h => hFc _ h)
          replace hP := hP1
          replace hS := hS2
          clear hP1 hD1 hS2 hFc hfc hz1 hk1 hvm ht
          refine de_cut (h := 235) (fun (x : St × Int64) => [.long x.2, .int p_31, .ref (a k_53)]) (fun x ls H locs => lv_has ls 6 [(4, .long p_47), (3, .int p_31), (0, .ref (a h0)), (1, .int x0)] ∧ va_P (dC, dI) vwCl (Wd cy a sh n x.1) H ∧ va_D A (Wd cy a sh n x.1) ∧ va_S A s.heap H locs) (fun x => fn_X3_prepare_B235 F sh n k_53 p_31 h0 p_47 (fun z9 q3 => fn_X3_prepare_L159 F sh n h0 x0 f_33 z9 q3) x.1 x.2) (z8, r8) ?_ (fun B235 => ?_)
          · intro x ls H locs hI hf
            obtain ⟨z_60, p_59⟩ := x
            obtain ⟨hl2, hP2, hD2, hS2⟩ := hI
            replace hl : lv_has ls 6 [(4, .long p_47), (3, .int p_31), (0, .ref (a h0)), (1, .int x0)] := hl2
            replace hP := hP2
            replace hD := hD2
            replace hS := hS2
            clear hl2 hP2 hD2 hS2
            replace hf := fn_X3_prepare_B235_s hf
            refine W.eq (g2 := F0 m 235 ls [.long p_59, .int p_31, .ref (a k_53)]) rfl ?_
            obtain ⟨g_61, hf⟩ := grd_some hf
            obtain ⟨kg_61, sg_61, ig_61⟩ := okA_at g_61
            refine va_last hx hb hK hP hD hS k_53 2 (Wd_al kg_61 sg_61) rfl ig_61 dX3_prepare_235 (fun H_62 locs hP2 hD2 hS2 => ?_)
            rw [Wd_tl sg_61] at hP2 hD2
            obtain ⟨z_63, ez_63⟩ : ∃ w, w = sl z_60 k_53 p_31.toNatClampNeg p_59 := ⟨_, rfl⟩
            rw [← ez_63] at hP2 hD2
            replace hf := lt_at ez_63 hf
            clear ez_63
            replace hP := hP2
            replace hD := hD2
            replace hS := hS2
            clear hP2 hD2 hS2
            refine lv_aload_n hx hb dX3_prepare_236 rfl (lv_at hl 2 rfl) ?_
            refine lv_dup hx hb dX3_prepare_237 rfl ?_
            refine va_get (D := (dC, dI)) (ci := 3) (v := .long (z_63.2.1 h0 11)) (C := RX3) (T := TX3) (N := 22) hx hb hts iwd_X3_prepare_X3 hown hK hP h0 (Wd_ob kg_1 sg_1 (by decide)) rfl 11 (by decide) (hts _ md_X3_prepare_12) (fun _ h9 => h9) (fl_at (t := 1) rfl) dX3_prepare_238 ?_
            refine lv_aload_n hx hb dX3_prepare_241 rfl (lv_at hl 2 rfl) ?_
            obtain ⟨k_64, ek_64, hf⟩ := lnk_some hf
            refine va_get (D := (dC, dI)) (ci := 3) (v := .ref (a k_64)) (C := RX3) (T := TX3) (N := 22) hx hb hts iwd_X3_prepare_X3 hown hK hP h0 (Wd_ob kg_1 sg_1 (by decide)) rfl 2 (by decide) (hts _ md_X3_prepare_2) (fun _ h9 => h9) (fl_q rfl ek_64) dX3_prepare_242 ?_
            refine lv_lload hx hb dX3_prepare_245 (lv_at hl 0 rfl) ?_
            obtain ⟨g_67, hf⟩ := grd_some hf
            obtain ⟨kg_67, sg_67⟩ := okO_at g_67
            obtain ⟨z_65, r_66, hfc, hf⟩ := cal_some hf
            have hFc := de_free hD hS hA
            refine va_calli (va_runV (As := [.long p_47]) (rest := [.long (z_63.2.1 h0 11), .ref (a h0)]) ⟨hx, hb, hml, hown, hts⟩ (de_X5_abilities l dC dI cy a sh n H_62.size F z_63 k_64 p_47 hfc) (cwV 1 hts gX3_prepare_X5_abilities rfl rfl rfl (by decide +kernel) ⟨Nat.le_of_ble_eq_true rfl, Nat.le_of_ble_eq_true rfl⟩) ⟨fun a U g mk q => by obtain ⟨q0, q1, qP, qK, qD, qN⟩ := q; exact ⟨q0, q1, qP, va_K.moved (u := U) (U := U.calling g mk a) (Vm.Alike.refl U.vm) qK, qD, qN.same rfl⟩, va_recv hK hP (ci := 5) (q0 := k_64) rfl (Wd_ob kg_67 sg_67 (by decide)), fun U hU hW => ⟨rfl, by rw [hU], by rw [hU]; exact hP, va_K.moved hW.alike hK, hD.weaken (fun _ _ _ _ => trivial), hN.warm hW⟩⟩ rfl rfl hl.1 rfl (lv_room (Nat.le_of_ble_eq_true rfl)) dX3_prepare_247 ⟨Nat.le_of_ble_eq_true rfl, Nat.le_of_ble_eq_true rfl⟩) hS (fun q _ h => hFc q h) hFc (fun rr u t H_68 locs ht hvm hw hB hz1 hk1 hS2 => ?_)
            rw [hw]
            clear hw
            obtain ⟨hP1, -, hD1⟩ := hB
            rw [ht] at hP1
            replace hD := hD1.weaken (fun _ _ _ h => hFc _ h)
            replace hP := hP1
            replace hS := hS2
            clear hP1 hD1 hS2 hFc hfc hz1 hk1 hvm ht
            refine lv_iconst (v := 2) hx hb dX3_prepare_250 (by decide) ?_
            refine lv_iand hx hb dX3_prepare_251 ?_
            refine de_cut (h := 262) (fun (x : St × Int64) => [.long x.2, .long (z_63.2.1 h0 11), .ref (a h0)]) (fun x ls H locs => lv_has ls 6 [(3, .int p_31), (0, .ref (a h0)), (1, .int x0)] ∧ va_P (dC, dI) vwCl (Wd cy a sh n x.1) H ∧ va_D A (Wd cy a sh n x.1) ∧ va_S A s.heap H locs) (fun x => fn_X3_prepare_B262 F sh n h0 z_63 p_31 (fun z9 q3 => fn_X3_prepare_L159 F sh n h0 x0 f_33 z9 q3) x.1 x.2) (z8, r8) ?_ (fun B262 => ?_)
            · intro x ls H locs hI hf
              obtain ⟨z_70, p_69⟩ := x
              obtain ⟨hl2, hP2, hD2, hS2⟩ := hI
              replace hl : lv_has ls 6 [(3, .int p_31), (0, .ref (a h0)), (1, .int x0)] := hl2
              replace hP := hP2
              replace hD := hD2
              replace hS := hS2
              clear hl2 hP2 hD2 hS2
              replace hf := fn_X3_prepare_B262_s hf
              refine W.eq (g2 := F0 m 262 ls [.long p_69, .long (z_63.2.1 h0 11), .ref (a h0)]) rfl ?_
              refine lv_lor hx hb dX3_prepare_262 ?_
              refine va_put (D := (dC, dI)) (ci := 3) (v := .long ((z_63.2.1 h0 11) ||| p_69)) (ty := .long) (C := RX3) (T := TX3) (N := 22) hx hb hts iwd_X3_prepare_X3 tyX3 tyX3_ok nmX3 hown hK hP hD hS h0 (Wd_ob kg_1 sg_1 (by decide)) rfl 11 (by decide) (hts _ md_X3_prepare_12) (fun _ h9 => h9) rfl (by decide +kernel) rfl rfl (by rw [fl_len]; decide) dX3_prepare_263 (fun H_71 locs hP2 hD2 hS2 => ?_)
              rw [Wd_sl sg_1 (by decide) rfl] at hP2 hD2
              obtain ⟨z_72, ez_72⟩ : ∃ w, w = sl z_70 h0 11 ((z_63.2.1 h0 11) ||| p_69) := ⟨_, rfl⟩
              rw [← ez_72] at hP2 hD2
              replace hf := lt_at ez_72 hf
              clear ez_72
              replace hP := hP2
              replace hD := hD2
              replace hS := hS2
              clear hP2 hD2 hS2
              refine lv_iinc (v := (p_31 + 1)) (lv' := [(3, .int (p_31 + 1)), (0, .ref (a h0)), (1, .int x0)]) hx hb dX3_prepare_266 hl (k := 0) rfl rfl (by decide) rfl (fun ls hl2 => ?_)
              replace hl := hl2
              clear hl2
              refine lv_goto (tgt := 159) hx hb dX3_prepare_269 (by decide) ?_
              exact ih159 (z_72, (p_31 + 1)) ls H_71 locs ⟨lv_sub hl [0, 1, 2] rfl, hP, hD, hS⟩ hf
            refine lv_if_eq (tgt := 261) hx hb dX3_prepare_252 (by decide) (fun c_73 => ?_) (fun c_73 => ?_)
            · skip
              rw [if_pos c_73] at hf
              refine lv_lconst (v := 0) hx hb dX3_prepare_261 (by decide) ?_
              exact B262 (z_65, 0) ls H_68 locs ⟨lv_sub hl [1, 2, 3] rfl, hP, hD, hS⟩ hf
            · skip
              rw [if_neg c_73] at hf
              refine lv_lconst (v := 1) hx hb dX3_prepare_255 (by decide) ?_
              refine lv_iload_n hx hb dX3_prepare_256 rfl (lv_at hl 1 rfl) ?_
              refine lv_lshl (v := (1 <<< ((p_31 : Int32).toInt64 &&& 63))) hx hb dX3_prepare_257 rfl ?_
              refine lv_goto (tgt := 262) hx hb dX3_prepare_258 (by decide) ?_
              exact B262 (z_65, ((1 <<< ((p_31 : Int32).toInt64 &&& 63)))) ls H_68 locs ⟨lv_sub hl [1, 2, 3] rfl, hP, hD, hS⟩ hf
          refine de_cut (h := 234) (fun (x : St) => [.int p_31, .ref (a k_53)]) (fun x ls H locs => lv_has ls 6 [(4, .long p_47), (3, .int p_31), (0, .ref (a h0)), (1, .int x0)] ∧ va_P (dC, dI) vwCl (Wd cy a sh n x) H ∧ va_D A (Wd cy a sh n x) ∧ va_S A s.heap H locs) (fun x => fn_X3_prepare_B234 F sh n k_53 p_31 h0 p_47 (fun z9 q3 => fn_X3_prepare_L159 F sh n h0 x0 f_33 z9 q3) x) (z8, r8) ?_ (fun B234 => ?_)
          · intro x ls H locs hI hf
            obtain ⟨z_74, ez⟩ : ∃ w, w = x := ⟨_, rfl⟩
            subst ez
            obtain ⟨hl2, hP2, hD2, hS2⟩ := hI
            replace hl : lv_has ls 6 [(4, .long p_47), (3, .int p_31), (0, .ref (a h0)), (1, .int x0)] := hl2
            replace hP := hP2
            replace hD := hD2
            replace hS := hS2
            clear hl2 hP2 hD2 hS2
            replace hf := fn_X3_prepare_B234_s hf
            refine W.eq (g2 := F0 m 234 ls [.int p_31, .ref (a k_53)]) rfl ?_
            refine lv_lconst (v := 0) hx hb dX3_prepare_234 (by decide) ?_
            exact B235 (z_74, 0) ls H locs ⟨lv_sub hl [0, 1, 2, 3] rfl, hP, hD, hS⟩ hf
          refine lv_icmp_ge (tgt := 234) hx hb dX3_prepare_214 (by decide) (fun c_75 => ?_) (fun c_75 => ?_)
          · skip
            rw [if_pos c_75] at hf
            exact B234 (z_55) ls H_58 locs ⟨lv_sub hl [0, 1, 2, 3] rfl, hP, hD, hS⟩ hf
          · skip
            rw [if_neg c_75] at hf
            refine lv_lload hx hb dX3_prepare_217 (lv_at hl 0 rfl) ?_
            obtain ⟨z_76, r_77, hfc, hf⟩ := cal_some hf
            have hFc := de_free hD hS hA
            refine va_calli (va_runS (As := [.long p_47]) (rest := [.int p_31, .ref (a k_53)]) ⟨hx, hb, hml, hown, hts⟩ (de_X5_isReference l dC dI cy a sh n H_58.size F z_55 p_47 hfc) (va_cwS 1 hts gX3_prepare_X5_isReference rfl rfl rfl (by decide +kernel) ⟨Nat.le_of_ble_eq_true rfl, Nat.le_of_ble_eq_true rfl⟩) ⟨fun a U g mk q => by obtain ⟨q0, q1, qP, qK, qD, qN⟩ := q; exact ⟨q0, q1, qP, va_K.moved (u := U) (U := U.calling g mk a) (Vm.Alike.refl U.vm) qK, qD, qN.same rfl⟩, fun U hU hW => ⟨rfl, by rw [hU], by rw [hU]; exact hP, va_K.moved hW.alike hK, hD.weaken (fun _ _ _ _ => trivial), hN.warm hW⟩⟩ rfl rfl hl.1 rfl (lv_room (Nat.le_of_ble_eq_true rfl)) dX3_prepare_219 ⟨Nat.le_of_ble_eq_true rfl, Nat.le_of_ble_eq_true rfl⟩) hS (fun q _ h => hFc q h) hFc (fun rr u t H_78 locs ht hvm hw hB hz1 hk1 hS2 => ?_)
            rw [hw]
            clear hw
            obtain ⟨hP1, -, hD1⟩ := hB
            rw [ht] at hP1
            replace hD := hD1.weaken (fun _ _ _ h => hFc _ h)
            replace hP := hP1
            replace hS := hS2
            clear hP1 hD1 hS2 hFc hfc hz1 hk1 hvm ht
            refine lv_if_eq (tgt := 234) hx hb dX3_prepare_222 (by decide) (fun c_79 => ?_) (fun c_79 => ?_)
            · skip
              rw [if_pos c_79] at hf
              exact B234 (z_76) ls H_78 locs ⟨lv_sub hl [0, 1, 2, 3] rfl, hP, hD, hS⟩ hf
            · skip
              rw [if_neg c_79] at hf
              refine lv_lconst (v := 1) hx hb dX3_prepare_225 (by decide) ?_
              refine lv_bipush (v := 40) hx hb dX3_prepare_226 (by decide) ?_
              refine lv_iload_n hx hb dX3_prepare_228 rfl (lv_at hl 1 rfl) ?_
              refine lv_iadd hx hb dX3_prepare_229 ?_
              refine lv_lshl (v := (1 <<< (((40 + p_31) : Int32).toInt64 &&& 63))) hx hb dX3_prepare_230 rfl ?_
              refine lv_goto (tgt := 235) hx hb dX3_prepare_231 (by decide) ?_
              exact B235 (z_76, ((1 <<< (((40 + p_31) : Int32).toInt64 &&& 63)))) ls H_78 locs ⟨lv_sub hl [0, 1, 2, 3] rfl, hP, hD, hS⟩ hf
        refine lv_icmp_ge (tgt := 189) hx hb dX3_prepare_174 (by decide) (fun c_80 => ?_) (fun c_80 => ?_)
        · skip
          rw [if_pos c_80] at hf
          refine lv_lconst (v := 1) hx hb dX3_prepare_189 (by decide) ?_
          exact B190 (z_43, 1) ls H_46 locs ⟨lv_sub hl [0, 1, 2] rfl, hP, hD, hS⟩ hf
        · skip
          rw [if_neg c_80] at hf
          refine lv_aload_n hx hb dX3_prepare_177 rfl (lv_at hl 1 rfl) ?_
          obtain ⟨k_81, ek_81, hf⟩ := lnk_some hf
          refine va_get (D := (dC, dI)) (ci := 3) (v := .ref (a k_81)) (C := RX3) (T := TX3) (N := 22) hx hb hts iwd_X3_prepare_X3 hown hK hP h0 (Wd_ob kg_1 sg_1 (by decide)) rfl 2 (by decide) (hts _ md_X3_prepare_2) (fun _ h9 => h9) (fl_q rfl ek_81) dX3_prepare_178 ?_
          refine lv_iload_n hx hb dX3_prepare_181 rfl (lv_at hl 2 rfl) ?_
          refine lv_iload_n hx hb dX3_prepare_182 rfl (lv_at hl 0 rfl) ?_
          obtain ⟨g_84, hf⟩ := grd_some hf
          obtain ⟨kg_84, sg_84⟩ := okO_at g_84
          obtain ⟨z_82, r_83, hfc, hf⟩ := cal_some hf
          have hFc := de_free hD hS hA
          refine va_calll (va_runV (As := [.int x0, .int p_31]) (rest := []) ⟨hx, hb, hml, hown, hts⟩ (de_X5_localType l dC dI cy a sh n H_46.size F z_43 k_81 x0 p_31 hfc) (cwV 2 hts gX3_prepare_X5_localType rfl rfl rfl (by decide +kernel) ⟨Nat.le_of_ble_eq_true rfl, Nat.le_of_ble_eq_true rfl⟩) ⟨fun a U g mk q => by obtain ⟨q0, q1, qP, qK, qD, qN⟩ := q; exact ⟨q0, q1, qP, va_K.moved (u := U) (U := U.calling g mk a) (Vm.Alike.refl U.vm) qK, qD, qN.same rfl⟩, va_recv hK hP (ci := 5) (q0 := k_81) rfl (Wd_ob kg_84 sg_84 (by decide)), fun U hU hW => ⟨rfl, by rw [hU], by rw [hU]; exact hP, va_K.moved hW.alike hK, hD.weaken (fun _ _ _ _ => trivial), hN.warm hW⟩⟩ rfl rfl hl.1 rfl (lv_room (Nat.le_of_ble_eq_true rfl)) dX3_prepare_183 ⟨Nat.le_of_ble_eq_true rfl, Nat.le_of_ble_eq_true rfl⟩) hS (fun q _ h => hFc q h) hFc (fun rr u t H_85 locs ht hvm hw hB hz1 hk1 hS2 => ?_)
          rw [hw]
          clear hw
          obtain ⟨hP1, -, hD1⟩ := hB
          rw [ht] at hP1
          replace hD := hD1.weaken (fun _ _ _ h => hFc _ h)
          replace hP := hP1
          replace hS := hS2
          clear hP1 hD1 hS2 hFc hfc hz1 hk1 hvm ht
          refine lv_goto (tgt := 190) hx hb dX3_prepare_186 (by decide) ?_
          exact B190 (z_82, r_83) ls H_85 locs ⟨lv_sub hl [0, 1, 2] rfl, hP, hD, hS⟩ hf
    · skip
      rw [if_neg c_17] at hf
      refine lv_aload_n hx hb dX3_prepare_54 rfl (lv_at hl 2 rfl) ?_
      obtain ⟨k_86, ek_86, hf⟩ := lnk_some hf
      refine va_get (D := (dC, dI)) (ci := 3) (v := .ref (a k_86)) (C := RX3) (T := TX3) (N := 22) hx hb hts iwd_X3_prepare_X3 hown hK hP h0 (Wd_ob kg_1 sg_1 (by decide)) rfl 2 (by decide) (hts _ md_X3_prepare_2) (fun _ h9 => h9) (fl_q rfl ek_86) dX3_prepare_55 ?_
      refine lv_iload_n hx hb dX3_prepare_58 rfl (lv_at hl 3 rfl) ?_
      refine lv_iload_n hx hb dX3_prepare_59 rfl (lv_at hl 0 rfl) ?_
      obtain ⟨g_89, hf⟩ := grd_some hf
      obtain ⟨kg_89, sg_89⟩ := okO_at g_89
      obtain ⟨z_87, r_88, hfc, hf⟩ := cal_some hf
      have hFc := de_free hD hS hA
      refine va_calli (va_runV (As := [.int x0, .int p_14]) (rest := []) ⟨hx, hb, hml, hown, hts⟩ (de_X5_instructionPlace l dC dI cy a sh n H.size F z_15 k_86 x0 p_14 hfc) (cwV 2 hts gX3_prepare_X5_instructionPlace rfl rfl rfl (by decide +kernel) ⟨Nat.le_of_ble_eq_true rfl, Nat.le_of_ble_eq_true rfl⟩) ⟨fun a U g mk q => by obtain ⟨q0, q1, qP, qK, qD, qN⟩ := q; exact ⟨q0, q1, qP, va_K.moved (u := U) (U := U.calling g mk a) (Vm.Alike.refl U.vm) qK, qD, qN.same rfl⟩, va_recv hK hP (ci := 5) (q0 := k_86) rfl (Wd_ob kg_89 sg_89 (by decide)), fun U hU hW => ⟨rfl, by rw [hU], by rw [hU]; exact hP, va_K.moved hW.alike hK, hD.weaken (fun _ _ _ _ => trivial), hN.warm hW⟩⟩ rfl rfl hl.1 rfl (lv_room (Nat.le_of_ble_eq_true rfl)) dX3_prepare_60 ⟨Nat.le_of_ble_eq_true rfl, Nat.le_of_ble_eq_true rfl⟩) hS (fun q _ h => hFc q h) hFc (fun rr u t H_90 locs ht hvm hw hB hz1 hk1 hS2 => ?_)
      rw [hw]
      clear hw
      obtain ⟨hP1, -, hD1⟩ := hB
      rw [ht] at hP1
      replace hD := hD1.weaken (fun _ _ _ h => hFc _ h)
      replace hP := hP1
      replace hS := hS2
      clear hP1 hD1 hS2 hFc hfc hz1 hk1 hvm ht
      refine lv_istore (lv' := [(4, .int r_88), (3, .int p_14), (2, .int v_9), (0, .ref (a h0)), (1, .int x0)]) hx hb dX3_prepare_63 hl (by decide) rfl (fun ls hl2 => ?_)
      replace hl := hl2
      clear hl2
      refine lv_aload_n hx hb dX3_prepare_65 rfl (lv_at hl 3 rfl) ?_
      obtain ⟨k_91, ek_91, hf⟩ := lnk_some hf
      refine va_get (D := (dC, dI)) (ci := 3) (v := .ref (a k_91)) (C := RX3) (T := TX3) (N := 22) hx hb hts iwd_X3_prepare_X3 hown hK hP h0 (Wd_ob kg_1 sg_1 (by decide)) rfl 2 (by decide) (hts _ md_X3_prepare_2) (fun _ h9 => h9) (fl_q rfl ek_91) dX3_prepare_66 ?_
      refine lv_iload hx hb dX3_prepare_69 (lv_at hl 0 rfl) ?_
      refine lv_iconst (v := 1) hx hb dX3_prepare_71 (by decide) ?_
      refine lv_iadd hx hb dX3_prepare_72 ?_
      refine lv_iconst (v := 2) hx hb dX3_prepare_73 (by decide) ?_
      obtain ⟨g_94, hf⟩ := grd_some hf
      obtain ⟨kg_94, sg_94⟩ := okO_at g_94
      obtain ⟨z_92, r_93, hfc, hf⟩ := cal_some hf
      have hFc := de_free hD hS hA
      refine va_calll (va_runV (As := [.int (r_88 + 1), .int 2]) (rest := []) ⟨hx, hb, hml, hown, hts⟩ (de_X5_numberAt l dC dI cy a sh n H_90.size F sk z_87 k_91 (r_88 + 1) 2 hfc) (cwV 2 hts gX3_prepare_X5_numberAt rfl rfl rfl (by decide +kernel) ⟨Nat.le_of_ble_eq_true rfl, Nat.le_of_ble_eq_true rfl⟩) ⟨fun a U g mk q => by obtain ⟨q0, q1, qP, qK, qD, qN, qS⟩ := q; exact ⟨q0, q1, qP, va_K.moved (u := U) (U := U.calling g mk a) (Vm.Alike.refl U.vm) qK, qD, qN.same rfl, SKs.moved (u := U) (U := U.calling g mk a) (Vm.Alike.refl U.vm) qS⟩, va_recv hK hP (ci := 5) (q0 := k_91) rfl (Wd_ob kg_94 sg_94 (by decide)), fun U hU hW => ⟨rfl, by rw [hU], by rw [hU]; exact hP, va_K.moved hW.alike hK, hD.weaken (fun _ _ _ _ => trivial), hN.warm hW, by rw [hU]; exact ((hSK.kept hS.2.1).narrow hFc).moved hW.alike⟩⟩ rfl rfl hl.1 rfl (lv_room (Nat.le_of_ble_eq_true rfl)) dX3_prepare_74 ⟨Nat.le_of_ble_eq_true rfl, Nat.le_of_ble_eq_true rfl⟩) hS (fun q _ h => hFc q h) hFc (fun rr u t H_95 locs ht hvm hw hB hz1 hk1 hS2 => ?_)
      rw [hw]
      clear hw
      obtain ⟨hP1, -, hD1⟩ := hB
      rw [ht] at hP1
      replace hD := hD1.weaken (fun _ _ _ h => hFc _ h)
      replace hP := hP1
      replace hS := hS2
      clear hP1 hD1 hS2 hFc hfc hz1 hk1 hvm ht
      refine lv_l2i (v := (r_93 : Int64).toInt32) hx hb dX3_prepare_77 rfl ?_
      refine lv_topi (fun v_96 ev_96 => ?_)
      replace hf := lt_at ev_96 hf
      clear ev_96
      refine lv_istore (lv' := [(5, .int v_96), (4, .int r_88), (3, .int p_14), (2, .int v_9), (0, .ref (a h0)), (1, .int x0)]) hx hb dX3_prepare_78 hl (by decide) rfl (fun ls hl2 => ?_)
      replace hl := hl2
      clear hl2
      refine lv_aload_n hx hb dX3_prepare_80 rfl (lv_at hl 4 rfl) ?_
      obtain ⟨k_97, ek_97, hf⟩ := lnk_some hf
      refine va_get (D := (dC, dI)) (ci := 3) (v := .ref (a k_97)) (C := RX3) (T := TX3) (N := 22) hx hb hts iwd_X3_prepare_X3 hown hK hP h0 (Wd_ob kg_1 sg_1 (by decide)) rfl 2 (by decide) (hts _ md_X3_prepare_2) (fun _ h9 => h9) (fl_q rfl ek_97) dX3_prepare_81 ?_
      refine lv_iload hx hb dX3_prepare_84 (lv_at hl 1 rfl) ?_
      obtain ⟨g_100, hf⟩ := grd_some hf
      obtain ⟨kg_100, sg_100⟩ := okO_at g_100
      obtain ⟨z_98, r_99, hfc, hf⟩ := cal_some hf
      have hFc := de_free hD hS hA
      refine va_calli (va_runV (As := [.int r_88]) (rest := []) ⟨hx, hb, hml, hown, hts⟩ (de_X5_at l dC dI cy a sh n H_95.size F sk z_92 k_97 r_88 hfc) (cwV 1 hts gX3_prepare_X5_at rfl rfl rfl (by decide +kernel) ⟨Nat.le_of_ble_eq_true rfl, Nat.le_of_ble_eq_true rfl⟩) ⟨fun a U g mk q => by obtain ⟨q0, q1, qP, qK, qD, qN, qS⟩ := q; exact ⟨q0, q1, qP, va_K.moved (u := U) (U := U.calling g mk a) (Vm.Alike.refl U.vm) qK, qD, qN.same rfl, SKs.moved (u := U) (U := U.calling g mk a) (Vm.Alike.refl U.vm) qS⟩, va_recv hK hP (ci := 5) (q0 := k_97) rfl (Wd_ob kg_100 sg_100 (by decide)), fun U hU hW => ⟨rfl, by rw [hU], by rw [hU]; exact hP, va_K.moved hW.alike hK, hD.weaken (fun _ _ _ _ => trivial), hN.warm hW, by rw [hU]; exact ((hSK.kept hS.2.1).narrow hFc).moved hW.alike⟩⟩ rfl rfl hl.1 rfl (lv_room (Nat.le_of_ble_eq_true rfl)) dX3_prepare_86 ⟨Nat.le_of_ble_eq_true rfl, Nat.le_of_ble_eq_true rfl⟩) hS (fun q _ h => hFc q h) hFc (fun rr u t H_101 locs ht hvm hw hB hz1 hk1 hS2 => ?_)
      rw [hw]
      clear hw
      obtain ⟨hP1, -, hD1⟩ := hB
      rw [ht] at hP1
      replace hD := hD1.weaken (fun _ _ _ h => hFc _ h)
      replace hP := hP1
      replace hS := hS2
      clear hP1 hD1 hS2 hFc hfc hz1 hk1 hvm ht
      refine lv_iconst (v := 2) hx hb dX3_prepare_89 (by decide) ?_
      refine de_cut (h := 120) (fun (x : St) => []) (fun x ls H locs => lv_has ls 6 [(3, .int p_14), (2, .int v_9), (0, .ref (a h0)), (1, .int x0)] ∧ va_P (dC, dI) vwCl (Wd cy a sh n x) H ∧ va_D A (Wd cy a sh n x) ∧ va_S A s.heap H locs) (fun x => fn_X3_prepare_B120 F sh n p_14 (fun z9 q3 => fn_X3_prepare_L49 F sh n v_9 h0 x0 f_16 z9 q3) x) (z8, r8) ?_ (fun B120 => ?_)
      · intro x ls H locs hI hf
        obtain ⟨z_102, ez⟩ : ∃ w, w = x := ⟨_, rfl⟩
        subst ez
        obtain ⟨hl2, hP2, hD2, hS2⟩ := hI
        replace hl : lv_has ls 6 [(3, .int p_14), (2, .int v_9), (0, .ref (a h0)), (1, .int x0)] := hl2
        replace hP := hP2
        replace hD := hD2
        replace hS := hS2
        clear hl2 hP2 hD2 hS2
        replace hf := fn_X3_prepare_B120_s hf
        refine W.eq (g2 := F0 m 120 ls []) rfl ?_
        refine lv_iinc (v := (p_14 + 1)) (lv' := [(3, .int (p_14 + 1)), (2, .int v_9), (0, .ref (a h0)), (1, .int x0)]) hx hb dX3_prepare_120 hl (k := 0) rfl rfl (by decide) rfl (fun ls hl2 => ?_)
        replace hl := hl2
        clear hl2
        refine lv_goto (tgt := 49) hx hb dX3_prepare_123 (by decide) ?_
        exact ih49 (z_102, (p_14 + 1)) ls H locs ⟨lv_sub hl [0, 1, 2, 3] rfl, hP, hD, hS⟩ hf
      refine lv_icmp_lt (tgt := 120) hx hb dX3_prepare_90 (by decide) (fun c_103 => ?_) (fun c_103 => ?_)
      · skip
        rw [if_pos c_103] at hf
        exact B120 (z_98) ls H_101 locs ⟨lv_sub hl [2, 3, 4, 5] rfl, hP, hD, hS⟩ hf
      · skip
        rw [if_neg c_103] at hf
        refine lv_aload_n hx hb dX3_prepare_93 rfl (lv_at hl 4 rfl) ?_
        obtain ⟨k_104, ek_104, hf⟩ := lnk_some hf
        refine va_get (D := (dC, dI)) (ci := 3) (v := .ref (a k_104)) (C := RX3) (T := TX3) (N := 22) hx hb hts iwd_X3_prepare_X3 hown hK hP h0 (Wd_ob kg_1 sg_1 (by decide)) rfl 2 (by decide) (hts _ md_X3_prepare_2) (fun _ h9 => h9) (fl_q rfl ek_104) dX3_prepare_94 ?_
        refine lv_iload hx hb dX3_prepare_97 (lv_at hl 1 rfl) ?_
        obtain ⟨g_107, hf⟩ := grd_some hf
        obtain ⟨kg_107, sg_107⟩ := okO_at g_107
        obtain ⟨z_105, r_106, hfc, hf⟩ := cal_some hf
        have hFc := de_free hD hS hA
        refine va_calli (va_runV (As := [.int r_88]) (rest := []) ⟨hx, hb, hml, hown, hts⟩ (de_X5_at l dC dI cy a sh n H_101.size F sk z_98 k_104 r_88 hfc) (cwV 1 hts gX3_prepare_X5_at rfl rfl rfl (by decide +kernel) ⟨Nat.le_of_ble_eq_true rfl, Nat.le_of_ble_eq_true rfl⟩) ⟨fun a U g mk q => by obtain ⟨q0, q1, qP, qK, qD, qN, qS⟩ := q; exact ⟨q0, q1, qP, va_K.moved (u := U) (U := U.calling g mk a) (Vm.Alike.refl U.vm) qK, qD, qN.same rfl, SKs.moved (u := U) (U := U.calling g mk a) (Vm.Alike.refl U.vm) qS⟩, va_recv hK hP (ci := 5) (q0 := k_104) rfl (Wd_ob kg_107 sg_107 (by decide)), fun U hU hW => ⟨rfl, by rw [hU], by rw [hU]; exact hP, va_K.moved hW.alike hK, hD.weaken (fun _ _ _ _ => trivial), hN.warm hW, by rw [hU]; exact ((hSK.kept hS.2.1).narrow hFc).moved hW.alike⟩⟩ rfl rfl hl.1 rfl (lv_room (Nat.le_of_ble_eq_true rfl)) dX3_prepare_99 ⟨Nat.le_of_ble_eq_true rfl, Nat.le_of_ble_eq_true rfl⟩) hS (fun q _ h => hFc q h) hFc (fun rr u t H_108 locs ht hvm hw hB hz1 hk1 hS2 => ?_)
        rw [hw]
        clear hw
        obtain ⟨hP1, -, hD1⟩ := hB
        rw [ht] at hP1
        replace hD := hD1.weaken (fun _ _ _ h => hFc _ h)
        replace hP := hP1
        replace hS := hS2
        clear hP1 hD1 hS2 hFc hfc hz1 hk1 hvm ht
        refine lv_iconst (v := 4) hx hb dX3_prepare_102 (by decide) ?_
        refine lv_icmp_gt (tgt := 120) hx hb dX3_prepare_103 (by decide) (fun c_109 => ?_) (fun c_109 => ?_)
        · skip
          rw [if_pos c_109] at hf
          exact B120 (z_105) ls H_108 locs ⟨lv_sub hl [2, 3, 4, 5] rfl, hP, hD, hS⟩ hf
        · skip
          rw [if_neg c_109] at hf
          refine lv_iload hx hb dX3_prepare_106 (lv_at hl 0 rfl) ?_
          refine lv_iload_n hx hb dX3_prepare_108 rfl (lv_at hl 3 rfl) ?_
          refine lv_icmp_ge (tgt := 120) hx hb dX3_prepare_109 (by decide) (fun c_110 => ?_) (fun c_110 => ?_)
          · skip
            rw [if_pos c_110] at hf
            exact B120 (z_105) ls H_108 locs ⟨lv_sub hl [2, 3, 4, 5] rfl, hP, hD, hS⟩ hf
          · skip
            rw [if_neg c_110] at hf
            refine lv_aload_n hx hb dX3_prepare_112 rfl (lv_at hl 4 rfl) ?_
            obtain ⟨k_111, ek_111, hf⟩ := lnk_some hf
            refine va_get (D := (dC, dI)) (ci := 3) (v := .ref (a k_111)) (C := RX3) (T := TX3) (N := 22) hx hb hts iwd_X3_prepare_X3 hown hK hP h0 (Wd_ob kg_1 sg_1 (by decide)) rfl 17 (by decide) (hts _ md_X3_prepare_7) (fun _ h9 => h9) (fl_q rfl ek_111) dX3_prepare_113 ?_
            refine lv_iload hx hb dX3_prepare_116 (lv_at hl 0 rfl) ?_
            refine lv_iconst (v := 1) hx hb dX3_prepare_118 (by decide) ?_
            obtain ⟨g_112, hf⟩ := grd_some hf
            obtain ⟨kg_112, sg_112, ig_112⟩ := okA_at g_112
            refine va_zast hx hb hK hP hD hS k_111 3 (Wd_az kg_112 sg_112) rfl ig_112 dX3_prepare_119 (fun H_113 locs hP2 hD2 hS2 => ?_)
            rw [Wd_tz sg_112] at hP2 hD2
            obtain ⟨z_114, ez_114⟩ : ∃ w, w = si z_105 k_111 v_96.toNatClampNeg (vp_nar .boolean 1) := ⟨_, rfl⟩
            rw [← ez_114] at hP2 hD2
            replace hf := lt_at ez_114 hf
            clear ez_114
            replace hP := hP2
            replace hD := hD2
            replace hS := hS2
            clear hP2 hD2 hS2
            exact B120 (z_114) ls H_113 locs ⟨lv_sub hl [2, 3, 4, 5] rfl, hP, hD, hS⟩ hf
  · skip
    rw [if_neg c_13] at hf
    refine lv_aload_n hx hb dX3_prepare_27 rfl (lv_at hl 2 rfl) ?_
    obtain ⟨k_115, ek_115, hf⟩ := lnk_some hf
    refine va_get (D := (dC, dI)) (ci := 3) (v := .ref (a k_115)) (C := RX3) (T := TX3) (N := 22) hx hb hts iwd_X3_prepare_X3 hown hK hP h0 (Wd_ob kg_1 sg_1 (by decide)) rfl 17 (by decide) (hts _ md_X3_prepare_7) (fun _ h9 => h9) (fl_q rfl ek_115) dX3_prepare_28 ?_
    refine lv_iload_n hx hb dX3_prepare_31 rfl (lv_at hl 0 rfl) ?_
    refine lv_iconst (v := 0) hx hb dX3_prepare_32 (by decide) ?_
    obtain ⟨g_116, hf⟩ := grd_some hf
    obtain ⟨kg_116, sg_116, ig_116⟩ := okA_at g_116
    refine va_zast hx hb hK hP hD hS k_115 3 (Wd_az kg_116 sg_116) rfl ig_116 dX3_prepare_33 (fun H_117 locs hP2 hD2 hS2 => ?_)
    rw [Wd_tz sg_116] at hP2 hD2
    obtain ⟨z_118, ez_118⟩ : ∃ w, w = si z_11 k_115 p_10.toNatClampNeg (vp_nar .boolean 0) := ⟨_, rfl⟩
    rw [← ez_118] at hP2 hD2
    replace hf := lt_at ez_118 hf
    clear ez_118
    replace hP := hP2
    replace hD := hD2
    replace hS := hS2
    clear hP2 hD2 hS2
    refine lv_aload_n hx hb dX3_prepare_34 rfl (lv_at hl 2 rfl) ?_
    obtain ⟨k_119, ek_119, hf⟩ := lnk_some hf
    refine va_get (D := (dC, dI)) (ci := 3) (v := .ref (a k_119)) (C := RX3) (T := TX3) (N := 22) hx hb hts iwd_X3_prepare_X3 hown hK hP h0 (Wd_ob kg_1 sg_1 (by decide)) rfl 18 (by decide) (hts _ md_X3_prepare_8) (fun _ h9 => h9) (fl_q rfl ek_119) dX3_prepare_35 ?_
    refine lv_iload_n hx hb dX3_prepare_38 rfl (lv_at hl 0 rfl) ?_
    refine lv_iconst (v := 0) hx hb dX3_prepare_39 (by decide) ?_
    obtain ⟨g_120, hf⟩ := grd_some hf
    obtain ⟨kg_120, sg_120, ig_120⟩ := okA_at g_120
    refine va_zast hx hb hK hP hD hS k_119 3 (Wd_az kg_120 sg_120) rfl ig_120 dX3_prepare_40 (fun H_121 locs hP2 hD2 hS2 => ?_)
    rw [Wd_tz sg_120] at hP2 hD2
    obtain ⟨z_122, ez_122⟩ : ∃ w, w = si z_118 k_119 p_10.toNatClampNeg (vp_nar .boolean 0) := ⟨_, rfl⟩
    rw [← ez_122] at hP2 hD2
    replace hf := lt_at ez_122 hf
    clear ez_122
    replace hP := hP2
    replace hD := hD2
    replace hS := hS2
    clear hP2 hD2 hS2
    refine lv_iinc (v := (p_10 + 1)) (lv' := [(3, .int (p_10 + 1)), (2, .int v_9), (0, .ref (a h0)), (1, .int x0)]) hx hb dX3_prepare_41 hl (k := 0) rfl rfl (by decide) rfl (fun ls hl2 => ?_)
    replace hl := hl2
    clear hl2
    refine lv_goto (tgt := 22) hx hb dX3_prepare_44 (by decide) ?_
    exact ih22 (z_122, (p_10 + 1)) ls H_121 locs ⟨lv_sub hl [0, 1, 2, 3] rfl, hP, hD, hS⟩ hf

set_option maxHeartbeats 4000000 in
set_option maxRecDepth 100000 in
theorem de_X16_manyIn (l : Launch) (dC : Nat → ClassId) (dI : Nat → Nat → Nat) (cy : Nat → ClassId) (a : Nat → Nat) (sh : Nat → Nat × Nat) (n sz : Nat) (F : Nat) (z : St) (h0 : Nat) (x0 : Int32) (x1 : Int32) {z8 : St} {r8 : Int32} (hf : fn_X16_manyIn F sh n z h0 x0 x1 = some (z8, r8)) : Met l yX16_manyIn wsX16_manyIn ({ frames := 4, cells := 0, slots := 0, locals := 91 }) (va_Pc [.ref (a h0), .int x0, .int x1] (fun U => U.heap.size = sz ∧ va_P (dC, dI) vwCl (Wd cy a sh n z) U.heap ∧ va_K (dC, dI) vwCl (TYS cy) U ∧ va_D (fun _ => True) (Wd cy a sh n z) ∧ NK U)) (va_Qi (fun (r9 : Int32) (u : Unit) => r9 = r8) (fun u t => va_P (dC, dI) vwCl (Wd cy a sh n z8) t.heap ∧ va_K (dC, dI) vwCl (TYS cy) t ∧ va_D (va_A (Wd cy a sh n z) sz) (Wd cy a sh n z8)) (va_A (Wd cy a sh n z) sz)) 0 0 (va_A (Wd cy a sh n z) sz) := by
  refine Met.ofW (cc := cX16_manyIn) (maxL := 3) (ret := (some .int)) (by decide) rfl ?_
  intro p e s m args below meth c s₁ B hml hv
  obtain ⟨rfl, hsz, hP, hK, hD0, hN⟩ := hv
  have hx := B.exec
  have hb := B.bytes
  have hr := B.returns
  have hts := atoms_spec (ws := wsX16_manyIn) B.pre
  have hown : s.vm.findClass RX16 = some m.cls := findClass_of_methodNamed B.named
  have hlocks := B.notSynchronized
  subst hsz
  have hD := hD0.self (sz := s.heap.size)
  clear hD0
  generalize hAe : va_A (Wd cy a sh n z) s.heap.size = A at hD ⊢
  have hA : ∀ q : Nat, s.heap.size ≤ q → A q := fun q h => by rw [← hAe]; exact Or.inr h
  clear hAe
  have hS : va_S A s.heap s.heap [] := va_S.rf
  have hl := lv_entry ([.ref (a h0), .int x0, .int x1]) (n := 3) (Nat.le_of_ble_eq_true rfl)
  rw [lg_entry_eq]
  generalize (lg_sl ([.ref (a h0), .int x0, .int x1]) ++ List.replicate (3 - (lg_sl ([.ref (a h0), .int x0, .int x1])).length) Slot.unset).toArray = ls at hl ⊢
  replace hl : lv_has ls 3 [(0, .ref (a h0)), (1, .int x0), (2, .int x1)] := hl
  unfold fn_X16_manyIn at hf
  refine de_start hS hP (fun H locs hS hP => ?_)
  refine lv_aload_n hx hb dX16_manyIn_0 rfl (lv_at hl 0 rfl) ?_
  refine lv_aload_n hx hb dX16_manyIn_1 rfl (lv_at hl 0 rfl) ?_
  refine lv_iload_n hx hb dX16_manyIn_2 rfl (lv_at hl 1 rfl) ?_
  refine lv_iload_n hx hb dX16_manyIn_3 rfl (lv_at hl 2 rfl) ?_
  obtain ⟨g_3, hf⟩ := grd_some hf
  obtain ⟨kg_3, sg_3⟩ := okO_at g_3
  obtain ⟨z_1, r_2, hfc, hf⟩ := cal_some hf
  have hFc := de_free hD hS hA
  refine va_calli (va_runV (As := [.int x0, .int x1]) (rest := [.ref (a h0)]) ⟨hx, hb, hml, hown, hts⟩ (de_X16_listAt l dC dI cy a sh n H.size F z h0 x0 x1 hfc) (cwV 2 hts gX16_manyIn_X16_listAt rfl rfl rfl (by decide +kernel) ⟨Nat.le_of_ble_eq_true rfl, Nat.le_of_ble_eq_true rfl⟩) ⟨fun a U g mk q => by obtain ⟨q0, q1, qP, qK, qD, qN⟩ := q; exact ⟨q0, q1, qP, va_K.moved (u := U) (U := U.calling g mk a) (Vm.Alike.refl U.vm) qK, qD, qN.same rfl⟩, va_recv hK hP (ci := 16) (q0 := h0) rfl (Wd_ob kg_3 sg_3 (by decide)), fun U hU hW => ⟨rfl, by rw [hU], by rw [hU]; exact hP, va_K.moved hW.alike hK, hD.weaken (fun _ _ _ _ => trivial), hN.warm hW⟩⟩ rfl rfl hl.1 rfl (lv_room (Nat.le_of_ble_eq_true rfl)) dX16_manyIn_4 ⟨Nat.le_of_ble_eq_true rfl, Nat.le_of_ble_eq_true rfl⟩) hS (fun q _ h => hFc q h) hFc (fun rr u t H_4 locs ht hvm hw hB hz1 hk1 hS2 => ?_)
  rw [hw]
  clear hw
  obtain ⟨hP1, -, hD1⟩ := hB
  rw [ht] at hP1
  replace hD := hD1.weaken (fun _ _ _ h => hFc _ h)
  replace hP := hP1
  replace hS := hS2
  clear hP1 hD1 hS2 hFc hfc hz1 hk1 hvm ht
  obtain ⟨z_5, r_6, hfc, hf⟩ := cal_some hf
  have hFc := de_free hD hS hA
  refine va_calli (va_runV (As := [.int r_2]) (rest := []) ⟨hx, hb, hml, hown, hts⟩ (de_X16_byteAt l dC dI cy a sh n H_4.size F z_1 h0 r_2 hfc) (cwV 1 hts gX16_manyIn_X16_byteAt rfl rfl rfl (by decide +kernel) ⟨Nat.le_of_ble_eq_true rfl, Nat.le_of_ble_eq_true rfl⟩) ⟨fun a U g mk q => by obtain ⟨q0, q1, qP, qK, qD, qN⟩ := q; exact ⟨q0, q1, qP, va_K.moved (u := U) (U := U.calling g mk a) (Vm.Alike.refl U.vm) qK, qD, qN.same rfl⟩, va_recv hK hP (ci := 16) (q0 := h0) rfl (Wd_ob kg_3 sg_3 (by decide)), fun U hU hW => ⟨rfl, by rw [hU], by rw [hU]; exact hP, va_K.moved hW.alike hK, hD.weaken (fun _ _ _ _ => trivial), hN.warm hW⟩⟩ rfl rfl hl.1 rfl (lv_room (Nat.le_of_ble_eq_true rfl)) dX16_manyIn_7 ⟨Nat.le_of_ble_eq_true rfl, Nat.le_of_ble_eq_true rfl⟩) hS (fun q _ h => hFc q h) hFc (fun rr u t H_7 locs ht hvm hw hB hz1 hk1 hS2 => ?_)
  rw [hw]
  clear hw
  obtain ⟨hP1, -, hD1⟩ := hB
  rw [ht] at hP1
  replace hD := hD1.weaken (fun _ _ _ h => hFc _ h)
  replace hP := hP1
  replace hS := hS2
  clear hP1 hD1 hS2 hFc hfc hz1 hk1 hvm ht
  obtain ⟨h8, h9⟩ := ret_some hf
  rw [h8, h9]
  exact W.iret (v := r_6) hx hb hr (fun t ht hW => ⟨⟨r_6, (), rfl, rfl, by rw [ht]; exact hP, va_K.moved hW.alike hK, hD⟩, hS.F ht⟩) hS.2.2 dX16_manyIn_10

theorem md_X18_takeLong_1 : (.fieldLink RX18 40 "ResourceLedgerModel" "trees" "LResourceLedgerModel$Trees;" : Cond) ∈ wsX18_takeLong := List.mem_of_getElem? (i := 1) rfl
theorem iwd_X18_takeLong_X18 : ∀ w ∈ wsX180, w ∈ wsX18_takeLong := fun _ h => List.mem_cons_of_mem _ (List.mem_append_left _ (List.mem_append_right _ h))
theorem iwd_X18_takeLong_X15 : ∀ w ∈ wsX150, w ∈ wsX18_takeLong := fun _ h => List.mem_cons_of_mem _ (List.mem_append_right _ h)
set_option maxHeartbeats 4000000 in
set_option maxRecDepth 100000 in
theorem de_X18_takeLong (l : Launch) (dC : Nat → ClassId) (dI : Nat → Nat → Nat) (cy : Nat → ClassId) (a : Nat → Nat) (sh : Nat → Nat × Nat) (n sz : Nat) (F : Nat) (z : St) (h0 : Nat) {z8 : St} {r8 : Int64} (hf : fn_X18_takeLong F sh n z h0 = some (z8, r8)) : Met l yX18_takeLong wsX18_takeLong ({ frames := 4, cells := 0, slots := 0, locals := 86 }) (va_Pc [.ref (a h0)] (fun U => U.heap.size = sz ∧ va_P (dC, dI) vwCl (Wd cy a sh n z) U.heap ∧ va_K (dC, dI) vwCl (TYS cy) U ∧ va_D (fun _ => True) (Wd cy a sh n z) ∧ NK U)) (va_Ql (fun (r9 : Int64) (u : Unit) => r9 = r8) (fun u t => va_P (dC, dI) vwCl (Wd cy a sh n z8) t.heap ∧ va_K (dC, dI) vwCl (TYS cy) t ∧ va_D (va_A (Wd cy a sh n z) sz) (Wd cy a sh n z8)) (va_A (Wd cy a sh n z) sz)) 0 0 (va_A (Wd cy a sh n z) sz) := by
  refine Met.ofW (cc := cX18_takeLong) (maxL := 2) (ret := (some .long)) (by decide) rfl ?_
  intro p e s m args below meth c s₁ B hml hv
  obtain ⟨rfl, hsz, hP, hK, hD0, hN⟩ := hv
  have hx := B.exec
  have hb := B.bytes
  have hr := B.returns
  have hts := atoms_spec (ws := wsX18_takeLong) B.pre
  have hown : s.vm.findClass RX18 = some m.cls := findClass_of_methodNamed B.named
  have hlocks := B.notSynchronized
  subst hsz
  have hD := hD0.self (sz := s.heap.size)
  clear hD0
  generalize hAe : va_A (Wd cy a sh n z) s.heap.size = A at hD ⊢
  have hA : ∀ q : Nat, s.heap.size ≤ q → A q := fun q h => by rw [← hAe]; exact Or.inr h
  clear hAe
  have hS : va_S A s.heap s.heap [] := va_S.rf
  have hl := lv_entry ([.ref (a h0)]) (n := 2) (Nat.le_of_ble_eq_true rfl)
  rw [lg_entry_eq]
  generalize (lg_sl ([.ref (a h0)]) ++ List.replicate (2 - (lg_sl ([.ref (a h0)])).length) Slot.unset).toArray = ls at hl ⊢
  replace hl : lv_has ls 2 [(0, .ref (a h0))] := hl
  unfold fn_X18_takeLong at hf
  refine de_start hS hP (fun H locs hS hP => ?_)
  refine lv_aload_n hx hb dX18_takeLong_0 rfl (lv_at hl 0 rfl) ?_
  refine lv_iconst (v := 3) hx hb dX18_takeLong_1 (by decide) ?_
  obtain ⟨g_3, hf⟩ := grd_some hf
  obtain ⟨kg_3, sg_3⟩ := okO_at g_3
  obtain ⟨z_1, r_2, hfc, hf⟩ := cal_some hf
  have hFc := de_free hD hS hA
  refine va_calli (va_runV (As := [.int 3]) (rest := []) ⟨hx, hb, hml, hown, hts⟩ (de_X18_take l dC dI cy a sh n H.size F z h0 3 hfc) (cwV 1 hts gX18_takeLong_X18_take rfl rfl rfl (by decide +kernel) ⟨Nat.le_of_ble_eq_true rfl, Nat.le_of_ble_eq_true rfl⟩) ⟨fun a U g mk q => by obtain ⟨q0, q1, qP, qK, qD, qN⟩ := q; exact ⟨q0, q1, qP, va_K.moved (u := U) (U := U.calling g mk a) (Vm.Alike.refl U.vm) qK, qD, qN.same rfl⟩, va_recv hK hP (ci := 18) (q0 := h0) rfl (Wd_ob kg_3 sg_3 (by decide)), fun U hU hW => ⟨rfl, by rw [hU], by rw [hU]; exact hP, va_K.moved hW.alike hK, hD.weaken (fun _ _ _ _ => trivial), hN.warm hW⟩⟩ rfl rfl hl.1 rfl (lv_room (Nat.le_of_ble_eq_true rfl)) dX18_takeLong_2 ⟨Nat.le_of_ble_eq_true rfl, Nat.le_of_ble_eq_true rfl⟩) hS (fun q _ h => hFc q h) hFc (fun rr u t H_4 locs ht hvm hw hB hz1 hk1 hS2 => ?_)
  rw [hw]
  clear hw
  obtain ⟨hP1, -, hD1⟩ := hB
  rw [ht] at hP1
  replace hD := hD1.weaken (fun _ _ _ h => hFc _ h)
  replace hP := hP1
  replace hS := hS2
  clear hP1 hD1 hS2 hFc hfc hz1 hk1 hvm ht
  refine lv_istore_n (lv' := [(1, .int r_2), (0, .ref (a h0))]) hx hb dX18_takeLong_5 rfl hl (by decide) rfl (fun ls hl2 => ?_)
  replace hl := hl2
  clear hl2
  refine lv_aload_n hx hb dX18_takeLong_6 rfl (lv_at hl 1 rfl) ?_
  obtain ⟨k_5, ek_5, hf⟩ := lnk_some hf
  refine va_get (D := (dC, dI)) (ci := 18) (v := .ref (a k_5)) (C := RX18) (T := TX18) (N := 78) hx hb hts iwd_X18_takeLong_X18 hown hK hP h0 (Wd_ob kg_3 sg_3 (by decide)) rfl 15 (by decide) (hts _ md_X18_takeLong_1) (fun _ h9 => h9) (fl_q rfl ek_5) dX18_takeLong_7 ?_
  obtain ⟨g_6, hf⟩ := grd_some hf
  obtain ⟨kg_6, sg_6⟩ := okO_at g_6
  obtain ⟨k_7, ek_7, hf⟩ := lnk_some hf
  refine va_getN (D := (dC, dI)) (ci := 15) (v := .ref (a k_7)) (C := RX15) (T := TX15) (N := 6) hx hb hts iwd_X18_takeLong_X15 hown hK hP k_5 (Wd_ob kg_6 sg_6 (by decide)) rfl 2 (by decide) (va_Nw.use rfl (NK_f_X18_77 hN)) (fun _ h9 => h9) (fl_q rfl ek_7) dX18_takeLong_10 ?_
  refine lv_iload_n hx hb dX18_takeLong_13 rfl (lv_at hl 0 rfl) ?_
  obtain ⟨g_8, hf⟩ := grd_some hf
  obtain ⟨kg_8, sg_8, ig_8⟩ := okA_at g_8
  refine va_lald hx hb hK hP k_7 2 (Wd_al kg_8 sg_8) rfl ig_8 dX18_takeLong_14 ?_
  obtain ⟨h8, h9⟩ := ret_some hf
  rw [h8, h9]
  exact W.lret (v := (z_1.2.1 k_7 r_2.toNatClampNeg)) hx hb hr (fun t ht hW => ⟨⟨(z_1.2.1 k_7 r_2.toNatClampNeg), (), rfl, rfl, by rw [ht]; exact hP, va_K.moved hW.alike hK, hD⟩, hS.F ht⟩) hS.2.2 dX18_takeLong_15

theorem md_X18_abilitiesThere_1 : (.fieldLink RX18 17 "ResourceLedgerModel" "units" "[LResourceLedgerModel$Unit;" : Cond) ∈ wsX18_abilitiesThere := List.mem_of_getElem? (i := 1) rfl
theorem iwd_X18_abilitiesThere_X18 : ∀ w ∈ wsX180, w ∈ wsX18_abilitiesThere := fun _ h => List.mem_cons_of_mem _ (List.mem_append_left _ (List.mem_append_right _ h))
set_option maxHeartbeats 4000000 in
set_option maxRecDepth 100000 in
theorem de_X18_abilitiesThere (l : Launch) (dC : Nat → ClassId) (dI : Nat → Nat → Nat) (cy : Nat → ClassId) (a : Nat → Nat) (sh : Nat → Nat × Nat) (n sz : Nat) (F : Nat) (z : St) (h0 : Nat) (x0 : Int32) (x1 : Int32) {z8 : St} {r8 : Int32} (hf : fn_X18_abilitiesThere F sh n z h0 x0 x1 = some (z8, r8)) : Met l yX18_abilitiesThere wsX18_abilitiesThere ({ frames := 4, cells := 0, slots := 0, locals := 84 }) (va_Pc [.ref (a h0), .int x0, .int x1] (fun U => U.heap.size = sz ∧ va_P (dC, dI) vwCl (Wd cy a sh n z) U.heap ∧ va_K (dC, dI) vwCl (TYS cy) U ∧ va_D (fun _ => True) (Wd cy a sh n z) ∧ NK U)) (va_Qi (fun (r9 : Int32) (u : Unit) => r9 = r8) (fun u t => va_P (dC, dI) vwCl (Wd cy a sh n z8) t.heap ∧ va_K (dC, dI) vwCl (TYS cy) t ∧ va_D (va_A (Wd cy a sh n z) sz) (Wd cy a sh n z8)) (va_A (Wd cy a sh n z) sz)) 0 0 (va_A (Wd cy a sh n z) sz) := by
  refine Met.ofW (cc := cX18_abilitiesThere) (maxL := 3) (ret := (some .int)) (by decide) rfl ?_
  intro p e s m args below meth c s₁ B hml hv
  obtain ⟨rfl, hsz, hP, hK, hD0, hN⟩ := hv
  have hx := B.exec
  have hb := B.bytes
  have hr := B.returns
  have hts := atoms_spec (ws := wsX18_abilitiesThere) B.pre
  have hown : s.vm.findClass RX18 = some m.cls := findClass_of_methodNamed B.named
  have hlocks := B.notSynchronized
  subst hsz
  have hD := hD0.self (sz := s.heap.size)
  clear hD0
  generalize hAe : va_A (Wd cy a sh n z) s.heap.size = A at hD ⊢
  have hA : ∀ q : Nat, s.heap.size ≤ q → A q := fun q h => by rw [← hAe]; exact Or.inr h
  clear hAe
  have hS : va_S A s.heap s.heap [] := va_S.rf
  have hl := lv_entry ([.ref (a h0), .int x0, .int x1]) (n := 3) (Nat.le_of_ble_eq_true rfl)
  rw [lg_entry_eq]
  generalize (lg_sl ([.ref (a h0), .int x0, .int x1]) ++ List.replicate (3 - (lg_sl ([.ref (a h0), .int x0, .int x1])).length) Slot.unset).toArray = ls at hl ⊢
  replace hl : lv_has ls 3 [(0, .ref (a h0)), (1, .int x0), (2, .int x1)] := hl
  unfold fn_X18_abilitiesThere at hf
  refine de_start hS hP (fun H locs hS hP => ?_)
  refine lv_iload_n hx hb dX18_abilitiesThere_0 rfl (lv_at hl 1 rfl) ?_
  refine lv_if_ne (tgt := 8) hx hb dX18_abilitiesThere_1 (by decide) (fun c_1 => ?_) (fun c_1 => ?_)
  · skip
    rw [if_neg c_1] at hf
    refine lv_aload_n hx hb dX18_abilitiesThere_8 rfl (lv_at hl 0 rfl) ?_
    obtain ⟨g_2, hf⟩ := grd_some hf
    obtain ⟨kg_2, sg_2⟩ := okO_at g_2
    obtain ⟨k_3, ek_3, hf⟩ := lnk_some hf
    refine va_get (D := (dC, dI)) (ci := 18) (v := .ref (a k_3)) (C := RX18) (T := TX18) (N := 78) hx hb hts iwd_X18_abilitiesThere_X18 hown hK hP h0 (Wd_ob kg_2 sg_2 (by decide)) rfl 4 (by decide) (hts _ md_X18_abilitiesThere_1) (fun _ h9 => h9) (fl_q rfl ek_3) dX18_abilitiesThere_9 ?_
    refine lv_aload_n hx hb dX18_abilitiesThere_12 rfl (lv_at hl 0 rfl) ?_
    refine lv_iload_n hx hb dX18_abilitiesThere_13 rfl (lv_at hl 1 rfl) ?_
    obtain ⟨z_4, r_5, hfc, hf⟩ := cal_some hf
    have hFc := de_free hD hS hA
    refine va_calli (va_runV (As := [.int x0]) (rest := [.ref (a k_3)]) ⟨hx, hb, hml, hown, hts⟩ (de_X18_findModule l dC dI cy a sh n H.size F z h0 x0 hfc) (cwV 1 hts gX18_abilitiesThere_X18_findModule rfl rfl rfl (by decide +kernel) ⟨Nat.le_of_ble_eq_true rfl, Nat.le_of_ble_eq_true rfl⟩) ⟨fun a U g mk q => by obtain ⟨q0, q1, qP, qK, qD, qN⟩ := q; exact ⟨q0, q1, qP, va_K.moved (u := U) (U := U.calling g mk a) (Vm.Alike.refl U.vm) qK, qD, qN.same rfl⟩, va_recv hK hP (ci := 18) (q0 := h0) rfl (Wd_ob kg_2 sg_2 (by decide)), fun U hU hW => ⟨rfl, by rw [hU], by rw [hU]; exact hP, va_K.moved hW.alike hK, hD.weaken (fun _ _ _ _ => trivial), hN.warm hW⟩⟩ rfl rfl hl.1 rfl (lv_room (Nat.le_of_ble_eq_true rfl)) dX18_abilitiesThere_14 ⟨Nat.le_of_ble_eq_true rfl, Nat.le_of_ble_eq_true rfl⟩) hS (fun q _ h => hFc q h) hFc (fun rr u t H_6 locs ht hvm hw hB hz1 hk1 hS2 => ?_)
    rw [hw]
    clear hw
    obtain ⟨hP1, -, hD1⟩ := hB
    rw [ht] at hP1
    replace hD := hD1.weaken (fun _ _ _ h => hFc _ h)
    replace hP := hP1
    replace hS := hS2
    clear hP1 hD1 hS2 hFc hfc hz1 hk1 hvm ht
    obtain ⟨g_7, hf⟩ := grd_some hf
    obtain ⟨kg_7, sg_7, ig_7⟩ := okA_at g_7
    obtain ⟨k_8, ek_8, hf⟩ := lnk_some hf
    refine va_aldq (C := RX16) hx hb hK hP k_3 6 (Wd_aq kg_7 sg_7 (by decide)) rfl ig_7 dX18_abilitiesThere_17 ?_
    refine W.eq (g2 := F0 m 18 ls [.ref (a k_8)]) (by rw [ek_8]; rfl) ?_
    refine lv_iload_n hx hb dX18_abilitiesThere_18 rfl (lv_at hl 2 rfl) ?_
    obtain ⟨g_11, hf⟩ := grd_some hf
    obtain ⟨kg_11, sg_11⟩ := okO_at g_11
    obtain ⟨z_9, r_10, hfc, hf⟩ := cal_some hf
    have hFc := de_free hD hS hA
    refine va_calli (va_runV (As := [.int x1]) (rest := []) ⟨hx, hb, hml, hown, hts⟩ (de_X16_abilitiesOf l dC dI cy a sh n H_6.size F z_4 k_8 x1 hfc) (cwV 1 hts gX18_abilitiesThere_X16_abilitiesOf rfl rfl rfl (by decide +kernel) ⟨Nat.le_of_ble_eq_true rfl, Nat.le_of_ble_eq_true rfl⟩) ⟨fun a U g mk q => by obtain ⟨q0, q1, qP, qK, qD, qN⟩ := q; exact ⟨q0, q1, qP, va_K.moved (u := U) (U := U.calling g mk a) (Vm.Alike.refl U.vm) qK, qD, qN.same rfl⟩, va_recv hK hP (ci := 16) (q0 := k_8) rfl (Wd_ob kg_11 sg_11 (by decide)), fun U hU hW => ⟨rfl, by rw [hU], by rw [hU]; exact hP, va_K.moved hW.alike hK, hD.weaken (fun _ _ _ _ => trivial), hN.warm hW⟩⟩ rfl rfl hl.1 rfl (lv_room (Nat.le_of_ble_eq_true rfl)) dX18_abilitiesThere_19 ⟨Nat.le_of_ble_eq_true rfl, Nat.le_of_ble_eq_true rfl⟩) hS (fun q _ h => hFc q h) hFc (fun rr u t H_12 locs ht hvm hw hB hz1 hk1 hS2 => ?_)
    rw [hw]
    clear hw
    obtain ⟨hP1, -, hD1⟩ := hB
    rw [ht] at hP1
    replace hD := hD1.weaken (fun _ _ _ h => hFc _ h)
    replace hP := hP1
    replace hS := hS2
    clear hP1 hD1 hS2 hFc hfc hz1 hk1 hvm ht
    obtain ⟨h8, h9⟩ := ret_some hf
    rw [h8, h9]
    exact W.iret (v := r_10) hx hb hr (fun t ht hW => ⟨⟨r_10, (), rfl, rfl, by rw [ht]; exact hP, va_K.moved hW.alike hK, hD⟩, hS.F ht⟩) hS.2.2 dX18_abilitiesThere_22
  · skip
    rw [if_pos c_1] at hf
    refine lv_iconst (v := 4) hx hb dX18_abilitiesThere_4 (by decide) ?_
    refine lv_goto (tgt := 22) hx hb dX18_abilitiesThere_5 (by decide) ?_
    obtain ⟨h8, h9⟩ := ret_some hf
    rw [h8, h9]
    exact W.iret (v := 4) hx hb hr (fun t ht hW => ⟨⟨4, (), rfl, rfl, by rw [ht]; exact hP, va_K.moved hW.alike hK, hD⟩, hS.F ht⟩) hS.2.2 dX18_abilitiesThere_22

theorem md_X18_flagsThere_1 : (.fieldLink RX18 17 "ResourceLedgerModel" "units" "[LResourceLedgerModel$Unit;" : Cond) ∈ wsX18_flagsThere := List.mem_of_getElem? (i := 1) rfl
theorem iwd_X18_flagsThere_X18 : ∀ w ∈ wsX180, w ∈ wsX18_flagsThere := fun _ h => List.mem_cons_of_mem _ (List.mem_append_left _ (List.mem_append_right _ h))
set_option maxHeartbeats 4000000 in
set_option maxRecDepth 100000 in
theorem de_X18_flagsThere (l : Launch) (dC : Nat → ClassId) (dI : Nat → Nat → Nat) (cy : Nat → ClassId) (a : Nat → Nat) (sh : Nat → Nat × Nat) (n sz : Nat) (F : Nat) (z : St) (h0 : Nat) (x0 : Int32) (x1 : Int32) {z8 : St} {r8 : Int32} (hf : fn_X18_flagsThere F sh n z h0 x0 x1 = some (z8, r8)) : Met l yX18_flagsThere wsX18_flagsThere ({ frames := 4, cells := 0, slots := 0, locals := 84 }) (va_Pc [.ref (a h0), .int x0, .int x1] (fun U => U.heap.size = sz ∧ va_P (dC, dI) vwCl (Wd cy a sh n z) U.heap ∧ va_K (dC, dI) vwCl (TYS cy) U ∧ va_D (fun _ => True) (Wd cy a sh n z) ∧ NK U)) (va_Qi (fun (r9 : Int32) (u : Unit) => r9 = r8) (fun u t => va_P (dC, dI) vwCl (Wd cy a sh n z8) t.heap ∧ va_K (dC, dI) vwCl (TYS cy) t ∧ va_D (va_A (Wd cy a sh n z) sz) (Wd cy a sh n z8)) (va_A (Wd cy a sh n z) sz)) 0 0 (va_A (Wd cy a sh n z) sz) := by
  refine Met.ofW (cc := cX18_flagsThere) (maxL := 3) (ret := (some .int)) (by decide) rfl ?_
  intro p e s m args below meth c s₁ B hml hv
  obtain ⟨rfl, hsz, hP, hK, hD0, hN⟩ := hv
  have hx := B.exec
  have hb := B.bytes
  have hr := B.returns
  have hts := atoms_spec (ws := wsX18_flagsThere) B.pre
  have hown : s.vm.findClass RX18 = some m.cls := findClass_of_methodNamed B.named
  have hlocks := B.notSynchronized
  subst hsz
  have hD := hD0.self (sz := s.heap.size)
  clear hD0
  generalize hAe : va_A (Wd cy a sh n z) s.heap.size = A at hD ⊢
  have hA : ∀ q : Nat, s.heap.size ≤ q → A q := fun q h => by rw [← hAe]; exact Or.inr h
  clear hAe
  have hS : va_S A s.heap s.heap [] := va_S.rf
  have hl := lv_entry ([.ref (a h0), .int x0, .int x1]) (n := 3) (Nat.le_of_ble_eq_true rfl)
  rw [lg_entry_eq]
  generalize (lg_sl ([.ref (a h0), .int x0, .int x1]) ++ List.replicate (3 - (lg_sl ([.ref (a h0), .int x0, .int x1])).length) Slot.unset).toArray = ls at hl ⊢
  replace hl : lv_has ls 3 [(0, .ref (a h0)), (1, .int x0), (2, .int x1)] := hl
  unfold fn_X18_flagsThere at hf
  refine de_start hS hP (fun H locs hS hP => ?_)
  refine lv_iload_n hx hb dX18_flagsThere_0 rfl (lv_at hl 1 rfl) ?_
  refine lv_if_ne (tgt := 8) hx hb dX18_flagsThere_1 (by decide) (fun c_1 => ?_) (fun c_1 => ?_)
  · skip
    rw [if_neg c_1] at hf
    refine lv_aload_n hx hb dX18_flagsThere_8 rfl (lv_at hl 0 rfl) ?_
    obtain ⟨g_2, hf⟩ := grd_some hf
    obtain ⟨kg_2, sg_2⟩ := okO_at g_2
    obtain ⟨k_3, ek_3, hf⟩ := lnk_some hf
    refine va_get (D := (dC, dI)) (ci := 18) (v := .ref (a k_3)) (C := RX18) (T := TX18) (N := 78) hx hb hts iwd_X18_flagsThere_X18 hown hK hP h0 (Wd_ob kg_2 sg_2 (by decide)) rfl 4 (by decide) (hts _ md_X18_flagsThere_1) (fun _ h9 => h9) (fl_q rfl ek_3) dX18_flagsThere_9 ?_
    refine lv_aload_n hx hb dX18_flagsThere_12 rfl (lv_at hl 0 rfl) ?_
    refine lv_iload_n hx hb dX18_flagsThere_13 rfl (lv_at hl 1 rfl) ?_
    obtain ⟨z_4, r_5, hfc, hf⟩ := cal_some hf
    have hFc := de_free hD hS hA
    refine va_calli (va_runV (As := [.int x0]) (rest := [.ref (a k_3)]) ⟨hx, hb, hml, hown, hts⟩ (de_X18_findModule l dC dI cy a sh n H.size F z h0 x0 hfc) (cwV 1 hts gX18_flagsThere_X18_findModule rfl rfl rfl (by decide +kernel) ⟨Nat.le_of_ble_eq_true rfl, Nat.le_of_ble_eq_true rfl⟩) ⟨fun a U g mk q => by obtain ⟨q0, q1, qP, qK, qD, qN⟩ := q; exact ⟨q0, q1, qP, va_K.moved (u := U) (U := U.calling g mk a) (Vm.Alike.refl U.vm) qK, qD, qN.same rfl⟩, va_recv hK hP (ci := 18) (q0 := h0) rfl (Wd_ob kg_2 sg_2 (by decide)), fun U hU hW => ⟨rfl, by rw [hU], by rw [hU]; exact hP, va_K.moved hW.alike hK, hD.weaken (fun _ _ _ _ => trivial), hN.warm hW⟩⟩ rfl rfl hl.1 rfl (lv_room (Nat.le_of_ble_eq_true rfl)) dX18_flagsThere_14 ⟨Nat.le_of_ble_eq_true rfl, Nat.le_of_ble_eq_true rfl⟩) hS (fun q _ h => hFc q h) hFc (fun rr u t H_6 locs ht hvm hw hB hz1 hk1 hS2 => ?_)
    rw [hw]
    clear hw
    obtain ⟨hP1, -, hD1⟩ := hB
    rw [ht] at hP1
    replace hD := hD1.weaken (fun _ _ _ h => hFc _ h)
    replace hP := hP1
    replace hS := hS2
    clear hP1 hD1 hS2 hFc hfc hz1 hk1 hvm ht
    obtain ⟨g_7, hf⟩ := grd_some hf
    obtain ⟨kg_7, sg_7, ig_7⟩ := okA_at g_7
    obtain ⟨k_8, ek_8, hf⟩ := lnk_some hf
    refine va_aldq (C := RX16) hx hb hK hP k_3 6 (Wd_aq kg_7 sg_7 (by decide)) rfl ig_7 dX18_flagsThere_17 ?_
    refine W.eq (g2 := F0 m 18 ls [.ref (a k_8)]) (by rw [ek_8]; rfl) ?_
    refine lv_iload_n hx hb dX18_flagsThere_18 rfl (lv_at hl 2 rfl) ?_
    obtain ⟨g_11, hf⟩ := grd_some hf
    obtain ⟨kg_11, sg_11⟩ := okO_at g_11
    obtain ⟨z_9, r_10, hfc, hf⟩ := cal_some hf
    have hFc := de_free hD hS hA
    refine va_calli (va_runV (As := [.int x1]) (rest := []) ⟨hx, hb, hml, hown, hts⟩ (de_X16_flags l dC dI cy a sh n H_6.size F z_4 k_8 x1 hfc) (cwV 1 hts gX18_flagsThere_X16_flags rfl rfl rfl (by decide +kernel) ⟨Nat.le_of_ble_eq_true rfl, Nat.le_of_ble_eq_true rfl⟩) ⟨fun a U g mk q => by obtain ⟨q0, q1, qP, qK, qD, qN⟩ := q; exact ⟨q0, q1, qP, va_K.moved (u := U) (U := U.calling g mk a) (Vm.Alike.refl U.vm) qK, qD, qN.same rfl⟩, va_recv hK hP (ci := 16) (q0 := k_8) rfl (Wd_ob kg_11 sg_11 (by decide)), fun U hU hW => ⟨rfl, by rw [hU], by rw [hU]; exact hP, va_K.moved hW.alike hK, hD.weaken (fun _ _ _ _ => trivial), hN.warm hW⟩⟩ rfl rfl hl.1 rfl (lv_room (Nat.le_of_ble_eq_true rfl)) dX18_flagsThere_19 ⟨Nat.le_of_ble_eq_true rfl, Nat.le_of_ble_eq_true rfl⟩) hS (fun q _ h => hFc q h) hFc (fun rr u t H_12 locs ht hvm hw hB hz1 hk1 hS2 => ?_)
    rw [hw]
    clear hw
    obtain ⟨hP1, -, hD1⟩ := hB
    rw [ht] at hP1
    replace hD := hD1.weaken (fun _ _ _ h => hFc _ h)
    replace hP := hP1
    replace hS := hS2
    clear hP1 hD1 hS2 hFc hfc hz1 hk1 hvm ht
    obtain ⟨h8, h9⟩ := ret_some hf
    rw [h8, h9]
    exact W.iret (v := r_10) hx hb hr (fun t ht hW => ⟨⟨r_10, (), rfl, rfl, by rw [ht]; exact hP, va_K.moved hW.alike hK, hD⟩, hS.F ht⟩) hS.2.2 dX18_flagsThere_22
  · skip
    rw [if_pos c_1] at hf
    refine lv_iconst (v := 1) hx hb dX18_flagsThere_4 (by decide) ?_
    refine lv_goto (tgt := 22) hx hb dX18_flagsThere_5 (by decide) ?_
    obtain ⟨h8, h9⟩ := ret_some hf
    rw [h8, h9]
    exact W.iret (v := 1) hx hb hr (fun t ht hW => ⟨⟨1, (), rfl, rfl, by rw [ht]; exact hP, va_K.moved hW.alike hK, hD⟩, hS.F ht⟩) hS.2.2 dX18_flagsThere_22

theorem md_X18_identityThere_1 : (.fieldLink RX18 17 "ResourceLedgerModel" "units" "[LResourceLedgerModel$Unit;" : Cond) ∈ wsX18_identityThere := List.mem_of_getElem? (i := 1) rfl
theorem iwd_X18_identityThere_X18 : ∀ w ∈ wsX180, w ∈ wsX18_identityThere := fun _ h => List.mem_cons_of_mem _ (List.mem_append_left _ (List.mem_append_right _ h))
set_option maxHeartbeats 4000000 in
set_option maxRecDepth 100000 in
theorem de_X18_identityThere (l : Launch) (dC : Nat → ClassId) (dI : Nat → Nat → Nat) (cy : Nat → ClassId) (a : Nat → Nat) (sh : Nat → Nat × Nat) (n sz : Nat) (F : Nat) (z : St) (h0 : Nat) (x0 : Int32) (x1 : Int32) {z8 : St} {r8 : Int32} (hf : fn_X18_identityThere F sh n z h0 x0 x1 = some (z8, r8)) : Met l yX18_identityThere wsX18_identityThere ({ frames := 4, cells := 0, slots := 0, locals := 84 }) (va_Pc [.ref (a h0), .int x0, .int x1] (fun U => U.heap.size = sz ∧ va_P (dC, dI) vwCl (Wd cy a sh n z) U.heap ∧ va_K (dC, dI) vwCl (TYS cy) U ∧ va_D (fun _ => True) (Wd cy a sh n z) ∧ NK U)) (va_Qi (fun (r9 : Int32) (u : Unit) => r9 = r8) (fun u t => va_P (dC, dI) vwCl (Wd cy a sh n z8) t.heap ∧ va_K (dC, dI) vwCl (TYS cy) t ∧ va_D (va_A (Wd cy a sh n z) sz) (Wd cy a sh n z8)) (va_A (Wd cy a sh n z) sz)) 0 0 (va_A (Wd cy a sh n z) sz) := by
  refine Met.ofW (cc := cX18_identityThere) (maxL := 3) (ret := (some .int)) (by decide) rfl ?_
  intro p e s m args below meth c s₁ B hml hv
  obtain ⟨rfl, hsz, hP, hK, hD0, hN⟩ := hv
  have hx := B.exec
  have hb := B.bytes
  have hr := B.returns
  have hts := atoms_spec (ws := wsX18_identityThere) B.pre
  have hown : s.vm.findClass RX18 = some m.cls := findClass_of_methodNamed B.named
  have hlocks := B.notSynchronized
  subst hsz
  have hD := hD0.self (sz := s.heap.size)
  clear hD0
  generalize hAe : va_A (Wd cy a sh n z) s.heap.size = A at hD ⊢
  have hA : ∀ q : Nat, s.heap.size ≤ q → A q := fun q h => by rw [← hAe]; exact Or.inr h
  clear hAe
  have hS : va_S A s.heap s.heap [] := va_S.rf
  have hl := lv_entry ([.ref (a h0), .int x0, .int x1]) (n := 3) (Nat.le_of_ble_eq_true rfl)
  rw [lg_entry_eq]
  generalize (lg_sl ([.ref (a h0), .int x0, .int x1]) ++ List.replicate (3 - (lg_sl ([.ref (a h0), .int x0, .int x1])).length) Slot.unset).toArray = ls at hl ⊢
  replace hl : lv_has ls 3 [(0, .ref (a h0)), (1, .int x0), (2, .int x1)] := hl
  unfold fn_X18_identityThere at hf
  refine de_start hS hP (fun H locs hS hP => ?_)
  refine lv_iload_n hx hb dX18_identityThere_0 rfl (lv_at hl 1 rfl) ?_
  refine lv_if_ne (tgt := 8) hx hb dX18_identityThere_1 (by decide) (fun c_1 => ?_) (fun c_1 => ?_)
  · skip
    rw [if_neg c_1] at hf
    refine lv_aload_n hx hb dX18_identityThere_8 rfl (lv_at hl 0 rfl) ?_
    obtain ⟨g_2, hf⟩ := grd_some hf
    obtain ⟨kg_2, sg_2⟩ := okO_at g_2
    obtain ⟨k_3, ek_3, hf⟩ := lnk_some hf
    refine va_get (D := (dC, dI)) (ci := 18) (v := .ref (a k_3)) (C := RX18) (T := TX18) (N := 78) hx hb hts iwd_X18_identityThere_X18 hown hK hP h0 (Wd_ob kg_2 sg_2 (by decide)) rfl 4 (by decide) (hts _ md_X18_identityThere_1) (fun _ h9 => h9) (fl_q rfl ek_3) dX18_identityThere_9 ?_
    refine lv_aload_n hx hb dX18_identityThere_12 rfl (lv_at hl 0 rfl) ?_
    refine lv_iload_n hx hb dX18_identityThere_13 rfl (lv_at hl 1 rfl) ?_
    obtain ⟨z_4, r_5, hfc, hf⟩ := cal_some hf
    have hFc := de_free hD hS hA
    refine va_calli (va_runV (As := [.int x0]) (rest := [.ref (a k_3)]) ⟨hx, hb, hml, hown, hts⟩ (de_X18_findModule l dC dI cy a sh n H.size F z h0 x0 hfc) (cwV 1 hts gX18_identityThere_X18_findModule rfl rfl rfl (by decide +kernel) ⟨Nat.le_of_ble_eq_true rfl, Nat.le_of_ble_eq_true rfl⟩) ⟨fun a U g mk q => by obtain ⟨q0, q1, qP, qK, qD, qN⟩ := q; exact ⟨q0, q1, qP, va_K.moved (u := U) (U := U.calling g mk a) (Vm.Alike.refl U.vm) qK, qD, qN.same rfl⟩, va_recv hK hP (ci := 18) (q0 := h0) rfl (Wd_ob kg_2 sg_2 (by decide)), fun U hU hW => ⟨rfl, by rw [hU], by rw [hU]; exact hP, va_K.moved hW.alike hK, hD.weaken (fun _ _ _ _ => trivial), hN.warm hW⟩⟩ rfl rfl hl.1 rfl (lv_room (Nat.le_of_ble_eq_true rfl)) dX18_identityThere_14 ⟨Nat.le_of_ble_eq_true rfl, Nat.le_of_ble_eq_true rfl⟩) hS (fun q _ h => hFc q h) hFc (fun rr u t H_6 locs ht hvm hw hB hz1 hk1 hS2 => ?_)
    rw [hw]
    clear hw
    obtain ⟨hP1, -, hD1⟩ := hB
    rw [ht] at hP1
    replace hD := hD1.weaken (fun _ _ _ h => hFc _ h)
    replace hP := hP1
    replace hS := hS2
    clear hP1 hD1 hS2 hFc hfc hz1 hk1 hvm ht
    obtain ⟨g_7, hf⟩ := grd_some hf
    obtain ⟨kg_7, sg_7, ig_7⟩ := okA_at g_7
    obtain ⟨k_8, ek_8, hf⟩ := lnk_some hf
    refine va_aldq (C := RX16) hx hb hK hP k_3 6 (Wd_aq kg_7 sg_7 (by decide)) rfl ig_7 dX18_identityThere_17 ?_
    refine W.eq (g2 := F0 m 18 ls [.ref (a k_8)]) (by rw [ek_8]; rfl) ?_
    refine lv_iload_n hx hb dX18_identityThere_18 rfl (lv_at hl 2 rfl) ?_
    obtain ⟨g_11, hf⟩ := grd_some hf
    obtain ⟨kg_11, sg_11⟩ := okO_at g_11
    obtain ⟨z_9, r_10, hfc, hf⟩ := cal_some hf
    have hFc := de_free hD hS hA
    refine va_calli (va_runV (As := [.int x1]) (rest := []) ⟨hx, hb, hml, hown, hts⟩ (de_X16_identity l dC dI cy a sh n H_6.size F z_4 k_8 x1 hfc) (cwV 1 hts gX18_identityThere_X16_identity rfl rfl rfl (by decide +kernel) ⟨Nat.le_of_ble_eq_true rfl, Nat.le_of_ble_eq_true rfl⟩) ⟨fun a U g mk q => by obtain ⟨q0, q1, qP, qK, qD, qN⟩ := q; exact ⟨q0, q1, qP, va_K.moved (u := U) (U := U.calling g mk a) (Vm.Alike.refl U.vm) qK, qD, qN.same rfl⟩, va_recv hK hP (ci := 16) (q0 := k_8) rfl (Wd_ob kg_11 sg_11 (by decide)), fun U hU hW => ⟨rfl, by rw [hU], by rw [hU]; exact hP, va_K.moved hW.alike hK, hD.weaken (fun _ _ _ _ => trivial), hN.warm hW⟩⟩ rfl rfl hl.1 rfl (lv_room (Nat.le_of_ble_eq_true rfl)) dX18_identityThere_19 ⟨Nat.le_of_ble_eq_true rfl, Nat.le_of_ble_eq_true rfl⟩) hS (fun q _ h => hFc q h) hFc (fun rr u t H_12 locs ht hvm hw hB hz1 hk1 hS2 => ?_)
    rw [hw]
    clear hw
    obtain ⟨hP1, -, hD1⟩ := hB
    rw [ht] at hP1
    replace hD := hD1.weaken (fun _ _ _ h => hFc _ h)
    replace hP := hP1
    replace hS := hS2
    clear hP1 hD1 hS2 hFc hfc hz1 hk1 hvm ht
    obtain ⟨h8, h9⟩ := ret_some hf
    rw [h8, h9]
    exact W.iret (v := r_10) hx hb hr (fun t ht hW => ⟨⟨r_10, (), rfl, rfl, by rw [ht]; exact hP, va_K.moved hW.alike hK, hD⟩, hS.F ht⟩) hS.2.2 dX18_identityThere_22
  · skip
    rw [if_pos c_1] at hf
    refine lv_iconst (v := 0) hx hb dX18_identityThere_4 (by decide) ?_
    refine lv_goto (tgt := 22) hx hb dX18_identityThere_5 (by decide) ?_
    obtain ⟨h8, h9⟩ := ret_some hf
    rw [h8, h9]
    exact W.iret (v := 0) hx hb hr (fun t ht hW => ⟨⟨0, (), rfl, rfl, by rw [ht]; exact hP, va_K.moved hW.alike hK, hD⟩, hS.F ht⟩) hS.2.2 dX18_identityThere_22

theorem md_X2_open_1 : (.fieldLink RX2 46 "ResourceLedger$Journal" "count" "I" : Cond) ∈ wsX2_open := List.mem_of_getElem? (i := 1) rfl
theorem iwd_X2_open_X2 : ∀ w ∈ wsX20, w ∈ wsX2_open := fun _ h => List.mem_cons_of_mem _ (List.mem_append_left _ (List.mem_append_left _ (List.mem_append_left _ (List.mem_append_right _ h))))
theorem md_X2_open_2 : (.fieldLink RX2 50 "ResourceLedger$Transaction" "sender" "J" : Cond) ∈ wsX2_open := List.mem_of_getElem? (i := 2) rfl
theorem iwd_X2_open_X8 : ∀ w ∈ wsX80, w ∈ wsX2_open := fun _ h => List.mem_cons_of_mem _ (List.mem_append_left _ (List.mem_append_left _ (List.mem_append_right _ h)))
theorem md_X2_open_3 : (.fieldLink RX2 60 "ResourceLedger$Transaction" "module" "I" : Cond) ∈ wsX2_open := List.mem_of_getElem? (i := 3) rfl
set_option maxHeartbeats 4000000 in
set_option maxRecDepth 100000 in
theorem de_X2_open (l : Launch) (dC : Nat → ClassId) (dI : Nat → Nat → Nat) (cy : Nat → ClassId) (a : Nat → Nat) (sh : Nat → Nat × Nat) (n sz : Nat) (F : Nat) (z : St) (h0 : Nat) (x0 : Nat) {z8 : St} {r8 : Unit} (hf : fn_X2_open F sh n z h0 x0 = some (z8, r8)) : Met l yX2_open wsX2_open ({ frames := 52, cells := 0, slots := 0, locals := 1446 }) (va_Pc [.ref (a h0), .ref (a x0)] (fun U => U.heap.size = sz ∧ va_P (dC, dI) vwCl (Wd cy a sh n z) U.heap ∧ va_K (dC, dI) vwCl (TYS cy) U ∧ va_D (fun _ => True) (Wd cy a sh n z) ∧ NK U)) (va_Qv (fun u : Unit => True) (fun u t => va_P (dC, dI) vwCl (Wd cy a sh n z8) t.heap ∧ va_K (dC, dI) vwCl (TYS cy) t ∧ va_D (va_A (Wd cy a sh n z) sz) (Wd cy a sh n z8)) (va_A (Wd cy a sh n z) sz)) 0 0 (va_A (Wd cy a sh n z) sz) := by
  refine Met.ofW (cc := cX2_open) (maxL := 2) (ret := none) (by decide) rfl ?_
  intro p e s m args below meth c s₁ B hml hv
  obtain ⟨rfl, hsz, hP, hK, hD0, hN⟩ := hv
  have hx := B.exec
  have hb := B.bytes
  have hr := B.returns
  have hts := atoms_spec (ws := wsX2_open) B.pre
  have hown : s.vm.findClass RX2 = some m.cls := findClass_of_methodNamed B.named
  have hlocks := B.notSynchronized
  subst hsz
  have hD := hD0.self (sz := s.heap.size)
  clear hD0
  generalize hAe : va_A (Wd cy a sh n z) s.heap.size = A at hD ⊢
  have hA : ∀ q : Nat, s.heap.size ≤ q → A q := fun q h => by rw [← hAe]; exact Or.inr h
  clear hAe
  have hS : va_S A s.heap s.heap [] := va_S.rf
  have hl := lv_entry ([.ref (a h0), .ref (a x0)]) (n := 2) (Nat.le_of_ble_eq_true rfl)
  rw [lg_entry_eq]
  generalize (lg_sl ([.ref (a h0), .ref (a x0)]) ++ List.replicate (2 - (lg_sl ([.ref (a h0), .ref (a x0)])).length) Slot.unset).toArray = ls at hl ⊢
  replace hl : lv_has ls 2 [(0, .ref (a h0)), (1, .ref (a x0))] := hl
  unfold fn_X2_open at hf
  refine de_start hS hP (fun H locs hS hP => ?_)
  refine lv_aload_n hx hb dX2_open_0 rfl (lv_at hl 0 rfl) ?_
  refine lv_iconst (v := 0) hx hb dX2_open_1 (by decide) ?_
  obtain ⟨g_1, hf⟩ := grd_some hf
  obtain ⟨kg_1, sg_1⟩ := okO_at g_1
  refine va_put (D := (dC, dI)) (ci := 2) (v := .int 0) (ty := .int) (C := RX2) (T := TX2) (N := 11) hx hb hts iwd_X2_open_X2 tyX2 tyX2_ok nmX2 hown hK hP hD hS h0 (Wd_ob kg_1 sg_1 (by decide)) rfl 7 (by decide) (hts _ md_X2_open_1) (fun _ h9 => h9) rfl (by decide +kernel) rfl rfl (by rw [fl_len]; decide) dX2_open_2 (fun H_2 locs hP2 hD2 hS2 => ?_)
  rw [Wd_si sg_1 (by decide) rfl] at hP2 hD2
  obtain ⟨z_3, ez_3⟩ : ∃ w, w = si z h0 7 0 := ⟨_, rfl⟩
  rw [← ez_3] at hP2 hD2
  replace hf := lt_at ez_3 hf
  clear ez_3
  replace hP := hP2
  replace hD := hD2
  replace hS := hS2
  clear hP2 hD2 hS2
  refine lv_aload_n hx hb dX2_open_5 rfl (lv_at hl 0 rfl) ?_
  refine lv_iconst (v := 1) hx hb dX2_open_6 (by decide) ?_
  refine lv_aload_n hx hb dX2_open_7 rfl (lv_at hl 1 rfl) ?_
  obtain ⟨g_4, hf⟩ := grd_some hf
  obtain ⟨kg_4, sg_4⟩ := okO_at g_4
  refine va_get (D := (dC, dI)) (ci := 8) (v := .long (z_3.2.1 x0 1)) (C := RX8) (T := TX8) (N := 19) hx hb hts iwd_X2_open_X8 hown hK hP x0 (Wd_ob kg_4 sg_4 (by decide)) rfl 1 (by decide) (hts _ md_X2_open_2) (fun _ h9 => h9) (fl_at (t := 1) rfl) dX2_open_8 ?_
  refine lv_iconst (v := 0) hx hb dX2_open_11 (by decide) ?_
  refine lv_iconst (v := 0) hx hb dX2_open_12 (by decide) ?_
  obtain ⟨z_5, r_6, hfc, hf⟩ := cal_some hf
  have hFc := de_free hD hS hA
  refine va_calli (va_runV (As := [.int 1, .long (z_3.2.1 x0 1), .int 0, .int 0]) (rest := []) ⟨hx, hb, hml, hown, hts⟩ (de_X2_ask l dC dI cy a sh n H_2.size F z_3 h0 1 (z_3.2.1 x0 1) 0 0 hfc) (cwV 4 hts gX2_open_X2_ask rfl rfl rfl (by decide +kernel) ⟨Nat.le_of_ble_eq_true rfl, Nat.le_of_ble_eq_true rfl⟩) ⟨fun a U g mk q => by obtain ⟨q0, q1, qP, qK, qD, qN⟩ := q; exact ⟨q0, q1, qP, va_K.moved (u := U) (U := U.calling g mk a) (Vm.Alike.refl U.vm) qK, qD, qN.same rfl⟩, va_recv hK hP (ci := 2) (q0 := h0) rfl (Wd_ob kg_1 sg_1 (by decide)), fun U hU hW => ⟨rfl, by rw [hU], by rw [hU]; exact hP, va_K.moved hW.alike hK, hD.weaken (fun _ _ _ _ => trivial), hN.warm hW⟩⟩ rfl rfl hl.1 rfl (lv_room (Nat.le_of_ble_eq_true rfl)) dX2_open_13 ⟨Nat.le_of_ble_eq_true rfl, Nat.le_of_ble_eq_true rfl⟩) hS (fun q _ h => hFc q h) hFc (fun rr u t H_7 locs ht hvm hw hB hz1 hk1 hS2 => ?_)
  rw [hw]
  clear hw
  obtain ⟨hP1, -, hD1⟩ := hB
  rw [ht] at hP1
  replace hD := hD1.weaken (fun _ _ _ h => hFc _ h)
  replace hP := hP1
  replace hS := hS2
  clear hP1 hD1 hS2 hFc hfc hz1 hk1 hvm ht
  refine lv_pop hx hb dX2_open_16 rfl ?_
  refine lv_aload_n hx hb dX2_open_17 rfl (lv_at hl 0 rfl) ?_
  refine lv_iconst (v := 2) hx hb dX2_open_18 (by decide) ?_
  refine lv_lconst (v := 0) hx hb dX2_open_19 (by decide) ?_
  refine lv_aload_n hx hb dX2_open_20 rfl (lv_at hl 1 rfl) ?_
  refine va_get (D := (dC, dI)) (ci := 8) (v := .int (z_5.1 x0 4)) (C := RX8) (T := TX8) (N := 19) hx hb hts iwd_X2_open_X8 hown hK hP x0 (Wd_ob kg_4 sg_4 (by decide)) rfl 4 (by decide) (hts _ md_X2_open_3) (fun _ h9 => h9) (fl_at (t := 0) rfl) dX2_open_21 ?_
  refine lv_iconst (v := 0) hx hb dX2_open_24 (by decide) ?_
  obtain ⟨z_8, r_9, hfc, hf⟩ := cal_some hf
  have hFc := de_free hD hS hA
  refine va_calli (va_runV (As := [.int 2, .long 0, .int (z_5.1 x0 4), .int 0]) (rest := []) ⟨hx, hb, hml, hown, hts⟩ (de_X2_ask l dC dI cy a sh n H_7.size F z_5 h0 2 0 (z_5.1 x0 4) 0 hfc) (cwV 4 hts gX2_open_X2_ask rfl rfl rfl (by decide +kernel) ⟨Nat.le_of_ble_eq_true rfl, Nat.le_of_ble_eq_true rfl⟩) ⟨fun a U g mk q => by obtain ⟨q0, q1, qP, qK, qD, qN⟩ := q; exact ⟨q0, q1, qP, va_K.moved (u := U) (U := U.calling g mk a) (Vm.Alike.refl U.vm) qK, qD, qN.same rfl⟩, va_recv hK hP (ci := 2) (q0 := h0) rfl (Wd_ob kg_1 sg_1 (by decide)), fun U hU hW => ⟨rfl, by rw [hU], by rw [hU]; exact hP, va_K.moved hW.alike hK, hD.weaken (fun _ _ _ _ => trivial), hN.warm hW⟩⟩ rfl rfl hl.1 rfl (lv_room (Nat.le_of_ble_eq_true rfl)) dX2_open_25 ⟨Nat.le_of_ble_eq_true rfl, Nat.le_of_ble_eq_true rfl⟩) hS (fun q _ h => hFc q h) hFc (fun rr u t H_10 locs ht hvm hw hB hz1 hk1 hS2 => ?_)
  rw [hw]
  clear hw
  obtain ⟨hP1, -, hD1⟩ := hB
  rw [ht] at hP1
  replace hD := hD1.weaken (fun _ _ _ h => hFc _ h)
  replace hP := hP1
  replace hS := hS2
  clear hP1 hD1 hS2 hFc hfc hz1 hk1 hvm ht
  refine lv_pop hx hb dX2_open_28 rfl ?_
  obtain ⟨h8, h9⟩ := ret_some hf
  rw [h8]
  exact W.vret hx hb hr (fun t ht hW => ⟨⟨(), rfl, trivial, by rw [ht]; exact hP, va_K.moved hW.alike hK, hD⟩, hS.F ht⟩) hS.2.2 dX2_open_29

set_option maxHeartbeats 4000000 in
set_option maxRecDepth 100000 in
theorem de_X16_overLists (l : Launch) (dC : Nat → ClassId) (dI : Nat → Nat → Nat) (cy : Nat → ClassId) (a : Nat → Nat) (sh : Nat → Nat × Nat) (n sz : Nat) (F : Nat) (z : St) (h0 : Nat) (x0 : Int32) {z8 : St} {r8 : Unit} (hf : fn_X16_overLists F sh n z h0 x0 = some (z8, r8)) : Met l yX16_overLists wsX16_overLists ({ frames := 4, cells := 0, slots := 0, locals := 92 }) (va_Pc [.ref (a h0), .int x0] (fun U => U.heap.size = sz ∧ va_P (dC, dI) vwCl (Wd cy a sh n z) U.heap ∧ va_K (dC, dI) vwCl (TYS cy) U ∧ va_D (fun _ => True) (Wd cy a sh n z) ∧ NK U)) (va_Qv (fun u : Unit => True) (fun u t => va_P (dC, dI) vwCl (Wd cy a sh n z8) t.heap ∧ va_K (dC, dI) vwCl (TYS cy) t ∧ va_D (va_A (Wd cy a sh n z) sz) (Wd cy a sh n z8)) (va_A (Wd cy a sh n z) sz)) 0 0 (va_A (Wd cy a sh n z) sz) := by
  refine Met.ofW (cc := cX16_overLists) (maxL := 2) (ret := none) (by decide) rfl ?_
  intro p e s m args below meth c s₁ B hml hv
  obtain ⟨rfl, hsz, hP, hK, hD0, hN⟩ := hv
  have hx := B.exec
  have hb := B.bytes
  have hr := B.returns
  have hts := atoms_spec (ws := wsX16_overLists) B.pre
  have hown : s.vm.findClass RX16 = some m.cls := findClass_of_methodNamed B.named
  have hlocks := B.notSynchronized
  subst hsz
  have hD := hD0.self (sz := s.heap.size)
  clear hD0
  generalize hAe : va_A (Wd cy a sh n z) s.heap.size = A at hD ⊢
  have hA : ∀ q : Nat, s.heap.size ≤ q → A q := fun q h => by rw [← hAe]; exact Or.inr h
  clear hAe
  have hS : va_S A s.heap s.heap [] := va_S.rf
  have hl := lv_entry ([.ref (a h0), .int x0]) (n := 2) (Nat.le_of_ble_eq_true rfl)
  rw [lg_entry_eq]
  generalize (lg_sl ([.ref (a h0), .int x0]) ++ List.replicate (2 - (lg_sl ([.ref (a h0), .int x0])).length) Slot.unset).toArray = ls at hl ⊢
  replace hl : lv_has ls 2 [(0, .ref (a h0)), (1, .int x0)] := hl
  unfold fn_X16_overLists at hf
  refine de_start hS hP (fun H locs hS hP => ?_)
  refine lv_aload_n hx hb dX16_overLists_0 rfl (lv_at hl 0 rfl) ?_
  obtain ⟨g_3, hf⟩ := grd_some hf
  obtain ⟨kg_3, sg_3⟩ := okO_at g_3
  obtain ⟨z_1, r_2, hfc, hf⟩ := cal_some hf
  have hFc := de_free hD hS hA
  refine va_calli (va_runV (As := []) (rest := []) ⟨hx, hb, hml, hown, hts⟩ (de_X16_isGood l dC dI cy a sh n H.size F z h0 hfc) (cwV 0 hts gX16_overLists_X16_isGood rfl rfl rfl (by decide +kernel) ⟨Nat.le_of_ble_eq_true rfl, Nat.le_of_ble_eq_true rfl⟩) ⟨fun a U g mk q => by obtain ⟨q0, q1, qP, qK, qD, qN⟩ := q; exact ⟨q0, q1, qP, va_K.moved (u := U) (U := U.calling g mk a) (Vm.Alike.refl U.vm) qK, qD, qN.same rfl⟩, va_recv hK hP (ci := 16) (q0 := h0) rfl (Wd_ob kg_3 sg_3 (by decide)), fun U hU hW => ⟨rfl, by rw [hU], by rw [hU]; exact hP, va_K.moved hW.alike hK, hD.weaken (fun _ _ _ _ => trivial), hN.warm hW⟩⟩ rfl rfl hl.1 rfl (lv_room (Nat.le_of_ble_eq_true rfl)) dX16_overLists_1 ⟨Nat.le_of_ble_eq_true rfl, Nat.le_of_ble_eq_true rfl⟩) hS (fun q _ h => hFc q h) hFc (fun rr u t H_4 locs ht hvm hw hB hz1 hk1 hS2 => ?_)
  rw [hw]
  clear hw
  obtain ⟨hP1, -, hD1⟩ := hB
  rw [ht] at hP1
  replace hD := hD1.weaken (fun _ _ _ h => hFc _ h)
  replace hP := hP1
  replace hS := hS2
  clear hP1 hD1 hS2 hFc hfc hz1 hk1 hvm ht
  refine de_cut (h := 13) (fun (x : St) => []) (fun x ls H locs => lv_has ls 2 [(0, .ref (a h0)), (1, .int x0)] ∧ va_P (dC, dI) vwCl (Wd cy a sh n x) H ∧ va_D A (Wd cy a sh n x) ∧ va_S A s.heap H locs) (fun x => fn_X16_overLists_B13 F sh n h0 x0 x) (z8, r8) ?_ (fun B13 => ?_)
  · intro x ls H locs hI hf
    obtain ⟨z_5, ez⟩ : ∃ w, w = x := ⟨_, rfl⟩
    subst ez
    obtain ⟨hl2, hP2, hD2, hS2⟩ := hI
    replace hl : lv_has ls 2 [(0, .ref (a h0)), (1, .int x0)] := hl2
    replace hP := hP2
    replace hD := hD2
    replace hS := hS2
    clear hl2 hP2 hD2 hS2
    replace hf := fn_X16_overLists_B13_s hf
    refine W.eq (g2 := F0 m 13 ls []) rfl ?_
    refine lv_aload_n hx hb dX16_overLists_13 rfl (lv_at hl 0 rfl) ?_
    obtain ⟨z_6, r_7, hfc, hf⟩ := cal_some hf
    have hFc := de_free hD hS hA
    refine va_calli (va_runV (As := []) (rest := []) ⟨hx, hb, hml, hown, hts⟩ (de_X16_isGood l dC dI cy a sh n H.size F z_5 h0 hfc) (cwV 0 hts gX16_overLists_X16_isGood rfl rfl rfl (by decide +kernel) ⟨Nat.le_of_ble_eq_true rfl, Nat.le_of_ble_eq_true rfl⟩) ⟨fun a U g mk q => by obtain ⟨q0, q1, qP, qK, qD, qN⟩ := q; exact ⟨q0, q1, qP, va_K.moved (u := U) (U := U.calling g mk a) (Vm.Alike.refl U.vm) qK, qD, qN.same rfl⟩, va_recv hK hP (ci := 16) (q0 := h0) rfl (Wd_ob kg_3 sg_3 (by decide)), fun U hU hW => ⟨rfl, by rw [hU], by rw [hU]; exact hP, va_K.moved hW.alike hK, hD.weaken (fun _ _ _ _ => trivial), hN.warm hW⟩⟩ rfl rfl hl.1 rfl (lv_room (Nat.le_of_ble_eq_true rfl)) dX16_overLists_14 ⟨Nat.le_of_ble_eq_true rfl, Nat.le_of_ble_eq_true rfl⟩) hS (fun q _ h => hFc q h) hFc (fun rr u t H_8 locs ht hvm hw hB hz1 hk1 hS2 => ?_)
    rw [hw]
    clear hw
    obtain ⟨hP1, -, hD1⟩ := hB
    rw [ht] at hP1
    replace hD := hD1.weaken (fun _ _ _ h => hFc _ h)
    replace hP := hP1
    replace hS := hS2
    clear hP1 hD1 hS2 hFc hfc hz1 hk1 hvm ht
    refine de_cut (h := 26) (fun (x : St) => []) (fun x ls H locs => lv_has ls 2 [(0, .ref (a h0))] ∧ va_P (dC, dI) vwCl (Wd cy a sh n x) H ∧ va_D A (Wd cy a sh n x) ∧ va_S A s.heap H locs) (fun x => fn_X16_overLists_B26 F sh n h0 x) (z8, r8) ?_ (fun B26 => ?_)
    · intro x ls H locs hI hf
      obtain ⟨z_9, ez⟩ : ∃ w, w = x := ⟨_, rfl⟩
      subst ez
      obtain ⟨hl2, hP2, hD2, hS2⟩ := hI
      replace hl : lv_has ls 2 [(0, .ref (a h0))] := hl2
      replace hP := hP2
      replace hD := hD2
      replace hS := hS2
      clear hl2 hP2 hD2 hS2
      replace hf := fn_X16_overLists_B26_s hf
      refine W.eq (g2 := F0 m 26 ls []) rfl ?_
      refine lv_aload_n hx hb dX16_overLists_26 rfl (lv_at hl 0 rfl) ?_
      obtain ⟨z_10, r_11, hfc, hf⟩ := cal_some hf
      have hFc := de_free hD hS hA
      refine va_calli (va_runV (As := []) (rest := []) ⟨hx, hb, hml, hown, hts⟩ (de_X16_isGood l dC dI cy a sh n H.size F z_9 h0 hfc) (cwV 0 hts gX16_overLists_X16_isGood rfl rfl rfl (by decide +kernel) ⟨Nat.le_of_ble_eq_true rfl, Nat.le_of_ble_eq_true rfl⟩) ⟨fun a U g mk q => by obtain ⟨q0, q1, qP, qK, qD, qN⟩ := q; exact ⟨q0, q1, qP, va_K.moved (u := U) (U := U.calling g mk a) (Vm.Alike.refl U.vm) qK, qD, qN.same rfl⟩, va_recv hK hP (ci := 16) (q0 := h0) rfl (Wd_ob kg_3 sg_3 (by decide)), fun U hU hW => ⟨rfl, by rw [hU], by rw [hU]; exact hP, va_K.moved hW.alike hK, hD.weaken (fun _ _ _ _ => trivial), hN.warm hW⟩⟩ rfl rfl hl.1 rfl (lv_room (Nat.le_of_ble_eq_true rfl)) dX16_overLists_27 ⟨Nat.le_of_ble_eq_true rfl, Nat.le_of_ble_eq_true rfl⟩) hS (fun q _ h => hFc q h) hFc (fun rr u t H_12 locs ht hvm hw hB hz1 hk1 hS2 => ?_)
      rw [hw]
      clear hw
      obtain ⟨hP1, -, hD1⟩ := hB
      rw [ht] at hP1
      replace hD := hD1.weaken (fun _ _ _ h => hFc _ h)
      replace hP := hP1
      replace hS := hS2
      clear hP1 hD1 hS2 hFc hfc hz1 hk1 hvm ht
      refine lv_if_eq (tgt := 40) hx hb dX16_overLists_30 (by decide) (fun c_13 => ?_) (fun c_13 => ?_)
      · skip
        rw [if_pos c_13] at hf
        obtain ⟨h8, h9⟩ := ret_some hf
        rw [h8]
        exact W.vret hx hb hr (fun t ht hW => ⟨⟨(), rfl, trivial, by rw [ht]; exact hP, va_K.moved hW.alike hK, hD⟩, hS.F ht⟩) hS.2.2 dX16_overLists_40
      · skip
        rw [if_neg c_13] at hf
        refine lv_aload_n hx hb dX16_overLists_33 rfl (lv_at hl 0 rfl) ?_
        refine lv_bipush (v := 32) hx hb dX16_overLists_34 (by decide) ?_
        refine lv_iconst (v := 1) hx hb dX16_overLists_36 (by decide) ?_
        obtain ⟨z_14, _u, hfc, hf⟩ := cal_some hf
        have hFc := de_free hD hS hA
        refine va_callv (va_runV (As := [.int 32, .int 1]) (rest := []) ⟨hx, hb, hml, hown, hts⟩ (de_X16_overList l dC dI cy a sh n H_12.size F z_10 h0 32 1 hfc) (cwV 2 hts gX16_overLists_X16_overList rfl rfl rfl (by decide +kernel) ⟨Nat.le_of_ble_eq_true rfl, Nat.le_of_ble_eq_true rfl⟩) ⟨fun a U g mk q => by obtain ⟨q0, q1, qP, qK, qD, qN⟩ := q; exact ⟨q0, q1, qP, va_K.moved (u := U) (U := U.calling g mk a) (Vm.Alike.refl U.vm) qK, qD, qN.same rfl⟩, va_recv hK hP (ci := 16) (q0 := h0) rfl (Wd_ob kg_3 sg_3 (by decide)), fun U hU hW => ⟨rfl, by rw [hU], by rw [hU]; exact hP, va_K.moved hW.alike hK, hD.weaken (fun _ _ _ _ => trivial), hN.warm hW⟩⟩ rfl rfl hl.1 rfl (lv_room (Nat.le_of_ble_eq_true rfl)) dX16_overLists_37 ⟨Nat.le_of_ble_eq_true rfl, Nat.le_of_ble_eq_true rfl⟩) hS (fun q _ h => hFc q h) hFc (fun u t H_15 locs ht hvm hw hB hz1 hk1 hS2 => ?_)
        obtain ⟨hP1, -, hD1⟩ := hB
        rw [ht] at hP1
        replace hD := hD1.weaken (fun _ _ _ h => hFc _ h)
        replace hP := hP1
        replace hS := hS2
        clear hP1 hD1 hS2 hFc hfc hz1 hk1 hvm ht
        obtain ⟨h8, h9⟩ := ret_some hf
        rw [h8]
        exact W.vret hx hb hr (fun t ht hW => ⟨⟨(), rfl, trivial, by rw [ht]; exact hP, va_K.moved hW.alike hK, hD⟩, hS.F ht⟩) hS.2.2 dX16_overLists_40
    refine lv_if_eq (tgt := 26) hx hb dX16_overLists_17 (by decide) (fun c_16 => ?_) (fun c_16 => ?_)
    · skip
      rw [if_pos c_16] at hf
      exact B26 (z_6) ls H_8 locs ⟨lv_sub hl [0] rfl, hP, hD, hS⟩ hf
    · skip
      rw [if_neg c_16] at hf
      refine lv_aload_n hx hb dX16_overLists_20 rfl (lv_at hl 0 rfl) ?_
      refine lv_iload_n hx hb dX16_overLists_21 rfl (lv_at hl 1 rfl) ?_
      refine lv_iconst (v := 1) hx hb dX16_overLists_22 (by decide) ?_
      obtain ⟨z_17, _u, hfc, hf⟩ := cal_some hf
      have hFc := de_free hD hS hA
      refine va_callv (va_runV (As := [.int x0, .int 1]) (rest := []) ⟨hx, hb, hml, hown, hts⟩ (de_X16_overList l dC dI cy a sh n H_8.size F z_6 h0 x0 1 hfc) (cwV 2 hts gX16_overLists_X16_overList rfl rfl rfl (by decide +kernel) ⟨Nat.le_of_ble_eq_true rfl, Nat.le_of_ble_eq_true rfl⟩) ⟨fun a U g mk q => by obtain ⟨q0, q1, qP, qK, qD, qN⟩ := q; exact ⟨q0, q1, qP, va_K.moved (u := U) (U := U.calling g mk a) (Vm.Alike.refl U.vm) qK, qD, qN.same rfl⟩, va_recv hK hP (ci := 16) (q0 := h0) rfl (Wd_ob kg_3 sg_3 (by decide)), fun U hU hW => ⟨rfl, by rw [hU], by rw [hU]; exact hP, va_K.moved hW.alike hK, hD.weaken (fun _ _ _ _ => trivial), hN.warm hW⟩⟩ rfl rfl hl.1 rfl (lv_room (Nat.le_of_ble_eq_true rfl)) dX16_overLists_23 ⟨Nat.le_of_ble_eq_true rfl, Nat.le_of_ble_eq_true rfl⟩) hS (fun q _ h => hFc q h) hFc (fun u t H_18 locs ht hvm hw hB hz1 hk1 hS2 => ?_)
      obtain ⟨hP1, -, hD1⟩ := hB
      rw [ht] at hP1
      replace hD := hD1.weaken (fun _ _ _ h => hFc _ h)
      replace hP := hP1
      replace hS := hS2
      clear hP1 hD1 hS2 hFc hfc hz1 hk1 hvm ht
      exact B26 (z_17) ls H_18 locs ⟨lv_sub hl [0] rfl, hP, hD, hS⟩ hf
  refine lv_if_eq (tgt := 13) hx hb dX16_overLists_4 (by decide) (fun c_19 => ?_) (fun c_19 => ?_)
  · skip
    rw [if_pos c_19] at hf
    exact B13 (z_1) ls H_4 locs ⟨lv_sub hl [0, 1] rfl, hP, hD, hS⟩ hf
  · skip
    rw [if_neg c_19] at hf
    refine lv_aload_n hx hb dX16_overLists_7 rfl (lv_at hl 0 rfl) ?_
    refine lv_iload_n hx hb dX16_overLists_8 rfl (lv_at hl 1 rfl) ?_
    refine lv_iconst (v := 1) hx hb dX16_overLists_9 (by decide) ?_
    obtain ⟨z_20, _u, hfc, hf⟩ := cal_some hf
    have hFc := de_free hD hS hA
    refine va_callv (va_runV (As := [.int x0, .int 1]) (rest := []) ⟨hx, hb, hml, hown, hts⟩ (de_X16_overList l dC dI cy a sh n H_4.size F z_1 h0 x0 1 hfc) (cwV 2 hts gX16_overLists_X16_overList rfl rfl rfl (by decide +kernel) ⟨Nat.le_of_ble_eq_true rfl, Nat.le_of_ble_eq_true rfl⟩) ⟨fun a U g mk q => by obtain ⟨q0, q1, qP, qK, qD, qN⟩ := q; exact ⟨q0, q1, qP, va_K.moved (u := U) (U := U.calling g mk a) (Vm.Alike.refl U.vm) qK, qD, qN.same rfl⟩, va_recv hK hP (ci := 16) (q0 := h0) rfl (Wd_ob kg_3 sg_3 (by decide)), fun U hU hW => ⟨rfl, by rw [hU], by rw [hU]; exact hP, va_K.moved hW.alike hK, hD.weaken (fun _ _ _ _ => trivial), hN.warm hW⟩⟩ rfl rfl hl.1 rfl (lv_room (Nat.le_of_ble_eq_true rfl)) dX16_overLists_10 ⟨Nat.le_of_ble_eq_true rfl, Nat.le_of_ble_eq_true rfl⟩) hS (fun q _ h => hFc q h) hFc (fun u t H_21 locs ht hvm hw hB hz1 hk1 hS2 => ?_)
    obtain ⟨hP1, -, hD1⟩ := hB
    rw [ht] at hP1
    replace hD := hD1.weaken (fun _ _ _ h => hFc _ h)
    replace hP := hP1
    replace hS := hS2
    clear hP1 hD1 hS2 hFc hfc hz1 hk1 hvm ht
    exact B13 (z_20) ls H_21 locs ⟨lv_sub hl [0, 1] rfl, hP, hD, hS⟩ hf

theorem md_X16_listOf_1 : (.fieldLink RX16 104 "ResourceLedgerModel$Unit" "functions" "I" : Cond) ∈ wsX16_listOf := List.mem_of_getElem? (i := 1) rfl
theorem iwd_X16_listOf_X16 : ∀ w ∈ wsX160, w ∈ wsX16_listOf := fun _ h => List.mem_cons_of_mem _ (List.mem_append_right _ h)
theorem md_X16_listOf_2 : (.fieldLink RX16 17 "ResourceLedgerModel$Unit" "calleeAt" "[I" : Cond) ∈ wsX16_listOf := List.mem_of_getElem? (i := 2) rfl
set_option maxHeartbeats 4000000 in
set_option maxRecDepth 100000 in
theorem de_X16_listOf (l : Launch) (dC : Nat → ClassId) (dI : Nat → Nat → Nat) (cy : Nat → ClassId) (a : Nat → Nat) (sh : Nat → Nat × Nat) (n sz : Nat) (F : Nat) (z : St) (h0 : Nat) (x0 : Int32) (x1 : Int32) {z8 : St} {r8 : Int32} (hf : fn_X16_listOf F sh n z h0 x0 x1 = some (z8, r8)) : Met l yX16_listOf wsX16_listOf ({ frames := 4, cells := 0, slots := 0, locals := 91 }) (va_Pc [.ref (a h0), .int x0, .int x1] (fun U => U.heap.size = sz ∧ va_P (dC, dI) vwCl (Wd cy a sh n z) U.heap ∧ va_K (dC, dI) vwCl (TYS cy) U ∧ va_D (fun _ => True) (Wd cy a sh n z) ∧ NK U)) (va_Qi (fun (r9 : Int32) (u : Unit) => r9 = r8) (fun u t => va_P (dC, dI) vwCl (Wd cy a sh n z8) t.heap ∧ va_K (dC, dI) vwCl (TYS cy) t ∧ va_D (va_A (Wd cy a sh n z) sz) (Wd cy a sh n z8)) (va_A (Wd cy a sh n z) sz)) 0 0 (va_A (Wd cy a sh n z) sz) := by
  refine Met.ofW (cc := cX16_listOf) (maxL := 4) (ret := (some .int)) (by decide) rfl ?_
  intro p e s m args below meth c s₁ B hml hv
  obtain ⟨rfl, hsz, hP, hK, hD0, hN⟩ := hv
  have hx := B.exec
  have hb := B.bytes
  have hr := B.returns
  have hts := atoms_spec (ws := wsX16_listOf) B.pre
  have hown : s.vm.findClass RX16 = some m.cls := findClass_of_methodNamed B.named
  have hlocks := B.notSynchronized
  subst hsz
  have hD := hD0.self (sz := s.heap.size)
  clear hD0
  generalize hAe : va_A (Wd cy a sh n z) s.heap.size = A at hD ⊢
  have hA : ∀ q : Nat, s.heap.size ≤ q → A q := fun q h => by rw [← hAe]; exact Or.inr h
  clear hAe
  have hS : va_S A s.heap s.heap [] := va_S.rf
  have hl := lv_entry ([.ref (a h0), .int x0, .int x1]) (n := 4) (Nat.le_of_ble_eq_true rfl)
  rw [lg_entry_eq]
  generalize (lg_sl ([.ref (a h0), .int x0, .int x1]) ++ List.replicate (4 - (lg_sl ([.ref (a h0), .int x0, .int x1])).length) Slot.unset).toArray = ls at hl ⊢
  replace hl : lv_has ls 4 [(0, .ref (a h0)), (1, .int x0), (2, .int x1)] := hl
  unfold fn_X16_listOf at hf
  refine de_start hS hP (fun H locs hS hP => ?_)
  refine lv_iload_n hx hb dX16_listOf_0 rfl (lv_at hl 1 rfl) ?_
  refine lv_aload_n hx hb dX16_listOf_1 rfl (lv_at hl 0 rfl) ?_
  obtain ⟨g_1, hf⟩ := grd_some hf
  obtain ⟨kg_1, sg_1⟩ := okO_at g_1
  refine va_get (D := (dC, dI)) (ci := 16) (v := .int (z.1 h0 9)) (C := RX16) (T := TX16) (N := 18) hx hb hts iwd_X16_listOf_X16 hown hK hP h0 (Wd_ob kg_1 sg_1 (by decide)) rfl 9 (by decide) (hts _ md_X16_listOf_1) (fun _ h9 => h9) (fl_at (t := 0) rfl) dX16_listOf_2 ?_
  refine lv_icmp_ge (tgt := 15) hx hb dX16_listOf_5 (by decide) (fun c_2 => ?_) (fun c_2 => ?_)
  · skip
    rw [if_pos c_2] at hf
    refine lv_aload_n hx hb dX16_listOf_15 rfl (lv_at hl 0 rfl) ?_
    obtain ⟨k_3, ek_3, hf⟩ := lnk_some hf
    refine va_get (D := (dC, dI)) (ci := 16) (v := .ref (a k_3)) (C := RX16) (T := TX16) (N := 18) hx hb hts iwd_X16_listOf_X16 hown hK hP h0 (Wd_ob kg_1 sg_1 (by decide)) rfl 12 (by decide) (hts _ md_X16_listOf_2) (fun _ h9 => h9) (fl_q rfl ek_3) dX16_listOf_16 ?_
    refine lv_iload_n hx hb dX16_listOf_19 rfl (lv_at hl 1 rfl) ?_
    refine lv_aload_n hx hb dX16_listOf_20 rfl (lv_at hl 0 rfl) ?_
    refine va_get (D := (dC, dI)) (ci := 16) (v := .int (z.1 h0 9)) (C := RX16) (T := TX16) (N := 18) hx hb hts iwd_X16_listOf_X16 hown hK hP h0 (Wd_ob kg_1 sg_1 (by decide)) rfl 9 (by decide) (hts _ md_X16_listOf_1) (fun _ h9 => h9) (fl_at (t := 0) rfl) dX16_listOf_21 ?_
    refine lv_isub hx hb dX16_listOf_24 ?_
    obtain ⟨g_4, hf⟩ := grd_some hf
    obtain ⟨kg_4, sg_4, ig_4⟩ := okA_at g_4
    refine va_iald hx hb hK hP k_3 1 (Wd_ai kg_4 sg_4) rfl ig_4 dX16_listOf_25 ?_
    refine lv_iconst (v := 4) hx hb dX16_listOf_26 (by decide) ?_
    refine lv_iadd hx hb dX16_listOf_27 ?_
    refine lv_topi (fun v_5 ev_5 => ?_)
    replace hf := lt_at ev_5 hf
    clear ev_5
    refine lv_istore_n (lv' := [(3, .int v_5), (0, .ref (a h0)), (1, .int x0), (2, .int x1)]) hx hb dX16_listOf_28 rfl hl (by decide) rfl (fun ls hl2 => ?_)
    replace hl := hl2
    clear hl2
    refine lv_iload_n hx hb dX16_listOf_29 rfl (lv_at hl 3 rfl) ?_
    refine lv_if_ne (tgt := 37) hx hb dX16_listOf_30 (by decide) (fun c_6 => ?_) (fun c_6 => ?_)
    · skip
      rw [if_neg c_6] at hf
      refine lv_aload_n hx hb dX16_listOf_37 rfl (lv_at hl 1 rfl) ?_
      refine lv_iload_n hx hb dX16_listOf_38 rfl (lv_at hl 0 rfl) ?_
      obtain ⟨z_7, r_8, hfc, hf⟩ := cal_some hf
      have hFc := de_free hD hS hA
      refine va_calli (va_runV (As := [.int v_5]) (rest := []) ⟨hx, hb, hml, hown, hts⟩ (de_X16_listEnd l dC dI cy a sh n H.size F z h0 v_5 hfc) (cwV 1 hts gX16_listOf_X16_listEnd rfl rfl rfl (by decide +kernel) ⟨Nat.le_of_ble_eq_true rfl, Nat.le_of_ble_eq_true rfl⟩) ⟨fun a U g mk q => by obtain ⟨q0, q1, qP, qK, qD, qN⟩ := q; exact ⟨q0, q1, qP, va_K.moved (u := U) (U := U.calling g mk a) (Vm.Alike.refl U.vm) qK, qD, qN.same rfl⟩, va_recv hK hP (ci := 16) (q0 := h0) rfl (Wd_ob kg_1 sg_1 (by decide)), fun U hU hW => ⟨rfl, by rw [hU], by rw [hU]; exact hP, va_K.moved hW.alike hK, hD.weaken (fun _ _ _ _ => trivial), hN.warm hW⟩⟩ rfl rfl hl.1 rfl (lv_room (Nat.le_of_ble_eq_true rfl)) dX16_listOf_39 ⟨Nat.le_of_ble_eq_true rfl, Nat.le_of_ble_eq_true rfl⟩) hS (fun q _ h => hFc q h) hFc (fun rr u t H_9 locs ht hvm hw hB hz1 hk1 hS2 => ?_)
      rw [hw]
      clear hw
      obtain ⟨hP1, -, hD1⟩ := hB
      rw [ht] at hP1
      replace hD := hD1.weaken (fun _ _ _ h => hFc _ h)
      replace hP := hP1
      replace hS := hS2
      clear hP1 hD1 hS2 hFc hfc hz1 hk1 hvm ht
      obtain ⟨h8, h9⟩ := ret_some hf
      rw [h8, h9]
      exact W.iret (v := r_8) hx hb hr (fun t ht hW => ⟨⟨r_8, (), rfl, rfl, by rw [ht]; exact hP, va_K.moved hW.alike hK, hD⟩, hS.F ht⟩) hS.2.2 dX16_listOf_42
    · skip
      rw [if_pos c_6] at hf
      refine lv_iload_n hx hb dX16_listOf_33 rfl (lv_at hl 0 rfl) ?_
      refine lv_goto (tgt := 42) hx hb dX16_listOf_34 (by decide) ?_
      obtain ⟨h8, h9⟩ := ret_some hf
      rw [h8, h9]
      exact W.iret (v := v_5) hx hb hr (fun t ht hW => ⟨⟨v_5, (), rfl, rfl, by rw [ht]; exact hP, va_K.moved hW.alike hK, hD⟩, hS.F ht⟩) hS.2.2 dX16_listOf_42
  · skip
    rw [if_neg c_2] at hf
    refine lv_aload_n hx hb dX16_listOf_8 rfl (lv_at hl 0 rfl) ?_
    refine lv_iload_n hx hb dX16_listOf_9 rfl (lv_at hl 1 rfl) ?_
    refine lv_iload_n hx hb dX16_listOf_10 rfl (lv_at hl 2 rfl) ?_
    obtain ⟨z_10, r_11, hfc, hf⟩ := cal_some hf
    have hFc := de_free hD hS hA
    refine va_calli (va_runV (As := [.int x0, .int x1]) (rest := []) ⟨hx, hb, hml, hown, hts⟩ (de_X16_listAt l dC dI cy a sh n H.size F z h0 x0 x1 hfc) (cwV 2 hts gX16_listOf_X16_listAt rfl rfl rfl (by decide +kernel) ⟨Nat.le_of_ble_eq_true rfl, Nat.le_of_ble_eq_true rfl⟩) ⟨fun a U g mk q => by obtain ⟨q0, q1, qP, qK, qD, qN⟩ := q; exact ⟨q0, q1, qP, va_K.moved (u := U) (U := U.calling g mk a) (Vm.Alike.refl U.vm) qK, qD, qN.same rfl⟩, va_recv hK hP (ci := 16) (q0 := h0) rfl (Wd_ob kg_1 sg_1 (by decide)), fun U hU hW => ⟨rfl, by rw [hU], by rw [hU]; exact hP, va_K.moved hW.alike hK, hD.weaken (fun _ _ _ _ => trivial), hN.warm hW⟩⟩ rfl rfl hl.1 rfl (lv_room (Nat.le_of_ble_eq_true rfl)) dX16_listOf_11 ⟨Nat.le_of_ble_eq_true rfl, Nat.le_of_ble_eq_true rfl⟩) hS (fun q _ h => hFc q h) hFc (fun rr u t H_12 locs ht hvm hw hB hz1 hk1 hS2 => ?_)
    rw [hw]
    clear hw
    obtain ⟨hP1, -, hD1⟩ := hB
    rw [ht] at hP1
    replace hD := hD1.weaken (fun _ _ _ h => hFc _ h)
    replace hP := hP1
    replace hS := hS2
    clear hP1 hD1 hS2 hFc hfc hz1 hk1 hvm ht
    obtain ⟨h8, h9⟩ := ret_some hf
    rw [h8, h9]
    exact W.iret (v := r_11) hx hb hr (fun t ht hW => ⟨⟨r_11, (), rfl, rfl, by rw [ht]; exact hP, va_K.moved hW.alike hK, hD⟩, hS.F ht⟩) hS.2.2 dX16_listOf_14

theorem md_X2_storeResource_1 : (.fieldLink RX2 38 "ResourceLedger$Journal" "state" "LResourceLedger$State;" : Cond) ∈ wsX2_storeResource := List.mem_of_getElem? (i := 1) rfl
theorem iwd_X2_storeResource_X2 : ∀ w ∈ wsX20, w ∈ wsX2_storeResource := fun _ h => List.mem_cons_of_mem _ (List.mem_append_left _ (List.mem_append_left _ (List.mem_append_right _ h)))
theorem md_X2_storeResource_2 : (.fieldLink RX2 15 "ResourceLedger$Journal" "address" "[J" : Cond) ∈ wsX2_storeResource := List.mem_of_getElem? (i := 2) rfl
theorem md_X2_storeResource_3 : (.fieldLink RX2 19 "ResourceLedger$Journal" "module" "[I" : Cond) ∈ wsX2_storeResource := List.mem_of_getElem? (i := 3) rfl
theorem md_X2_storeResource_4 : (.fieldLink RX2 22 "ResourceLedger$Journal" "structure" "[I" : Cond) ∈ wsX2_storeResource := List.mem_of_getElem? (i := 4) rfl
theorem md_X2_storeResource_5 : (.fieldLink RX2 101 "ResourceLedger$State" "nodeCount" "[I" : Cond) ∈ wsX2_storeResource := List.mem_of_getElem? (i := 5) rfl
theorem iwd_X2_storeResource_X7 : ∀ w ∈ wsX70, w ∈ wsX2_storeResource := fun _ h => List.mem_cons_of_mem _ (List.mem_append_left _ (List.mem_append_right _ h))
theorem md_X2_storeResource_6 : (.fieldLink RX2 42 "ResourceLedger$Journal" "heap" "LResourceLedger$Heap;" : Cond) ∈ wsX2_storeResource := List.mem_of_getElem? (i := 6) rfl
theorem md_X2_storeResource_7 : (.fieldLink RX2 35 "ResourceLedger$Journal" "node" "[I" : Cond) ∈ wsX2_storeResource := List.mem_of_getElem? (i := 7) rfl
set_option maxHeartbeats 4000000 in
set_option maxRecDepth 100000 in
theorem de_X2_storeResource (l : Launch) (dC : Nat → ClassId) (dI : Nat → Nat → Nat) (cy : Nat → ClassId) (a : Nat → Nat) (sh : Nat → Nat × Nat) (n sz : Nat) (F : Nat) (z : St) (h0 : Nat) (x0 : Int32) {z8 : St} {r8 : Unit} (hf : fn_X2_storeResource F sh n z h0 x0 = some (z8, r8)) : Met l yX2_storeResource wsX2_storeResource ({ frames := 52, cells := 0, slots := 0, locals := 1392 }) (va_Pc [.ref (a h0), .int x0] (fun U => U.heap.size = sz ∧ va_P (dC, dI) vwCl (Wd cy a sh n z) U.heap ∧ va_K (dC, dI) vwCl (TYS cy) U ∧ va_D (fun _ => True) (Wd cy a sh n z) ∧ NK U)) (va_Qv (fun u : Unit => True) (fun u t => va_P (dC, dI) vwCl (Wd cy a sh n z8) t.heap ∧ va_K (dC, dI) vwCl (TYS cy) t ∧ va_D (va_A (Wd cy a sh n z) sz) (Wd cy a sh n z8)) (va_A (Wd cy a sh n z) sz)) 0 0 (va_A (Wd cy a sh n z) sz) := by
  refine Met.ofW (cc := cX2_storeResource) (maxL := 3) (ret := none) (by decide) rfl ?_
  intro p e s m args below meth c s₁ B hml hv
  obtain ⟨rfl, hsz, hP, hK, hD0, hN⟩ := hv
  have hx := B.exec
  have hb := B.bytes
  have hr := B.returns
  have hts := atoms_spec (ws := wsX2_storeResource) B.pre
  have hown : s.vm.findClass RX2 = some m.cls := findClass_of_methodNamed B.named
  have hlocks := B.notSynchronized
  subst hsz
  have hD := hD0.self (sz := s.heap.size)
  clear hD0
  generalize hAe : va_A (Wd cy a sh n z) s.heap.size = A at hD ⊢
  have hA : ∀ q : Nat, s.heap.size ≤ q → A q := fun q h => by rw [← hAe]; exact Or.inr h
  clear hAe
  have hS : va_S A s.heap s.heap [] := va_S.rf
  have hl := lv_entry ([.ref (a h0), .int x0]) (n := 3) (Nat.le_of_ble_eq_true rfl)
  rw [lg_entry_eq]
  generalize (lg_sl ([.ref (a h0), .int x0]) ++ List.replicate (3 - (lg_sl ([.ref (a h0), .int x0])).length) Slot.unset).toArray = ls at hl ⊢
  replace hl : lv_has ls 3 [(0, .ref (a h0)), (1, .int x0)] := hl
  unfold fn_X2_storeResource at hf
  refine de_start hS hP (fun H locs hS hP => ?_)
  refine lv_aload_n hx hb dX2_storeResource_0 rfl (lv_at hl 0 rfl) ?_
  obtain ⟨g_1, hf⟩ := grd_some hf
  obtain ⟨kg_1, sg_1⟩ := okO_at g_1
  obtain ⟨k_2, ek_2, hf⟩ := lnk_some hf
  refine va_get (D := (dC, dI)) (ci := 2) (v := .ref (a k_2)) (C := RX2) (T := TX2) (N := 11) hx hb hts iwd_X2_storeResource_X2 hown hK hP h0 (Wd_ob kg_1 sg_1 (by decide)) rfl 0 (by decide) (hts _ md_X2_storeResource_1) (fun _ h9 => h9) (fl_q rfl ek_2) dX2_storeResource_1 ?_
  refine lv_aload_n hx hb dX2_storeResource_4 rfl (lv_at hl 0 rfl) ?_
  obtain ⟨k_3, ek_3, hf⟩ := lnk_some hf
  refine va_get (D := (dC, dI)) (ci := 2) (v := .ref (a k_3)) (C := RX2) (T := TX2) (N := 11) hx hb hts iwd_X2_storeResource_X2 hown hK hP h0 (Wd_ob kg_1 sg_1 (by decide)) rfl 3 (by decide) (hts _ md_X2_storeResource_2) (fun _ h9 => h9) (fl_q rfl ek_3) dX2_storeResource_5 ?_
  refine lv_iload_n hx hb dX2_storeResource_8 rfl (lv_at hl 1 rfl) ?_
  obtain ⟨g_4, hf⟩ := grd_some hf
  obtain ⟨kg_4, sg_4, ig_4⟩ := okA_at g_4
  refine va_lald hx hb hK hP k_3 2 (Wd_al kg_4 sg_4) rfl ig_4 dX2_storeResource_9 ?_
  refine lv_aload_n hx hb dX2_storeResource_10 rfl (lv_at hl 0 rfl) ?_
  obtain ⟨k_5, ek_5, hf⟩ := lnk_some hf
  refine va_get (D := (dC, dI)) (ci := 2) (v := .ref (a k_5)) (C := RX2) (T := TX2) (N := 11) hx hb hts iwd_X2_storeResource_X2 hown hK hP h0 (Wd_ob kg_1 sg_1 (by decide)) rfl 4 (by decide) (hts _ md_X2_storeResource_3) (fun _ h9 => h9) (fl_q rfl ek_5) dX2_storeResource_11 ?_
  refine lv_iload_n hx hb dX2_storeResource_14 rfl (lv_at hl 1 rfl) ?_
  obtain ⟨g_6, hf⟩ := grd_some hf
  obtain ⟨kg_6, sg_6, ig_6⟩ := okA_at g_6
  refine va_iald hx hb hK hP k_5 1 (Wd_ai kg_6 sg_6) rfl ig_6 dX2_storeResource_15 ?_
  refine lv_aload_n hx hb dX2_storeResource_16 rfl (lv_at hl 0 rfl) ?_
  obtain ⟨k_7, ek_7, hf⟩ := lnk_some hf
  refine va_get (D := (dC, dI)) (ci := 2) (v := .ref (a k_7)) (C := RX2) (T := TX2) (N := 11) hx hb hts iwd_X2_storeResource_X2 hown hK hP h0 (Wd_ob kg_1 sg_1 (by decide)) rfl 5 (by decide) (hts _ md_X2_storeResource_4) (fun _ h9 => h9) (fl_q rfl ek_7) dX2_storeResource_17 ?_
  refine lv_iload_n hx hb dX2_storeResource_20 rfl (lv_at hl 1 rfl) ?_
  obtain ⟨g_8, hf⟩ := grd_some hf
  obtain ⟨kg_8, sg_8, ig_8⟩ := okA_at g_8
  refine va_iald hx hb hK hP k_7 1 (Wd_ai kg_8 sg_8) rfl ig_8 dX2_storeResource_21 ?_
  obtain ⟨g_11, hf⟩ := grd_some hf
  obtain ⟨kg_11, sg_11⟩ := okO_at g_11
  obtain ⟨z_9, r_10, hfc, hf⟩ := cal_some hf
  have hFc := de_free hD hS hA
  refine va_calli (va_runV (As := [.long (z.2.1 k_3 x0.toNatClampNeg), .int (z.1 k_5 x0.toNatClampNeg), .int (z.1 k_7 x0.toNatClampNeg)]) (rest := []) ⟨hx, hb, hml, hown, hts⟩ (de_X7_slotFor l dC dI cy a sh n H.size F z k_2 (z.2.1 k_3 x0.toNatClampNeg) (z.1 k_5 x0.toNatClampNeg) (z.1 k_7 x0.toNatClampNeg) hfc) (cwV 3 hts gX2_storeResource_X7_slotFor rfl rfl rfl (by decide +kernel) ⟨Nat.le_of_ble_eq_true rfl, Nat.le_of_ble_eq_true rfl⟩) ⟨fun a U g mk q => by obtain ⟨q0, q1, qP, qK, qD, qN⟩ := q; exact ⟨q0, q1, qP, va_K.moved (u := U) (U := U.calling g mk a) (Vm.Alike.refl U.vm) qK, qD, qN.same rfl⟩, va_recv hK hP (ci := 7) (q0 := k_2) rfl (Wd_ob kg_11 sg_11 (by decide)), fun U hU hW => ⟨rfl, by rw [hU], by rw [hU]; exact hP, va_K.moved hW.alike hK, hD.weaken (fun _ _ _ _ => trivial), hN.warm hW⟩⟩ rfl rfl hl.1 rfl (lv_room (Nat.le_of_ble_eq_true rfl)) dX2_storeResource_22 ⟨Nat.le_of_ble_eq_true rfl, Nat.le_of_ble_eq_true rfl⟩) hS (fun q _ h => hFc q h) hFc (fun rr u t H_12 locs ht hvm hw hB hz1 hk1 hS2 => ?_)
  rw [hw]
  clear hw
  obtain ⟨hP1, -, hD1⟩ := hB
  rw [ht] at hP1
  replace hD := hD1.weaken (fun _ _ _ h => hFc _ h)
  replace hP := hP1
  replace hS := hS2
  clear hP1 hD1 hS2 hFc hfc hz1 hk1 hvm ht
  refine lv_istore_n (lv' := [(2, .int r_10), (0, .ref (a h0)), (1, .int x0)]) hx hb dX2_storeResource_25 rfl hl (by decide) rfl (fun ls hl2 => ?_)
  replace hl := hl2
  clear hl2
  refine lv_iload_n hx hb dX2_storeResource_26 rfl (lv_at hl 0 rfl) ?_
  refine lv_if_lt (tgt := 57) hx hb dX2_storeResource_27 (by decide) (fun c_13 => ?_) (fun c_13 => ?_)
  · skip
    rw [if_pos c_13] at hf
    obtain ⟨h8, h9⟩ := ret_some hf
    rw [h8]
    exact W.vret hx hb hr (fun t ht hW => ⟨⟨(), rfl, trivial, by rw [ht]; exact hP, va_K.moved hW.alike hK, hD⟩, hS.F ht⟩) hS.2.2 dX2_storeResource_57
  · skip
    rw [if_neg c_13] at hf
    refine lv_aload_n hx hb dX2_storeResource_30 rfl (lv_at hl 1 rfl) ?_
    obtain ⟨k_14, ek_14, hf⟩ := lnk_some hf
    refine va_get (D := (dC, dI)) (ci := 2) (v := .ref (a k_14)) (C := RX2) (T := TX2) (N := 11) hx hb hts iwd_X2_storeResource_X2 hown hK hP h0 (Wd_ob kg_1 sg_1 (by decide)) rfl 0 (by decide) (hts _ md_X2_storeResource_1) (fun _ h9 => h9) (fl_q rfl ek_14) dX2_storeResource_31 ?_
    obtain ⟨g_15, hf⟩ := grd_some hf
    obtain ⟨kg_15, sg_15⟩ := okO_at g_15
    obtain ⟨k_16, ek_16, hf⟩ := lnk_some hf
    refine va_get (D := (dC, dI)) (ci := 7) (v := .ref (a k_16)) (C := RX7) (T := TX7) (N := 16) hx hb hts iwd_X2_storeResource_X7 hown hK hP k_14 (Wd_ob kg_15 sg_15 (by decide)) rfl 9 (by decide) (hts _ md_X2_storeResource_5) (fun _ h9 => h9) (fl_q rfl ek_16) dX2_storeResource_34 ?_
    refine lv_iload_n hx hb dX2_storeResource_37 rfl (lv_at hl 0 rfl) ?_
    refine lv_aload_n hx hb dX2_storeResource_38 rfl (lv_at hl 1 rfl) ?_
    obtain ⟨k_17, ek_17, hf⟩ := lnk_some hf
    refine va_get (D := (dC, dI)) (ci := 2) (v := .ref (a k_17)) (C := RX2) (T := TX2) (N := 11) hx hb hts iwd_X2_storeResource_X2 hown hK hP h0 (Wd_ob kg_1 sg_1 (by decide)) rfl 1 (by decide) (hts _ md_X2_storeResource_6) (fun _ h9 => h9) (fl_q rfl ek_17) dX2_storeResource_39 ?_
    refine lv_aload_n hx hb dX2_storeResource_42 rfl (lv_at hl 1 rfl) ?_
    obtain ⟨k_18, ek_18, hf⟩ := lnk_some hf
    refine va_get (D := (dC, dI)) (ci := 2) (v := .ref (a k_18)) (C := RX2) (T := TX2) (N := 11) hx hb hts iwd_X2_storeResource_X2 hown hK hP h0 (Wd_ob kg_1 sg_1 (by decide)) rfl 10 (by decide) (hts _ md_X2_storeResource_7) (fun _ h9 => h9) (fl_q rfl ek_18) dX2_storeResource_43 ?_
    refine lv_iload_n hx hb dX2_storeResource_46 rfl (lv_at hl 2 rfl) ?_
    obtain ⟨g_19, hf⟩ := grd_some hf
    obtain ⟨kg_19, sg_19, ig_19⟩ := okA_at g_19
    refine va_iald hx hb hK hP k_18 1 (Wd_ai kg_19 sg_19) rfl ig_19 dX2_storeResource_47 ?_
    refine lv_aload_n hx hb dX2_storeResource_48 rfl (lv_at hl 1 rfl) ?_
    obtain ⟨k_20, ek_20, hf⟩ := lnk_some hf
    refine va_get (D := (dC, dI)) (ci := 2) (v := .ref (a k_20)) (C := RX2) (T := TX2) (N := 11) hx hb hts iwd_X2_storeResource_X2 hown hK hP h0 (Wd_ob kg_1 sg_1 (by decide)) rfl 0 (by decide) (hts _ md_X2_storeResource_1) (fun _ h9 => h9) (fl_q rfl ek_20) dX2_storeResource_49 ?_
    refine lv_iload_n hx hb dX2_storeResource_52 rfl (lv_at hl 0 rfl) ?_
    obtain ⟨g_23, hf⟩ := grd_some hf
    obtain ⟨kg_23, sg_23⟩ := okO_at g_23
    obtain ⟨z_21, r_22, hfc, hf⟩ := cal_some hf
    have hFc := de_free hD hS hA
    refine va_calli (va_runV (As := [.int (z_9.1 k_18 x0.toNatClampNeg), .ref (a k_20), .int r_10]) (rest := [.int r_10, .ref (a k_16)]) ⟨hx, hb, hml, hown, hts⟩ (de_X1_store l dC dI cy a sh n H_12.size F z_9 k_17 (z_9.1 k_18 x0.toNatClampNeg) k_20 r_10 hfc) (cwV 3 hts gX2_storeResource_X1_store rfl rfl rfl (by decide +kernel) ⟨Nat.le_of_ble_eq_true rfl, Nat.le_of_ble_eq_true rfl⟩) ⟨fun a U g mk q => by obtain ⟨q0, q1, qP, qK, qD, qN⟩ := q; exact ⟨q0, q1, qP, va_K.moved (u := U) (U := U.calling g mk a) (Vm.Alike.refl U.vm) qK, qD, qN.same rfl⟩, va_recv hK hP (ci := 1) (q0 := k_17) rfl (Wd_ob kg_23 sg_23 (by decide)), fun U hU hW => ⟨rfl, by rw [hU], by rw [hU]; exact hP, va_K.moved hW.alike hK, hD.weaken (fun _ _ _ _ => trivial), hN.warm hW⟩⟩ rfl rfl hl.1 rfl (lv_room (Nat.le_of_ble_eq_true rfl)) dX2_storeResource_53 ⟨Nat.le_of_ble_eq_true rfl, Nat.le_of_ble_eq_true rfl⟩) hS (fun q _ h => hFc q h) hFc (fun rr u t H_24 locs ht hvm hw hB hz1 hk1 hS2 => ?_)
    rw [hw]
    clear hw
    obtain ⟨hP1, -, hD1⟩ := hB
    rw [ht] at hP1
    replace hD := hD1.weaken (fun _ _ _ h => hFc _ h)
    replace hP := hP1
    replace hS := hS2
    clear hP1 hD1 hS2 hFc hfc hz1 hk1 hvm ht
    obtain ⟨g_25, hf⟩ := grd_some hf
    obtain ⟨kg_25, sg_25, ig_25⟩ := okA_at g_25
    refine va_iast hx hb hK hP hD hS k_16 1 (Wd_ai kg_25 sg_25) rfl ig_25 dX2_storeResource_56 (fun H_26 locs hP2 hD2 hS2 => ?_)
    rw [Wd_ti sg_25] at hP2 hD2
    obtain ⟨z_27, ez_27⟩ : ∃ w, w = si z_21 k_16 r_10.toNatClampNeg r_22 := ⟨_, rfl⟩
    rw [← ez_27] at hP2 hD2
    replace hf := lt_at ez_27 hf
    clear ez_27
    replace hP := hP2
    replace hD := hD2
    replace hS := hS2
    clear hP2 hD2 hS2
    obtain ⟨h8, h9⟩ := ret_some hf
    rw [h8]
    exact W.vret hx hb hr (fun t ht hW => ⟨⟨(), rfl, trivial, by rw [ht]; exact hP, va_K.moved hW.alike hK, hD⟩, hS.F ht⟩) hS.2.2 dX2_storeResource_57

theorem md_X13_bears_1 : (.fieldLink RX13 72 "ResourceLedgerModel$Looker" "unit" "LResourceLedgerModel$Unit;" : Cond) ∈ wsX13_bears := List.mem_of_getElem? (i := 1) rfl
theorem iwd_X13_bears_X13 : ∀ w ∈ wsX130, w ∈ wsX13_bears := fun _ h => List.mem_cons_of_mem _ (List.mem_append_left _ (List.mem_append_right _ h))
theorem md_X13_bears_5 : (.initialized RX16 : Cond) ∈ wsX13_bears := List.mem_of_getElem? (i := 5) rfl
theorem md_X13_bears_15 : (.instanceMethod yX16_fieldsOf : Cond) ∈ wsX13_bears := List.mem_of_getElem? (i := 15) rfl
theorem md_X13_bears_16 : (.selects RX16 yX16_fieldsOf yX16_fieldsOf : Cond) ∈ wsX13_bears := List.mem_of_getElem? (i := 16) rfl
set_option maxHeartbeats 4000000 in
set_option maxRecDepth 100000 in
theorem de_X13_bears (l : Launch) (dC : Nat → ClassId) (dI : Nat → Nat → Nat) (cy : Nat → ClassId) (a : Nat → Nat) (sh : Nat → Nat × Nat) (n sz : Nat) (F : Nat) (z : St) (h0 : Nat) (x0 : Nat) (x1 : Int32) {z8 : St} {r8 : Int32} (hf : fn_X13_bears F sh n z h0 x0 x1 = some (z8, r8)) : Met l yX13_bears wsX13_bears ({ frames := 4, cells := 0, slots := 0, locals := 91 }) (va_Pc [.ref (a h0), .ref (a x0), .int x1] (fun U => U.heap.size = sz ∧ va_P (dC, dI) vwCl (Wd cy a sh n z) U.heap ∧ va_K (dC, dI) vwCl (TYS cy) U ∧ va_D (fun _ => True) (Wd cy a sh n z) ∧ NK U)) (va_Qi (fun (r9 : Int32) (u : Unit) => r9 = r8) (fun u t => va_P (dC, dI) vwCl (Wd cy a sh n z8) t.heap ∧ va_K (dC, dI) vwCl (TYS cy) t ∧ va_D (va_A (Wd cy a sh n z) sz) (Wd cy a sh n z8)) (va_A (Wd cy a sh n z) sz)) 0 0 (va_A (Wd cy a sh n z) sz) := by
  refine Met.ofW (cc := cX13_bears) (maxL := 5) (ret := (some .boolean)) (by decide) rfl ?_
  intro p e s m args below meth c s₁ B hml hv
  obtain ⟨rfl, hsz, hP, hK, hD0, hN⟩ := hv
  have hx := B.exec
  have hb := B.bytes
  have hr := B.returns
  have hts := atoms_spec (ws := wsX13_bears) B.pre
  have hown : s.vm.findClass RX13 = some m.cls := findClass_of_methodNamed B.named
  have hlocks := B.notSynchronized
  subst hsz
  have hD := hD0.self (sz := s.heap.size)
  clear hD0
  generalize hAe : va_A (Wd cy a sh n z) s.heap.size = A at hD ⊢
  have hA : ∀ q : Nat, s.heap.size ≤ q → A q := fun q h => by rw [← hAe]; exact Or.inr h
  clear hAe
  have hS : va_S A s.heap s.heap [] := va_S.rf
  have hl := lv_entry ([.ref (a h0), .ref (a x0), .int x1]) (n := 5) (Nat.le_of_ble_eq_true rfl)
  rw [lg_entry_eq]
  generalize (lg_sl ([.ref (a h0), .ref (a x0), .int x1]) ++ List.replicate (5 - (lg_sl ([.ref (a h0), .ref (a x0), .int x1])).length) Slot.unset).toArray = ls at hl ⊢
  replace hl : lv_has ls 5 [(0, .ref (a h0)), (1, .ref (a x0)), (2, .int x1)] := hl
  unfold fn_X13_bears at hf
  refine de_start hS hP (fun H locs hS hP => ?_)
  refine lv_aload_n hx hb dX13_bears_0 rfl (lv_at hl 0 rfl) ?_
  refine lv_aload_n hx hb dX13_bears_1 rfl (lv_at hl 1 rfl) ?_
  obtain ⟨g_1, hf⟩ := grd_some hf
  obtain ⟨kg_1, sg_1⟩ := okO_at g_1
  refine va_put (D := (dC, dI)) (ci := 13) (v := .ref (a x0)) (ty := .object "ResourceLedgerModel$Unit") (C := RX13) (T := TX13) (N := 22) hx hb hts iwd_X13_bears_X13 tyX13 tyX13_ok nmX13 hown hK hP hD hS h0 (Wd_ob kg_1 sg_1 (by decide)) rfl 0 (by decide) (hts _ md_X13_bears_1) (fun _ h9 => h9) rfl (by decide +kernel) rfl rfl (by rw [fl_len]; decide) dX13_bears_2 (fun H_2 locs hP2 hD2 hS2 => ?_)
  rw [Wd_sq1 sg_1 (by decide) rfl] at hP2 hD2
  obtain ⟨z_3, ez_3⟩ : ∃ w, w = sq z h0 0 (some x0) := ⟨_, rfl⟩
  rw [← ez_3] at hP2 hD2
  replace hf := lt_at ez_3 hf
  clear ez_3
  replace hP := hP2
  replace hD := hD2
  replace hS := hS2
  clear hP2 hD2 hS2
  refine lv_aload_n hx hb dX13_bears_5 rfl (lv_at hl 1 rfl) ?_
  refine lv_iload_n hx hb dX13_bears_6 rfl (lv_at hl 2 rfl) ?_
  obtain ⟨g_6, hf⟩ := grd_some hf
  obtain ⟨kg_6, sg_6⟩ := okO_at g_6
  obtain ⟨z_4, r_5, hfc, hf⟩ := cal_some hf
  have hFc := de_free hD hS hA
  refine va_calli (va_runV (As := [.int x1]) (rest := []) ⟨hx, hb, hml, hown, hts⟩ (de_X16_abilitiesOf l dC dI cy a sh n H_2.size F z_3 x0 x1 hfc) (cwV 1 hts gX13_bears_X16_abilitiesOf rfl rfl rfl (by decide +kernel) ⟨Nat.le_of_ble_eq_true rfl, Nat.le_of_ble_eq_true rfl⟩) ⟨fun a U g mk q => by obtain ⟨q0, q1, qP, qK, qD, qN⟩ := q; exact ⟨q0, q1, qP, va_K.moved (u := U) (U := U.calling g mk a) (Vm.Alike.refl U.vm) qK, qD, qN.same rfl⟩, va_recv hK hP (ci := 16) (q0 := x0) rfl (Wd_ob kg_6 sg_6 (by decide)), fun U hU hW => ⟨rfl, by rw [hU], by rw [hU]; exact hP, va_K.moved hW.alike hK, hD.weaken (fun _ _ _ _ => trivial), hN.warm hW⟩⟩ rfl rfl hl.1 rfl (lv_room (Nat.le_of_ble_eq_true rfl)) dX13_bears_7 ⟨Nat.le_of_ble_eq_true rfl, Nat.le_of_ble_eq_true rfl⟩) hS (fun q _ h => hFc q h) hFc (fun rr u t H_7 locs ht hvm hw hB hz1 hk1 hS2 => ?_)
  rw [hw]
  clear hw
  obtain ⟨hP1, -, hD1⟩ := hB
  rw [ht] at hP1
  replace hD := hD1.weaken (fun _ _ _ h => hFc _ h)
  replace hP := hP1
  replace hS := hS2
  clear hP1 hD1 hS2 hFc hfc hz1 hk1 hvm ht
  refine lv_bipush (v := 7) hx hb dX13_bears_10 (by decide) ?_
  refine lv_iand hx hb dX13_bears_12 ?_
  refine lv_aload_n hx hb dX13_bears_13 rfl (lv_at hl 1 rfl) ?_
  refine lv_iload_n hx hb dX13_bears_14 rfl (lv_at hl 2 rfl) ?_
  obtain ⟨z_8, r_9, hfc, hf⟩ := cal_some hf
  have hFc := de_free hD hS hA
  refine va_calli (va_runV (As := [.int x1]) (rest := [.int (r_5 &&& 7)]) ⟨hx, hb, hml, hown, hts⟩ (de_X16_abilitiesOf l dC dI cy a sh n H_7.size F z_4 x0 x1 hfc) (cwV 1 hts gX13_bears_X16_abilitiesOf rfl rfl rfl (by decide +kernel) ⟨Nat.le_of_ble_eq_true rfl, Nat.le_of_ble_eq_true rfl⟩) ⟨fun a U g mk q => by obtain ⟨q0, q1, qP, qK, qD, qN⟩ := q; exact ⟨q0, q1, qP, va_K.moved (u := U) (U := U.calling g mk a) (Vm.Alike.refl U.vm) qK, qD, qN.same rfl⟩, va_recv hK hP (ci := 16) (q0 := x0) rfl (Wd_ob kg_6 sg_6 (by decide)), fun U hU hW => ⟨rfl, by rw [hU], by rw [hU]; exact hP, va_K.moved hW.alike hK, hD.weaken (fun _ _ _ _ => trivial), hN.warm hW⟩⟩ rfl rfl hl.1 rfl (lv_room (Nat.le_of_ble_eq_true rfl)) dX13_bears_15 ⟨Nat.le_of_ble_eq_true rfl, Nat.le_of_ble_eq_true rfl⟩) hS (fun q _ h => hFc q h) hFc (fun rr u t H_10 locs ht hvm hw hB hz1 hk1 hS2 => ?_)
  rw [hw]
  clear hw
  obtain ⟨hP1, -, hD1⟩ := hB
  rw [ht] at hP1
  replace hD := hD1.weaken (fun _ _ _ h => hFc _ h)
  replace hP := hP1
  replace hS := hS2
  clear hP1 hD1 hS2 hFc hfc hz1 hk1 hvm ht
  refine lv_bipush (v := 8) hx hb dX13_bears_18 (by decide) ?_
  refine lv_iand hx hb dX13_bears_20 ?_
  refine de_cut (h := 29) (fun (x : St × Int32) => [.int x.2, .int (r_5 &&& 7)]) (fun x ls H locs => lv_has ls 5 [(0, .ref (a h0)), (1, .ref (a x0)), (2, .int x1)] ∧ va_P (dC, dI) vwCl (Wd cy a sh n x.1) H ∧ va_D A (Wd cy a sh n x.1) ∧ va_S A s.heap H locs) (fun x => fn_X13_bears_B29 F sh n r_5 x0 x1 h0 x.1 x.2) (z8, r8) ?_ (fun B29 => ?_)
  · intro x ls H locs hI hf
    obtain ⟨z_12, p_11⟩ := x
    obtain ⟨hl2, hP2, hD2, hS2⟩ := hI
    replace hl : lv_has ls 5 [(0, .ref (a h0)), (1, .ref (a x0)), (2, .int x1)] := hl2
    replace hP := hP2
    replace hD := hD2
    replace hS := hS2
    clear hl2 hP2 hD2 hS2
    replace hf := fn_X13_bears_B29_s hf
    refine W.eq (g2 := F0 m 29 ls [.int p_11, .int (r_5 &&& 7)]) rfl ?_
    refine lv_ior hx hb dX13_bears_29 ?_
    refine lv_topi (fun v_13 ev_13 => ?_)
    replace hf := lt_at ev_13 hf
    clear ev_13
    refine lv_istore_n (lv' := [(3, .int v_13), (0, .ref (a h0)), (1, .ref (a x0)), (2, .int x1)]) hx hb dX13_bears_30 rfl hl (by decide) rfl (fun ls hl2 => ?_)
    replace hl := hl2
    clear hl2
    refine lv_iconst (v := 0) hx hb dX13_bears_31 (by decide) ?_
    refine lv_istore (lv' := [(4, .int 0), (3, .int v_13), (0, .ref (a h0)), (1, .ref (a x0)), (2, .int x1)]) hx hb dX13_bears_32 hl (by decide) rfl (fun ls hl2 => ?_)
    replace hl := hl2
    clear hl2
    have hl0 : lv_has ls 5 [(4, .int 0), (3, .int v_13), (0, .ref (a h0)), (1, .ref (a x0)), (2, .int x1)] := lv_sub hl [0, 1, 2, 3, 4] rfl
    refine de_loop (h := 34) (fun (x : St × Int32) ls H locs => lv_has ls 5 [(4, .int x.2), (3, .int v_13), (0, .ref (a h0)), (1, .ref (a x0)), (2, .int x1)] ∧ va_P (dC, dI) vwCl (Wd cy a sh n x.1) H ∧ va_D A (Wd cy a sh n x.1) ∧ va_S A s.heap H locs) (fun f x => fn_X13_bears_L34 F sh n x0 x1 h0 v_13 f x.1 x.2) (z8, r8) ?_ (fun _ => rfl) F (z_12, 0) ls H locs ⟨hl0, hP, hD, hS⟩ hf
    intro f_16 x ls H locs ih34 hI hf
    obtain ⟨z_15, p_14⟩ := x
    obtain ⟨hl2, hP2, hD2, hS2⟩ := hI
    replace hl : lv_has ls 5 [(4, .int p_14), (3, .int v_13), (0, .ref (a h0)), (1, .ref (a x0)), (2, .int x1)] := hl2
    replace hP := hP2
    replace hD := hD2
    replace hS := hS2
    clear hl2 hP2 hD2 hS2 hl0
    replace hf := fn_X13_bears_L34_s hf
    refine lv_iload hx hb dX13_bears_34 (lv_at hl 0 rfl) ?_
    refine lv_aload_n hx hb dX13_bears_36 rfl (lv_at hl 3 rfl) ?_
    refine lv_iload_n hx hb dX13_bears_37 rfl (lv_at hl 4 rfl) ?_
    obtain ⟨z_17, r_18, hfc, hf⟩ := cal_some hf
    have hFc := de_free hD hS hA
    refine va_calli (va_runVN (As := [.int x1]) (rest := [.int p_14]) ⟨hx, hb, hml, hown, hts⟩ (de_X16_fieldsOf l dC dI cy a sh n H.size F z_15 x0 x1 hfc) ⟨va_cnB 1 hts ggX13_bears_X16_fieldsOf rfl rfl rfl (NK_m_X13_85 hN) (hts _ md_X13_bears_5) ⟨by decide, by decide, by decide +kernel⟩ ⟨Nat.le_of_ble_eq_true rfl, Nat.le_of_ble_eq_true rfl⟩, (hts _ md_X13_bears_15), (hts _ md_X13_bears_16)⟩ ⟨fun a U g mk q => by obtain ⟨q0, q1, qP, qK, qD, qN⟩ := q; exact ⟨q0, q1, qP, va_K.moved (u := U) (U := U.calling g mk a) (Vm.Alike.refl U.vm) qK, qD, qN.same rfl⟩, va_recv hK hP (ci := 16) (q0 := x0) rfl (Wd_ob kg_6 sg_6 (by decide)), fun U hU hW => ⟨rfl, by rw [hU], by rw [hU]; exact hP, va_K.moved hW.alike hK, hD.weaken (fun _ _ _ _ => trivial), hN.warm hW⟩⟩ rfl rfl hl.1 rfl (lv_room (Nat.le_of_ble_eq_true rfl)) dX13_bears_38 ⟨Nat.le_of_ble_eq_true rfl, Nat.le_of_ble_eq_true rfl⟩) hS (fun q _ h => hFc q h) hFc (fun rr u t H_19 locs ht hvm hw hB hz1 hk1 hS2 => ?_)
    rw [hw]
    clear hw
    obtain ⟨hP1, -, hD1⟩ := hB
    rw [ht] at hP1
    replace hD := hD1.weaken (fun _ _ _ h => hFc _ h)
    replace hP := hP1
    replace hS := hS2
    clear hP1 hD1 hS2 hFc hfc hz1 hk1 hvm ht
    refine lv_icmp_ge (tgt := 69) hx hb dX13_bears_41 (by decide) (fun c_20 => ?_) (fun c_20 => ?_)
    · skip
      rw [if_pos c_20] at hf
      refine lv_iconst (v := 1) hx hb dX13_bears_69 (by decide) ?_
      obtain ⟨h8, h9⟩ := ret_some hf
      rw [h8, h9]
      exact W.zret (v := 1) hx hb hr rfl (fun t ht hW => ⟨⟨1, (), rfl, rfl, by rw [ht]; exact hP, va_K.moved hW.alike hK, hD⟩, hS.F ht⟩) hS.2.2 dX13_bears_70
    · skip
      rw [if_neg c_20] at hf
      refine lv_aload_n hx hb dX13_bears_44 rfl (lv_at hl 2 rfl) ?_
      refine lv_aload_n hx hb dX13_bears_45 rfl (lv_at hl 3 rfl) ?_
      refine lv_iload_n hx hb dX13_bears_46 rfl (lv_at hl 4 rfl) ?_
      refine lv_iload hx hb dX13_bears_47 (lv_at hl 0 rfl) ?_
      obtain ⟨z_21, r_22, hfc, hf⟩ := cal_some hf
      have hFc := de_free hD hS hA
      refine va_calll (va_runV (As := [.int x1, .int p_14]) (rest := [.ref (a h0)]) ⟨hx, hb, hml, hown, hts⟩ (de_X16_field l dC dI cy a sh n H_19.size F z_17 x0 x1 p_14 hfc) (cwV 2 hts gX13_bears_X16_field rfl rfl rfl (by decide +kernel) ⟨Nat.le_of_ble_eq_true rfl, Nat.le_of_ble_eq_true rfl⟩) ⟨fun a U g mk q => by obtain ⟨q0, q1, qP, qK, qD, qN⟩ := q; exact ⟨q0, q1, qP, va_K.moved (u := U) (U := U.calling g mk a) (Vm.Alike.refl U.vm) qK, qD, qN.same rfl⟩, va_recv hK hP (ci := 16) (q0 := x0) rfl (Wd_ob kg_6 sg_6 (by decide)), fun U hU hW => ⟨rfl, by rw [hU], by rw [hU]; exact hP, va_K.moved hW.alike hK, hD.weaken (fun _ _ _ _ => trivial), hN.warm hW⟩⟩ rfl rfl hl.1 rfl (lv_room (Nat.le_of_ble_eq_true rfl)) dX13_bears_49 ⟨Nat.le_of_ble_eq_true rfl, Nat.le_of_ble_eq_true rfl⟩) hS (fun q _ h => hFc q h) hFc (fun rr u t H_23 locs ht hvm hw hB hz1 hk1 hS2 => ?_)
      rw [hw]
      clear hw
      obtain ⟨hP1, -, hD1⟩ := hB
      rw [ht] at hP1
      replace hD := hD1.weaken (fun _ _ _ h => hFc _ h)
      replace hP := hP1
      replace hS := hS2
      clear hP1 hD1 hS2 hFc hfc hz1 hk1 hvm ht
      obtain ⟨z_24, r_25, hfc, hf⟩ := cal_some hf
      have hFc := de_free hD hS hA
      refine va_calli (va_runV (As := [.long r_22]) (rest := []) ⟨hx, hb, hml, hown, hts⟩ (de_X13_abilitiesFor l dC dI cy a sh n H_23.size F z_21 h0 r_22 hfc) (cwV 1 hts gX13_bears_X13_abilitiesFor rfl rfl rfl (by decide +kernel) ⟨Nat.le_of_ble_eq_true rfl, Nat.le_of_ble_eq_true rfl⟩) ⟨fun a U g mk q => by obtain ⟨q0, q1, qP, qK, qD, qN⟩ := q; exact ⟨q0, q1, qP, va_K.moved (u := U) (U := U.calling g mk a) (Vm.Alike.refl U.vm) qK, qD, qN.same rfl⟩, va_recv hK hP (ci := 13) (q0 := h0) rfl (Wd_ob kg_1 sg_1 (by decide)), fun U hU hW => ⟨rfl, by rw [hU], by rw [hU]; exact hP, va_K.moved hW.alike hK, hD.weaken (fun _ _ _ _ => trivial), hN.warm hW⟩⟩ rfl rfl hl.1 rfl (lv_room (Nat.le_of_ble_eq_true rfl)) dX13_bears_52 ⟨Nat.le_of_ble_eq_true rfl, Nat.le_of_ble_eq_true rfl⟩) hS (fun q _ h => hFc q h) hFc (fun rr u t H_26 locs ht hvm hw hB hz1 hk1 hS2 => ?_)
      rw [hw]
      clear hw
      obtain ⟨hP1, -, hD1⟩ := hB
      rw [ht] at hP1
      replace hD := hD1.weaken (fun _ _ _ h => hFc _ h)
      replace hP := hP1
      replace hS := hS2
      clear hP1 hD1 hS2 hFc hfc hz1 hk1 hvm ht
      refine lv_iload_n hx hb dX13_bears_55 rfl (lv_at hl 1 rfl) ?_
      refine lv_iand hx hb dX13_bears_56 ?_
      refine lv_iload_n hx hb dX13_bears_57 rfl (lv_at hl 1 rfl) ?_
      refine lv_icmp_eq (tgt := 63) hx hb dX13_bears_58 (by decide) (fun c_27 => ?_) (fun c_27 => ?_)
      · skip
        rw [if_pos c_27] at hf
        refine lv_iinc (v := (p_14 + 1)) (lv' := [(4, .int (p_14 + 1)), (3, .int v_13), (0, .ref (a h0)), (1, .ref (a x0)), (2, .int x1)]) hx hb dX13_bears_63 hl (k := 0) rfl rfl (by decide) rfl (fun ls hl2 => ?_)
        replace hl := hl2
        clear hl2
        refine lv_goto (tgt := 34) hx hb dX13_bears_66 (by decide) ?_
        exact ih34 (z_24, (p_14 + 1)) ls H_26 locs ⟨lv_sub hl [0, 1, 2, 3, 4] rfl, hP, hD, hS⟩ hf
      · skip
        rw [if_neg c_27] at hf
        refine lv_iconst (v := 0) hx hb dX13_bears_61 (by decide) ?_
        obtain ⟨h8, h9⟩ := ret_some hf
        rw [h8, h9]
        exact W.zret (v := 0) hx hb hr rfl (fun t ht hW => ⟨⟨0, (), rfl, rfl, by rw [ht]; exact hP, va_K.moved hW.alike hK, hD⟩, hS.F ht⟩) hS.2.2 dX13_bears_62
  refine lv_if_eq (tgt := 28) hx hb dX13_bears_21 (by decide) (fun c_28 => ?_) (fun c_28 => ?_)
  · skip
    rw [if_pos c_28] at hf
    refine lv_iconst (v := 0) hx hb dX13_bears_28 (by decide) ?_
    exact B29 (z_8, 0) ls H_10 locs ⟨lv_sub hl [0, 1, 2] rfl, hP, hD, hS⟩ hf
  · skip
    rw [if_neg c_28] at hf
    refine lv_iconst (v := 4) hx hb dX13_bears_24 (by decide) ?_
    refine lv_goto (tgt := 29) hx hb dX13_bears_25 (by decide) ?_
    exact B29 (z_8, 4) ls H_10 locs ⟨lv_sub hl [0, 1, 2] rfl, hP, hD, hS⟩ hf

theorem md_X18_isThere_1 : (.fieldLink RX18 17 "ResourceLedgerModel" "units" "[LResourceLedgerModel$Unit;" : Cond) ∈ wsX18_isThere := List.mem_of_getElem? (i := 1) rfl
theorem iwd_X18_isThere_X18 : ∀ w ∈ wsX180, w ∈ wsX18_isThere := fun _ h => List.mem_cons_of_mem _ (List.mem_append_left _ (List.mem_append_right _ h))
theorem iwd_X18_isThere_X16 : ∀ w ∈ wsX160, w ∈ wsX18_isThere := fun _ h => List.mem_cons_of_mem _ (List.mem_append_right _ h)
set_option maxHeartbeats 4000000 in
set_option maxRecDepth 100000 in
theorem de_X18_isThere (l : Launch) (dC : Nat → ClassId) (dI : Nat → Nat → Nat) (cy : Nat → ClassId) (a : Nat → Nat) (sh : Nat → Nat × Nat) (n sz : Nat) (F : Nat) (z : St) (h0 : Nat) (x0 : Int32) (x1 : Int32) (x2 : Int32) {z8 : St} {r8 : Int32} (hf : fn_X18_isThere F sh n z h0 x0 x1 x2 = some (z8, r8)) : Met l yX18_isThere wsX18_isThere ({ frames := 4, cells := 0, slots := 0, locals := 84 }) (va_Pc [.ref (a h0), .int x0, .int x1, .int x2] (fun U => U.heap.size = sz ∧ va_P (dC, dI) vwCl (Wd cy a sh n z) U.heap ∧ va_K (dC, dI) vwCl (TYS cy) U ∧ va_D (fun _ => True) (Wd cy a sh n z) ∧ NK U)) (va_Qi (fun (r9 : Int32) (u : Unit) => r9 = r8) (fun u t => va_P (dC, dI) vwCl (Wd cy a sh n z8) t.heap ∧ va_K (dC, dI) vwCl (TYS cy) t ∧ va_D (va_A (Wd cy a sh n z) sz) (Wd cy a sh n z8)) (va_A (Wd cy a sh n z) sz)) 0 0 (va_A (Wd cy a sh n z) sz) := by
  refine Met.ofW (cc := cX18_isThere) (maxL := 5) (ret := (some .boolean)) (by decide) rfl ?_
  intro p e s m args below meth c s₁ B hml hv
  obtain ⟨rfl, hsz, hP, hK, hD0, hN⟩ := hv
  have hx := B.exec
  have hb := B.bytes
  have hr := B.returns
  have hts := atoms_spec (ws := wsX18_isThere) B.pre
  have hown : s.vm.findClass RX18 = some m.cls := findClass_of_methodNamed B.named
  have hlocks := B.notSynchronized
  subst hsz
  have hD := hD0.self (sz := s.heap.size)
  clear hD0
  generalize hAe : va_A (Wd cy a sh n z) s.heap.size = A at hD ⊢
  have hA : ∀ q : Nat, s.heap.size ≤ q → A q := fun q h => by rw [← hAe]; exact Or.inr h
  clear hAe
  have hS : va_S A s.heap s.heap [] := va_S.rf
  have hl := lv_entry ([.ref (a h0), .int x0, .int x1, .int x2]) (n := 5) (Nat.le_of_ble_eq_true rfl)
  rw [lg_entry_eq]
  generalize (lg_sl ([.ref (a h0), .int x0, .int x1, .int x2]) ++ List.replicate (5 - (lg_sl ([.ref (a h0), .int x0, .int x1, .int x2])).length) Slot.unset).toArray = ls at hl ⊢
  replace hl : lv_has ls 5 [(0, .ref (a h0)), (1, .int x0), (2, .int x1), (3, .int x2)] := hl
  unfold fn_X18_isThere at hf
  refine de_start hS hP (fun H locs hS hP => ?_)
  refine lv_iload_n hx hb dX18_isThere_0 rfl (lv_at hl 1 rfl) ?_
  refine lv_if_ne (tgt := 32) hx hb dX18_isThere_1 (by decide) (fun c_1 => ?_) (fun c_1 => ?_)
  · skip
    rw [if_neg c_1] at hf
    refine lv_aload_n hx hb dX18_isThere_32 rfl (lv_at hl 0 rfl) ?_
    refine lv_iload_n hx hb dX18_isThere_33 rfl (lv_at hl 1 rfl) ?_
    obtain ⟨g_4, hf⟩ := grd_some hf
    obtain ⟨kg_4, sg_4⟩ := okO_at g_4
    obtain ⟨z_2, r_3, hfc, hf⟩ := cal_some hf
    have hFc := de_free hD hS hA
    refine va_calli (va_runV (As := [.int x0]) (rest := []) ⟨hx, hb, hml, hown, hts⟩ (de_X18_findModule l dC dI cy a sh n H.size F z h0 x0 hfc) (cwV 1 hts gX18_isThere_X18_findModule rfl rfl rfl (by decide +kernel) ⟨Nat.le_of_ble_eq_true rfl, Nat.le_of_ble_eq_true rfl⟩) ⟨fun a U g mk q => by obtain ⟨q0, q1, qP, qK, qD, qN⟩ := q; exact ⟨q0, q1, qP, va_K.moved (u := U) (U := U.calling g mk a) (Vm.Alike.refl U.vm) qK, qD, qN.same rfl⟩, va_recv hK hP (ci := 18) (q0 := h0) rfl (Wd_ob kg_4 sg_4 (by decide)), fun U hU hW => ⟨rfl, by rw [hU], by rw [hU]; exact hP, va_K.moved hW.alike hK, hD.weaken (fun _ _ _ _ => trivial), hN.warm hW⟩⟩ rfl rfl hl.1 rfl (lv_room (Nat.le_of_ble_eq_true rfl)) dX18_isThere_34 ⟨Nat.le_of_ble_eq_true rfl, Nat.le_of_ble_eq_true rfl⟩) hS (fun q _ h => hFc q h) hFc (fun rr u t H_5 locs ht hvm hw hB hz1 hk1 hS2 => ?_)
    rw [hw]
    clear hw
    obtain ⟨hP1, -, hD1⟩ := hB
    rw [ht] at hP1
    replace hD := hD1.weaken (fun _ _ _ h => hFc _ h)
    replace hP := hP1
    replace hS := hS2
    clear hP1 hD1 hS2 hFc hfc hz1 hk1 hvm ht
    refine lv_istore (lv' := [(4, .int r_3), (0, .ref (a h0)), (1, .int x0), (2, .int x1), (3, .int x2)]) hx hb dX18_isThere_37 hl (by decide) rfl (fun ls hl2 => ?_)
    replace hl := hl2
    clear hl2
    refine lv_iload hx hb dX18_isThere_39 (lv_at hl 0 rfl) ?_
    refine lv_if_le (tgt := 79) hx hb dX18_isThere_41 (by decide) (fun c_6 => ?_) (fun c_6 => ?_)
    · skip
      rw [if_pos c_6] at hf
      refine lv_iconst (v := 0) hx hb dX18_isThere_79 (by decide) ?_
      obtain ⟨h8, h9⟩ := ret_some hf
      rw [h8, h9]
      exact W.zret (v := 0) hx hb hr rfl (fun t ht hW => ⟨⟨0, (), rfl, rfl, by rw [ht]; exact hP, va_K.moved hW.alike hK, hD⟩, hS.F ht⟩) hS.2.2 dX18_isThere_80
    · skip
      rw [if_neg c_6] at hf
      refine lv_iload_n hx hb dX18_isThere_44 rfl (lv_at hl 3 rfl) ?_
      refine lv_iload_n hx hb dX18_isThere_45 rfl (lv_at hl 4 rfl) ?_
      refine de_cut (h := 72) (fun (x : St × Int32) => [.int x.2, .int x1]) (fun x ls H locs => lv_has ls 5 [] ∧ va_P (dC, dI) vwCl (Wd cy a sh n x.1) H ∧ va_D A (Wd cy a sh n x.1) ∧ va_S A s.heap H locs) (fun x => fn_X18_isThere_B72 F sh n x1 x.1 x.2) (z8, r8) ?_ (fun B72 => ?_)
      · intro x ls H locs hI hf
        obtain ⟨z_8, p_7⟩ := x
        obtain ⟨hl2, hP2, hD2, hS2⟩ := hI
        replace hl : lv_has ls 5 [] := hl2
        replace hP := hP2
        replace hD := hD2
        replace hS := hS2
        clear hl2 hP2 hD2 hS2
        replace hf := fn_X18_isThere_B72_s hf
        refine W.eq (g2 := F0 m 72 ls [.int p_7, .int x1]) rfl ?_
        refine lv_icmp_ge (tgt := 79) hx hb dX18_isThere_72 (by decide) (fun c_9 => ?_) (fun c_9 => ?_)
        · skip
          rw [if_pos c_9] at hf
          refine lv_iconst (v := 0) hx hb dX18_isThere_79 (by decide) ?_
          obtain ⟨h8, h9⟩ := ret_some hf
          rw [h8, h9]
          exact W.zret (v := 0) hx hb hr rfl (fun t ht hW => ⟨⟨0, (), rfl, rfl, by rw [ht]; exact hP, va_K.moved hW.alike hK, hD⟩, hS.F ht⟩) hS.2.2 dX18_isThere_80
        · skip
          rw [if_neg c_9] at hf
          refine lv_iconst (v := 1) hx hb dX18_isThere_75 (by decide) ?_
          refine lv_goto (tgt := 80) hx hb dX18_isThere_76 (by decide) ?_
          obtain ⟨h8, h9⟩ := ret_some hf
          rw [h8, h9]
          exact W.zret (v := 1) hx hb hr rfl (fun t ht hW => ⟨⟨1, (), rfl, rfl, by rw [ht]; exact hP, va_K.moved hW.alike hK, hD⟩, hS.F ht⟩) hS.2.2 dX18_isThere_80
      refine lv_if_eq (tgt := 62) hx hb dX18_isThere_46 (by decide) (fun c_10 => ?_) (fun c_10 => ?_)
      · skip
        rw [if_pos c_10] at hf
        refine lv_aload_n hx hb dX18_isThere_62 rfl (lv_at hl 1 rfl) ?_
        obtain ⟨k_11, ek_11, hf⟩ := lnk_some hf
        refine va_get (D := (dC, dI)) (ci := 18) (v := .ref (a k_11)) (C := RX18) (T := TX18) (N := 78) hx hb hts iwd_X18_isThere_X18 hown hK hP h0 (Wd_ob kg_4 sg_4 (by decide)) rfl 4 (by decide) (hts _ md_X18_isThere_1) (fun _ h9 => h9) (fl_q rfl ek_11) dX18_isThere_63 ?_
        refine lv_iload hx hb dX18_isThere_66 (lv_at hl 0 rfl) ?_
        obtain ⟨g_12, hf⟩ := grd_some hf
        obtain ⟨kg_12, sg_12, ig_12⟩ := okA_at g_12
        obtain ⟨k_13, ek_13, hf⟩ := lnk_some hf
        refine va_aldq (C := RX16) hx hb hK hP k_11 6 (Wd_aq kg_12 sg_12 (by decide)) rfl ig_12 dX18_isThere_68 ?_
        refine W.eq (g2 := F0 m 69 ls [.ref (a k_13), .int x1]) (by rw [ek_13]; rfl) ?_
        obtain ⟨g_14, hf⟩ := grd_some hf
        obtain ⟨kg_14, sg_14⟩ := okO_at g_14
        refine va_getN (D := (dC, dI)) (ci := 16) (v := .int (z_2.1 k_13 9)) (C := RX16) (T := TX16) (N := 18) hx hb hts iwd_X18_isThere_X16 hown hK hP k_13 (Wd_ob kg_14 sg_14 (by decide)) rfl 9 (by decide) (va_Nw.use rfl (NK_f_X18_112 hN)) (fun _ h9 => h9) (fl_at (t := 0) rfl) dX18_isThere_69 ?_
        exact B72 (z_2, (z_2.1 k_13 9)) ls H_5 locs ⟨lv_sub hl [] rfl, hP, hD, hS⟩ hf
      · skip
        rw [if_neg c_10] at hf
        refine lv_aload_n hx hb dX18_isThere_49 rfl (lv_at hl 1 rfl) ?_
        obtain ⟨k_15, ek_15, hf⟩ := lnk_some hf
        refine va_get (D := (dC, dI)) (ci := 18) (v := .ref (a k_15)) (C := RX18) (T := TX18) (N := 78) hx hb hts iwd_X18_isThere_X18 hown hK hP h0 (Wd_ob kg_4 sg_4 (by decide)) rfl 4 (by decide) (hts _ md_X18_isThere_1) (fun _ h9 => h9) (fl_q rfl ek_15) dX18_isThere_50 ?_
        refine lv_iload hx hb dX18_isThere_53 (lv_at hl 0 rfl) ?_
        obtain ⟨g_16, hf⟩ := grd_some hf
        obtain ⟨kg_16, sg_16, ig_16⟩ := okA_at g_16
        obtain ⟨k_17, ek_17, hf⟩ := lnk_some hf
        refine va_aldq (C := RX16) hx hb hK hP k_15 6 (Wd_aq kg_16 sg_16 (by decide)) rfl ig_16 dX18_isThere_55 ?_
        refine W.eq (g2 := F0 m 56 ls [.ref (a k_17), .int x1]) (by rw [ek_17]; rfl) ?_
        obtain ⟨g_18, hf⟩ := grd_some hf
        obtain ⟨kg_18, sg_18⟩ := okO_at g_18
        refine va_getN (D := (dC, dI)) (ci := 16) (v := .int (z_2.1 k_17 5)) (C := RX16) (T := TX16) (N := 18) hx hb hts iwd_X18_isThere_X16 hown hK hP k_17 (Wd_ob kg_18 sg_18 (by decide)) rfl 5 (by decide) (va_Nw.use rfl (NK_f_X18_109 hN)) (fun _ h9 => h9) (fl_at (t := 0) rfl) dX18_isThere_56 ?_
        refine lv_goto (tgt := 72) hx hb dX18_isThere_59 (by decide) ?_
        exact B72 (z_2, (z_2.1 k_17 5)) ls H_5 locs ⟨lv_sub hl [] rfl, hP, hD, hS⟩ hf
  · skip
    rw [if_pos c_1] at hf
    refine lv_iload_n hx hb dX18_isThere_4 rfl (lv_at hl 3 rfl) ?_
    refine lv_if_eq (tgt := 20) hx hb dX18_isThere_5 (by decide) (fun c_19 => ?_) (fun c_19 => ?_)
    · skip
      rw [if_pos c_19] at hf
      refine lv_iload_n hx hb dX18_isThere_20 rfl (lv_at hl 2 rfl) ?_
      refine lv_bipush (v := 6) hx hb dX18_isThere_21 (by decide) ?_
      refine lv_icmp_ge (tgt := 30) hx hb dX18_isThere_23 (by decide) (fun c_20 => ?_) (fun c_20 => ?_)
      · skip
        rw [if_pos c_20] at hf
        refine lv_iconst (v := 0) hx hb dX18_isThere_30 (by decide) ?_
        obtain ⟨h8, h9⟩ := ret_some hf
        rw [h8, h9]
        exact W.zret (v := 0) hx hb hr rfl (fun t ht hW => ⟨⟨0, (), rfl, rfl, by rw [ht]; exact hP, va_K.moved hW.alike hK, hD⟩, hS.F ht⟩) hS.2.2 dX18_isThere_31
      · skip
        rw [if_neg c_20] at hf
        refine lv_iconst (v := 1) hx hb dX18_isThere_26 (by decide) ?_
        refine lv_goto (tgt := 31) hx hb dX18_isThere_27 (by decide) ?_
        obtain ⟨h8, h9⟩ := ret_some hf
        rw [h8, h9]
        exact W.zret (v := 1) hx hb hr rfl (fun t ht hW => ⟨⟨1, (), rfl, rfl, by rw [ht]; exact hP, va_K.moved hW.alike hK, hD⟩, hS.F ht⟩) hS.2.2 dX18_isThere_31
    · skip
      rw [if_neg c_19] at hf
      refine lv_iload_n hx hb dX18_isThere_8 rfl (lv_at hl 2 rfl) ?_
      refine lv_if_ne (tgt := 16) hx hb dX18_isThere_9 (by decide) (fun c_21 => ?_) (fun c_21 => ?_)
      · skip
        rw [if_neg c_21] at hf
        refine lv_iconst (v := 0) hx hb dX18_isThere_16 (by decide) ?_
        refine lv_goto (tgt := 31) hx hb dX18_isThere_17 (by decide) ?_
        obtain ⟨h8, h9⟩ := ret_some hf
        rw [h8, h9]
        exact W.zret (v := 0) hx hb hr rfl (fun t ht hW => ⟨⟨0, (), rfl, rfl, by rw [ht]; exact hP, va_K.moved hW.alike hK, hD⟩, hS.F ht⟩) hS.2.2 dX18_isThere_31
      · skip
        rw [if_pos c_21] at hf
        refine lv_iconst (v := 1) hx hb dX18_isThere_12 (by decide) ?_
        refine lv_goto (tgt := 31) hx hb dX18_isThere_13 (by decide) ?_
        obtain ⟨h8, h9⟩ := ret_some hf
        rw [h8, h9]
        exact W.zret (v := 1) hx hb hr rfl (fun t ht hW => ⟨⟨1, (), rfl, rfl, by rw [ht]; exact hP, va_K.moved hW.alike hK, hD⟩, hS.F ht⟩) hS.2.2 dX18_isThere_31

theorem md_X4_refer_1 : (.fieldLink RX4 12 "ResourceLedger$Machine" "heap" "LResourceLedger$Heap;" : Cond) ∈ wsX4_refer := List.mem_of_getElem? (i := 1) rfl
theorem iwd_X4_refer_X4 : ∀ w ∈ wsX40, w ∈ wsX4_refer := fun _ h => List.mem_cons_of_mem _ (List.mem_append_left _ (List.mem_append_left _ (List.mem_append_right _ h)))
theorem md_X4_refer_2 : (.fieldLink RX4 163 "ResourceLedger$Heap" "low" "[J" : Cond) ∈ wsX4_refer := List.mem_of_getElem? (i := 2) rfl
theorem iwd_X4_refer_X1 : ∀ w ∈ wsX10, w ∈ wsX4_refer := fun _ h => List.mem_cons_of_mem _ (List.mem_append_left _ (List.mem_append_right _ h))
set_option maxHeartbeats 4000000 in
set_option maxRecDepth 100000 in
theorem de_X4_refer (l : Launch) (dC : Nat → ClassId) (dI : Nat → Nat → Nat) (cy : Nat → ClassId) (a : Nat → Nat) (sh : Nat → Nat × Nat) (n sz : Nat) (F : Nat) (z : St) (h0 : Nat) (x0 : Int32) (x1 : Int32) {z8 : St} {r8 : Unit} (hf : fn_X4_refer F sh n z h0 x0 x1 = some (z8, r8)) : Met l yX4_refer wsX4_refer ({ frames := 52, cells := 0, slots := 0, locals := 1439 }) (va_Pc [.ref (a h0), .int x0, .int x1] (fun U => U.heap.size = sz ∧ va_P (dC, dI) vwCl (Wd cy a sh n z) U.heap ∧ va_K (dC, dI) vwCl (TYS cy) U ∧ va_D (fun _ => True) (Wd cy a sh n z) ∧ NK U)) (va_Qv (fun u : Unit => True) (fun u t => va_P (dC, dI) vwCl (Wd cy a sh n z8) t.heap ∧ va_K (dC, dI) vwCl (TYS cy) t ∧ va_D (va_A (Wd cy a sh n z) sz) (Wd cy a sh n z8)) (va_A (Wd cy a sh n z) sz)) 0 0 (va_A (Wd cy a sh n z) sz) := by
  refine Met.ofW (cc := cX4_refer) (maxL := 5) (ret := none) (by decide) rfl ?_
  intro p e s m args below meth c s₁ B hml hv
  obtain ⟨rfl, hsz, hP, hK, hD0, hN⟩ := hv
  have hx := B.exec
  have hb := B.bytes
  have hr := B.returns
  have hts := atoms_spec (ws := wsX4_refer) B.pre
  have hown : s.vm.findClass RX4 = some m.cls := findClass_of_methodNamed B.named
  have hlocks := B.notSynchronized
  subst hsz
  have hD := hD0.self (sz := s.heap.size)
  clear hD0
  generalize hAe : va_A (Wd cy a sh n z) s.heap.size = A at hD ⊢
  have hA : ∀ q : Nat, s.heap.size ≤ q → A q := fun q h => by rw [← hAe]; exact Or.inr h
  clear hAe
  have hS : va_S A s.heap s.heap [] := va_S.rf
  have hl := lv_entry ([.ref (a h0), .int x0, .int x1]) (n := 5) (Nat.le_of_ble_eq_true rfl)
  rw [lg_entry_eq]
  generalize (lg_sl ([.ref (a h0), .int x0, .int x1]) ++ List.replicate (5 - (lg_sl ([.ref (a h0), .int x0, .int x1])).length) Slot.unset).toArray = ls at hl ⊢
  replace hl : lv_has ls 5 [(0, .ref (a h0)), (1, .int x0), (2, .int x1)] := hl
  unfold fn_X4_refer at hf
  refine de_start hS hP (fun H locs hS hP => ?_)
  refine lv_iload_n hx hb dX4_refer_0 rfl (lv_at hl 1 rfl) ?_
  refine lv_bipush (v := 20) hx hb dX4_refer_1 (by decide) ?_
  refine lv_icmp_ne (tgt := 7) hx hb dX4_refer_3 (by decide) (fun c_1 => ?_) (fun c_1 => ?_)
  · skip
    rw [if_neg c_1] at hf
    refine lv_aload_n hx hb dX4_refer_7 rfl (lv_at hl 0 rfl) ?_
    obtain ⟨g_4, hf⟩ := grd_some hf
    obtain ⟨kg_4, sg_4⟩ := okO_at g_4
    obtain ⟨z_2, r_3, hfc, hf⟩ := cal_some hf
    have hFc := de_free hD hS hA
    refine va_calli (va_runV (As := []) (rest := []) ⟨hx, hb, hml, hown, hts⟩ (de_X4_pop l dC dI cy a sh n H.size F z h0 hfc) (cwV 0 hts gX4_refer_X4_pop rfl rfl rfl (by decide +kernel) ⟨Nat.le_of_ble_eq_true rfl, Nat.le_of_ble_eq_true rfl⟩) ⟨fun a U g mk q => by obtain ⟨q0, q1, qP, qK, qD, qN⟩ := q; exact ⟨q0, q1, qP, va_K.moved (u := U) (U := U.calling g mk a) (Vm.Alike.refl U.vm) qK, qD, qN.same rfl⟩, va_recv hK hP (ci := 4) (q0 := h0) rfl (Wd_ob kg_4 sg_4 (by decide)), fun U hU hW => ⟨rfl, by rw [hU], by rw [hU]; exact hP, va_K.moved hW.alike hK, hD.weaken (fun _ _ _ _ => trivial), hN.warm hW⟩⟩ rfl rfl hl.1 rfl (lv_room (Nat.le_of_ble_eq_true rfl)) dX4_refer_8 ⟨Nat.le_of_ble_eq_true rfl, Nat.le_of_ble_eq_true rfl⟩) hS (fun q _ h => hFc q h) hFc (fun rr u t H_5 locs ht hvm hw hB hz1 hk1 hS2 => ?_)
    rw [hw]
    clear hw
    obtain ⟨hP1, -, hD1⟩ := hB
    rw [ht] at hP1
    replace hD := hD1.weaken (fun _ _ _ h => hFc _ h)
    replace hP := hP1
    replace hS := hS2
    clear hP1 hD1 hS2 hFc hfc hz1 hk1 hvm ht
    refine lv_istore_n (lv' := [(3, .int r_3), (0, .ref (a h0)), (1, .int x0), (2, .int x1)]) hx hb dX4_refer_11 rfl hl (by decide) rfl (fun ls hl2 => ?_)
    replace hl := hl2
    clear hl2
    refine lv_aload_n hx hb dX4_refer_12 rfl (lv_at hl 1 rfl) ?_
    refine lv_iload_n hx hb dX4_refer_13 rfl (lv_at hl 0 rfl) ?_
    obtain ⟨z_6, r_7, hfc, hf⟩ := cal_some hf
    have hFc := de_free hD hS hA
    refine va_calli (va_runV (As := [.int r_3]) (rest := []) ⟨hx, hb, hml, hown, hts⟩ (de_X4_target l dC dI cy a sh n H_5.size F z_2 h0 r_3 hfc) (cwV 1 hts gX4_refer_X4_target rfl rfl rfl (by decide +kernel) ⟨Nat.le_of_ble_eq_true rfl, Nat.le_of_ble_eq_true rfl⟩) ⟨fun a U g mk q => by obtain ⟨q0, q1, qP, qK, qD, qN⟩ := q; exact ⟨q0, q1, qP, va_K.moved (u := U) (U := U.calling g mk a) (Vm.Alike.refl U.vm) qK, qD, qN.same rfl⟩, va_recv hK hP (ci := 4) (q0 := h0) rfl (Wd_ob kg_4 sg_4 (by decide)), fun U hU hW => ⟨rfl, by rw [hU], by rw [hU]; exact hP, va_K.moved hW.alike hK, hD.weaken (fun _ _ _ _ => trivial), hN.warm hW⟩⟩ rfl rfl hl.1 rfl (lv_room (Nat.le_of_ble_eq_true rfl)) dX4_refer_14 ⟨Nat.le_of_ble_eq_true rfl, Nat.le_of_ble_eq_true rfl⟩) hS (fun q _ h => hFc q h) hFc (fun rr u t H_8 locs ht hvm hw hB hz1 hk1 hS2 => ?_)
    rw [hw]
    clear hw
    obtain ⟨hP1, -, hD1⟩ := hB
    rw [ht] at hP1
    replace hD := hD1.weaken (fun _ _ _ h => hFc _ h)
    replace hP := hP1
    replace hS := hS2
    clear hP1 hD1 hS2 hFc hfc hz1 hk1 hvm ht
    refine lv_istore (lv' := [(4, .int r_7), (3, .int r_3), (0, .ref (a h0)), (1, .int x0), (2, .int x1)]) hx hb dX4_refer_17 hl (by decide) rfl (fun ls hl2 => ?_)
    replace hl := hl2
    clear hl2
    refine lv_iload_n hx hb dX4_refer_19 rfl (lv_at hl 3 rfl) ?_
    refine lv_bipush (v := 17) hx hb dX4_refer_20 (by decide) ?_
    refine lv_icmp_gt (tgt := 54) hx hb dX4_refer_22 (by decide) (fun c_9 => ?_) (fun c_9 => ?_)
    · skip
      rw [if_pos c_9] at hf
      refine lv_iload_n hx hb dX4_refer_54 rfl (lv_at hl 3 rfl) ?_
      refine lv_bipush (v := 18) hx hb dX4_refer_55 (by decide) ?_
      refine lv_icmp_ne (tgt := 69) hx hb dX4_refer_57 (by decide) (fun c_10 => ?_) (fun c_10 => ?_)
      · skip
        rw [if_neg c_10] at hf
        refine lv_aload_n hx hb dX4_refer_69 rfl (lv_at hl 2 rfl) ?_
        obtain ⟨k_11, ek_11, hf⟩ := lnk_some hf
        refine va_get (D := (dC, dI)) (ci := 4) (v := .ref (a k_11)) (C := RX4) (T := TX4) (N := 18) hx hb hts iwd_X4_refer_X4 hown hK hP h0 (Wd_ob kg_4 sg_4 (by decide)) rfl 1 (by decide) (hts _ md_X4_refer_1) (fun _ h9 => h9) (fl_q rfl ek_11) dX4_refer_70 ?_
        refine lv_iload hx hb dX4_refer_73 (lv_at hl 0 rfl) ?_
        refine lv_aload_n hx hb dX4_refer_75 rfl (lv_at hl 2 rfl) ?_
        obtain ⟨z_12, r_13, hfc, hf⟩ := cal_some hf
        have hFc := de_free hD hS hA
        refine va_calli (va_runV (As := []) (rest := [.int r_7, .ref (a k_11)]) ⟨hx, hb, hml, hown, hts⟩ (de_X4_pop l dC dI cy a sh n H_8.size F z_6 h0 hfc) (cwV 0 hts gX4_refer_X4_pop rfl rfl rfl (by decide +kernel) ⟨Nat.le_of_ble_eq_true rfl, Nat.le_of_ble_eq_true rfl⟩) ⟨fun a U g mk q => by obtain ⟨q0, q1, qP, qK, qD, qN⟩ := q; exact ⟨q0, q1, qP, va_K.moved (u := U) (U := U.calling g mk a) (Vm.Alike.refl U.vm) qK, qD, qN.same rfl⟩, va_recv hK hP (ci := 4) (q0 := h0) rfl (Wd_ob kg_4 sg_4 (by decide)), fun U hU hW => ⟨rfl, by rw [hU], by rw [hU]; exact hP, va_K.moved hW.alike hK, hD.weaken (fun _ _ _ _ => trivial), hN.warm hW⟩⟩ rfl rfl hl.1 rfl (lv_room (Nat.le_of_ble_eq_true rfl)) dX4_refer_76 ⟨Nat.le_of_ble_eq_true rfl, Nat.le_of_ble_eq_true rfl⟩) hS (fun q _ h => hFc q h) hFc (fun rr u t H_14 locs ht hvm hw hB hz1 hk1 hS2 => ?_)
        rw [hw]
        clear hw
        obtain ⟨hP1, -, hD1⟩ := hB
        rw [ht] at hP1
        replace hD := hD1.weaken (fun _ _ _ h => hFc _ h)
        replace hP := hP1
        replace hS := hS2
        clear hP1 hD1 hS2 hFc hfc hz1 hk1 hvm ht
        obtain ⟨g_16, hf⟩ := grd_some hf
        obtain ⟨kg_16, sg_16⟩ := okO_at g_16
        obtain ⟨z_15, _u, hfc, hf⟩ := cal_some hf
        have hFc := de_free hD hS hA
        refine va_callv (va_runV (As := [.int r_7, .int r_13]) (rest := []) ⟨hx, hb, hml, hown, hts⟩ (de_X1_assign l dC dI cy a sh n H_14.size F z_12 k_11 r_7 r_13 hfc) (cwV 2 hts gX4_refer_X1_assign rfl rfl rfl (by decide +kernel) ⟨Nat.le_of_ble_eq_true rfl, Nat.le_of_ble_eq_true rfl⟩) ⟨fun a U g mk q => by obtain ⟨q0, q1, qP, qK, qD, qN⟩ := q; exact ⟨q0, q1, qP, va_K.moved (u := U) (U := U.calling g mk a) (Vm.Alike.refl U.vm) qK, qD, qN.same rfl⟩, va_recv hK hP (ci := 1) (q0 := k_11) rfl (Wd_ob kg_16 sg_16 (by decide)), fun U hU hW => ⟨rfl, by rw [hU], by rw [hU]; exact hP, va_K.moved hW.alike hK, hD.weaken (fun _ _ _ _ => trivial), hN.warm hW⟩⟩ rfl rfl hl.1 rfl (lv_room (Nat.le_of_ble_eq_true rfl)) dX4_refer_79 ⟨Nat.le_of_ble_eq_true rfl, Nat.le_of_ble_eq_true rfl⟩) hS (fun q _ h => hFc q h) hFc (fun u t H_17 locs ht hvm hw hB hz1 hk1 hS2 => ?_)
        obtain ⟨hP1, -, hD1⟩ := hB
        rw [ht] at hP1
        replace hD := hD1.weaken (fun _ _ _ h => hFc _ h)
        replace hP := hP1
        replace hS := hS2
        clear hP1 hD1 hS2 hFc hfc hz1 hk1 hvm ht
        obtain ⟨h8, h9⟩ := ret_some hf
        rw [h8]
        exact W.vret hx hb hr (fun t ht hW => ⟨⟨(), rfl, trivial, by rw [ht]; exact hP, va_K.moved hW.alike hK, hD⟩, hS.F ht⟩) hS.2.2 dX4_refer_82
      · skip
        rw [if_pos c_10] at hf
        refine lv_aload_n hx hb dX4_refer_60 rfl (lv_at hl 2 rfl) ?_
        refine lv_iload hx hb dX4_refer_61 (lv_at hl 0 rfl) ?_
        obtain ⟨z_18, _u, hfc, hf⟩ := cal_some hf
        have hFc := de_free hD hS hA
        refine va_callv (va_runV (As := [.int r_7]) (rest := []) ⟨hx, hb, hml, hown, hts⟩ (de_X4_pushCopy l dC dI cy a sh n H_8.size F z_6 h0 r_7 hfc) (cwV 1 hts gX4_refer_X4_pushCopy rfl rfl rfl (by decide +kernel) ⟨Nat.le_of_ble_eq_true rfl, Nat.le_of_ble_eq_true rfl⟩) ⟨fun a U g mk q => by obtain ⟨q0, q1, qP, qK, qD, qN⟩ := q; exact ⟨q0, q1, qP, va_K.moved (u := U) (U := U.calling g mk a) (Vm.Alike.refl U.vm) qK, qD, qN.same rfl⟩, va_recv hK hP (ci := 4) (q0 := h0) rfl (Wd_ob kg_4 sg_4 (by decide)), fun U hU hW => ⟨rfl, by rw [hU], by rw [hU]; exact hP, va_K.moved hW.alike hK, hD.weaken (fun _ _ _ _ => trivial), hN.warm hW⟩⟩ rfl rfl hl.1 rfl (lv_room (Nat.le_of_ble_eq_true rfl)) dX4_refer_63 ⟨Nat.le_of_ble_eq_true rfl, Nat.le_of_ble_eq_true rfl⟩) hS (fun q _ h => hFc q h) hFc (fun u t H_19 locs ht hvm hw hB hz1 hk1 hS2 => ?_)
        obtain ⟨hP1, -, hD1⟩ := hB
        rw [ht] at hP1
        replace hD := hD1.weaken (fun _ _ _ h => hFc _ h)
        replace hP := hP1
        replace hS := hS2
        clear hP1 hD1 hS2 hFc hfc hz1 hk1 hvm ht
        refine lv_goto (tgt := 82) hx hb dX4_refer_66 (by decide) ?_
        obtain ⟨h8, h9⟩ := ret_some hf
        rw [h8]
        exact W.vret hx hb hr (fun t ht hW => ⟨⟨(), rfl, trivial, by rw [ht]; exact hP, va_K.moved hW.alike hK, hD⟩, hS.F ht⟩) hS.2.2 dX4_refer_82
    · skip
      rw [if_neg c_9] at hf
      refine lv_aload_n hx hb dX4_refer_25 rfl (lv_at hl 2 rfl) ?_
      obtain ⟨k_20, ek_20, hf⟩ := lnk_some hf
      refine va_get (D := (dC, dI)) (ci := 4) (v := .ref (a k_20)) (C := RX4) (T := TX4) (N := 18) hx hb hts iwd_X4_refer_X4 hown hK hP h0 (Wd_ob kg_4 sg_4 (by decide)) rfl 1 (by decide) (hts _ md_X4_refer_1) (fun _ h9 => h9) (fl_q rfl ek_20) dX4_refer_26 ?_
      obtain ⟨g_21, hf⟩ := grd_some hf
      obtain ⟨kg_21, sg_21⟩ := okO_at g_21
      obtain ⟨k_22, ek_22, hf⟩ := lnk_some hf
      refine va_get (D := (dC, dI)) (ci := 1) (v := .ref (a k_22)) (C := RX1) (T := TX1) (N := 7) hx hb hts iwd_X4_refer_X1 hown hK hP k_20 (Wd_ob kg_21 sg_21 (by decide)) rfl 1 (by decide) (hts _ md_X4_refer_2) (fun _ h9 => h9) (fl_q rfl ek_22) dX4_refer_29 ?_
      refine lv_iload_n hx hb dX4_refer_32 rfl (lv_at hl 1 rfl) ?_
      refine lv_aload_n hx hb dX4_refer_33 rfl (lv_at hl 2 rfl) ?_
      obtain ⟨k_23, ek_23, hf⟩ := lnk_some hf
      refine va_get (D := (dC, dI)) (ci := 4) (v := .ref (a k_23)) (C := RX4) (T := TX4) (N := 18) hx hb hts iwd_X4_refer_X4 hown hK hP h0 (Wd_ob kg_4 sg_4 (by decide)) rfl 1 (by decide) (hts _ md_X4_refer_1) (fun _ h9 => h9) (fl_q rfl ek_23) dX4_refer_34 ?_
      refine lv_iload hx hb dX4_refer_37 (lv_at hl 0 rfl) ?_
      refine lv_iload_n hx hb dX4_refer_39 rfl (lv_at hl 4 rfl) ?_
      refine lv_i2l (v := (x1 : Int32).toInt64) hx hb dX4_refer_40 rfl ?_
      obtain ⟨g_26, hf⟩ := grd_some hf
      obtain ⟨kg_26, sg_26⟩ := okO_at g_26
      obtain ⟨z_24, r_25, hfc, hf⟩ := cal_some hf
      have hFc := de_free hD hS hA
      refine va_calli (va_runV (As := [.int r_7, .long ((x1 : Int32).toInt64)]) (rest := [.int r_3, .ref (a k_22)]) ⟨hx, hb, hml, hown, hts⟩ (de_X1_child l dC dI cy a sh n H_8.size F z_6 k_23 r_7 ((x1 : Int32).toInt64) hfc) (cwV 2 hts gX4_refer_X1_child rfl rfl rfl (by decide +kernel) ⟨Nat.le_of_ble_eq_true rfl, Nat.le_of_ble_eq_true rfl⟩) ⟨fun a U g mk q => by obtain ⟨q0, q1, qP, qK, qD, qN⟩ := q; exact ⟨q0, q1, qP, va_K.moved (u := U) (U := U.calling g mk a) (Vm.Alike.refl U.vm) qK, qD, qN.same rfl⟩, va_recv hK hP (ci := 1) (q0 := k_23) rfl (Wd_ob kg_26 sg_26 (by decide)), fun U hU hW => ⟨rfl, by rw [hU], by rw [hU]; exact hP, va_K.moved hW.alike hK, hD.weaken (fun _ _ _ _ => trivial), hN.warm hW⟩⟩ rfl rfl hl.1 rfl (lv_room (Nat.le_of_ble_eq_true rfl)) dX4_refer_41 ⟨Nat.le_of_ble_eq_true rfl, Nat.le_of_ble_eq_true rfl⟩) hS (fun q _ h => hFc q h) hFc (fun rr u t H_27 locs ht hvm hw hB hz1 hk1 hS2 => ?_)
      rw [hw]
      clear hw
      obtain ⟨hP1, -, hD1⟩ := hB
      rw [ht] at hP1
      replace hD := hD1.weaken (fun _ _ _ h => hFc _ h)
      replace hP := hP1
      replace hS := hS2
      clear hP1 hD1 hS2 hFc hfc hz1 hk1 hvm ht
      refine lv_i2l (v := (r_25 : Int32).toInt64) hx hb dX4_refer_44 rfl ?_
      obtain ⟨g_28, hf⟩ := grd_some hf
      obtain ⟨kg_28, sg_28, ig_28⟩ := okA_at g_28
      refine va_last hx hb hK hP hD hS k_22 2 (Wd_al kg_28 sg_28) rfl ig_28 dX4_refer_45 (fun H_29 locs hP2 hD2 hS2 => ?_)
      rw [Wd_tl sg_28] at hP2 hD2
      obtain ⟨z_30, ez_30⟩ : ∃ w, w = sl z_24 k_22 r_3.toNatClampNeg ((r_25 : Int32).toInt64) := ⟨_, rfl⟩
      rw [← ez_30] at hP2 hD2
      replace hf := lt_at ez_30 hf
      clear ez_30
      replace hP := hP2
      replace hD := hD2
      replace hS := hS2
      clear hP2 hD2 hS2
      refine lv_aload_n hx hb dX4_refer_46 rfl (lv_at hl 2 rfl) ?_
      refine lv_iload_n hx hb dX4_refer_47 rfl (lv_at hl 1 rfl) ?_
      obtain ⟨z_31, _u, hfc, hf⟩ := cal_some hf
      have hFc := de_free hD hS hA
      refine va_callv (va_runV (As := [.int r_3]) (rest := []) ⟨hx, hb, hml, hown, hts⟩ (de_X4_push l dC dI cy a sh n H_29.size F z_30 h0 r_3 hfc) (cwV 1 hts gX4_refer_X4_push rfl rfl rfl (by decide +kernel) ⟨Nat.le_of_ble_eq_true rfl, Nat.le_of_ble_eq_true rfl⟩) ⟨fun a U g mk q => by obtain ⟨q0, q1, qP, qK, qD, qN⟩ := q; exact ⟨q0, q1, qP, va_K.moved (u := U) (U := U.calling g mk a) (Vm.Alike.refl U.vm) qK, qD, qN.same rfl⟩, va_recv hK hP (ci := 4) (q0 := h0) rfl (Wd_ob kg_4 sg_4 (by decide)), fun U hU hW => ⟨rfl, by rw [hU], by rw [hU]; exact hP, va_K.moved hW.alike hK, hD.weaken (fun _ _ _ _ => trivial), hN.warm hW⟩⟩ rfl rfl hl.1 rfl (lv_room (Nat.le_of_ble_eq_true rfl)) dX4_refer_48 ⟨Nat.le_of_ble_eq_true rfl, Nat.le_of_ble_eq_true rfl⟩) hS (fun q _ h => hFc q h) hFc (fun u t H_32 locs ht hvm hw hB hz1 hk1 hS2 => ?_)
      obtain ⟨hP1, -, hD1⟩ := hB
      rw [ht] at hP1
      replace hD := hD1.weaken (fun _ _ _ h => hFc _ h)
      replace hP := hP1
      replace hS := hS2
      clear hP1 hD1 hS2 hFc hfc hz1 hk1 hvm ht
      refine lv_goto (tgt := 82) hx hb dX4_refer_51 (by decide) ?_
      obtain ⟨h8, h9⟩ := ret_some hf
      rw [h8]
      exact W.vret hx hb hr (fun t ht hW => ⟨⟨(), rfl, trivial, by rw [ht]; exact hP, va_K.moved hW.alike hK, hD⟩, hS.F ht⟩) hS.2.2 dX4_refer_82
  · skip
    rw [if_pos c_1] at hf
    obtain ⟨h8, h9⟩ := ret_some hf
    rw [h8]
    exact W.vret hx hb hr (fun t ht hW => ⟨⟨(), rfl, trivial, by rw [ht]; exact hP, va_K.moved hW.alike hK, hD⟩, hS.F ht⟩) hS.2.2 dX4_refer_6

theorem md_X16_isRound_1 : (.fieldLink RX16 92 "ResourceLedgerModel$Unit" "structures" "I" : Cond) ∈ wsX16_isRound := List.mem_of_getElem? (i := 1) rfl
theorem iwd_X16_isRound_X16 : ∀ w ∈ wsX160, w ∈ wsX16_isRound := fun _ h => List.mem_cons_of_mem _ (List.mem_append_right _ h)
theorem md_X16_isRound_2 : (.fieldLink RX16 32 "ResourceLedgerModel$Unit" "reached" "[Z" : Cond) ∈ wsX16_isRound := List.mem_of_getElem? (i := 2) rfl
set_option maxHeartbeats 4000000 in
set_option maxRecDepth 100000 in
theorem de_X16_isRound (l : Launch) (dC : Nat → ClassId) (dI : Nat → Nat → Nat) (cy : Nat → ClassId) (a : Nat → Nat) (sh : Nat → Nat × Nat) (n sz : Nat) (F : Nat) (z : St) (h0 : Nat) (x0 : Int32) {z8 : St} {r8 : Int32} (hf : fn_X16_isRound F sh n z h0 x0 = some (z8, r8)) : Met l yX16_isRound wsX16_isRound ({ frames := 4, cells := 0, slots := 0, locals := 88 }) (va_Pc [.ref (a h0), .int x0] (fun U => U.heap.size = sz ∧ va_P (dC, dI) vwCl (Wd cy a sh n z) U.heap ∧ va_K (dC, dI) vwCl (TYS cy) U ∧ va_D (fun _ => True) (Wd cy a sh n z) ∧ NK U)) (va_Qi (fun (r9 : Int32) (u : Unit) => r9 = r8) (fun u t => va_P (dC, dI) vwCl (Wd cy a sh n z8) t.heap ∧ va_K (dC, dI) vwCl (TYS cy) t ∧ va_D (va_A (Wd cy a sh n z) sz) (Wd cy a sh n z8)) (va_A (Wd cy a sh n z) sz)) 0 0 (va_A (Wd cy a sh n z) sz) := by
  refine Met.ofW (cc := cX16_isRound) (maxL := 4) (ret := (some .boolean)) (by decide) rfl ?_
  intro p e s m args below meth c s₁ B hml hv
  obtain ⟨rfl, hsz, hP, hK, hD0, hN⟩ := hv
  have hx := B.exec
  have hb := B.bytes
  have hr := B.returns
  have hts := atoms_spec (ws := wsX16_isRound) B.pre
  have hown : s.vm.findClass RX16 = some m.cls := findClass_of_methodNamed B.named
  have hlocks := B.notSynchronized
  subst hsz
  have hD := hD0.self (sz := s.heap.size)
  clear hD0
  generalize hAe : va_A (Wd cy a sh n z) s.heap.size = A at hD ⊢
  have hA : ∀ q : Nat, s.heap.size ≤ q → A q := fun q h => by rw [← hAe]; exact Or.inr h
  clear hAe
  have hS : va_S A s.heap s.heap [] := va_S.rf
  have hl := lv_entry ([.ref (a h0), .int x0]) (n := 4) (Nat.le_of_ble_eq_true rfl)
  rw [lg_entry_eq]
  generalize (lg_sl ([.ref (a h0), .int x0]) ++ List.replicate (4 - (lg_sl ([.ref (a h0), .int x0])).length) Slot.unset).toArray = ls at hl ⊢
  replace hl : lv_has ls 4 [(0, .ref (a h0)), (1, .int x0)] := hl
  unfold fn_X16_isRound at hf
  refine de_start hS hP (fun H locs hS hP => ?_)
  refine lv_iconst (v := 0) hx hb dX16_isRound_0 (by decide) ?_
  refine lv_istore_n (lv' := [(2, .int 0), (0, .ref (a h0)), (1, .int x0)]) hx hb dX16_isRound_1 rfl hl (by decide) rfl (fun ls hl2 => ?_)
  replace hl := hl2
  clear hl2
  have hl0 : lv_has ls 4 [(2, .int 0), (0, .ref (a h0)), (1, .int x0)] := lv_sub hl [0, 1, 2] rfl
  refine de_loop (h := 2) (fun (x : St × Int32) ls H locs => lv_has ls 4 [(2, .int x.2), (0, .ref (a h0)), (1, .int x0)] ∧ va_P (dC, dI) vwCl (Wd cy a sh n x.1) H ∧ va_D A (Wd cy a sh n x.1) ∧ va_S A s.heap H locs) (fun f x => fn_X16_isRound_L2 F sh n h0 x0 f x.1 x.2) (z8, r8) ?_ (fun _ => rfl) F (z, 0) ls H locs ⟨hl0, hP, hD, hS⟩ hf
  intro f_3 x ls H locs ih2 hI hf
  obtain ⟨z_2, p_1⟩ := x
  obtain ⟨hl2, hP2, hD2, hS2⟩ := hI
  replace hl : lv_has ls 4 [(2, .int p_1), (0, .ref (a h0)), (1, .int x0)] := hl2
  replace hP := hP2
  replace hD := hD2
  replace hS := hS2
  clear hl2 hP2 hD2 hS2 hl0
  replace hf := fn_X16_isRound_L2_s hf
  refine lv_iload_n hx hb dX16_isRound_2 rfl (lv_at hl 0 rfl) ?_
  refine lv_aload_n hx hb dX16_isRound_3 rfl (lv_at hl 1 rfl) ?_
  obtain ⟨g_4, hf⟩ := grd_some hf
  obtain ⟨kg_4, sg_4⟩ := okO_at g_4
  refine va_get (D := (dC, dI)) (ci := 16) (v := .int (z_2.1 h0 5)) (C := RX16) (T := TX16) (N := 18) hx hb hts iwd_X16_isRound_X16 hown hK hP h0 (Wd_ob kg_4 sg_4 (by decide)) rfl 5 (by decide) (hts _ md_X16_isRound_1) (fun _ h9 => h9) (fl_at (t := 0) rfl) dX16_isRound_4 ?_
  refine lv_icmp_ge (tgt := 23) hx hb dX16_isRound_7 (by decide) (fun c_5 => ?_) (fun c_5 => ?_)
  · skip
    rw [if_pos c_5] at hf
    refine lv_aload_n hx hb dX16_isRound_23 rfl (lv_at hl 1 rfl) ?_
    refine lv_iload_n hx hb dX16_isRound_24 rfl (lv_at hl 2 rfl) ?_
    obtain ⟨z_6, _u, hfc, hf⟩ := cal_some hf
    have hFc := de_free hD hS hA
    refine va_callv (va_runV (As := [.int x0]) (rest := []) ⟨hx, hb, hml, hown, hts⟩ (de_X16_reach l dC dI cy a sh n H.size F z_2 h0 x0 hfc) (cwV 1 hts gX16_isRound_X16_reach rfl rfl rfl (by decide +kernel) ⟨Nat.le_of_ble_eq_true rfl, Nat.le_of_ble_eq_true rfl⟩) ⟨fun a U g mk q => by obtain ⟨q0, q1, qP, qK, qD, qN⟩ := q; exact ⟨q0, q1, qP, va_K.moved (u := U) (U := U.calling g mk a) (Vm.Alike.refl U.vm) qK, qD, qN.same rfl⟩, va_recv hK hP (ci := 16) (q0 := h0) rfl (Wd_ob kg_4 sg_4 (by decide)), fun U hU hW => ⟨rfl, by rw [hU], by rw [hU]; exact hP, va_K.moved hW.alike hK, hD.weaken (fun _ _ _ _ => trivial), hN.warm hW⟩⟩ rfl rfl hl.1 rfl (lv_room (Nat.le_of_ble_eq_true rfl)) dX16_isRound_25 ⟨Nat.le_of_ble_eq_true rfl, Nat.le_of_ble_eq_true rfl⟩) hS (fun q _ h => hFc q h) hFc (fun u t H_7 locs ht hvm hw hB hz1 hk1 hS2 => ?_)
    obtain ⟨hP1, -, hD1⟩ := hB
    rw [ht] at hP1
    replace hD := hD1.weaken (fun _ _ _ h => hFc _ h)
    replace hP := hP1
    replace hS := hS2
    clear hP1 hD1 hS2 hFc hfc hz1 hk1 hvm ht
    refine lv_iconst (v := 0) hx hb dX16_isRound_28 (by decide) ?_
    refine lv_istore_n (lv' := [(2, .int 0), (0, .ref (a h0)), (1, .int x0)]) hx hb dX16_isRound_29 rfl hl (by decide) rfl (fun ls hl2 => ?_)
    replace hl := hl2
    clear hl2
    have hl0 : lv_has ls 4 [(2, .int 0), (0, .ref (a h0)), (1, .int x0)] := lv_sub hl [0, 1, 2] rfl
    refine de_loop (h := 30) (fun (x : St × Int32) ls H locs => lv_has ls 4 [(2, .int x.2), (0, .ref (a h0)), (1, .int x0)] ∧ va_P (dC, dI) vwCl (Wd cy a sh n x.1) H ∧ va_D A (Wd cy a sh n x.1) ∧ va_S A s.heap H locs) (fun f x => fn_X16_isRound_L30 F sh n h0 x0 f x.1 x.2) (z8, r8) ?_ (fun _ => rfl) F (z_6, 0) ls H_7 locs ⟨hl0, hP, hD, hS⟩ hf
    intro f_10 x ls H locs ih30 hI hf
    obtain ⟨z_9, p_8⟩ := x
    obtain ⟨hl2, hP2, hD2, hS2⟩ := hI
    replace hl : lv_has ls 4 [(2, .int p_8), (0, .ref (a h0)), (1, .int x0)] := hl2
    replace hP := hP2
    replace hD := hD2
    replace hS := hS2
    clear hl2 hP2 hD2 hS2 hl0
    replace hf := fn_X16_isRound_L30_s hf
    refine lv_iload_n hx hb dX16_isRound_30 rfl (lv_at hl 0 rfl) ?_
    refine lv_aload_n hx hb dX16_isRound_31 rfl (lv_at hl 1 rfl) ?_
    refine va_get (D := (dC, dI)) (ci := 16) (v := .int (z_9.1 h0 5)) (C := RX16) (T := TX16) (N := 18) hx hb hts iwd_X16_isRound_X16 hown hK hP h0 (Wd_ob kg_4 sg_4 (by decide)) rfl 5 (by decide) (hts _ md_X16_isRound_1) (fun _ h9 => h9) (fl_at (t := 0) rfl) dX16_isRound_32 ?_
    refine lv_icmp_ge (tgt := 74) hx hb dX16_isRound_35 (by decide) (fun c_11 => ?_) (fun c_11 => ?_)
    · skip
      rw [if_pos c_11] at hf
      refine lv_aload_n hx hb dX16_isRound_74 rfl (lv_at hl 1 rfl) ?_
      obtain ⟨k_12, ek_12, hf⟩ := lnk_some hf
      refine va_get (D := (dC, dI)) (ci := 16) (v := .ref (a k_12)) (C := RX16) (T := TX16) (N := 18) hx hb hts iwd_X16_isRound_X16 hown hK hP h0 (Wd_ob kg_4 sg_4 (by decide)) rfl 17 (by decide) (hts _ md_X16_isRound_2) (fun _ h9 => h9) (fl_q rfl ek_12) dX16_isRound_75 ?_
      refine lv_iload_n hx hb dX16_isRound_78 rfl (lv_at hl 2 rfl) ?_
      obtain ⟨g_13, hf⟩ := grd_some hf
      obtain ⟨kg_13, sg_13, ig_13⟩ := okA_at g_13
      refine va_zald hx hb hK hP k_12 3 (Wd_az kg_13 sg_13) rfl ig_13 dX16_isRound_79 ?_
      obtain ⟨g_14, hf⟩ := grd_some hf
      obtain ⟨h8, h9⟩ := ret_some hf
      rw [h8, h9]
      exact W.zret (v := (z_9.1 k_12 x0.toNatClampNeg)) hx hb hr (nar_z g_14) (fun t ht hW => ⟨⟨(z_9.1 k_12 x0.toNatClampNeg), (), rfl, rfl, by rw [ht]; exact hP, va_K.moved hW.alike hK, hD⟩, hS.F ht⟩) hS.2.2 dX16_isRound_80
    · skip
      rw [if_neg c_11] at hf
      refine lv_iconst (v := 0) hx hb dX16_isRound_38 (by decide) ?_
      refine lv_istore_n (lv' := [(3, .int 0), (2, .int p_8), (0, .ref (a h0)), (1, .int x0)]) hx hb dX16_isRound_39 rfl hl (by decide) rfl (fun ls hl2 => ?_)
      replace hl := hl2
      clear hl2
      have hl0 : lv_has ls 4 [(3, .int 0), (2, .int p_8), (0, .ref (a h0)), (1, .int x0)] := lv_sub hl [0, 1, 2, 3] rfl
      refine de_loop (h := 40) (fun (x : St × Int32) ls H locs => lv_has ls 4 [(3, .int x.2), (2, .int p_8), (0, .ref (a h0)), (1, .int x0)] ∧ va_P (dC, dI) vwCl (Wd cy a sh n x.1) H ∧ va_D A (Wd cy a sh n x.1) ∧ va_S A s.heap H locs) (fun f x => fn_X16_isRound_L40 F sh n h0 p_8 (fun z9 q2 => fn_X16_isRound_L30 F sh n h0 x0 f_10 z9 q2) f x.1 x.2) (z8, r8) ?_ (fun _ => rfl) F (z_9, 0) ls H locs ⟨hl0, hP, hD, hS⟩ hf
      intro f_17 x ls H locs ih40 hI hf
      obtain ⟨z_16, p_15⟩ := x
      obtain ⟨hl2, hP2, hD2, hS2⟩ := hI
      replace hl : lv_has ls 4 [(3, .int p_15), (2, .int p_8), (0, .ref (a h0)), (1, .int x0)] := hl2
      replace hP := hP2
      replace hD := hD2
      replace hS := hS2
      clear hl2 hP2 hD2 hS2 hl0
      replace hf := fn_X16_isRound_L40_s hf
      refine lv_iload_n hx hb dX16_isRound_40 rfl (lv_at hl 0 rfl) ?_
      refine lv_aload_n hx hb dX16_isRound_41 rfl (lv_at hl 2 rfl) ?_
      refine va_get (D := (dC, dI)) (ci := 16) (v := .int (z_16.1 h0 5)) (C := RX16) (T := TX16) (N := 18) hx hb hts iwd_X16_isRound_X16 hown hK hP h0 (Wd_ob kg_4 sg_4 (by decide)) rfl 5 (by decide) (hts _ md_X16_isRound_1) (fun _ h9 => h9) (fl_at (t := 0) rfl) dX16_isRound_42 ?_
      refine lv_icmp_ge (tgt := 68) hx hb dX16_isRound_45 (by decide) (fun c_18 => ?_) (fun c_18 => ?_)
      · skip
        rw [if_pos c_18] at hf
        refine lv_iinc (v := (p_8 + 1)) (lv' := [(2, .int (p_8 + 1)), (3, .int p_15), (0, .ref (a h0)), (1, .int x0)]) hx hb dX16_isRound_68 hl (k := 1) rfl rfl (by decide) rfl (fun ls hl2 => ?_)
        replace hl := hl2
        clear hl2
        refine lv_goto (tgt := 30) hx hb dX16_isRound_71 (by decide) ?_
        exact ih30 (z_16, (p_8 + 1)) ls H locs ⟨lv_sub hl [0, 2, 3] rfl, hP, hD, hS⟩ hf
      · skip
        rw [if_neg c_18] at hf
        refine lv_aload_n hx hb dX16_isRound_48 rfl (lv_at hl 2 rfl) ?_
        obtain ⟨k_19, ek_19, hf⟩ := lnk_some hf
        refine va_get (D := (dC, dI)) (ci := 16) (v := .ref (a k_19)) (C := RX16) (T := TX16) (N := 18) hx hb hts iwd_X16_isRound_X16 hown hK hP h0 (Wd_ob kg_4 sg_4 (by decide)) rfl 17 (by decide) (hts _ md_X16_isRound_2) (fun _ h9 => h9) (fl_q rfl ek_19) dX16_isRound_49 ?_
        refine lv_iload_n hx hb dX16_isRound_52 rfl (lv_at hl 0 rfl) ?_
        obtain ⟨g_20, hf⟩ := grd_some hf
        obtain ⟨kg_20, sg_20, ig_20⟩ := okA_at g_20
        refine va_zald hx hb hK hP k_19 3 (Wd_az kg_20 sg_20) rfl ig_20 dX16_isRound_53 ?_
        refine de_cut (h := 62) (fun (x : St) => []) (fun x ls H locs => lv_has ls 4 [(3, .int p_15), (2, .int p_8), (0, .ref (a h0)), (1, .int x0)] ∧ va_P (dC, dI) vwCl (Wd cy a sh n x) H ∧ va_D A (Wd cy a sh n x) ∧ va_S A s.heap H locs) (fun x => fn_X16_isRound_B62 F sh n p_15 (fun z9 q3 => fn_X16_isRound_L40 F sh n h0 p_8 (fun z9 q2 => fn_X16_isRound_L30 F sh n h0 x0 f_10 z9 q2) f_17 z9 q3) x) (z8, r8) ?_ (fun B62 => ?_)
        · intro x ls H locs hI hf
          obtain ⟨z_21, ez⟩ : ∃ w, w = x := ⟨_, rfl⟩
          subst ez
          obtain ⟨hl2, hP2, hD2, hS2⟩ := hI
          replace hl : lv_has ls 4 [(3, .int p_15), (2, .int p_8), (0, .ref (a h0)), (1, .int x0)] := hl2
          replace hP := hP2
          replace hD := hD2
          replace hS := hS2
          clear hl2 hP2 hD2 hS2
          replace hf := fn_X16_isRound_B62_s hf
          refine W.eq (g2 := F0 m 62 ls []) rfl ?_
          refine lv_iinc (v := (p_15 + 1)) (lv' := [(3, .int (p_15 + 1)), (2, .int p_8), (0, .ref (a h0)), (1, .int x0)]) hx hb dX16_isRound_62 hl (k := 0) rfl rfl (by decide) rfl (fun ls hl2 => ?_)
          replace hl := hl2
          clear hl2
          refine lv_goto (tgt := 40) hx hb dX16_isRound_65 (by decide) ?_
          exact ih40 (z_21, (p_15 + 1)) ls H locs ⟨lv_sub hl [0, 1, 2, 3] rfl, hP, hD, hS⟩ hf
        refine lv_if_eq (tgt := 62) hx hb dX16_isRound_54 (by decide) (fun c_22 => ?_) (fun c_22 => ?_)
        · skip
          rw [if_pos c_22] at hf
          exact B62 (z_16) ls H locs ⟨lv_sub hl [0, 1, 2, 3] rfl, hP, hD, hS⟩ hf
        · skip
          rw [if_neg c_22] at hf
          refine lv_aload_n hx hb dX16_isRound_57 rfl (lv_at hl 2 rfl) ?_
          refine lv_iload_n hx hb dX16_isRound_58 rfl (lv_at hl 0 rfl) ?_
          obtain ⟨z_23, _u, hfc, hf⟩ := cal_some hf
          have hFc := de_free hD hS hA
          refine va_callv (va_runV (As := [.int p_15]) (rest := []) ⟨hx, hb, hml, hown, hts⟩ (de_X16_reach l dC dI cy a sh n H.size F z_16 h0 p_15 hfc) (cwV 1 hts gX16_isRound_X16_reach rfl rfl rfl (by decide +kernel) ⟨Nat.le_of_ble_eq_true rfl, Nat.le_of_ble_eq_true rfl⟩) ⟨fun a U g mk q => by obtain ⟨q0, q1, qP, qK, qD, qN⟩ := q; exact ⟨q0, q1, qP, va_K.moved (u := U) (U := U.calling g mk a) (Vm.Alike.refl U.vm) qK, qD, qN.same rfl⟩, va_recv hK hP (ci := 16) (q0 := h0) rfl (Wd_ob kg_4 sg_4 (by decide)), fun U hU hW => ⟨rfl, by rw [hU], by rw [hU]; exact hP, va_K.moved hW.alike hK, hD.weaken (fun _ _ _ _ => trivial), hN.warm hW⟩⟩ rfl rfl hl.1 rfl (lv_room (Nat.le_of_ble_eq_true rfl)) dX16_isRound_59 ⟨Nat.le_of_ble_eq_true rfl, Nat.le_of_ble_eq_true rfl⟩) hS (fun q _ h => hFc q h) hFc (fun u t H_24 locs ht hvm hw hB hz1 hk1 hS2 => ?_)
          obtain ⟨hP1, -, hD1⟩ := hB
          rw [ht] at hP1
          replace hD := hD1.weaken (fun _ _ _ h => hFc _ h)
          replace hP := hP1
          replace hS := hS2
          clear hP1 hD1 hS2 hFc hfc hz1 hk1 hvm ht
          exact B62 (z_23) ls H_24 locs ⟨lv_sub hl [0, 1, 2, 3] rfl, hP, hD, hS⟩ hf
  · skip
    rw [if_neg c_5] at hf
    refine lv_aload_n hx hb dX16_isRound_10 rfl (lv_at hl 1 rfl) ?_
    obtain ⟨k_25, ek_25, hf⟩ := lnk_some hf
    refine va_get (D := (dC, dI)) (ci := 16) (v := .ref (a k_25)) (C := RX16) (T := TX16) (N := 18) hx hb hts iwd_X16_isRound_X16 hown hK hP h0 (Wd_ob kg_4 sg_4 (by decide)) rfl 17 (by decide) (hts _ md_X16_isRound_2) (fun _ h9 => h9) (fl_q rfl ek_25) dX16_isRound_11 ?_
    refine lv_iload_n hx hb dX16_isRound_14 rfl (lv_at hl 0 rfl) ?_
    refine lv_iconst (v := 0) hx hb dX16_isRound_15 (by decide) ?_
    obtain ⟨g_26, hf⟩ := grd_some hf
    obtain ⟨kg_26, sg_26, ig_26⟩ := okA_at g_26
    refine va_zast hx hb hK hP hD hS k_25 3 (Wd_az kg_26 sg_26) rfl ig_26 dX16_isRound_16 (fun H_27 locs hP2 hD2 hS2 => ?_)
    rw [Wd_tz sg_26] at hP2 hD2
    obtain ⟨z_28, ez_28⟩ : ∃ w, w = si z_2 k_25 p_1.toNatClampNeg (vp_nar .boolean 0) := ⟨_, rfl⟩
    rw [← ez_28] at hP2 hD2
    replace hf := lt_at ez_28 hf
    clear ez_28
    replace hP := hP2
    replace hD := hD2
    replace hS := hS2
    clear hP2 hD2 hS2
    refine lv_iinc (v := (p_1 + 1)) (lv' := [(2, .int (p_1 + 1)), (0, .ref (a h0)), (1, .int x0)]) hx hb dX16_isRound_17 hl (k := 0) rfl rfl (by decide) rfl (fun ls hl2 => ?_)
    replace hl := hl2
    clear hl2
    refine lv_goto (tgt := 2) hx hb dX16_isRound_20 (by decide) ?_
    exact ih2 (z_28, (p_1 + 1)) ls H_27 locs ⟨lv_sub hl [0, 1, 2] rfl, hP, hD, hS⟩ hf

theorem md_X13_pack_1 : (.fieldLink RX13 72 "ResourceLedgerModel$Looker" "unit" "LResourceLedgerModel$Unit;" : Cond) ∈ wsX13_pack := List.mem_of_getElem? (i := 1) rfl
theorem iwd_X13_pack_X13 : ∀ w ∈ wsX130, w ∈ wsX13_pack := fun _ h => List.mem_cons_of_mem _ (List.mem_append_left _ (List.mem_append_right _ h))
theorem md_X13_pack_28 : (.initialized RX16 : Cond) ∈ wsX13_pack := List.mem_of_getElem? (i := 28) rfl
theorem md_X13_pack_27 : (.instanceMethod yX16_fieldsOf : Cond) ∈ wsX13_pack := List.mem_of_getElem? (i := 27) rfl
theorem md_X13_pack_29 : (.selects RX16 yX16_fieldsOf yX16_fieldsOf : Cond) ∈ wsX13_pack := List.mem_of_getElem? (i := 29) rfl
set_option maxHeartbeats 4000000 in
set_option maxRecDepth 100000 in
theorem de_X13_pack (l : Launch) (dC : Nat → ClassId) (dI : Nat → Nat → Nat) (cy : Nat → ClassId) (a : Nat → Nat) (sh : Nat → Nat × Nat) (n sz : Nat) (F : Nat) (z : St) (h0 : Nat) (x0 : Int32) (x1 : Int32) {z8 : St} {r8 : Unit} (hf : fn_X13_pack F sh n z h0 x0 x1 = some (z8, r8)) : Met l yX13_pack wsX13_pack ({ frames := 4, cells := 0, slots := 0, locals := 91 }) (va_Pc [.ref (a h0), .int x0, .int x1] (fun U => U.heap.size = sz ∧ va_P (dC, dI) vwCl (Wd cy a sh n z) U.heap ∧ va_K (dC, dI) vwCl (TYS cy) U ∧ va_D (fun _ => True) (Wd cy a sh n z) ∧ NK U)) (va_Qv (fun u : Unit => True) (fun u t => va_P (dC, dI) vwCl (Wd cy a sh n z8) t.heap ∧ va_K (dC, dI) vwCl (TYS cy) t ∧ va_D (va_A (Wd cy a sh n z) sz) (Wd cy a sh n z8)) (va_A (Wd cy a sh n z) sz)) 0 0 (va_A (Wd cy a sh n z) sz) := by
  refine Met.ofW (cc := cX13_pack) (maxL := 4) (ret := none) (by decide) rfl ?_
  intro p e s m args below meth c s₁ B hml hv
  obtain ⟨rfl, hsz, hP, hK, hD0, hN⟩ := hv
  have hx := B.exec
  have hb := B.bytes
  have hr := B.returns
  have hts := atoms_spec (ws := wsX13_pack) B.pre
  have hown : s.vm.findClass RX13 = some m.cls := findClass_of_methodNamed B.named
  have hlocks := B.notSynchronized
  subst hsz
  have hD := hD0.self (sz := s.heap.size)
  clear hD0
  generalize hAe : va_A (Wd cy a sh n z) s.heap.size = A at hD ⊢
  have hA : ∀ q : Nat, s.heap.size ≤ q → A q := fun q h => by rw [← hAe]; exact Or.inr h
  clear hAe
  have hS : va_S A s.heap s.heap [] := va_S.rf
  have hl := lv_entry ([.ref (a h0), .int x0, .int x1]) (n := 4) (Nat.le_of_ble_eq_true rfl)
  rw [lg_entry_eq]
  generalize (lg_sl ([.ref (a h0), .int x0, .int x1]) ++ List.replicate (4 - (lg_sl ([.ref (a h0), .int x0, .int x1])).length) Slot.unset).toArray = ls at hl ⊢
  replace hl : lv_has ls 4 [(0, .ref (a h0)), (1, .int x0), (2, .int x1)] := hl
  unfold fn_X13_pack at hf
  refine de_start hS hP (fun H locs hS hP => ?_)
  refine lv_iload_n hx hb dX13_pack_0 rfl (lv_at hl 1 rfl) ?_
  refine de_cut (h := 12) (fun (x : St) => []) (fun x ls H locs => lv_has ls 4 [(0, .ref (a h0)), (1, .int x0), (2, .int x1)] ∧ va_P (dC, dI) vwCl (Wd cy a sh n x) H ∧ va_D A (Wd cy a sh n x) ∧ va_S A s.heap H locs) (fun x => fn_X13_pack_B12 F sh n h0 x1 x0 x) (z8, r8) ?_ (fun B12 => ?_)
  · intro x ls H locs hI hf
    obtain ⟨z_1, ez⟩ : ∃ w, w = x := ⟨_, rfl⟩
    subst ez
    obtain ⟨hl2, hP2, hD2, hS2⟩ := hI
    replace hl : lv_has ls 4 [(0, .ref (a h0)), (1, .int x0), (2, .int x1)] := hl2
    replace hP := hP2
    replace hD := hD2
    replace hS := hS2
    clear hl2 hP2 hD2 hS2
    replace hf := fn_X13_pack_B12_s hf
    refine W.eq (g2 := F0 m 12 ls []) rfl ?_
    refine lv_iconst (v := 0) hx hb dX13_pack_12 (by decide) ?_
    refine lv_istore_n (lv' := [(3, .int 0), (0, .ref (a h0)), (1, .int x0), (2, .int x1)]) hx hb dX13_pack_13 rfl hl (by decide) rfl (fun ls hl2 => ?_)
    replace hl := hl2
    clear hl2
    have hl0 : lv_has ls 4 [(3, .int 0), (0, .ref (a h0)), (1, .int x0), (2, .int x1)] := lv_sub hl [0, 1, 2, 3] rfl
    refine de_loop (h := 14) (fun (x : St × Int32) ls H locs => lv_has ls 4 [(3, .int x.2), (0, .ref (a h0)), (1, .int x0), (2, .int x1)] ∧ va_P (dC, dI) vwCl (Wd cy a sh n x.1) H ∧ va_D A (Wd cy a sh n x.1) ∧ va_S A s.heap H locs) (fun f x => fn_X13_pack_L14 F sh n h0 x1 x0 f x.1 x.2) (z8, r8) ?_ (fun _ => rfl) F (z_1, 0) ls H locs ⟨hl0, hP, hD, hS⟩ hf
    intro f_4 x ls H locs ih14 hI hf
    obtain ⟨z_3, p_2⟩ := x
    obtain ⟨hl2, hP2, hD2, hS2⟩ := hI
    replace hl : lv_has ls 4 [(3, .int p_2), (0, .ref (a h0)), (1, .int x0), (2, .int x1)] := hl2
    replace hP := hP2
    replace hD := hD2
    replace hS := hS2
    clear hl2 hP2 hD2 hS2 hl0
    replace hf := fn_X13_pack_L14_s hf
    refine lv_iload_n hx hb dX13_pack_14 rfl (lv_at hl 0 rfl) ?_
    refine lv_aload_n hx hb dX13_pack_15 rfl (lv_at hl 1 rfl) ?_
    obtain ⟨g_5, hf⟩ := grd_some hf
    obtain ⟨kg_5, sg_5⟩ := okO_at g_5
    obtain ⟨k_6, ek_6, hf⟩ := lnk_some hf
    refine va_get (D := (dC, dI)) (ci := 13) (v := .ref (a k_6)) (C := RX13) (T := TX13) (N := 22) hx hb hts iwd_X13_pack_X13 hown hK hP h0 (Wd_ob kg_5 sg_5 (by decide)) rfl 0 (by decide) (hts _ md_X13_pack_1) (fun _ h9 => h9) (fl_q rfl ek_6) dX13_pack_16 ?_
    refine lv_iload_n hx hb dX13_pack_19 rfl (lv_at hl 3 rfl) ?_
    obtain ⟨g_9, hf⟩ := grd_some hf
    obtain ⟨kg_9, sg_9⟩ := okO_at g_9
    obtain ⟨z_7, r_8, hfc, hf⟩ := cal_some hf
    have hFc := de_free hD hS hA
    refine va_calli (va_runVN (As := [.int x1]) (rest := [.int p_2]) ⟨hx, hb, hml, hown, hts⟩ (de_X16_fieldsOf l dC dI cy a sh n H.size F z_3 k_6 x1 hfc) ⟨va_cnB 1 hts ggX13_pack_X16_fieldsOf rfl rfl rfl (NK_m_X13_85 hN) (hts _ md_X13_pack_28) ⟨by decide, by decide, by decide +kernel⟩ ⟨Nat.le_of_ble_eq_true rfl, Nat.le_of_ble_eq_true rfl⟩, (hts _ md_X13_pack_27), (hts _ md_X13_pack_29)⟩ ⟨fun a U g mk q => by obtain ⟨q0, q1, qP, qK, qD, qN⟩ := q; exact ⟨q0, q1, qP, va_K.moved (u := U) (U := U.calling g mk a) (Vm.Alike.refl U.vm) qK, qD, qN.same rfl⟩, va_recv hK hP (ci := 16) (q0 := k_6) rfl (Wd_ob kg_9 sg_9 (by decide)), fun U hU hW => ⟨rfl, by rw [hU], by rw [hU]; exact hP, va_K.moved hW.alike hK, hD.weaken (fun _ _ _ _ => trivial), hN.warm hW⟩⟩ rfl rfl hl.1 rfl (lv_room (Nat.le_of_ble_eq_true rfl)) dX13_pack_20 ⟨Nat.le_of_ble_eq_true rfl, Nat.le_of_ble_eq_true rfl⟩) hS (fun q _ h => hFc q h) hFc (fun rr u t H_10 locs ht hvm hw hB hz1 hk1 hS2 => ?_)
    rw [hw]
    clear hw
    obtain ⟨hP1, -, hD1⟩ := hB
    rw [ht] at hP1
    replace hD := hD1.weaken (fun _ _ _ h => hFc _ h)
    replace hP := hP1
    replace hS := hS2
    clear hP1 hD1 hS2 hFc hfc hz1 hk1 hvm ht
    refine lv_icmp_ge (tgt := 76) hx hb dX13_pack_23 (by decide) (fun c_11 => ?_) (fun c_11 => ?_)
    · skip
      rw [if_pos c_11] at hf
      refine lv_iload_n hx hb dX13_pack_76 rfl (lv_at hl 2 rfl) ?_
      refine lv_if_eq (tgt := 88) hx hb dX13_pack_77 (by decide) (fun c_12 => ?_) (fun c_12 => ?_)
      · skip
        rw [if_pos c_12] at hf
        obtain ⟨h8, h9⟩ := ret_some hf
        rw [h8]
        exact W.vret hx hb hr (fun t ht hW => ⟨⟨(), rfl, trivial, by rw [ht]; exact hP, va_K.moved hW.alike hK, hD⟩, hS.F ht⟩) hS.2.2 dX13_pack_88
      · skip
        rw [if_neg c_12] at hf
        refine lv_aload_n hx hb dX13_pack_80 rfl (lv_at hl 1 rfl) ?_
        refine lv_iload_n hx hb dX13_pack_81 rfl (lv_at hl 3 rfl) ?_
        obtain ⟨z_13, r_14, hfc, hf⟩ := cal_some hf
        have hFc := de_free hD hS hA
        refine va_calll (va_runS (As := [.int x1]) (rest := [.ref (a h0)]) ⟨hx, hb, hml, hown, hts⟩ (de_X13_structureType l dC dI cy a sh n H_10.size F z_7 x1 hfc) (va_cwS 1 hts gX13_pack_X13_structureType rfl rfl rfl (by decide +kernel) ⟨Nat.le_of_ble_eq_true rfl, Nat.le_of_ble_eq_true rfl⟩) ⟨fun a U g mk q => by obtain ⟨q0, q1, qP, qK, qD, qN⟩ := q; exact ⟨q0, q1, qP, va_K.moved (u := U) (U := U.calling g mk a) (Vm.Alike.refl U.vm) qK, qD, qN.same rfl⟩, fun U hU hW => ⟨rfl, by rw [hU], by rw [hU]; exact hP, va_K.moved hW.alike hK, hD.weaken (fun _ _ _ _ => trivial), hN.warm hW⟩⟩ rfl rfl hl.1 rfl (lv_room (Nat.le_of_ble_eq_true rfl)) dX13_pack_82 ⟨Nat.le_of_ble_eq_true rfl, Nat.le_of_ble_eq_true rfl⟩) hS (fun q _ h => hFc q h) hFc (fun rr u t H_15 locs ht hvm hw hB hz1 hk1 hS2 => ?_)
        rw [hw]
        clear hw
        obtain ⟨hP1, -, hD1⟩ := hB
        rw [ht] at hP1
        replace hD := hD1.weaken (fun _ _ _ h => hFc _ h)
        replace hP := hP1
        replace hS := hS2
        clear hP1 hD1 hS2 hFc hfc hz1 hk1 hvm ht
        obtain ⟨z_16, _u, hfc, hf⟩ := cal_some hf
        have hFc := de_free hD hS hA
        refine va_callv (va_runV (As := [.long r_14]) (rest := []) ⟨hx, hb, hml, hown, hts⟩ (de_X13_give l dC dI cy a sh n H_15.size F z_13 h0 r_14 hfc) (cwV 1 hts gX13_pack_X13_give rfl rfl rfl (by decide +kernel) ⟨Nat.le_of_ble_eq_true rfl, Nat.le_of_ble_eq_true rfl⟩) ⟨fun a U g mk q => by obtain ⟨q0, q1, qP, qK, qD, qN⟩ := q; exact ⟨q0, q1, qP, va_K.moved (u := U) (U := U.calling g mk a) (Vm.Alike.refl U.vm) qK, qD, qN.same rfl⟩, va_recv hK hP (ci := 13) (q0 := h0) rfl (Wd_ob kg_5 sg_5 (by decide)), fun U hU hW => ⟨rfl, by rw [hU], by rw [hU]; exact hP, va_K.moved hW.alike hK, hD.weaken (fun _ _ _ _ => trivial), hN.warm hW⟩⟩ rfl rfl hl.1 rfl (lv_room (Nat.le_of_ble_eq_true rfl)) dX13_pack_85 ⟨Nat.le_of_ble_eq_true rfl, Nat.le_of_ble_eq_true rfl⟩) hS (fun q _ h => hFc q h) hFc (fun u t H_17 locs ht hvm hw hB hz1 hk1 hS2 => ?_)
        obtain ⟨hP1, -, hD1⟩ := hB
        rw [ht] at hP1
        replace hD := hD1.weaken (fun _ _ _ h => hFc _ h)
        replace hP := hP1
        replace hS := hS2
        clear hP1 hD1 hS2 hFc hfc hz1 hk1 hvm ht
        obtain ⟨h8, h9⟩ := ret_some hf
        rw [h8]
        exact W.vret hx hb hr (fun t ht hW => ⟨⟨(), rfl, trivial, by rw [ht]; exact hP, va_K.moved hW.alike hK, hD⟩, hS.F ht⟩) hS.2.2 dX13_pack_88
    · skip
      rw [if_neg c_11] at hf
      refine lv_iload_n hx hb dX13_pack_26 rfl (lv_at hl 2 rfl) ?_
      refine de_cut (h := 70) (fun (x : St) => []) (fun x ls H locs => lv_has ls 4 [(3, .int p_2), (0, .ref (a h0)), (1, .int x0), (2, .int x1)] ∧ va_P (dC, dI) vwCl (Wd cy a sh n x) H ∧ va_D A (Wd cy a sh n x) ∧ va_S A s.heap H locs) (fun x => fn_X13_pack_B70 F sh n p_2 (fun z9 q3 => fn_X13_pack_L14 F sh n h0 x1 x0 f_4 z9 q3) x) (z8, r8) ?_ (fun B70 => ?_)
      · intro x ls H locs hI hf
        obtain ⟨z_18, ez⟩ : ∃ w, w = x := ⟨_, rfl⟩
        subst ez
        obtain ⟨hl2, hP2, hD2, hS2⟩ := hI
        replace hl : lv_has ls 4 [(3, .int p_2), (0, .ref (a h0)), (1, .int x0), (2, .int x1)] := hl2
        replace hP := hP2
        replace hD := hD2
        replace hS := hS2
        clear hl2 hP2 hD2 hS2
        replace hf := fn_X13_pack_B70_s hf
        refine W.eq (g2 := F0 m 70 ls []) rfl ?_
        refine lv_iinc (v := (p_2 + 1)) (lv' := [(3, .int (p_2 + 1)), (0, .ref (a h0)), (1, .int x0), (2, .int x1)]) hx hb dX13_pack_70 hl (k := 0) rfl rfl (by decide) rfl (fun ls hl2 => ?_)
        replace hl := hl2
        clear hl2
        refine lv_goto (tgt := 14) hx hb dX13_pack_73 (by decide) ?_
        exact ih14 (z_18, (p_2 + 1)) ls H locs ⟨lv_sub hl [0, 1, 2, 3] rfl, hP, hD, hS⟩ hf
      refine lv_if_eq (tgt := 57) hx hb dX13_pack_27 (by decide) (fun c_19 => ?_) (fun c_19 => ?_)
      · skip
        rw [if_pos c_19] at hf
        refine lv_aload_n hx hb dX13_pack_57 rfl (lv_at hl 1 rfl) ?_
        refine lv_aload_n hx hb dX13_pack_58 rfl (lv_at hl 1 rfl) ?_
        obtain ⟨k_20, ek_20, hf⟩ := lnk_some hf
        refine va_get (D := (dC, dI)) (ci := 13) (v := .ref (a k_20)) (C := RX13) (T := TX13) (N := 22) hx hb hts iwd_X13_pack_X13 hown hK hP h0 (Wd_ob kg_5 sg_5 (by decide)) rfl 0 (by decide) (hts _ md_X13_pack_1) (fun _ h9 => h9) (fl_q rfl ek_20) dX13_pack_59 ?_
        refine lv_iload_n hx hb dX13_pack_62 rfl (lv_at hl 3 rfl) ?_
        refine lv_iload_n hx hb dX13_pack_63 rfl (lv_at hl 0 rfl) ?_
        obtain ⟨g_23, hf⟩ := grd_some hf
        obtain ⟨kg_23, sg_23⟩ := okO_at g_23
        obtain ⟨z_21, r_22, hfc, hf⟩ := cal_some hf
        have hFc := de_free hD hS hA
        refine va_calll (va_runV (As := [.int x1, .int p_2]) (rest := [.ref (a h0)]) ⟨hx, hb, hml, hown, hts⟩ (de_X16_field l dC dI cy a sh n H_10.size F z_7 k_20 x1 p_2 hfc) (cwV 2 hts gX13_pack_X16_field rfl rfl rfl (by decide +kernel) ⟨Nat.le_of_ble_eq_true rfl, Nat.le_of_ble_eq_true rfl⟩) ⟨fun a U g mk q => by obtain ⟨q0, q1, qP, qK, qD, qN⟩ := q; exact ⟨q0, q1, qP, va_K.moved (u := U) (U := U.calling g mk a) (Vm.Alike.refl U.vm) qK, qD, qN.same rfl⟩, va_recv hK hP (ci := 16) (q0 := k_20) rfl (Wd_ob kg_23 sg_23 (by decide)), fun U hU hW => ⟨rfl, by rw [hU], by rw [hU]; exact hP, va_K.moved hW.alike hK, hD.weaken (fun _ _ _ _ => trivial), hN.warm hW⟩⟩ rfl rfl hl.1 rfl (lv_room (Nat.le_of_ble_eq_true rfl)) dX13_pack_64 ⟨Nat.le_of_ble_eq_true rfl, Nat.le_of_ble_eq_true rfl⟩) hS (fun q _ h => hFc q h) hFc (fun rr u t H_24 locs ht hvm hw hB hz1 hk1 hS2 => ?_)
        rw [hw]
        clear hw
        obtain ⟨hP1, -, hD1⟩ := hB
        rw [ht] at hP1
        replace hD := hD1.weaken (fun _ _ _ h => hFc _ h)
        replace hP := hP1
        replace hS := hS2
        clear hP1 hD1 hS2 hFc hfc hz1 hk1 hvm ht
        obtain ⟨z_25, _u, hfc, hf⟩ := cal_some hf
        have hFc := de_free hD hS hA
        refine va_callv (va_runV (As := [.long r_22]) (rest := []) ⟨hx, hb, hml, hown, hts⟩ (de_X13_give l dC dI cy a sh n H_24.size F z_21 h0 r_22 hfc) (cwV 1 hts gX13_pack_X13_give rfl rfl rfl (by decide +kernel) ⟨Nat.le_of_ble_eq_true rfl, Nat.le_of_ble_eq_true rfl⟩) ⟨fun a U g mk q => by obtain ⟨q0, q1, qP, qK, qD, qN⟩ := q; exact ⟨q0, q1, qP, va_K.moved (u := U) (U := U.calling g mk a) (Vm.Alike.refl U.vm) qK, qD, qN.same rfl⟩, va_recv hK hP (ci := 13) (q0 := h0) rfl (Wd_ob kg_5 sg_5 (by decide)), fun U hU hW => ⟨rfl, by rw [hU], by rw [hU]; exact hP, va_K.moved hW.alike hK, hD.weaken (fun _ _ _ _ => trivial), hN.warm hW⟩⟩ rfl rfl hl.1 rfl (lv_room (Nat.le_of_ble_eq_true rfl)) dX13_pack_67 ⟨Nat.le_of_ble_eq_true rfl, Nat.le_of_ble_eq_true rfl⟩) hS (fun q _ h => hFc q h) hFc (fun u t H_26 locs ht hvm hw hB hz1 hk1 hS2 => ?_)
        obtain ⟨hP1, -, hD1⟩ := hB
        rw [ht] at hP1
        replace hD := hD1.weaken (fun _ _ _ h => hFc _ h)
        replace hP := hP1
        replace hS := hS2
        clear hP1 hD1 hS2 hFc hfc hz1 hk1 hvm ht
        exact B70 (z_25) ls H_26 locs ⟨lv_sub hl [0, 1, 2, 3] rfl, hP, hD, hS⟩ hf
      · skip
        rw [if_neg c_19] at hf
        refine lv_aload_n hx hb dX13_pack_30 rfl (lv_at hl 1 rfl) ?_
        refine lv_aload_n hx hb dX13_pack_31 rfl (lv_at hl 1 rfl) ?_
        obtain ⟨k_27, ek_27, hf⟩ := lnk_some hf
        refine va_get (D := (dC, dI)) (ci := 13) (v := .ref (a k_27)) (C := RX13) (T := TX13) (N := 22) hx hb hts iwd_X13_pack_X13 hown hK hP h0 (Wd_ob kg_5 sg_5 (by decide)) rfl 0 (by decide) (hts _ md_X13_pack_1) (fun _ h9 => h9) (fl_q rfl ek_27) dX13_pack_32 ?_
        refine lv_iload_n hx hb dX13_pack_35 rfl (lv_at hl 3 rfl) ?_
        refine lv_aload_n hx hb dX13_pack_36 rfl (lv_at hl 1 rfl) ?_
        obtain ⟨k_28, ek_28, hf⟩ := lnk_some hf
        refine va_get (D := (dC, dI)) (ci := 13) (v := .ref (a k_28)) (C := RX13) (T := TX13) (N := 22) hx hb hts iwd_X13_pack_X13 hown hK hP h0 (Wd_ob kg_5 sg_5 (by decide)) rfl 0 (by decide) (hts _ md_X13_pack_1) (fun _ h9 => h9) (fl_q rfl ek_28) dX13_pack_37 ?_
        refine lv_iload_n hx hb dX13_pack_40 rfl (lv_at hl 3 rfl) ?_
        obtain ⟨g_31, hf⟩ := grd_some hf
        obtain ⟨kg_31, sg_31⟩ := okO_at g_31
        obtain ⟨z_29, r_30, hfc, hf⟩ := cal_some hf
        have hFc := de_free hD hS hA
        refine va_calli (va_runVN (As := [.int x1]) (rest := [.int x1, .ref (a k_27), .ref (a h0)]) ⟨hx, hb, hml, hown, hts⟩ (de_X16_fieldsOf l dC dI cy a sh n H_10.size F z_7 k_28 x1 hfc) ⟨va_cnB 1 hts ggX13_pack_X16_fieldsOf rfl rfl rfl (NK_m_X13_85 hN) (hts _ md_X13_pack_28) ⟨by decide, by decide, by decide +kernel⟩ ⟨Nat.le_of_ble_eq_true rfl, Nat.le_of_ble_eq_true rfl⟩, (hts _ md_X13_pack_27), (hts _ md_X13_pack_29)⟩ ⟨fun a U g mk q => by obtain ⟨q0, q1, qP, qK, qD, qN⟩ := q; exact ⟨q0, q1, qP, va_K.moved (u := U) (U := U.calling g mk a) (Vm.Alike.refl U.vm) qK, qD, qN.same rfl⟩, va_recv hK hP (ci := 16) (q0 := k_28) rfl (Wd_ob kg_31 sg_31 (by decide)), fun U hU hW => ⟨rfl, by rw [hU], by rw [hU]; exact hP, va_K.moved hW.alike hK, hD.weaken (fun _ _ _ _ => trivial), hN.warm hW⟩⟩ rfl rfl hl.1 rfl (lv_room (Nat.le_of_ble_eq_true rfl)) dX13_pack_41 ⟨Nat.le_of_ble_eq_true rfl, Nat.le_of_ble_eq_true rfl⟩) hS (fun q _ h => hFc q h) hFc (fun rr u t H_32 locs ht hvm hw hB hz1 hk1 hS2 => ?_)
        rw [hw]
        clear hw
        obtain ⟨hP1, -, hD1⟩ := hB
        rw [ht] at hP1
        replace hD := hD1.weaken (fun _ _ _ h => hFc _ h)
        replace hP := hP1
        replace hS := hS2
        clear hP1 hD1 hS2 hFc hfc hz1 hk1 hvm ht
        refine lv_iconst (v := 1) hx hb dX13_pack_44 (by decide) ?_
        refine lv_isub hx hb dX13_pack_45 ?_
        refine lv_iload_n hx hb dX13_pack_46 rfl (lv_at hl 0 rfl) ?_
        refine lv_isub hx hb dX13_pack_47 ?_
        obtain ⟨g_35, hf⟩ := grd_some hf
        obtain ⟨kg_35, sg_35⟩ := okO_at g_35
        obtain ⟨z_33, r_34, hfc, hf⟩ := cal_some hf
        have hFc := de_free hD hS hA
        refine va_calll (va_runV (As := [.int x1, .int ((r_30 - 1) - p_2)]) (rest := [.ref (a h0)]) ⟨hx, hb, hml, hown, hts⟩ (de_X16_field l dC dI cy a sh n H_32.size F z_29 k_27 x1 ((r_30 - 1) - p_2) hfc) (cwV 2 hts gX13_pack_X16_field rfl rfl rfl (by decide +kernel) ⟨Nat.le_of_ble_eq_true rfl, Nat.le_of_ble_eq_true rfl⟩) ⟨fun a U g mk q => by obtain ⟨q0, q1, qP, qK, qD, qN⟩ := q; exact ⟨q0, q1, qP, va_K.moved (u := U) (U := U.calling g mk a) (Vm.Alike.refl U.vm) qK, qD, qN.same rfl⟩, va_recv hK hP (ci := 16) (q0 := k_27) rfl (Wd_ob kg_35 sg_35 (by decide)), fun U hU hW => ⟨rfl, by rw [hU], by rw [hU]; exact hP, va_K.moved hW.alike hK, hD.weaken (fun _ _ _ _ => trivial), hN.warm hW⟩⟩ rfl rfl hl.1 rfl (lv_room (Nat.le_of_ble_eq_true rfl)) dX13_pack_48 ⟨Nat.le_of_ble_eq_true rfl, Nat.le_of_ble_eq_true rfl⟩) hS (fun q _ h => hFc q h) hFc (fun rr u t H_36 locs ht hvm hw hB hz1 hk1 hS2 => ?_)
        rw [hw]
        clear hw
        obtain ⟨hP1, -, hD1⟩ := hB
        rw [ht] at hP1
        replace hD := hD1.weaken (fun _ _ _ h => hFc _ h)
        replace hP := hP1
        replace hS := hS2
        clear hP1 hD1 hS2 hFc hfc hz1 hk1 hvm ht
        obtain ⟨z_37, _u, hfc, hf⟩ := cal_some hf
        have hFc := de_free hD hS hA
        refine va_callv (va_runV (As := [.long r_34]) (rest := []) ⟨hx, hb, hml, hown, hts⟩ (de_X13_take_ l dC dI cy a sh n H_36.size F z_33 h0 r_34 hfc) (cwV 1 hts gX13_pack_X13_take_ rfl rfl rfl (by decide +kernel) ⟨Nat.le_of_ble_eq_true rfl, Nat.le_of_ble_eq_true rfl⟩) ⟨fun a U g mk q => by obtain ⟨q0, q1, qP, qK, qD, qN⟩ := q; exact ⟨q0, q1, qP, va_K.moved (u := U) (U := U.calling g mk a) (Vm.Alike.refl U.vm) qK, qD, qN.same rfl⟩, va_recv hK hP (ci := 13) (q0 := h0) rfl (Wd_ob kg_5 sg_5 (by decide)), fun U hU hW => ⟨rfl, by rw [hU], by rw [hU]; exact hP, va_K.moved hW.alike hK, hD.weaken (fun _ _ _ _ => trivial), hN.warm hW⟩⟩ rfl rfl hl.1 rfl (lv_room (Nat.le_of_ble_eq_true rfl)) dX13_pack_51 ⟨Nat.le_of_ble_eq_true rfl, Nat.le_of_ble_eq_true rfl⟩) hS (fun q _ h => hFc q h) hFc (fun u t H_38 locs ht hvm hw hB hz1 hk1 hS2 => ?_)
        obtain ⟨hP1, -, hD1⟩ := hB
        rw [ht] at hP1
        replace hD := hD1.weaken (fun _ _ _ h => hFc _ h)
        replace hP := hP1
        replace hS := hS2
        clear hP1 hD1 hS2 hFc hfc hz1 hk1 hvm ht
        refine lv_goto (tgt := 70) hx hb dX13_pack_54 (by decide) ?_
        exact B70 (z_37) ls H_38 locs ⟨lv_sub hl [0, 1, 2, 3] rfl, hP, hD, hS⟩ hf
  refine lv_if_ne (tgt := 12) hx hb dX13_pack_1 (by decide) (fun c_39 => ?_) (fun c_39 => ?_)
  · skip
    rw [if_neg c_39] at hf
    exact B12 (z) ls H locs ⟨lv_sub hl [0, 1, 2] rfl, hP, hD, hS⟩ hf
  · skip
    rw [if_pos c_39] at hf
    refine lv_aload_n hx hb dX13_pack_4 rfl (lv_at hl 0 rfl) ?_
    refine lv_iload_n hx hb dX13_pack_5 rfl (lv_at hl 2 rfl) ?_
    obtain ⟨z_40, r_41, hfc, hf⟩ := cal_some hf
    have hFc := de_free hD hS hA
    refine va_calll (va_runS (As := [.int x1]) (rest := [.ref (a h0)]) ⟨hx, hb, hml, hown, hts⟩ (de_X13_structureType l dC dI cy a sh n H.size F z x1 hfc) (va_cwS 1 hts gX13_pack_X13_structureType rfl rfl rfl (by decide +kernel) ⟨Nat.le_of_ble_eq_true rfl, Nat.le_of_ble_eq_true rfl⟩) ⟨fun a U g mk q => by obtain ⟨q0, q1, qP, qK, qD, qN⟩ := q; exact ⟨q0, q1, qP, va_K.moved (u := U) (U := U.calling g mk a) (Vm.Alike.refl U.vm) qK, qD, qN.same rfl⟩, fun U hU hW => ⟨rfl, by rw [hU], by rw [hU]; exact hP, va_K.moved hW.alike hK, hD.weaken (fun _ _ _ _ => trivial), hN.warm hW⟩⟩ rfl rfl hl.1 rfl (lv_room (Nat.le_of_ble_eq_true rfl)) dX13_pack_6 ⟨Nat.le_of_ble_eq_true rfl, Nat.le_of_ble_eq_true rfl⟩) hS (fun q _ h => hFc q h) hFc (fun rr u t H_42 locs ht hvm hw hB hz1 hk1 hS2 => ?_)
    rw [hw]
    clear hw
    obtain ⟨hP1, -, hD1⟩ := hB
    rw [ht] at hP1
    replace hD := hD1.weaken (fun _ _ _ h => hFc _ h)
    replace hP := hP1
    replace hS := hS2
    clear hP1 hD1 hS2 hFc hfc hz1 hk1 hvm ht
    obtain ⟨g_44, hf⟩ := grd_some hf
    obtain ⟨kg_44, sg_44⟩ := okO_at g_44
    obtain ⟨z_43, _u, hfc, hf⟩ := cal_some hf
    have hFc := de_free hD hS hA
    refine va_callv (va_runV (As := [.long r_41]) (rest := []) ⟨hx, hb, hml, hown, hts⟩ (de_X13_take_ l dC dI cy a sh n H_42.size F z_40 h0 r_41 hfc) (cwV 1 hts gX13_pack_X13_take_ rfl rfl rfl (by decide +kernel) ⟨Nat.le_of_ble_eq_true rfl, Nat.le_of_ble_eq_true rfl⟩) ⟨fun a U g mk q => by obtain ⟨q0, q1, qP, qK, qD, qN⟩ := q; exact ⟨q0, q1, qP, va_K.moved (u := U) (U := U.calling g mk a) (Vm.Alike.refl U.vm) qK, qD, qN.same rfl⟩, va_recv hK hP (ci := 13) (q0 := h0) rfl (Wd_ob kg_44 sg_44 (by decide)), fun U hU hW => ⟨rfl, by rw [hU], by rw [hU]; exact hP, va_K.moved hW.alike hK, hD.weaken (fun _ _ _ _ => trivial), hN.warm hW⟩⟩ rfl rfl hl.1 rfl (lv_room (Nat.le_of_ble_eq_true rfl)) dX13_pack_9 ⟨Nat.le_of_ble_eq_true rfl, Nat.le_of_ble_eq_true rfl⟩) hS (fun q _ h => hFc q h) hFc (fun u t H_45 locs ht hvm hw hB hz1 hk1 hS2 => ?_)
    obtain ⟨hP1, -, hD1⟩ := hB
    rw [ht] at hP1
    replace hD := hD1.weaken (fun _ _ _ h => hFc _ h)
    replace hP := hP1
    replace hS := hS2
    clear hP1 hD1 hS2 hFc hfc hz1 hk1 hvm ht
    exact B12 (z_43) ls H_45 locs ⟨lv_sub hl [0, 1, 2] rfl, hP, hD, hS⟩ hf

theorem md_X18_branch_2 : (.fieldLink RX18 447 "ResourceLedgerModel" "nexts" "[I" : Cond) ∈ wsX18_branch := List.mem_of_getElem? (i := 2) rfl
theorem iwd_X18_branch_X18 : ∀ w ∈ wsX180, w ∈ wsX18_branch := fun _ h => List.mem_cons_of_mem _ (List.mem_append_left _ (List.mem_append_right _ h))
theorem md_X18_branch_3 : (.fieldLink RX18 328 "ResourceLedgerModel" "frames" "I" : Cond) ∈ wsX18_branch := List.mem_of_getElem? (i := 3) rfl
theorem md_X18_branch_1 : (.fieldLink RX18 40 "ResourceLedgerModel" "trees" "LResourceLedgerModel$Trees;" : Cond) ∈ wsX18_branch := List.mem_of_getElem? (i := 1) rfl
theorem iwd_X18_branch_X15 : ∀ w ∈ wsX150, w ∈ wsX18_branch := fun _ h => List.mem_cons_of_mem _ (List.mem_append_right _ h)
set_option maxHeartbeats 4000000 in
set_option maxRecDepth 100000 in
theorem de_X18_branch (l : Launch) (dC : Nat → ClassId) (dI : Nat → Nat → Nat) (cy : Nat → ClassId) (a : Nat → Nat) (sh : Nat → Nat × Nat) (n sz : Nat) (F : Nat) (z : St) (h0 : Nat) (x0 : Int32) (x1 : Int32) {z8 : St} {r8 : Unit} (hf : fn_X18_branch F sh n z h0 x0 x1 = some (z8, r8)) : Met l yX18_branch wsX18_branch ({ frames := 4, cells := 0, slots := 0, locals := 86 }) (va_Pc [.ref (a h0), .int x0, .int x1] (fun U => U.heap.size = sz ∧ va_P (dC, dI) vwCl (Wd cy a sh n z) U.heap ∧ va_K (dC, dI) vwCl (TYS cy) U ∧ va_D (fun _ => True) (Wd cy a sh n z) ∧ NK U)) (va_Qv (fun u : Unit => True) (fun u t => va_P (dC, dI) vwCl (Wd cy a sh n z8) t.heap ∧ va_K (dC, dI) vwCl (TYS cy) t ∧ va_D (va_A (Wd cy a sh n z) sz) (Wd cy a sh n z8)) (va_A (Wd cy a sh n z) sz)) 0 0 (va_A (Wd cy a sh n z) sz) := by
  refine Met.ofW (cc := cX18_branch) (maxL := 5) (ret := none) (by decide) rfl ?_
  intro p e s m args below meth c s₁ B hml hv
  obtain ⟨rfl, hsz, hP, hK, hD0, hN⟩ := hv
  have hx := B.exec
  have hb := B.bytes
  have hr := B.returns
  have hts := atoms_spec (ws := wsX18_branch) B.pre
  have hown : s.vm.findClass RX18 = some m.cls := findClass_of_methodNamed B.named
  have hlocks := B.notSynchronized
  subst hsz
  have hD := hD0.self (sz := s.heap.size)
  clear hD0
  generalize hAe : va_A (Wd cy a sh n z) s.heap.size = A at hD ⊢
  have hA : ∀ q : Nat, s.heap.size ≤ q → A q := fun q h => by rw [← hAe]; exact Or.inr h
  clear hAe
  have hS : va_S A s.heap s.heap [] := va_S.rf
  have hl := lv_entry ([.ref (a h0), .int x0, .int x1]) (n := 5) (Nat.le_of_ble_eq_true rfl)
  rw [lg_entry_eq]
  generalize (lg_sl ([.ref (a h0), .int x0, .int x1]) ++ List.replicate (5 - (lg_sl ([.ref (a h0), .int x0, .int x1])).length) Slot.unset).toArray = ls at hl ⊢
  replace hl : lv_has ls 5 [(0, .ref (a h0)), (1, .int x0), (2, .int x1)] := hl
  unfold fn_X18_branch at hf
  refine de_start hS hP (fun H locs hS hP => ?_)
  refine lv_iload_n hx hb dX18_branch_0 rfl (lv_at hl 1 rfl) ?_
  refine lv_iconst (v := 2) hx hb dX18_branch_1 (by decide) ?_
  refine de_cut (h := 10) (fun (x : St × Int32) => [.int x.2]) (fun x ls H locs => lv_has ls 5 [(0, .ref (a h0)), (1, .int x0), (2, .int x1)] ∧ va_P (dC, dI) vwCl (Wd cy a sh n x.1) H ∧ va_D A (Wd cy a sh n x.1) ∧ va_S A s.heap H locs) (fun x => fn_X18_branch_B10 F sh n x0 h0 x1 x.1 x.2) (z8, r8) ?_ (fun B10 => ?_)
  · intro x ls H locs hI hf
    obtain ⟨z_2, p_1⟩ := x
    obtain ⟨hl2, hP2, hD2, hS2⟩ := hI
    replace hl : lv_has ls 5 [(0, .ref (a h0)), (1, .int x0), (2, .int x1)] := hl2
    replace hP := hP2
    replace hD := hD2
    replace hS := hS2
    clear hl2 hP2 hD2 hS2
    replace hf := fn_X18_branch_B10_s hf
    refine W.eq (g2 := F0 m 10 ls [.int p_1]) rfl ?_
    refine lv_istore_n (lv' := [(3, .int p_1), (0, .ref (a h0)), (1, .int x0), (2, .int x1)]) hx hb dX18_branch_10 rfl hl (by decide) rfl (fun ls hl2 => ?_)
    replace hl := hl2
    clear hl2
    refine lv_iload_n hx hb dX18_branch_11 rfl (lv_at hl 2 rfl) ?_
    refine lv_iconst (v := 2) hx hb dX18_branch_12 (by decide) ?_
    refine de_cut (h := 69) (fun (x : St × Int32) => []) (fun x ls H locs => lv_has ls 5 [(3, .int x.2), (0, .ref (a h0)), (2, .int x1)] ∧ va_P (dC, dI) vwCl (Wd cy a sh n x.1) H ∧ va_D A (Wd cy a sh n x.1) ∧ va_S A s.heap H locs) (fun x => fn_X18_branch_B69 F sh n h0 x1 x.1 x.2) (z8, r8) ?_ (fun B69 => ?_)
    · intro x ls H locs hI hf
      obtain ⟨z_4, p_3⟩ := x
      obtain ⟨hl2, hP2, hD2, hS2⟩ := hI
      replace hl : lv_has ls 5 [(3, .int p_3), (0, .ref (a h0)), (2, .int x1)] := hl2
      replace hP := hP2
      replace hD := hD2
      replace hS := hS2
      clear hl2 hP2 hD2 hS2
      replace hf := fn_X18_branch_B69_s hf
      refine W.eq (g2 := F0 m 69 ls []) rfl ?_
      refine lv_iload_n hx hb dX18_branch_69 rfl (lv_at hl 0 rfl) ?_
      refine lv_if_eq (tgt := 85) hx hb dX18_branch_70 (by decide) (fun c_5 => ?_) (fun c_5 => ?_)
      · skip
        rw [if_pos c_5] at hf
        obtain ⟨h8, h9⟩ := ret_some hf
        rw [h8]
        exact W.vret hx hb hr (fun t ht hW => ⟨⟨(), rfl, trivial, by rw [ht]; exact hP, va_K.moved hW.alike hK, hD⟩, hS.F ht⟩) hS.2.2 dX18_branch_85
      · skip
        rw [if_neg c_5] at hf
        refine lv_aload_n hx hb dX18_branch_73 rfl (lv_at hl 1 rfl) ?_
        obtain ⟨g_6, hf⟩ := grd_some hf
        obtain ⟨kg_6, sg_6⟩ := okO_at g_6
        obtain ⟨k_7, ek_7, hf⟩ := lnk_some hf
        refine va_get (D := (dC, dI)) (ci := 18) (v := .ref (a k_7)) (C := RX18) (T := TX18) (N := 78) hx hb hts iwd_X18_branch_X18 hown hK hP h0 (Wd_ob kg_6 sg_6 (by decide)) rfl 39 (by decide) (hts _ md_X18_branch_2) (fun _ h9 => h9) (fl_q rfl ek_7) dX18_branch_74 ?_
        refine lv_aload_n hx hb dX18_branch_77 rfl (lv_at hl 1 rfl) ?_
        refine va_get (D := (dC, dI)) (ci := 18) (v := .int (z_4.1 h0 36)) (C := RX18) (T := TX18) (N := 78) hx hb hts iwd_X18_branch_X18 hown hK hP h0 (Wd_ob kg_6 sg_6 (by decide)) rfl 36 (by decide) (hts _ md_X18_branch_3) (fun _ h9 => h9) (fl_at (t := 0) rfl) dX18_branch_78 ?_
        refine lv_iconst (v := 1) hx hb dX18_branch_81 (by decide) ?_
        refine lv_isub hx hb dX18_branch_82 ?_
        refine lv_iload_n hx hb dX18_branch_83 rfl (lv_at hl 2 rfl) ?_
        obtain ⟨g_8, hf⟩ := grd_some hf
        obtain ⟨kg_8, sg_8, ig_8⟩ := okA_at g_8
        refine va_iast hx hb hK hP hD hS k_7 1 (Wd_ai kg_8 sg_8) rfl ig_8 dX18_branch_84 (fun H_9 locs hP2 hD2 hS2 => ?_)
        rw [Wd_ti sg_8] at hP2 hD2
        obtain ⟨z_10, ez_10⟩ : ∃ w, w = si z_4 k_7 ((z_4.1 h0 36) - 1).toNatClampNeg x1 := ⟨_, rfl⟩
        rw [← ez_10] at hP2 hD2
        replace hf := lt_at ez_10 hf
        clear ez_10
        replace hP := hP2
        replace hD := hD2
        replace hS := hS2
        clear hP2 hD2 hS2
        obtain ⟨h8, h9⟩ := ret_some hf
        rw [h8]
        exact W.vret hx hb hr (fun t ht hW => ⟨⟨(), rfl, trivial, by rw [ht]; exact hP, va_K.moved hW.alike hK, hD⟩, hS.F ht⟩) hS.2.2 dX18_branch_85
    refine lv_icmp_le (tgt := 69) hx hb dX18_branch_13 (by decide) (fun c_11 => ?_) (fun c_11 => ?_)
    · skip
      rw [if_pos c_11] at hf
      exact B69 (z_2, p_1) ls H locs ⟨lv_sub hl [0, 1, 3] rfl, hP, hD, hS⟩ hf
    · skip
      rw [if_neg c_11] at hf
      refine lv_aload_n hx hb dX18_branch_16 rfl (lv_at hl 1 rfl) ?_
      refine lv_iconst (v := 1) hx hb dX18_branch_17 (by decide) ?_
      obtain ⟨g_14, hf⟩ := grd_some hf
      obtain ⟨kg_14, sg_14⟩ := okO_at g_14
      obtain ⟨z_12, r_13, hfc, hf⟩ := cal_some hf
      have hFc := de_free hD hS hA
      refine va_calli (va_runV (As := [.int 1]) (rest := []) ⟨hx, hb, hml, hown, hts⟩ (de_X18_take l dC dI cy a sh n H.size F z_2 h0 1 hfc) (cwV 1 hts gX18_branch_X18_take rfl rfl rfl (by decide +kernel) ⟨Nat.le_of_ble_eq_true rfl, Nat.le_of_ble_eq_true rfl⟩) ⟨fun a U g mk q => by obtain ⟨q0, q1, qP, qK, qD, qN⟩ := q; exact ⟨q0, q1, qP, va_K.moved (u := U) (U := U.calling g mk a) (Vm.Alike.refl U.vm) qK, qD, qN.same rfl⟩, va_recv hK hP (ci := 18) (q0 := h0) rfl (Wd_ob kg_14 sg_14 (by decide)), fun U hU hW => ⟨rfl, by rw [hU], by rw [hU]; exact hP, va_K.moved hW.alike hK, hD.weaken (fun _ _ _ _ => trivial), hN.warm hW⟩⟩ rfl rfl hl.1 rfl (lv_room (Nat.le_of_ble_eq_true rfl)) dX18_branch_18 ⟨Nat.le_of_ble_eq_true rfl, Nat.le_of_ble_eq_true rfl⟩) hS (fun q _ h => hFc q h) hFc (fun rr u t H_15 locs ht hvm hw hB hz1 hk1 hS2 => ?_)
      rw [hw]
      clear hw
      obtain ⟨hP1, -, hD1⟩ := hB
      rw [ht] at hP1
      replace hD := hD1.weaken (fun _ _ _ h => hFc _ h)
      replace hP := hP1
      replace hS := hS2
      clear hP1 hD1 hS2 hFc hfc hz1 hk1 hvm ht
      refine lv_istore (lv' := [(4, .int r_13), (3, .int p_1), (0, .ref (a h0)), (1, .int x0), (2, .int x1)]) hx hb dX18_branch_21 hl (by decide) rfl (fun ls hl2 => ?_)
      replace hl := hl2
      clear hl2
      refine lv_aload_n hx hb dX18_branch_23 rfl (lv_at hl 2 rfl) ?_
      obtain ⟨z_16, r_17, hfc, hf⟩ := cal_some hf
      have hFc := de_free hD hS hA
      refine va_calli (va_runV (As := []) (rest := []) ⟨hx, hb, hml, hown, hts⟩ (de_X18_goesOn l dC dI cy a sh n H_15.size F z_12 h0 hfc) (cwV 0 hts gX18_branch_X18_goesOn rfl rfl rfl (by decide +kernel) ⟨Nat.le_of_ble_eq_true rfl, Nat.le_of_ble_eq_true rfl⟩) ⟨fun a U g mk q => by obtain ⟨q0, q1, qP, qK, qD, qN⟩ := q; exact ⟨q0, q1, qP, va_K.moved (u := U) (U := U.calling g mk a) (Vm.Alike.refl U.vm) qK, qD, qN.same rfl⟩, va_recv hK hP (ci := 18) (q0 := h0) rfl (Wd_ob kg_14 sg_14 (by decide)), fun U hU hW => ⟨rfl, by rw [hU], by rw [hU]; exact hP, va_K.moved hW.alike hK, hD.weaken (fun _ _ _ _ => trivial), hN.warm hW⟩⟩ rfl rfl hl.1 rfl (lv_room (Nat.le_of_ble_eq_true rfl)) dX18_branch_24 ⟨Nat.le_of_ble_eq_true rfl, Nat.le_of_ble_eq_true rfl⟩) hS (fun q _ h => hFc q h) hFc (fun rr u t H_18 locs ht hvm hw hB hz1 hk1 hS2 => ?_)
      rw [hw]
      clear hw
      obtain ⟨hP1, -, hD1⟩ := hB
      rw [ht] at hP1
      replace hD := hD1.weaken (fun _ _ _ h => hFc _ h)
      replace hP := hP1
      replace hS := hS2
      clear hP1 hD1 hS2 hFc hfc hz1 hk1 hvm ht
      refine de_cut (h := 68) (fun (x : St × Int32) => [.int x.2]) (fun x ls H locs => lv_has ls 5 [(0, .ref (a h0)), (2, .int x1)] ∧ va_P (dC, dI) vwCl (Wd cy a sh n x.1) H ∧ va_D A (Wd cy a sh n x.1) ∧ va_S A s.heap H locs) (fun x => fn_X18_branch_B68 F sh n h0 x1 x.1 x.2) (z8, r8) ?_ (fun B68 => ?_)
      · intro x ls H locs hI hf
        obtain ⟨z_20, p_19⟩ := x
        obtain ⟨hl2, hP2, hD2, hS2⟩ := hI
        replace hl : lv_has ls 5 [(0, .ref (a h0)), (2, .int x1)] := hl2
        replace hP := hP2
        replace hD := hD2
        replace hS := hS2
        clear hl2 hP2 hD2 hS2
        replace hf := fn_X18_branch_B68_s hf
        refine W.eq (g2 := F0 m 68 ls [.int p_19]) rfl ?_
        refine lv_istore_n (lv' := [(3, .int p_19), (0, .ref (a h0)), (2, .int x1)]) hx hb dX18_branch_68 rfl hl (by decide) rfl (fun ls hl2 => ?_)
        replace hl := hl2
        clear hl2
        exact B69 (z_20, p_19) ls H locs ⟨lv_sub hl [0, 1, 2] rfl, hP, hD, hS⟩ hf
      refine de_cut (h := 67) (fun (x : St) => []) (fun x ls H locs => lv_has ls 5 [(0, .ref (a h0)), (2, .int x1)] ∧ va_P (dC, dI) vwCl (Wd cy a sh n x) H ∧ va_D A (Wd cy a sh n x) ∧ va_S A s.heap H locs) (fun x => fn_X18_branch_B67 F sh n h0 x1 x) (z8, r8) ?_ (fun B67 => ?_)
      · intro x ls H locs hI hf
        obtain ⟨z_21, ez⟩ : ∃ w, w = x := ⟨_, rfl⟩
        subst ez
        obtain ⟨hl2, hP2, hD2, hS2⟩ := hI
        replace hl : lv_has ls 5 [(0, .ref (a h0)), (2, .int x1)] := hl2
        replace hP := hP2
        replace hD := hD2
        replace hS := hS2
        clear hl2 hP2 hD2 hS2
        replace hf := fn_X18_branch_B67_s hf
        refine W.eq (g2 := F0 m 67 ls []) rfl ?_
        refine lv_iconst (v := 0) hx hb dX18_branch_67 (by decide) ?_
        exact B68 (z_21, 0) ls H locs ⟨lv_sub hl [0, 1] rfl, hP, hD, hS⟩ hf
      refine lv_if_eq (tgt := 67) hx hb dX18_branch_27 (by decide) (fun c_22 => ?_) (fun c_22 => ?_)
      · skip
        rw [if_pos c_22] at hf
        exact B67 (z_16) ls H_18 locs ⟨lv_sub hl [2, 4] rfl, hP, hD, hS⟩ hf
      · skip
        rw [if_neg c_22] at hf
        refine lv_aload_n hx hb dX18_branch_30 rfl (lv_at hl 2 rfl) ?_
        obtain ⟨k_23, ek_23, hf⟩ := lnk_some hf
        refine va_get (D := (dC, dI)) (ci := 18) (v := .ref (a k_23)) (C := RX18) (T := TX18) (N := 78) hx hb hts iwd_X18_branch_X18 hown hK hP h0 (Wd_ob kg_14 sg_14 (by decide)) rfl 15 (by decide) (hts _ md_X18_branch_1) (fun _ h9 => h9) (fl_q rfl ek_23) dX18_branch_31 ?_
        obtain ⟨g_24, hf⟩ := grd_some hf
        obtain ⟨kg_24, sg_24⟩ := okO_at g_24
        obtain ⟨k_25, ek_25, hf⟩ := lnk_some hf
        refine va_getN (D := (dC, dI)) (ci := 15) (v := .ref (a k_25)) (C := RX15) (T := TX15) (N := 6) hx hb hts iwd_X18_branch_X15 hown hK hP k_23 (Wd_ob kg_24 sg_24 (by decide)) rfl 2 (by decide) (va_Nw.use rfl (NK_f_X18_77 hN)) (fun _ h9 => h9) (fl_q rfl ek_25) dX18_branch_34 ?_
        refine lv_iload hx hb dX18_branch_37 (lv_at hl 0 rfl) ?_
        obtain ⟨g_26, hf⟩ := grd_some hf
        obtain ⟨kg_26, sg_26, ig_26⟩ := okA_at g_26
        refine va_lald hx hb hK hP k_25 2 (Wd_al kg_26 sg_26) rfl ig_26 dX18_branch_39 ?_
        refine lv_lconst (v := 1) hx hb dX18_branch_40 (by decide) ?_
        refine W.lcmp hx hb dX18_branch_41 ?_
        refine de_cut (h := 50) (fun (x : St × Int32) => [.int x.2]) (fun x ls H locs => lv_has ls 5 [(0, .ref (a h0)), (1, .int x0), (2, .int x1)] ∧ va_P (dC, dI) vwCl (Wd cy a sh n x.1) H ∧ va_D A (Wd cy a sh n x.1) ∧ va_S A s.heap H locs) (fun x => fn_X18_branch_B50 F sh n x0 h0 x1 x.1 x.2) (z8, r8) ?_ (fun B50 => ?_)
        · intro x ls H locs hI hf
          obtain ⟨z_28, p_27⟩ := x
          obtain ⟨hl2, hP2, hD2, hS2⟩ := hI
          replace hl : lv_has ls 5 [(0, .ref (a h0)), (1, .int x0), (2, .int x1)] := hl2
          replace hP := hP2
          replace hD := hD2
          replace hS := hS2
          clear hl2 hP2 hD2 hS2
          replace hf := fn_X18_branch_B50_s hf
          refine W.eq (g2 := F0 m 50 ls [.int p_27]) rfl ?_
          refine lv_iload_n hx hb dX18_branch_50 rfl (lv_at hl 1 rfl) ?_
          refine lv_iconst (v := 3) hx hb dX18_branch_51 (by decide) ?_
          refine de_cut (h := 60) (fun (x : St × Int32) => [.int x.2, .int p_27]) (fun x ls H locs => lv_has ls 5 [(0, .ref (a h0)), (2, .int x1)] ∧ va_P (dC, dI) vwCl (Wd cy a sh n x.1) H ∧ va_D A (Wd cy a sh n x.1) ∧ va_S A s.heap H locs) (fun x => fn_X18_branch_B60 F sh n p_27 h0 x1 x.1 x.2) (z8, r8) ?_ (fun B60 => ?_)
          · intro x ls H locs hI hf
            obtain ⟨z_30, p_29⟩ := x
            obtain ⟨hl2, hP2, hD2, hS2⟩ := hI
            replace hl : lv_has ls 5 [(0, .ref (a h0)), (2, .int x1)] := hl2
            replace hP := hP2
            replace hD := hD2
            replace hS := hS2
            clear hl2 hP2 hD2 hS2
            replace hf := fn_X18_branch_B60_s hf
            refine W.eq (g2 := F0 m 60 ls [.int p_29, .int p_27]) rfl ?_
            refine lv_icmp_ne (tgt := 67) hx hb dX18_branch_60 (by decide) (fun c_31 => ?_) (fun c_31 => ?_)
            · skip
              rw [if_neg c_31] at hf
              exact B67 (z_30) ls H locs ⟨lv_sub hl [0, 1] rfl, hP, hD, hS⟩ hf
            · skip
              rw [if_pos c_31] at hf
              refine lv_iconst (v := 1) hx hb dX18_branch_63 (by decide) ?_
              refine lv_goto (tgt := 68) hx hb dX18_branch_64 (by decide) ?_
              exact B68 (z_30, 1) ls H locs ⟨lv_sub hl [0, 1] rfl, hP, hD, hS⟩ hf
          refine lv_icmp_ne (tgt := 59) hx hb dX18_branch_52 (by decide) (fun c_32 => ?_) (fun c_32 => ?_)
          · skip
            rw [if_neg c_32] at hf
            refine lv_iconst (v := 0) hx hb dX18_branch_59 (by decide) ?_
            exact B60 (z_28, 0) ls H locs ⟨lv_sub hl [0, 2] rfl, hP, hD, hS⟩ hf
          · skip
            rw [if_pos c_32] at hf
            refine lv_iconst (v := 1) hx hb dX18_branch_55 (by decide) ?_
            refine lv_goto (tgt := 60) hx hb dX18_branch_56 (by decide) ?_
            exact B60 (z_28, 1) ls H locs ⟨lv_sub hl [0, 2] rfl, hP, hD, hS⟩ hf
        refine lv_if_ne (tgt := 49) hx hb dX18_branch_42 (by decide) (fun c_33 => ?_) (fun c_33 => ?_)
        · skip
          rw [lg_cmp_eq] at c_33
          rw [if_neg c_33] at hf
          refine lv_iconst (v := 0) hx hb dX18_branch_49 (by decide) ?_
          exact B50 (z_16, 0) ls H_18 locs ⟨lv_sub hl [2, 3, 4] rfl, hP, hD, hS⟩ hf
        · skip
          rw [lg_cmp_eq] at c_33
          rw [if_pos c_33] at hf
          refine lv_iconst (v := 1) hx hb dX18_branch_45 (by decide) ?_
          refine lv_goto (tgt := 50) hx hb dX18_branch_46 (by decide) ?_
          exact B50 (z_16, 1) ls H_18 locs ⟨lv_sub hl [2, 3, 4] rfl, hP, hD, hS⟩ hf
  refine lv_icmp_ne (tgt := 9) hx hb dX18_branch_2 (by decide) (fun c_34 => ?_) (fun c_34 => ?_)
  · skip
    rw [if_neg c_34] at hf
    refine lv_iconst (v := 0) hx hb dX18_branch_9 (by decide) ?_
    exact B10 (z, 0) ls H locs ⟨lv_sub hl [0, 1, 2] rfl, hP, hD, hS⟩ hf
  · skip
    rw [if_pos c_34] at hf
    refine lv_iconst (v := 1) hx hb dX18_branch_5 (by decide) ?_
    refine lv_goto (tgt := 10) hx hb dX18_branch_6 (by decide) ?_
    exact B10 (z, 1) ls H locs ⟨lv_sub hl [0, 1, 2] rfl, hP, hD, hS⟩ hf

theorem md_X4_useLocal_1 : (.fieldLink RX4 52 "ResourceLedger$Machine" "locals" "[I" : Cond) ∈ wsX4_useLocal := List.mem_of_getElem? (i := 1) rfl
theorem iwd_X4_useLocal_X4 : ∀ w ∈ wsX40, w ∈ wsX4_useLocal := fun _ h => List.mem_cons_of_mem _ (List.mem_append_left _ (List.mem_append_left _ (List.mem_append_right _ h)))
theorem md_X4_useLocal_2 : (.fieldLink RX4 12 "ResourceLedger$Machine" "heap" "LResourceLedger$Heap;" : Cond) ∈ wsX4_useLocal := List.mem_of_getElem? (i := 2) rfl
theorem md_X4_useLocal_3 : (.fieldLink RX4 71 "ResourceLedger$Heap" "slips" "I" : Cond) ∈ wsX4_useLocal := List.mem_of_getElem? (i := 3) rfl
theorem iwd_X4_useLocal_X1 : ∀ w ∈ wsX10, w ∈ wsX4_useLocal := fun _ h => List.mem_cons_of_mem _ (List.mem_append_left _ (List.mem_append_right _ h))
set_option maxHeartbeats 4000000 in
set_option maxRecDepth 100000 in
theorem de_X4_useLocal (l : Launch) (dC : Nat → ClassId) (dI : Nat → Nat → Nat) (cy : Nat → ClassId) (a : Nat → Nat) (sh : Nat → Nat × Nat) (n sz : Nat) (F : Nat) (z : St) (h0 : Nat) (x0 : Int32) (x1 : Int32) {z8 : St} {r8 : Unit} (hf : fn_X4_useLocal F sh n z h0 x0 x1 = some (z8, r8)) : Met l yX4_useLocal wsX4_useLocal ({ frames := 52, cells := 0, slots := 0, locals := 1439 }) (va_Pc [.ref (a h0), .int x0, .int x1] (fun U => U.heap.size = sz ∧ va_P (dC, dI) vwCl (Wd cy a sh n z) U.heap ∧ va_K (dC, dI) vwCl (TYS cy) U ∧ va_D (fun _ => True) (Wd cy a sh n z) ∧ NK U)) (va_Qv (fun u : Unit => True) (fun u t => va_P (dC, dI) vwCl (Wd cy a sh n z8) t.heap ∧ va_K (dC, dI) vwCl (TYS cy) t ∧ va_D (va_A (Wd cy a sh n z) sz) (Wd cy a sh n z8)) (va_A (Wd cy a sh n z) sz)) 0 0 (va_A (Wd cy a sh n z) sz) := by
  refine Met.ofW (cc := cX4_useLocal) (maxL := 4) (ret := none) (by decide) rfl ?_
  intro p e s m args below meth c s₁ B hml hv
  obtain ⟨rfl, hsz, hP, hK, hD0, hN⟩ := hv
  have hx := B.exec
  have hb := B.bytes
  have hr := B.returns
  have hts := atoms_spec (ws := wsX4_useLocal) B.pre
  have hown : s.vm.findClass RX4 = some m.cls := findClass_of_methodNamed B.named
  have hlocks := B.notSynchronized
  subst hsz
  have hD := hD0.self (sz := s.heap.size)
  clear hD0
  generalize hAe : va_A (Wd cy a sh n z) s.heap.size = A at hD ⊢
  have hA : ∀ q : Nat, s.heap.size ≤ q → A q := fun q h => by rw [← hAe]; exact Or.inr h
  clear hAe
  have hS : va_S A s.heap s.heap [] := va_S.rf
  have hl := lv_entry ([.ref (a h0), .int x0, .int x1]) (n := 4) (Nat.le_of_ble_eq_true rfl)
  rw [lg_entry_eq]
  generalize (lg_sl ([.ref (a h0), .int x0, .int x1]) ++ List.replicate (4 - (lg_sl ([.ref (a h0), .int x0, .int x1])).length) Slot.unset).toArray = ls at hl ⊢
  replace hl : lv_has ls 4 [(0, .ref (a h0)), (1, .int x0), (2, .int x1)] := hl
  unfold fn_X4_useLocal at hf
  refine de_start hS hP (fun H locs hS hP => ?_)
  refine lv_iload_n hx hb dX4_useLocal_0 rfl (lv_at hl 1 rfl) ?_
  refine lv_bipush (v := 13) hx hb dX4_useLocal_1 (by decide) ?_
  refine lv_icmp_ne (tgt := 17) hx hb dX4_useLocal_3 (by decide) (fun c_1 => ?_) (fun c_1 => ?_)
  · skip
    rw [if_neg c_1] at hf
    refine lv_aload_n hx hb dX4_useLocal_17 rfl (lv_at hl 0 rfl) ?_
    obtain ⟨g_2, hf⟩ := grd_some hf
    obtain ⟨kg_2, sg_2⟩ := okO_at g_2
    obtain ⟨k_3, ek_3, hf⟩ := lnk_some hf
    refine va_get (D := (dC, dI)) (ci := 4) (v := .ref (a k_3)) (C := RX4) (T := TX4) (N := 18) hx hb hts iwd_X4_useLocal_X4 hown hK hP h0 (Wd_ob kg_2 sg_2 (by decide)) rfl 10 (by decide) (hts _ md_X4_useLocal_1) (fun _ h9 => h9) (fl_q rfl ek_3) dX4_useLocal_18 ?_
    refine lv_iload_n hx hb dX4_useLocal_21 rfl (lv_at hl 2 rfl) ?_
    obtain ⟨g_4, hf⟩ := grd_some hf
    obtain ⟨kg_4, sg_4, ig_4⟩ := okA_at g_4
    refine va_iald hx hb hK hP k_3 1 (Wd_ai kg_4 sg_4) rfl ig_4 dX4_useLocal_22 ?_
    refine lv_topi (fun v_5 ev_5 => ?_)
    replace hf := lt_at ev_5 hf
    clear ev_5
    refine lv_istore_n (lv' := [(3, .int v_5), (0, .ref (a h0)), (1, .int x0), (2, .int x1)]) hx hb dX4_useLocal_23 rfl hl (by decide) rfl (fun ls hl2 => ?_)
    replace hl := hl2
    clear hl2
    refine lv_iload_n hx hb dX4_useLocal_24 rfl (lv_at hl 0 rfl) ?_
    refine de_cut (h := 41) (fun (x : St) => []) (fun x ls H locs => lv_has ls 4 [(3, .int v_5), (0, .ref (a h0)), (1, .int x0), (2, .int x1)] ∧ va_P (dC, dI) vwCl (Wd cy a sh n x) H ∧ va_D A (Wd cy a sh n x) ∧ va_S A s.heap H locs) (fun x => fn_X4_useLocal_B41 F sh n x0 h0 v_5 x1 x) (z8, r8) ?_ (fun B41 => ?_)
    · intro x ls H locs hI hf
      obtain ⟨z_6, ez⟩ : ∃ w, w = x := ⟨_, rfl⟩
      subst ez
      obtain ⟨hl2, hP2, hD2, hS2⟩ := hI
      replace hl : lv_has ls 4 [(3, .int v_5), (0, .ref (a h0)), (1, .int x0), (2, .int x1)] := hl2
      replace hP := hP2
      replace hD := hD2
      replace hS := hS2
      clear hl2 hP2 hD2 hS2
      replace hf := fn_X4_useLocal_B41_s hf
      refine W.eq (g2 := F0 m 41 ls []) rfl ?_
      refine lv_iload_n hx hb dX4_useLocal_41 rfl (lv_at hl 2 rfl) ?_
      refine lv_bipush (v := 11) hx hb dX4_useLocal_42 (by decide) ?_
      refine lv_icmp_ne (tgt := 55) hx hb dX4_useLocal_44 (by decide) (fun c_7 => ?_) (fun c_7 => ?_)
      · skip
        rw [if_neg c_7] at hf
        refine lv_iload_n hx hb dX4_useLocal_55 rfl (lv_at hl 2 rfl) ?_
        refine lv_bipush (v := 12) hx hb dX4_useLocal_56 (by decide) ?_
        refine lv_icmp_ne (tgt := 76) hx hb dX4_useLocal_58 (by decide) (fun c_8 => ?_) (fun c_8 => ?_)
        · skip
          rw [if_neg c_8] at hf
          refine lv_aload_n hx hb dX4_useLocal_76 rfl (lv_at hl 1 rfl) ?_
          refine lv_bipush (v := 8) hx hb dX4_useLocal_77 (by decide) ?_
          refine lv_lconst (v := 0) hx hb dX4_useLocal_79 (by decide) ?_
          refine lv_iload_n hx hb dX4_useLocal_80 rfl (lv_at hl 0 rfl) ?_
          refine lv_i2l (v := (v_5 : Int32).toInt64) hx hb dX4_useLocal_81 rfl ?_
          obtain ⟨z_9, _u, hfc, hf⟩ := cal_some hf
          have hFc := de_free hD hS hA
          refine va_callv (va_runV (As := [.int 8, .long 0, .long ((v_5 : Int32).toInt64)]) (rest := []) ⟨hx, hb, hml, hown, hts⟩ (de_X4_pushNumber l dC dI cy a sh n H.size F z_6 h0 8 0 ((v_5 : Int32).toInt64) hfc) (cwV 3 hts gX4_useLocal_X4_pushNumber rfl rfl rfl (by decide +kernel) ⟨Nat.le_of_ble_eq_true rfl, Nat.le_of_ble_eq_true rfl⟩) ⟨fun a U g mk q => by obtain ⟨q0, q1, qP, qK, qD, qN⟩ := q; exact ⟨q0, q1, qP, va_K.moved (u := U) (U := U.calling g mk a) (Vm.Alike.refl U.vm) qK, qD, qN.same rfl⟩, va_recv hK hP (ci := 4) (q0 := h0) rfl (Wd_ob kg_2 sg_2 (by decide)), fun U hU hW => ⟨rfl, by rw [hU], by rw [hU]; exact hP, va_K.moved hW.alike hK, hD.weaken (fun _ _ _ _ => trivial), hN.warm hW⟩⟩ rfl rfl hl.1 rfl (lv_room (Nat.le_of_ble_eq_true rfl)) dX4_useLocal_82 ⟨Nat.le_of_ble_eq_true rfl, Nat.le_of_ble_eq_true rfl⟩) hS (fun q _ h => hFc q h) hFc (fun u t H_10 locs ht hvm hw hB hz1 hk1 hS2 => ?_)
          obtain ⟨hP1, -, hD1⟩ := hB
          rw [ht] at hP1
          replace hD := hD1.weaken (fun _ _ _ h => hFc _ h)
          replace hP := hP1
          replace hS := hS2
          clear hP1 hD1 hS2 hFc hfc hz1 hk1 hvm ht
          obtain ⟨h8, h9⟩ := ret_some hf
          rw [h8]
          exact W.vret hx hb hr (fun t ht hW => ⟨⟨(), rfl, trivial, by rw [ht]; exact hP, va_K.moved hW.alike hK, hD⟩, hS.F ht⟩) hS.2.2 dX4_useLocal_85
        · skip
          rw [if_pos c_8] at hf
          refine lv_aload_n hx hb dX4_useLocal_61 rfl (lv_at hl 1 rfl) ?_
          obtain ⟨k_11, ek_11, hf⟩ := lnk_some hf
          refine va_get (D := (dC, dI)) (ci := 4) (v := .ref (a k_11)) (C := RX4) (T := TX4) (N := 18) hx hb hts iwd_X4_useLocal_X4 hown hK hP h0 (Wd_ob kg_2 sg_2 (by decide)) rfl 10 (by decide) (hts _ md_X4_useLocal_1) (fun _ h9 => h9) (fl_q rfl ek_11) dX4_useLocal_62 ?_
          refine lv_iload_n hx hb dX4_useLocal_65 rfl (lv_at hl 3 rfl) ?_
          refine lv_iconst (v := 0) hx hb dX4_useLocal_66 (by decide) ?_
          obtain ⟨g_12, hf⟩ := grd_some hf
          obtain ⟨kg_12, sg_12, ig_12⟩ := okA_at g_12
          refine va_iast hx hb hK hP hD hS k_11 1 (Wd_ai kg_12 sg_12) rfl ig_12 dX4_useLocal_67 (fun H_13 locs hP2 hD2 hS2 => ?_)
          rw [Wd_ti sg_12] at hP2 hD2
          obtain ⟨z_14, ez_14⟩ : ∃ w, w = si z_6 k_11 x1.toNatClampNeg 0 := ⟨_, rfl⟩
          rw [← ez_14] at hP2 hD2
          replace hf := lt_at ez_14 hf
          clear ez_14
          replace hP := hP2
          replace hD := hD2
          replace hS := hS2
          clear hP2 hD2 hS2
          refine lv_aload_n hx hb dX4_useLocal_68 rfl (lv_at hl 1 rfl) ?_
          refine lv_iload_n hx hb dX4_useLocal_69 rfl (lv_at hl 0 rfl) ?_
          obtain ⟨z_15, _u, hfc, hf⟩ := cal_some hf
          have hFc := de_free hD hS hA
          refine va_callv (va_runV (As := [.int v_5]) (rest := []) ⟨hx, hb, hml, hown, hts⟩ (de_X4_push l dC dI cy a sh n H_13.size F z_14 h0 v_5 hfc) (cwV 1 hts gX4_useLocal_X4_push rfl rfl rfl (by decide +kernel) ⟨Nat.le_of_ble_eq_true rfl, Nat.le_of_ble_eq_true rfl⟩) ⟨fun a U g mk q => by obtain ⟨q0, q1, qP, qK, qD, qN⟩ := q; exact ⟨q0, q1, qP, va_K.moved (u := U) (U := U.calling g mk a) (Vm.Alike.refl U.vm) qK, qD, qN.same rfl⟩, va_recv hK hP (ci := 4) (q0 := h0) rfl (Wd_ob kg_2 sg_2 (by decide)), fun U hU hW => ⟨rfl, by rw [hU], by rw [hU]; exact hP, va_K.moved hW.alike hK, hD.weaken (fun _ _ _ _ => trivial), hN.warm hW⟩⟩ rfl rfl hl.1 rfl (lv_room (Nat.le_of_ble_eq_true rfl)) dX4_useLocal_70 ⟨Nat.le_of_ble_eq_true rfl, Nat.le_of_ble_eq_true rfl⟩) hS (fun q _ h => hFc q h) hFc (fun u t H_16 locs ht hvm hw hB hz1 hk1 hS2 => ?_)
          obtain ⟨hP1, -, hD1⟩ := hB
          rw [ht] at hP1
          replace hD := hD1.weaken (fun _ _ _ h => hFc _ h)
          replace hP := hP1
          replace hS := hS2
          clear hP1 hD1 hS2 hFc hfc hz1 hk1 hvm ht
          refine lv_goto (tgt := 85) hx hb dX4_useLocal_73 (by decide) ?_
          obtain ⟨h8, h9⟩ := ret_some hf
          rw [h8]
          exact W.vret hx hb hr (fun t ht hW => ⟨⟨(), rfl, trivial, by rw [ht]; exact hP, va_K.moved hW.alike hK, hD⟩, hS.F ht⟩) hS.2.2 dX4_useLocal_85
      · skip
        rw [if_pos c_7] at hf
        refine lv_aload_n hx hb dX4_useLocal_47 rfl (lv_at hl 1 rfl) ?_
        refine lv_iload_n hx hb dX4_useLocal_48 rfl (lv_at hl 0 rfl) ?_
        obtain ⟨z_17, _u, hfc, hf⟩ := cal_some hf
        have hFc := de_free hD hS hA
        refine va_callv (va_runV (As := [.int v_5]) (rest := []) ⟨hx, hb, hml, hown, hts⟩ (de_X4_pushCopy l dC dI cy a sh n H.size F z_6 h0 v_5 hfc) (cwV 1 hts gX4_useLocal_X4_pushCopy rfl rfl rfl (by decide +kernel) ⟨Nat.le_of_ble_eq_true rfl, Nat.le_of_ble_eq_true rfl⟩) ⟨fun a U g mk q => by obtain ⟨q0, q1, qP, qK, qD, qN⟩ := q; exact ⟨q0, q1, qP, va_K.moved (u := U) (U := U.calling g mk a) (Vm.Alike.refl U.vm) qK, qD, qN.same rfl⟩, va_recv hK hP (ci := 4) (q0 := h0) rfl (Wd_ob kg_2 sg_2 (by decide)), fun U hU hW => ⟨rfl, by rw [hU], by rw [hU]; exact hP, va_K.moved hW.alike hK, hD.weaken (fun _ _ _ _ => trivial), hN.warm hW⟩⟩ rfl rfl hl.1 rfl (lv_room (Nat.le_of_ble_eq_true rfl)) dX4_useLocal_49 ⟨Nat.le_of_ble_eq_true rfl, Nat.le_of_ble_eq_true rfl⟩) hS (fun q _ h => hFc q h) hFc (fun u t H_18 locs ht hvm hw hB hz1 hk1 hS2 => ?_)
        obtain ⟨hP1, -, hD1⟩ := hB
        rw [ht] at hP1
        replace hD := hD1.weaken (fun _ _ _ h => hFc _ h)
        replace hP := hP1
        replace hS := hS2
        clear hP1 hD1 hS2 hFc hfc hz1 hk1 hvm ht
        refine lv_goto (tgt := 85) hx hb dX4_useLocal_52 (by decide) ?_
        obtain ⟨h8, h9⟩ := ret_some hf
        rw [h8]
        exact W.vret hx hb hr (fun t ht hW => ⟨⟨(), rfl, trivial, by rw [ht]; exact hP, va_K.moved hW.alike hK, hD⟩, hS.F ht⟩) hS.2.2 dX4_useLocal_85
    refine lv_if_ne (tgt := 41) hx hb dX4_useLocal_25 (by decide) (fun c_19 => ?_) (fun c_19 => ?_)
    · skip
      rw [if_neg c_19] at hf
      exact B41 (z) ls H locs ⟨lv_sub hl [0, 1, 2, 3] rfl, hP, hD, hS⟩ hf
    · skip
      rw [if_pos c_19] at hf
      refine lv_aload_n hx hb dX4_useLocal_28 rfl (lv_at hl 1 rfl) ?_
      obtain ⟨k_20, ek_20, hf⟩ := lnk_some hf
      refine va_get (D := (dC, dI)) (ci := 4) (v := .ref (a k_20)) (C := RX4) (T := TX4) (N := 18) hx hb hts iwd_X4_useLocal_X4 hown hK hP h0 (Wd_ob kg_2 sg_2 (by decide)) rfl 1 (by decide) (hts _ md_X4_useLocal_2) (fun _ h9 => h9) (fl_q rfl ek_20) dX4_useLocal_29 ?_
      refine lv_dup hx hb dX4_useLocal_32 rfl ?_
      obtain ⟨g_21, hf⟩ := grd_some hf
      obtain ⟨kg_21, sg_21⟩ := okO_at g_21
      refine va_get (D := (dC, dI)) (ci := 1) (v := .int (z.1 k_20 6)) (C := RX1) (T := TX1) (N := 7) hx hb hts iwd_X4_useLocal_X1 hown hK hP k_20 (Wd_ob kg_21 sg_21 (by decide)) rfl 6 (by decide) (hts _ md_X4_useLocal_3) (fun _ h9 => h9) (fl_at (t := 0) rfl) dX4_useLocal_33 ?_
      refine lv_iconst (v := 1) hx hb dX4_useLocal_36 (by decide) ?_
      refine lv_iadd hx hb dX4_useLocal_37 ?_
      refine va_put (D := (dC, dI)) (ci := 1) (v := .int ((z.1 k_20 6) + 1)) (ty := .int) (C := RX1) (T := TX1) (N := 7) hx hb hts iwd_X4_useLocal_X1 tyX1 tyX1_ok nmX1 hown hK hP hD hS k_20 (Wd_ob kg_21 sg_21 (by decide)) rfl 6 (by decide) (hts _ md_X4_useLocal_3) (fun _ h9 => h9) rfl (by decide +kernel) rfl rfl (by rw [fl_len]; decide) dX4_useLocal_38 (fun H_22 locs hP2 hD2 hS2 => ?_)
      rw [Wd_si sg_21 (by decide) rfl] at hP2 hD2
      obtain ⟨z_23, ez_23⟩ : ∃ w, w = si z k_20 6 ((z.1 k_20 6) + 1) := ⟨_, rfl⟩
      rw [← ez_23] at hP2 hD2
      replace hf := lt_at ez_23 hf
      clear ez_23
      replace hP := hP2
      replace hD := hD2
      replace hS := hS2
      clear hP2 hD2 hS2
      exact B41 (z_23) ls H_22 locs ⟨lv_sub hl [0, 1, 2, 3] rfl, hP, hD, hS⟩ hf
  · skip
    rw [if_pos c_1] at hf
    refine lv_aload_n hx hb dX4_useLocal_6 rfl (lv_at hl 0 rfl) ?_
    obtain ⟨g_24, hf⟩ := grd_some hf
    obtain ⟨kg_24, sg_24⟩ := okO_at g_24
    obtain ⟨k_25, ek_25, hf⟩ := lnk_some hf
    refine va_get (D := (dC, dI)) (ci := 4) (v := .ref (a k_25)) (C := RX4) (T := TX4) (N := 18) hx hb hts iwd_X4_useLocal_X4 hown hK hP h0 (Wd_ob kg_24 sg_24 (by decide)) rfl 10 (by decide) (hts _ md_X4_useLocal_1) (fun _ h9 => h9) (fl_q rfl ek_25) dX4_useLocal_7 ?_
    refine lv_iload_n hx hb dX4_useLocal_10 rfl (lv_at hl 2 rfl) ?_
    refine lv_aload_n hx hb dX4_useLocal_11 rfl (lv_at hl 0 rfl) ?_
    obtain ⟨z_26, r_27, hfc, hf⟩ := cal_some hf
    have hFc := de_free hD hS hA
    refine va_calli (va_runV (As := []) (rest := [.int x1, .ref (a k_25)]) ⟨hx, hb, hml, hown, hts⟩ (de_X4_pop l dC dI cy a sh n H.size F z h0 hfc) (cwV 0 hts gX4_useLocal_X4_pop rfl rfl rfl (by decide +kernel) ⟨Nat.le_of_ble_eq_true rfl, Nat.le_of_ble_eq_true rfl⟩) ⟨fun a U g mk q => by obtain ⟨q0, q1, qP, qK, qD, qN⟩ := q; exact ⟨q0, q1, qP, va_K.moved (u := U) (U := U.calling g mk a) (Vm.Alike.refl U.vm) qK, qD, qN.same rfl⟩, va_recv hK hP (ci := 4) (q0 := h0) rfl (Wd_ob kg_24 sg_24 (by decide)), fun U hU hW => ⟨rfl, by rw [hU], by rw [hU]; exact hP, va_K.moved hW.alike hK, hD.weaken (fun _ _ _ _ => trivial), hN.warm hW⟩⟩ rfl rfl hl.1 rfl (lv_room (Nat.le_of_ble_eq_true rfl)) dX4_useLocal_12 ⟨Nat.le_of_ble_eq_true rfl, Nat.le_of_ble_eq_true rfl⟩) hS (fun q _ h => hFc q h) hFc (fun rr u t H_28 locs ht hvm hw hB hz1 hk1 hS2 => ?_)
    rw [hw]
    clear hw
    obtain ⟨hP1, -, hD1⟩ := hB
    rw [ht] at hP1
    replace hD := hD1.weaken (fun _ _ _ h => hFc _ h)
    replace hP := hP1
    replace hS := hS2
    clear hP1 hD1 hS2 hFc hfc hz1 hk1 hvm ht
    obtain ⟨g_29, hf⟩ := grd_some hf
    obtain ⟨kg_29, sg_29, ig_29⟩ := okA_at g_29
    refine va_iast hx hb hK hP hD hS k_25 1 (Wd_ai kg_29 sg_29) rfl ig_29 dX4_useLocal_15 (fun H_30 locs hP2 hD2 hS2 => ?_)
    rw [Wd_ti sg_29] at hP2 hD2
    obtain ⟨z_31, ez_31⟩ : ∃ w, w = si z_26 k_25 x1.toNatClampNeg r_27 := ⟨_, rfl⟩
    rw [← ez_31] at hP2 hD2
    replace hf := lt_at ez_31 hf
    clear ez_31
    replace hP := hP2
    replace hD := hD2
    replace hS := hS2
    clear hP2 hD2 hS2
    obtain ⟨h8, h9⟩ := ret_some hf
    rw [h8]
    exact W.vret hx hb hr (fun t ht hW => ⟨⟨(), rfl, trivial, by rw [ht]; exact hP, va_K.moved hW.alike hK, hD⟩, hS.F ht⟩) hS.2.2 dX4_useLocal_16

theorem md_X18_unpack_1 : (.fieldLink RX18 40 "ResourceLedgerModel" "trees" "LResourceLedgerModel$Trees;" : Cond) ∈ wsX18_unpack := List.mem_of_getElem? (i := 1) rfl
theorem iwd_X18_unpack_X18 : ∀ w ∈ wsX180, w ∈ wsX18_unpack := fun _ h => List.mem_cons_of_mem _ (List.mem_append_left _ (List.mem_append_left _ (List.mem_append_right _ h)))
theorem iwd_X18_unpack_X15 : ∀ w ∈ wsX150, w ∈ wsX18_unpack := fun _ h => List.mem_cons_of_mem _ (List.mem_append_left _ (List.mem_append_right _ h))
theorem md_X18_unpack_2 : (.fieldLink RX18 369 "ResourceLedgerModel" "unit" "LResourceLedgerModel$Unit;" : Cond) ∈ wsX18_unpack := List.mem_of_getElem? (i := 2) rfl
set_option maxHeartbeats 4000000 in
set_option maxRecDepth 100000 in
theorem de_X18_unpack (l : Launch) (dC : Nat → ClassId) (dI : Nat → Nat → Nat) (cy : Nat → ClassId) (a : Nat → Nat) (sh : Nat → Nat × Nat) (n sz : Nat) (F : Nat) (z : St) (h0 : Nat) (x0 : Int32) {z8 : St} {r8 : Unit} (hf : fn_X18_unpack F sh n z h0 x0 = some (z8, r8)) : Met l yX18_unpack wsX18_unpack ({ frames := 4, cells := 0, slots := 0, locals := 86 }) (va_Pc [.ref (a h0), .int x0] (fun U => U.heap.size = sz ∧ va_P (dC, dI) vwCl (Wd cy a sh n z) U.heap ∧ va_K (dC, dI) vwCl (TYS cy) U ∧ va_D (fun _ => True) (Wd cy a sh n z) ∧ NK U)) (va_Qv (fun u : Unit => True) (fun u t => va_P (dC, dI) vwCl (Wd cy a sh n z8) t.heap ∧ va_K (dC, dI) vwCl (TYS cy) t ∧ va_D (va_A (Wd cy a sh n z) sz) (Wd cy a sh n z8)) (va_A (Wd cy a sh n z) sz)) 0 0 (va_A (Wd cy a sh n z) sz) := by
  refine Met.ofW (cc := cX18_unpack) (maxL := 5) (ret := none) (by decide) rfl ?_
  intro p e s m args below meth c s₁ B hml hv
  obtain ⟨rfl, hsz, hP, hK, hD0, hN⟩ := hv
  have hx := B.exec
  have hb := B.bytes
  have hr := B.returns
  have hts := atoms_spec (ws := wsX18_unpack) B.pre
  have hown : s.vm.findClass RX18 = some m.cls := findClass_of_methodNamed B.named
  have hlocks := B.notSynchronized
  subst hsz
  have hD := hD0.self (sz := s.heap.size)
  clear hD0
  generalize hAe : va_A (Wd cy a sh n z) s.heap.size = A at hD ⊢
  have hA : ∀ q : Nat, s.heap.size ≤ q → A q := fun q h => by rw [← hAe]; exact Or.inr h
  clear hAe
  have hS : va_S A s.heap s.heap [] := va_S.rf
  have hl := lv_entry ([.ref (a h0), .int x0]) (n := 5) (Nat.le_of_ble_eq_true rfl)
  rw [lg_entry_eq]
  generalize (lg_sl ([.ref (a h0), .int x0]) ++ List.replicate (5 - (lg_sl ([.ref (a h0), .int x0])).length) Slot.unset).toArray = ls at hl ⊢
  replace hl : lv_has ls 5 [(0, .ref (a h0)), (1, .int x0)] := hl
  unfold fn_X18_unpack at hf
  refine de_start hS hP (fun H locs hS hP => ?_)
  refine lv_aload_n hx hb dX18_unpack_0 rfl (lv_at hl 0 rfl) ?_
  refine lv_bipush (v := 6) hx hb dX18_unpack_1 (by decide) ?_
  obtain ⟨g_3, hf⟩ := grd_some hf
  obtain ⟨kg_3, sg_3⟩ := okO_at g_3
  obtain ⟨z_1, r_2, hfc, hf⟩ := cal_some hf
  have hFc := de_free hD hS hA
  refine va_calli (va_runV (As := [.int 6]) (rest := []) ⟨hx, hb, hml, hown, hts⟩ (de_X18_take l dC dI cy a sh n H.size F z h0 6 hfc) (cwV 1 hts gX18_unpack_X18_take rfl rfl rfl (by decide +kernel) ⟨Nat.le_of_ble_eq_true rfl, Nat.le_of_ble_eq_true rfl⟩) ⟨fun a U g mk q => by obtain ⟨q0, q1, qP, qK, qD, qN⟩ := q; exact ⟨q0, q1, qP, va_K.moved (u := U) (U := U.calling g mk a) (Vm.Alike.refl U.vm) qK, qD, qN.same rfl⟩, va_recv hK hP (ci := 18) (q0 := h0) rfl (Wd_ob kg_3 sg_3 (by decide)), fun U hU hW => ⟨rfl, by rw [hU], by rw [hU]; exact hP, va_K.moved hW.alike hK, hD.weaken (fun _ _ _ _ => trivial), hN.warm hW⟩⟩ rfl rfl hl.1 rfl (lv_room (Nat.le_of_ble_eq_true rfl)) dX18_unpack_3 ⟨Nat.le_of_ble_eq_true rfl, Nat.le_of_ble_eq_true rfl⟩) hS (fun q _ h => hFc q h) hFc (fun rr u t H_4 locs ht hvm hw hB hz1 hk1 hS2 => ?_)
  rw [hw]
  clear hw
  obtain ⟨hP1, -, hD1⟩ := hB
  rw [ht] at hP1
  replace hD := hD1.weaken (fun _ _ _ h => hFc _ h)
  replace hP := hP1
  replace hS := hS2
  clear hP1 hD1 hS2 hFc hfc hz1 hk1 hvm ht
  refine lv_istore_n (lv' := [(2, .int r_2), (0, .ref (a h0)), (1, .int x0)]) hx hb dX18_unpack_6 rfl hl (by decide) rfl (fun ls hl2 => ?_)
  replace hl := hl2
  clear hl2
  refine lv_aload_n hx hb dX18_unpack_7 rfl (lv_at hl 1 rfl) ?_
  obtain ⟨z_5, r_6, hfc, hf⟩ := cal_some hf
  have hFc := de_free hD hS hA
  refine va_calli (va_runV (As := []) (rest := []) ⟨hx, hb, hml, hown, hts⟩ (de_X18_goesOn l dC dI cy a sh n H_4.size F z_1 h0 hfc) (cwV 0 hts gX18_unpack_X18_goesOn rfl rfl rfl (by decide +kernel) ⟨Nat.le_of_ble_eq_true rfl, Nat.le_of_ble_eq_true rfl⟩) ⟨fun a U g mk q => by obtain ⟨q0, q1, qP, qK, qD, qN⟩ := q; exact ⟨q0, q1, qP, va_K.moved (u := U) (U := U.calling g mk a) (Vm.Alike.refl U.vm) qK, qD, qN.same rfl⟩, va_recv hK hP (ci := 18) (q0 := h0) rfl (Wd_ob kg_3 sg_3 (by decide)), fun U hU hW => ⟨rfl, by rw [hU], by rw [hU]; exact hP, va_K.moved hW.alike hK, hD.weaken (fun _ _ _ _ => trivial), hN.warm hW⟩⟩ rfl rfl hl.1 rfl (lv_room (Nat.le_of_ble_eq_true rfl)) dX18_unpack_8 ⟨Nat.le_of_ble_eq_true rfl, Nat.le_of_ble_eq_true rfl⟩) hS (fun q _ h => hFc q h) hFc (fun rr u t H_7 locs ht hvm hw hB hz1 hk1 hS2 => ?_)
  rw [hw]
  clear hw
  obtain ⟨hP1, -, hD1⟩ := hB
  rw [ht] at hP1
  replace hD := hD1.weaken (fun _ _ _ h => hFc _ h)
  replace hP := hP1
  replace hS := hS2
  clear hP1 hD1 hS2 hFc hfc hz1 hk1 hvm ht
  refine de_cut (h := 40) (fun (x : St) => []) (fun x ls H locs => lv_has ls 5 [(2, .int r_2), (0, .ref (a h0))] ∧ va_P (dC, dI) vwCl (Wd cy a sh n x) H ∧ va_D A (Wd cy a sh n x) ∧ va_S A s.heap H locs) (fun x => fn_X18_unpack_B40 F sh n h0 r_2 x) (z8, r8) ?_ (fun B40 => ?_)
  · intro x ls H locs hI hf
    obtain ⟨z_8, ez⟩ : ∃ w, w = x := ⟨_, rfl⟩
    subst ez
    obtain ⟨hl2, hP2, hD2, hS2⟩ := hI
    replace hl : lv_has ls 5 [(2, .int r_2), (0, .ref (a h0))] := hl2
    replace hP := hP2
    replace hD := hD2
    replace hS := hS2
    clear hl2 hP2 hD2 hS2
    replace hf := fn_X18_unpack_B40_s hf
    refine W.eq (g2 := F0 m 40 ls []) rfl ?_
    refine lv_aload_n hx hb dX18_unpack_40 rfl (lv_at hl 1 rfl) ?_
    obtain ⟨z_9, r_10, hfc, hf⟩ := cal_some hf
    have hFc := de_free hD hS hA
    refine va_calli (va_runV (As := []) (rest := []) ⟨hx, hb, hml, hown, hts⟩ (de_X18_goesOn l dC dI cy a sh n H.size F z_8 h0 hfc) (cwV 0 hts gX18_unpack_X18_goesOn rfl rfl rfl (by decide +kernel) ⟨Nat.le_of_ble_eq_true rfl, Nat.le_of_ble_eq_true rfl⟩) ⟨fun a U g mk q => by obtain ⟨q0, q1, qP, qK, qD, qN⟩ := q; exact ⟨q0, q1, qP, va_K.moved (u := U) (U := U.calling g mk a) (Vm.Alike.refl U.vm) qK, qD, qN.same rfl⟩, va_recv hK hP (ci := 18) (q0 := h0) rfl (Wd_ob kg_3 sg_3 (by decide)), fun U hU hW => ⟨rfl, by rw [hU], by rw [hU]; exact hP, va_K.moved hW.alike hK, hD.weaken (fun _ _ _ _ => trivial), hN.warm hW⟩⟩ rfl rfl hl.1 rfl (lv_room (Nat.le_of_ble_eq_true rfl)) dX18_unpack_41 ⟨Nat.le_of_ble_eq_true rfl, Nat.le_of_ble_eq_true rfl⟩) hS (fun q _ h => hFc q h) hFc (fun rr u t H_11 locs ht hvm hw hB hz1 hk1 hS2 => ?_)
    rw [hw]
    clear hw
    obtain ⟨hP1, -, hD1⟩ := hB
    rw [ht] at hP1
    replace hD := hD1.weaken (fun _ _ _ h => hFc _ h)
    replace hP := hP1
    replace hS := hS2
    clear hP1 hD1 hS2 hFc hfc hz1 hk1 hvm ht
    refine lv_if_ne (tgt := 48) hx hb dX18_unpack_44 (by decide) (fun c_12 => ?_) (fun c_12 => ?_)
    · skip
      rw [if_neg c_12] at hf
      refine lv_aload_n hx hb dX18_unpack_48 rfl (lv_at hl 1 rfl) ?_
      obtain ⟨k_13, ek_13, hf⟩ := lnk_some hf
      refine va_get (D := (dC, dI)) (ci := 18) (v := .ref (a k_13)) (C := RX18) (T := TX18) (N := 78) hx hb hts iwd_X18_unpack_X18 hown hK hP h0 (Wd_ob kg_3 sg_3 (by decide)) rfl 15 (by decide) (hts _ md_X18_unpack_1) (fun _ h9 => h9) (fl_q rfl ek_13) dX18_unpack_49 ?_
      obtain ⟨g_14, hf⟩ := grd_some hf
      obtain ⟨kg_14, sg_14⟩ := okO_at g_14
      obtain ⟨k_15, ek_15, hf⟩ := lnk_some hf
      refine va_getN (D := (dC, dI)) (ci := 15) (v := .ref (a k_15)) (C := RX15) (T := TX15) (N := 6) hx hb hts iwd_X18_unpack_X15 hown hK hP k_13 (Wd_ob kg_14 sg_14 (by decide)) rfl 3 (by decide) (va_Nw.use rfl (NK_f_X18_84 hN)) (fun _ h9 => h9) (fl_q rfl ek_15) dX18_unpack_52 ?_
      refine lv_iload_n hx hb dX18_unpack_55 rfl (lv_at hl 0 rfl) ?_
      obtain ⟨g_16, hf⟩ := grd_some hf
      obtain ⟨kg_16, sg_16, ig_16⟩ := okA_at g_16
      refine va_iald hx hb hK hP k_15 1 (Wd_ai kg_16 sg_16) rfl ig_16 dX18_unpack_56 ?_
      refine lv_topi (fun v_17 ev_17 => ?_)
      replace hf := lt_at ev_17 hf
      clear ev_17
      refine lv_istore_n (lv' := [(3, .int v_17), (2, .int r_2), (0, .ref (a h0))]) hx hb dX18_unpack_57 rfl hl (by decide) rfl (fun ls hl2 => ?_)
      replace hl := hl2
      clear hl2
      have hl0 : lv_has ls 5 [(3, .int v_17), (0, .ref (a h0))] := lv_sub hl [0, 2] rfl
      refine de_loop (h := 58) (fun (x : St × Int32) ls H locs => lv_has ls 5 [(3, .int x.2), (0, .ref (a h0))] ∧ va_P (dC, dI) vwCl (Wd cy a sh n x.1) H ∧ va_D A (Wd cy a sh n x.1) ∧ va_S A s.heap H locs) (fun f x => fn_X18_unpack_L58 F sh n h0 f x.1 x.2) (z8, r8) ?_ (fun _ => rfl) F (z_9, v_17) ls H_11 locs ⟨hl0, hP, hD, hS⟩ hf
      intro f_20 x ls H locs ih58 hI hf
      obtain ⟨z_19, p_18⟩ := x
      obtain ⟨hl2, hP2, hD2, hS2⟩ := hI
      replace hl : lv_has ls 5 [(3, .int p_18), (0, .ref (a h0))] := hl2
      replace hP := hP2
      replace hD := hD2
      replace hS := hS2
      clear hl2 hP2 hD2 hS2 hl0
      replace hf := fn_X18_unpack_L58_s hf
      refine lv_iload_n hx hb dX18_unpack_58 rfl (lv_at hl 0 rfl) ?_
      refine lv_iconst (v := (-1)) hx hb dX18_unpack_59 (by decide) ?_
      refine lv_icmp_eq (tgt := 96) hx hb dX18_unpack_60 (by decide) (fun c_21 => ?_) (fun c_21 => ?_)
      · skip
        rw [if_pos c_21] at hf
        obtain ⟨h8, h9⟩ := ret_some hf
        rw [h8]
        exact W.vret hx hb hr (fun t ht hW => ⟨⟨(), rfl, trivial, by rw [ht]; exact hP, va_K.moved hW.alike hK, hD⟩, hS.F ht⟩) hS.2.2 dX18_unpack_96
      · skip
        rw [if_neg c_21] at hf
        refine lv_aload_n hx hb dX18_unpack_63 rfl (lv_at hl 1 rfl) ?_
        obtain ⟨k_22, ek_22, hf⟩ := lnk_some hf
        refine va_get (D := (dC, dI)) (ci := 18) (v := .ref (a k_22)) (C := RX18) (T := TX18) (N := 78) hx hb hts iwd_X18_unpack_X18 hown hK hP h0 (Wd_ob kg_3 sg_3 (by decide)) rfl 15 (by decide) (hts _ md_X18_unpack_1) (fun _ h9 => h9) (fl_q rfl ek_22) dX18_unpack_64 ?_
        obtain ⟨g_23, hf⟩ := grd_some hf
        obtain ⟨kg_23, sg_23⟩ := okO_at g_23
        obtain ⟨k_24, ek_24, hf⟩ := lnk_some hf
        refine va_getN (D := (dC, dI)) (ci := 15) (v := .ref (a k_24)) (C := RX15) (T := TX15) (N := 6) hx hb hts iwd_X18_unpack_X15 hown hK hP k_22 (Wd_ob kg_23 sg_23 (by decide)) rfl 4 (by decide) (va_Nw.use rfl (NK_f_X18_87 hN)) (fun _ h9 => h9) (fl_q rfl ek_24) dX18_unpack_67 ?_
        refine lv_iload_n hx hb dX18_unpack_70 rfl (lv_at hl 0 rfl) ?_
        obtain ⟨g_25, hf⟩ := grd_some hf
        obtain ⟨kg_25, sg_25, ig_25⟩ := okA_at g_25
        refine va_iald hx hb hK hP k_24 1 (Wd_ai kg_25 sg_25) rfl ig_25 dX18_unpack_71 ?_
        refine lv_topi (fun v_26 ev_26 => ?_)
        replace hf := lt_at ev_26 hf
        clear ev_26
        refine lv_istore (lv' := [(4, .int v_26), (3, .int p_18), (0, .ref (a h0))]) hx hb dX18_unpack_72 hl (by decide) rfl (fun ls hl2 => ?_)
        replace hl := hl2
        clear hl2
        refine lv_aload_n hx hb dX18_unpack_74 rfl (lv_at hl 2 rfl) ?_
        obtain ⟨k_27, ek_27, hf⟩ := lnk_some hf
        refine va_get (D := (dC, dI)) (ci := 18) (v := .ref (a k_27)) (C := RX18) (T := TX18) (N := 78) hx hb hts iwd_X18_unpack_X18 hown hK hP h0 (Wd_ob kg_3 sg_3 (by decide)) rfl 15 (by decide) (hts _ md_X18_unpack_1) (fun _ h9 => h9) (fl_q rfl ek_27) dX18_unpack_75 ?_
        obtain ⟨g_28, hf⟩ := grd_some hf
        obtain ⟨kg_28, sg_28⟩ := okO_at g_28
        obtain ⟨k_29, ek_29, hf⟩ := lnk_some hf
        refine va_getN (D := (dC, dI)) (ci := 15) (v := .ref (a k_29)) (C := RX15) (T := TX15) (N := 6) hx hb hts iwd_X18_unpack_X15 hown hK hP k_27 (Wd_ob kg_28 sg_28 (by decide)) rfl 4 (by decide) (va_Nw.use rfl (NK_f_X18_87 hN)) (fun _ h9 => h9) (fl_q rfl ek_29) dX18_unpack_78 ?_
        refine lv_iload_n hx hb dX18_unpack_81 rfl (lv_at hl 1 rfl) ?_
        refine lv_iconst (v := (-1)) hx hb dX18_unpack_82 (by decide) ?_
        obtain ⟨g_30, hf⟩ := grd_some hf
        obtain ⟨kg_30, sg_30, ig_30⟩ := okA_at g_30
        refine va_iast hx hb hK hP hD hS k_29 1 (Wd_ai kg_30 sg_30) rfl ig_30 dX18_unpack_83 (fun H_31 locs hP2 hD2 hS2 => ?_)
        rw [Wd_ti sg_30] at hP2 hD2
        obtain ⟨z_32, ez_32⟩ : ∃ w, w = si z_19 k_29 p_18.toNatClampNeg (-1) := ⟨_, rfl⟩
        rw [← ez_32] at hP2 hD2
        replace hf := lt_at ez_32 hf
        clear ez_32
        replace hP := hP2
        replace hD := hD2
        replace hS := hS2
        clear hP2 hD2 hS2
        refine lv_aload_n hx hb dX18_unpack_84 rfl (lv_at hl 2 rfl) ?_
        refine lv_iload_n hx hb dX18_unpack_85 rfl (lv_at hl 1 rfl) ?_
        refine lv_iconst (v := 0) hx hb dX18_unpack_86 (by decide) ?_
        obtain ⟨z_33, _u, hfc, hf⟩ := cal_some hf
        have hFc := de_free hD hS hA
        refine va_callv (va_runV (As := [.int p_18, .int 0]) (rest := []) ⟨hx, hb, hml, hown, hts⟩ (de_X18_push l dC dI cy a sh n H_31.size F z_32 h0 p_18 0 hfc) (cwV 2 hts gX18_unpack_X18_push rfl rfl rfl (by decide +kernel) ⟨Nat.le_of_ble_eq_true rfl, Nat.le_of_ble_eq_true rfl⟩) ⟨fun a U g mk q => by obtain ⟨q0, q1, qP, qK, qD, qN⟩ := q; exact ⟨q0, q1, qP, va_K.moved (u := U) (U := U.calling g mk a) (Vm.Alike.refl U.vm) qK, qD, qN.same rfl⟩, va_recv hK hP (ci := 18) (q0 := h0) rfl (Wd_ob kg_3 sg_3 (by decide)), fun U hU hW => ⟨rfl, by rw [hU], by rw [hU]; exact hP, va_K.moved hW.alike hK, hD.weaken (fun _ _ _ _ => trivial), hN.warm hW⟩⟩ rfl rfl hl.1 rfl (lv_room (Nat.le_of_ble_eq_true rfl)) dX18_unpack_87 ⟨Nat.le_of_ble_eq_true rfl, Nat.le_of_ble_eq_true rfl⟩) hS (fun q _ h => hFc q h) hFc (fun u t H_34 locs ht hvm hw hB hz1 hk1 hS2 => ?_)
        obtain ⟨hP1, -, hD1⟩ := hB
        rw [ht] at hP1
        replace hD := hD1.weaken (fun _ _ _ h => hFc _ h)
        replace hP := hP1
        replace hS := hS2
        clear hP1 hD1 hS2 hFc hfc hz1 hk1 hvm ht
        refine lv_iload hx hb dX18_unpack_90 (lv_at hl 0 rfl) ?_
        refine lv_istore_n (lv' := [(3, .int v_26), (4, .int v_26), (0, .ref (a h0))]) hx hb dX18_unpack_92 rfl hl (by decide) rfl (fun ls hl2 => ?_)
        replace hl := hl2
        clear hl2
        refine lv_goto (tgt := 58) hx hb dX18_unpack_93 (by decide) ?_
        exact ih58 (z_33, v_26) ls H_34 locs ⟨lv_sub hl [0, 2] rfl, hP, hD, hS⟩ hf
    · skip
      rw [if_pos c_12] at hf
      obtain ⟨h8, h9⟩ := ret_some hf
      rw [h8]
      exact W.vret hx hb hr (fun t ht hW => ⟨⟨(), rfl, trivial, by rw [ht]; exact hP, va_K.moved hW.alike hK, hD⟩, hS.F ht⟩) hS.2.2 dX18_unpack_47
  refine lv_if_eq (tgt := 40) hx hb dX18_unpack_11 (by decide) (fun c_35 => ?_) (fun c_35 => ?_)
  · skip
    rw [if_pos c_35] at hf
    exact B40 (z_5) ls H_7 locs ⟨lv_sub hl [0, 1] rfl, hP, hD, hS⟩ hf
  · skip
    rw [if_neg c_35] at hf
    refine lv_aload_n hx hb dX18_unpack_14 rfl (lv_at hl 1 rfl) ?_
    obtain ⟨k_36, ek_36, hf⟩ := lnk_some hf
    refine va_get (D := (dC, dI)) (ci := 18) (v := .ref (a k_36)) (C := RX18) (T := TX18) (N := 78) hx hb hts iwd_X18_unpack_X18 hown hK hP h0 (Wd_ob kg_3 sg_3 (by decide)) rfl 15 (by decide) (hts _ md_X18_unpack_1) (fun _ h9 => h9) (fl_q rfl ek_36) dX18_unpack_15 ?_
    obtain ⟨g_37, hf⟩ := grd_some hf
    obtain ⟨kg_37, sg_37⟩ := okO_at g_37
    obtain ⟨k_38, ek_38, hf⟩ := lnk_some hf
    refine va_getN (D := (dC, dI)) (ci := 15) (v := .ref (a k_38)) (C := RX15) (T := TX15) (N := 6) hx hb hts iwd_X18_unpack_X15 hown hK hP k_36 (Wd_ob kg_37 sg_37 (by decide)) rfl 2 (by decide) (va_Nw.use rfl (NK_f_X18_77 hN)) (fun _ h9 => h9) (fl_q rfl ek_38) dX18_unpack_18 ?_
    refine lv_iload_n hx hb dX18_unpack_21 rfl (lv_at hl 0 rfl) ?_
    obtain ⟨g_39, hf⟩ := grd_some hf
    obtain ⟨kg_39, sg_39, ig_39⟩ := okA_at g_39
    refine va_lald hx hb hK hP k_38 2 (Wd_al kg_39 sg_39) rfl ig_39 dX18_unpack_22 ?_
    refine lv_aload_n hx hb dX18_unpack_23 rfl (lv_at hl 1 rfl) ?_
    obtain ⟨k_40, ek_40, hf⟩ := lnk_some hf
    refine va_get (D := (dC, dI)) (ci := 18) (v := .ref (a k_40)) (C := RX18) (T := TX18) (N := 78) hx hb hts iwd_X18_unpack_X18 hown hK hP h0 (Wd_ob kg_3 sg_3 (by decide)) rfl 48 (by decide) (hts _ md_X18_unpack_2) (fun _ h9 => h9) (fl_q rfl ek_40) dX18_unpack_24 ?_
    refine lv_iload_n hx hb dX18_unpack_27 rfl (lv_at hl 2 rfl) ?_
    obtain ⟨g_43, hf⟩ := grd_some hf
    obtain ⟨kg_43, sg_43⟩ := okO_at g_43
    obtain ⟨z_41, r_42, hfc, hf⟩ := cal_some hf
    have hFc := de_free hD hS hA
    refine va_calli (va_runV (As := [.int x0]) (rest := [.long (z_5.2.1 k_38 r_2.toNatClampNeg)]) ⟨hx, hb, hml, hown, hts⟩ (de_X16_identity l dC dI cy a sh n H_7.size F z_5 k_40 x0 hfc) (cwV 1 hts gX18_unpack_X16_identity rfl rfl rfl (by decide +kernel) ⟨Nat.le_of_ble_eq_true rfl, Nat.le_of_ble_eq_true rfl⟩) ⟨fun a U g mk q => by obtain ⟨q0, q1, qP, qK, qD, qN⟩ := q; exact ⟨q0, q1, qP, va_K.moved (u := U) (U := U.calling g mk a) (Vm.Alike.refl U.vm) qK, qD, qN.same rfl⟩, va_recv hK hP (ci := 16) (q0 := k_40) rfl (Wd_ob kg_43 sg_43 (by decide)), fun U hU hW => ⟨rfl, by rw [hU], by rw [hU]; exact hP, va_K.moved hW.alike hK, hD.weaken (fun _ _ _ _ => trivial), hN.warm hW⟩⟩ rfl rfl hl.1 rfl (lv_room (Nat.le_of_ble_eq_true rfl)) dX18_unpack_28 ⟨Nat.le_of_ble_eq_true rfl, Nat.le_of_ble_eq_true rfl⟩) hS (fun q _ h => hFc q h) hFc (fun rr u t H_44 locs ht hvm hw hB hz1 hk1 hS2 => ?_)
    rw [hw]
    clear hw
    obtain ⟨hP1, -, hD1⟩ := hB
    rw [ht] at hP1
    replace hD := hD1.weaken (fun _ _ _ h => hFc _ h)
    replace hP := hP1
    replace hS := hS2
    clear hP1 hD1 hS2 hFc hfc hz1 hk1 hvm ht
    refine lv_i2l (v := (r_42 : Int32).toInt64) hx hb dX18_unpack_31 rfl ?_
    refine W.lcmp hx hb dX18_unpack_32 ?_
    refine lv_if_eq (tgt := 40) hx hb dX18_unpack_33 (by decide) (fun c_45 => ?_) (fun c_45 => ?_)
    · skip
      rw [lg_cmp_eq] at c_45
      rw [if_pos c_45] at hf
      exact B40 (z_41) ls H_44 locs ⟨lv_sub hl [0, 1] rfl, hP, hD, hS⟩ hf
    · skip
      rw [lg_cmp_eq] at c_45
      rw [if_neg c_45] at hf
      refine lv_aload_n hx hb dX18_unpack_36 rfl (lv_at hl 1 rfl) ?_
      obtain ⟨z_46, _u, hfc, hf⟩ := cal_some hf
      have hFc := de_free hD hS hA
      refine va_callv (va_runV (As := []) (rest := []) ⟨hx, hb, hml, hown, hts⟩ (de_X18_slip l dC dI cy a sh n H_44.size F z_41 h0 hfc) (cwV 0 hts gX18_unpack_X18_slip rfl rfl rfl (by decide +kernel) ⟨Nat.le_of_ble_eq_true rfl, Nat.le_of_ble_eq_true rfl⟩) ⟨fun a U g mk q => by obtain ⟨q0, q1, qP, qK, qD, qN⟩ := q; exact ⟨q0, q1, qP, va_K.moved (u := U) (U := U.calling g mk a) (Vm.Alike.refl U.vm) qK, qD, qN.same rfl⟩, va_recv hK hP (ci := 18) (q0 := h0) rfl (Wd_ob kg_3 sg_3 (by decide)), fun U hU hW => ⟨rfl, by rw [hU], by rw [hU]; exact hP, va_K.moved hW.alike hK, hD.weaken (fun _ _ _ _ => trivial), hN.warm hW⟩⟩ rfl rfl hl.1 rfl (lv_room (Nat.le_of_ble_eq_true rfl)) dX18_unpack_37 ⟨Nat.le_of_ble_eq_true rfl, Nat.le_of_ble_eq_true rfl⟩) hS (fun q _ h => hFc q h) hFc (fun u t H_47 locs ht hvm hw hB hz1 hk1 hS2 => ?_)
      obtain ⟨hP1, -, hD1⟩ := hB
      rw [ht] at hP1
      replace hD := hD1.weaken (fun _ _ _ h => hFc _ h)
      replace hP := hP1
      replace hS := hS2
      clear hP1 hD1 hS2 hFc hfc hz1 hk1 hvm ht
      exact B40 (z_46) ls H_47 locs ⟨lv_sub hl [0, 1] rfl, hP, hD, hS⟩ hf

theorem md_X4_steer_3 : (.fieldLink RX4 46 "ResourceLedger$Machine" "nexts" "[I" : Cond) ∈ wsX4_steer := List.mem_of_getElem? (i := 3) rfl
theorem iwd_X4_steer_X4 : ∀ w ∈ wsX40, w ∈ wsX4_steer := fun _ h => List.mem_cons_of_mem _ (List.mem_append_left _ (List.mem_append_left _ (List.mem_append_right _ h)))
theorem md_X4_steer_4 : (.fieldLink RX4 100 "ResourceLedger$Machine" "top" "I" : Cond) ∈ wsX4_steer := List.mem_of_getElem? (i := 4) rfl
theorem md_X4_steer_1 : (.fieldLink RX4 12 "ResourceLedger$Machine" "heap" "LResourceLedger$Heap;" : Cond) ∈ wsX4_steer := List.mem_of_getElem? (i := 1) rfl
theorem md_X4_steer_2 : (.fieldLink RX4 163 "ResourceLedger$Heap" "low" "[J" : Cond) ∈ wsX4_steer := List.mem_of_getElem? (i := 2) rfl
theorem iwd_X4_steer_X1 : ∀ w ∈ wsX10, w ∈ wsX4_steer := fun _ h => List.mem_cons_of_mem _ (List.mem_append_left _ (List.mem_append_right _ h))
set_option maxHeartbeats 4000000 in
set_option maxRecDepth 100000 in
theorem de_X4_steer (l : Launch) (dC : Nat → ClassId) (dI : Nat → Nat → Nat) (cy : Nat → ClassId) (a : Nat → Nat) (sh : Nat → Nat × Nat) (n sz : Nat) (F : Nat) (z : St) (h0 : Nat) (x0 : Int32) (x1 : Int32) {z8 : St} {r8 : Unit} (hf : fn_X4_steer F sh n z h0 x0 x1 = some (z8, r8)) : Met l yX4_steer wsX4_steer ({ frames := 4, cells := 0, slots := 0, locals := 91 }) (va_Pc [.ref (a h0), .int x0, .int x1] (fun U => U.heap.size = sz ∧ va_P (dC, dI) vwCl (Wd cy a sh n z) U.heap ∧ va_K (dC, dI) vwCl (TYS cy) U ∧ va_D (fun _ => True) (Wd cy a sh n z) ∧ NK U)) (va_Qv (fun u : Unit => True) (fun u t => va_P (dC, dI) vwCl (Wd cy a sh n z8) t.heap ∧ va_K (dC, dI) vwCl (TYS cy) t ∧ va_D (va_A (Wd cy a sh n z) sz) (Wd cy a sh n z8)) (va_A (Wd cy a sh n z) sz)) 0 0 (va_A (Wd cy a sh n z) sz) := by
  refine Met.ofW (cc := cX4_steer) (maxL := 3) (ret := none) (by decide) rfl ?_
  intro p e s m args below meth c s₁ B hml hv
  obtain ⟨rfl, hsz, hP, hK, hD0, hN⟩ := hv
  have hx := B.exec
  have hb := B.bytes
  have hr := B.returns
  have hts := atoms_spec (ws := wsX4_steer) B.pre
  have hown : s.vm.findClass RX4 = some m.cls := findClass_of_methodNamed B.named
  have hlocks := B.notSynchronized
  subst hsz
  have hD := hD0.self (sz := s.heap.size)
  clear hD0
  generalize hAe : va_A (Wd cy a sh n z) s.heap.size = A at hD ⊢
  have hA : ∀ q : Nat, s.heap.size ≤ q → A q := fun q h => by rw [← hAe]; exact Or.inr h
  clear hAe
  have hS : va_S A s.heap s.heap [] := va_S.rf
  have hl := lv_entry ([.ref (a h0), .int x0, .int x1]) (n := 3) (Nat.le_of_ble_eq_true rfl)
  rw [lg_entry_eq]
  generalize (lg_sl ([.ref (a h0), .int x0, .int x1]) ++ List.replicate (3 - (lg_sl ([.ref (a h0), .int x0, .int x1])).length) Slot.unset).toArray = ls at hl ⊢
  replace hl : lv_has ls 3 [(0, .ref (a h0)), (1, .int x0), (2, .int x1)] := hl
  unfold fn_X4_steer at hf
  refine de_start hS hP (fun H locs hS hP => ?_)
  refine lv_iload_n hx hb dX4_steer_0 rfl (lv_at hl 1 rfl) ?_
  refine lv_if_ne (tgt := 12) hx hb dX4_steer_1 (by decide) (fun c_1 => ?_) (fun c_1 => ?_)
  · skip
    rw [if_neg c_1] at hf
    refine lv_iload_n hx hb dX4_steer_12 rfl (lv_at hl 1 rfl) ?_
    refine lv_iconst (v := 1) hx hb dX4_steer_13 (by decide) ?_
    refine lv_icmp_ne (tgt := 24) hx hb dX4_steer_14 (by decide) (fun c_2 => ?_) (fun c_2 => ?_)
    · skip
      rw [if_neg c_2] at hf
      refine lv_iload_n hx hb dX4_steer_24 rfl (lv_at hl 1 rfl) ?_
      refine lv_bipush (v := 45) hx hb dX4_steer_25 (by decide) ?_
      refine lv_icmp_ne (tgt := 51) hx hb dX4_steer_27 (by decide) (fun c_3 => ?_) (fun c_3 => ?_)
      · skip
        rw [if_neg c_3] at hf
        refine lv_iload_n hx hb dX4_steer_51 rfl (lv_at hl 1 rfl) ?_
        refine lv_iconst (v := 2) hx hb dX4_steer_52 (by decide) ?_
        refine lv_icmp_eq (tgt := 92) hx hb dX4_steer_53 (by decide) (fun c_4 => ?_) (fun c_4 => ?_)
        · skip
          rw [if_pos c_4] at hf
          refine lv_aload_n hx hb dX4_steer_92 rfl (lv_at hl 0 rfl) ?_
          obtain ⟨g_5, hf⟩ := grd_some hf
          obtain ⟨kg_5, sg_5⟩ := okO_at g_5
          obtain ⟨k_6, ek_6, hf⟩ := lnk_some hf
          refine va_get (D := (dC, dI)) (ci := 4) (v := .ref (a k_6)) (C := RX4) (T := TX4) (N := 18) hx hb hts iwd_X4_steer_X4 hown hK hP h0 (Wd_ob kg_5 sg_5 (by decide)) rfl 8 (by decide) (hts _ md_X4_steer_3) (fun _ h9 => h9) (fl_q rfl ek_6) dX4_steer_93 ?_
          refine lv_aload_n hx hb dX4_steer_96 rfl (lv_at hl 0 rfl) ?_
          refine va_get (D := (dC, dI)) (ci := 4) (v := .int (z.1 h0 12)) (C := RX4) (T := TX4) (N := 18) hx hb hts iwd_X4_steer_X4 hown hK hP h0 (Wd_ob kg_5 sg_5 (by decide)) rfl 12 (by decide) (hts _ md_X4_steer_4) (fun _ h9 => h9) (fl_at (t := 0) rfl) dX4_steer_97 ?_
          refine lv_iload_n hx hb dX4_steer_100 rfl (lv_at hl 2 rfl) ?_
          obtain ⟨g_7, hf⟩ := grd_some hf
          obtain ⟨kg_7, sg_7, ig_7⟩ := okA_at g_7
          refine va_iast hx hb hK hP hD hS k_6 1 (Wd_ai kg_7 sg_7) rfl ig_7 dX4_steer_101 (fun H_8 locs hP2 hD2 hS2 => ?_)
          rw [Wd_ti sg_7] at hP2 hD2
          obtain ⟨z_9, ez_9⟩ : ∃ w, w = si z k_6 (z.1 h0 12).toNatClampNeg x1 := ⟨_, rfl⟩
          rw [← ez_9] at hP2 hD2
          replace hf := lt_at ez_9 hf
          clear ez_9
          replace hP := hP2
          replace hD := hD2
          replace hS := hS2
          clear hP2 hD2 hS2
          obtain ⟨h8, h9⟩ := ret_some hf
          rw [h8]
          exact W.vret hx hb hr (fun t ht hW => ⟨⟨(), rfl, trivial, by rw [ht]; exact hP, va_K.moved hW.alike hK, hD⟩, hS.F ht⟩) hS.2.2 dX4_steer_102
        · skip
          rw [if_neg c_4] at hf
          refine lv_aload_n hx hb dX4_steer_56 rfl (lv_at hl 0 rfl) ?_
          obtain ⟨g_10, hf⟩ := grd_some hf
          obtain ⟨kg_10, sg_10⟩ := okO_at g_10
          obtain ⟨k_11, ek_11, hf⟩ := lnk_some hf
          refine va_get (D := (dC, dI)) (ci := 4) (v := .ref (a k_11)) (C := RX4) (T := TX4) (N := 18) hx hb hts iwd_X4_steer_X4 hown hK hP h0 (Wd_ob kg_10 sg_10 (by decide)) rfl 1 (by decide) (hts _ md_X4_steer_1) (fun _ h9 => h9) (fl_q rfl ek_11) dX4_steer_57 ?_
          obtain ⟨g_12, hf⟩ := grd_some hf
          obtain ⟨kg_12, sg_12⟩ := okO_at g_12
          obtain ⟨k_13, ek_13, hf⟩ := lnk_some hf
          refine va_get (D := (dC, dI)) (ci := 1) (v := .ref (a k_13)) (C := RX1) (T := TX1) (N := 7) hx hb hts iwd_X4_steer_X1 hown hK hP k_11 (Wd_ob kg_12 sg_12 (by decide)) rfl 1 (by decide) (hts _ md_X4_steer_2) (fun _ h9 => h9) (fl_q rfl ek_13) dX4_steer_60 ?_
          refine lv_aload_n hx hb dX4_steer_63 rfl (lv_at hl 0 rfl) ?_
          refine lv_iconst (v := 1) hx hb dX4_steer_64 (by decide) ?_
          obtain ⟨z_14, r_15, hfc, hf⟩ := cal_some hf
          have hFc := de_free hD hS hA
          refine va_calli (va_runV (As := [.int 1]) (rest := [.ref (a k_13)]) ⟨hx, hb, hml, hown, hts⟩ (de_X4_popOf l dC dI cy a sh n H.size F z h0 1 hfc) (cwV 1 hts gX4_steer_X4_popOf rfl rfl rfl (by decide +kernel) ⟨Nat.le_of_ble_eq_true rfl, Nat.le_of_ble_eq_true rfl⟩) ⟨fun a U g mk q => by obtain ⟨q0, q1, qP, qK, qD, qN⟩ := q; exact ⟨q0, q1, qP, va_K.moved (u := U) (U := U.calling g mk a) (Vm.Alike.refl U.vm) qK, qD, qN.same rfl⟩, va_recv hK hP (ci := 4) (q0 := h0) rfl (Wd_ob kg_10 sg_10 (by decide)), fun U hU hW => ⟨rfl, by rw [hU], by rw [hU]; exact hP, va_K.moved hW.alike hK, hD.weaken (fun _ _ _ _ => trivial), hN.warm hW⟩⟩ rfl rfl hl.1 rfl (lv_room (Nat.le_of_ble_eq_true rfl)) dX4_steer_65 ⟨Nat.le_of_ble_eq_true rfl, Nat.le_of_ble_eq_true rfl⟩) hS (fun q _ h => hFc q h) hFc (fun rr u t H_16 locs ht hvm hw hB hz1 hk1 hS2 => ?_)
          rw [hw]
          clear hw
          obtain ⟨hP1, -, hD1⟩ := hB
          rw [ht] at hP1
          replace hD := hD1.weaken (fun _ _ _ h => hFc _ h)
          replace hP := hP1
          replace hS := hS2
          clear hP1 hD1 hS2 hFc hfc hz1 hk1 hvm ht
          obtain ⟨g_17, hf⟩ := grd_some hf
          obtain ⟨kg_17, sg_17, ig_17⟩ := okA_at g_17
          refine va_lald hx hb hK hP k_13 2 (Wd_al kg_17 sg_17) rfl ig_17 dX4_steer_68 ?_
          refine lv_lconst (v := 1) hx hb dX4_steer_69 (by decide) ?_
          refine W.lcmp hx hb dX4_steer_70 ?_
          refine de_cut (h := 79) (fun (x : St × Int32) => [.int x.2]) (fun x ls H locs => lv_has ls 3 [(0, .ref (a h0)), (1, .int x0), (2, .int x1)] ∧ va_P (dC, dI) vwCl (Wd cy a sh n x.1) H ∧ va_D A (Wd cy a sh n x.1) ∧ va_S A s.heap H locs) (fun x => fn_X4_steer_B79 F sh n x0 h0 x1 x.1 x.2) (z8, r8) ?_ (fun B79 => ?_)
          · intro x ls H locs hI hf
            obtain ⟨z_19, p_18⟩ := x
            obtain ⟨hl2, hP2, hD2, hS2⟩ := hI
            replace hl : lv_has ls 3 [(0, .ref (a h0)), (1, .int x0), (2, .int x1)] := hl2
            replace hP := hP2
            replace hD := hD2
            replace hS := hS2
            clear hl2 hP2 hD2 hS2
            replace hf := fn_X4_steer_B79_s hf
            refine W.eq (g2 := F0 m 79 ls [.int p_18]) rfl ?_
            refine lv_iload_n hx hb dX4_steer_79 rfl (lv_at hl 1 rfl) ?_
            refine lv_iconst (v := 3) hx hb dX4_steer_80 (by decide) ?_
            refine de_cut (h := 89) (fun (x : St × Int32) => [.int x.2, .int p_18]) (fun x ls H locs => lv_has ls 3 [(0, .ref (a h0)), (2, .int x1)] ∧ va_P (dC, dI) vwCl (Wd cy a sh n x.1) H ∧ va_D A (Wd cy a sh n x.1) ∧ va_S A s.heap H locs) (fun x => fn_X4_steer_B89 F sh n p_18 h0 x1 x.1 x.2) (z8, r8) ?_ (fun B89 => ?_)
            · intro x ls H locs hI hf
              obtain ⟨z_21, p_20⟩ := x
              obtain ⟨hl2, hP2, hD2, hS2⟩ := hI
              replace hl : lv_has ls 3 [(0, .ref (a h0)), (2, .int x1)] := hl2
              replace hP := hP2
              replace hD := hD2
              replace hS := hS2
              clear hl2 hP2 hD2 hS2
              replace hf := fn_X4_steer_B89_s hf
              refine W.eq (g2 := F0 m 89 ls [.int p_20, .int p_18]) rfl ?_
              refine lv_icmp_ne (tgt := 102) hx hb dX4_steer_89 (by decide) (fun c_22 => ?_) (fun c_22 => ?_)
              · skip
                rw [if_neg c_22] at hf
                obtain ⟨h8, h9⟩ := ret_some hf
                rw [h8]
                exact W.vret hx hb hr (fun t ht hW => ⟨⟨(), rfl, trivial, by rw [ht]; exact hP, va_K.moved hW.alike hK, hD⟩, hS.F ht⟩) hS.2.2 dX4_steer_102
              · skip
                rw [if_pos c_22] at hf
                refine lv_aload_n hx hb dX4_steer_92 rfl (lv_at hl 0 rfl) ?_
                obtain ⟨k_23, ek_23, hf⟩ := lnk_some hf
                refine va_get (D := (dC, dI)) (ci := 4) (v := .ref (a k_23)) (C := RX4) (T := TX4) (N := 18) hx hb hts iwd_X4_steer_X4 hown hK hP h0 (Wd_ob kg_10 sg_10 (by decide)) rfl 8 (by decide) (hts _ md_X4_steer_3) (fun _ h9 => h9) (fl_q rfl ek_23) dX4_steer_93 ?_
                refine lv_aload_n hx hb dX4_steer_96 rfl (lv_at hl 0 rfl) ?_
                refine va_get (D := (dC, dI)) (ci := 4) (v := .int (z_21.1 h0 12)) (C := RX4) (T := TX4) (N := 18) hx hb hts iwd_X4_steer_X4 hown hK hP h0 (Wd_ob kg_10 sg_10 (by decide)) rfl 12 (by decide) (hts _ md_X4_steer_4) (fun _ h9 => h9) (fl_at (t := 0) rfl) dX4_steer_97 ?_
                refine lv_iload_n hx hb dX4_steer_100 rfl (lv_at hl 1 rfl) ?_
                obtain ⟨g_24, hf⟩ := grd_some hf
                obtain ⟨kg_24, sg_24, ig_24⟩ := okA_at g_24
                refine va_iast hx hb hK hP hD hS k_23 1 (Wd_ai kg_24 sg_24) rfl ig_24 dX4_steer_101 (fun H_25 locs hP2 hD2 hS2 => ?_)
                rw [Wd_ti sg_24] at hP2 hD2
                obtain ⟨z_26, ez_26⟩ : ∃ w, w = si z_21 k_23 (z_21.1 h0 12).toNatClampNeg x1 := ⟨_, rfl⟩
                rw [← ez_26] at hP2 hD2
                replace hf := lt_at ez_26 hf
                clear ez_26
                replace hP := hP2
                replace hD := hD2
                replace hS := hS2
                clear hP2 hD2 hS2
                obtain ⟨h8, h9⟩ := ret_some hf
                rw [h8]
                exact W.vret hx hb hr (fun t ht hW => ⟨⟨(), rfl, trivial, by rw [ht]; exact hP, va_K.moved hW.alike hK, hD⟩, hS.F ht⟩) hS.2.2 dX4_steer_102
            refine lv_icmp_ne (tgt := 88) hx hb dX4_steer_81 (by decide) (fun c_27 => ?_) (fun c_27 => ?_)
            · skip
              rw [if_neg c_27] at hf
              refine lv_iconst (v := 0) hx hb dX4_steer_88 (by decide) ?_
              exact B89 (z_19, 0) ls H locs ⟨lv_sub hl [0, 2] rfl, hP, hD, hS⟩ hf
            · skip
              rw [if_pos c_27] at hf
              refine lv_iconst (v := 1) hx hb dX4_steer_84 (by decide) ?_
              refine lv_goto (tgt := 89) hx hb dX4_steer_85 (by decide) ?_
              exact B89 (z_19, 1) ls H locs ⟨lv_sub hl [0, 2] rfl, hP, hD, hS⟩ hf
          refine lv_if_ne (tgt := 78) hx hb dX4_steer_71 (by decide) (fun c_28 => ?_) (fun c_28 => ?_)
          · skip
            rw [lg_cmp_eq] at c_28
            rw [if_neg c_28] at hf
            refine lv_iconst (v := 0) hx hb dX4_steer_78 (by decide) ?_
            exact B79 (z_14, 0) ls H_16 locs ⟨lv_sub hl [0, 1, 2] rfl, hP, hD, hS⟩ hf
          · skip
            rw [lg_cmp_eq] at c_28
            rw [if_pos c_28] at hf
            refine lv_iconst (v := 1) hx hb dX4_steer_74 (by decide) ?_
            refine lv_goto (tgt := 79) hx hb dX4_steer_75 (by decide) ?_
            exact B79 (z_14, 1) ls H_16 locs ⟨lv_sub hl [0, 1, 2] rfl, hP, hD, hS⟩ hf
      · skip
        rw [if_pos c_3] at hf
        refine lv_aload_n hx hb dX4_steer_30 rfl (lv_at hl 0 rfl) ?_
        refine lv_iconst (v := 1) hx hb dX4_steer_31 (by decide) ?_
        refine lv_aload_n hx hb dX4_steer_32 rfl (lv_at hl 0 rfl) ?_
        obtain ⟨g_29, hf⟩ := grd_some hf
        obtain ⟨kg_29, sg_29⟩ := okO_at g_29
        obtain ⟨k_30, ek_30, hf⟩ := lnk_some hf
        refine va_get (D := (dC, dI)) (ci := 4) (v := .ref (a k_30)) (C := RX4) (T := TX4) (N := 18) hx hb hts iwd_X4_steer_X4 hown hK hP h0 (Wd_ob kg_29 sg_29 (by decide)) rfl 1 (by decide) (hts _ md_X4_steer_1) (fun _ h9 => h9) (fl_q rfl ek_30) dX4_steer_33 ?_
        obtain ⟨g_31, hf⟩ := grd_some hf
        obtain ⟨kg_31, sg_31⟩ := okO_at g_31
        obtain ⟨k_32, ek_32, hf⟩ := lnk_some hf
        refine va_get (D := (dC, dI)) (ci := 1) (v := .ref (a k_32)) (C := RX1) (T := TX1) (N := 7) hx hb hts iwd_X4_steer_X1 hown hK hP k_30 (Wd_ob kg_31 sg_31 (by decide)) rfl 1 (by decide) (hts _ md_X4_steer_2) (fun _ h9 => h9) (fl_q rfl ek_32) dX4_steer_36 ?_
        refine lv_aload_n hx hb dX4_steer_39 rfl (lv_at hl 0 rfl) ?_
        refine lv_iconst (v := 3) hx hb dX4_steer_40 (by decide) ?_
        obtain ⟨z_33, r_34, hfc, hf⟩ := cal_some hf
        have hFc := de_free hD hS hA
        refine va_calli (va_runV (As := [.int 3]) (rest := [.ref (a k_32), .int 1, .ref (a h0)]) ⟨hx, hb, hml, hown, hts⟩ (de_X4_popOf l dC dI cy a sh n H.size F z h0 3 hfc) (cwV 1 hts gX4_steer_X4_popOf rfl rfl rfl (by decide +kernel) ⟨Nat.le_of_ble_eq_true rfl, Nat.le_of_ble_eq_true rfl⟩) ⟨fun a U g mk q => by obtain ⟨q0, q1, qP, qK, qD, qN⟩ := q; exact ⟨q0, q1, qP, va_K.moved (u := U) (U := U.calling g mk a) (Vm.Alike.refl U.vm) qK, qD, qN.same rfl⟩, va_recv hK hP (ci := 4) (q0 := h0) rfl (Wd_ob kg_29 sg_29 (by decide)), fun U hU hW => ⟨rfl, by rw [hU], by rw [hU]; exact hP, va_K.moved hW.alike hK, hD.weaken (fun _ _ _ _ => trivial), hN.warm hW⟩⟩ rfl rfl hl.1 rfl (lv_room (Nat.le_of_ble_eq_true rfl)) dX4_steer_41 ⟨Nat.le_of_ble_eq_true rfl, Nat.le_of_ble_eq_true rfl⟩) hS (fun q _ h => hFc q h) hFc (fun rr u t H_35 locs ht hvm hw hB hz1 hk1 hS2 => ?_)
        rw [hw]
        clear hw
        obtain ⟨hP1, -, hD1⟩ := hB
        rw [ht] at hP1
        replace hD := hD1.weaken (fun _ _ _ h => hFc _ h)
        replace hP := hP1
        replace hS := hS2
        clear hP1 hD1 hS2 hFc hfc hz1 hk1 hvm ht
        obtain ⟨g_36, hf⟩ := grd_some hf
        obtain ⟨kg_36, sg_36, ig_36⟩ := okA_at g_36
        refine va_lald hx hb hK hP k_32 2 (Wd_al kg_36 sg_36) rfl ig_36 dX4_steer_44 ?_
        obtain ⟨z_37, _u, hfc, hf⟩ := cal_some hf
        have hFc := de_free hD hS hA
        refine va_callv (va_runV (As := [.int 1, .long (z_33.2.1 k_32 r_34.toNatClampNeg)]) (rest := []) ⟨hx, hb, hml, hown, hts⟩ (de_X4_end l dC dI cy a sh n H_35.size F z_33 h0 1 (z_33.2.1 k_32 r_34.toNatClampNeg) hfc) (cwV 2 hts gX4_steer_X4_end rfl rfl rfl (by decide +kernel) ⟨Nat.le_of_ble_eq_true rfl, Nat.le_of_ble_eq_true rfl⟩) ⟨fun a U g mk q => by obtain ⟨q0, q1, qP, qK, qD, qN⟩ := q; exact ⟨q0, q1, qP, va_K.moved (u := U) (U := U.calling g mk a) (Vm.Alike.refl U.vm) qK, qD, qN.same rfl⟩, va_recv hK hP (ci := 4) (q0 := h0) rfl (Wd_ob kg_29 sg_29 (by decide)), fun U hU hW => ⟨rfl, by rw [hU], by rw [hU]; exact hP, va_K.moved hW.alike hK, hD.weaken (fun _ _ _ _ => trivial), hN.warm hW⟩⟩ rfl rfl hl.1 rfl (lv_room (Nat.le_of_ble_eq_true rfl)) dX4_steer_45 ⟨Nat.le_of_ble_eq_true rfl, Nat.le_of_ble_eq_true rfl⟩) hS (fun q _ h => hFc q h) hFc (fun u t H_38 locs ht hvm hw hB hz1 hk1 hS2 => ?_)
        obtain ⟨hP1, -, hD1⟩ := hB
        rw [ht] at hP1
        replace hD := hD1.weaken (fun _ _ _ h => hFc _ h)
        replace hP := hP1
        replace hS := hS2
        clear hP1 hD1 hS2 hFc hfc hz1 hk1 hvm ht
        refine lv_goto (tgt := 102) hx hb dX4_steer_48 (by decide) ?_
        obtain ⟨h8, h9⟩ := ret_some hf
        rw [h8]
        exact W.vret hx hb hr (fun t ht hW => ⟨⟨(), rfl, trivial, by rw [ht]; exact hP, va_K.moved hW.alike hK, hD⟩, hS.F ht⟩) hS.2.2 dX4_steer_102
    · skip
      rw [if_pos c_2] at hf
      refine lv_aload_n hx hb dX4_steer_17 rfl (lv_at hl 0 rfl) ?_
      obtain ⟨g_40, hf⟩ := grd_some hf
      obtain ⟨kg_40, sg_40⟩ := okO_at g_40
      obtain ⟨z_39, _u, hfc, hf⟩ := cal_some hf
      have hFc := de_free hD hS hA
      refine va_callv (va_runV (As := []) (rest := []) ⟨hx, hb, hml, hown, hts⟩ (de_X4_giveBack l dC dI cy a sh n H.size F z h0 hfc) (cwV 0 hts gX4_steer_X4_giveBack rfl rfl rfl (by decide +kernel) ⟨Nat.le_of_ble_eq_true rfl, Nat.le_of_ble_eq_true rfl⟩) ⟨fun a U g mk q => by obtain ⟨q0, q1, qP, qK, qD, qN⟩ := q; exact ⟨q0, q1, qP, va_K.moved (u := U) (U := U.calling g mk a) (Vm.Alike.refl U.vm) qK, qD, qN.same rfl⟩, va_recv hK hP (ci := 4) (q0 := h0) rfl (Wd_ob kg_40 sg_40 (by decide)), fun U hU hW => ⟨rfl, by rw [hU], by rw [hU]; exact hP, va_K.moved hW.alike hK, hD.weaken (fun _ _ _ _ => trivial), hN.warm hW⟩⟩ rfl rfl hl.1 rfl (lv_room (Nat.le_of_ble_eq_true rfl)) dX4_steer_18 ⟨Nat.le_of_ble_eq_true rfl, Nat.le_of_ble_eq_true rfl⟩) hS (fun q _ h => hFc q h) hFc (fun u t H_41 locs ht hvm hw hB hz1 hk1 hS2 => ?_)
      obtain ⟨hP1, -, hD1⟩ := hB
      rw [ht] at hP1
      replace hD := hD1.weaken (fun _ _ _ h => hFc _ h)
      replace hP := hP1
      replace hS := hS2
      clear hP1 hD1 hS2 hFc hfc hz1 hk1 hvm ht
      refine lv_goto (tgt := 102) hx hb dX4_steer_21 (by decide) ?_
      obtain ⟨h8, h9⟩ := ret_some hf
      rw [h8]
      exact W.vret hx hb hr (fun t ht hW => ⟨⟨(), rfl, trivial, by rw [ht]; exact hP, va_K.moved hW.alike hK, hD⟩, hS.F ht⟩) hS.2.2 dX4_steer_102
  · skip
    rw [if_pos c_1] at hf
    refine lv_aload_n hx hb dX4_steer_4 rfl (lv_at hl 0 rfl) ?_
    obtain ⟨g_44, hf⟩ := grd_some hf
    obtain ⟨kg_44, sg_44⟩ := okO_at g_44
    obtain ⟨z_42, r_43, hfc, hf⟩ := cal_some hf
    have hFc := de_free hD hS hA
    refine va_calli (va_runV (As := []) (rest := []) ⟨hx, hb, hml, hown, hts⟩ (de_X4_pop l dC dI cy a sh n H.size F z h0 hfc) (cwV 0 hts gX4_steer_X4_pop rfl rfl rfl (by decide +kernel) ⟨Nat.le_of_ble_eq_true rfl, Nat.le_of_ble_eq_true rfl⟩) ⟨fun a U g mk q => by obtain ⟨q0, q1, qP, qK, qD, qN⟩ := q; exact ⟨q0, q1, qP, va_K.moved (u := U) (U := U.calling g mk a) (Vm.Alike.refl U.vm) qK, qD, qN.same rfl⟩, va_recv hK hP (ci := 4) (q0 := h0) rfl (Wd_ob kg_44 sg_44 (by decide)), fun U hU hW => ⟨rfl, by rw [hU], by rw [hU]; exact hP, va_K.moved hW.alike hK, hD.weaken (fun _ _ _ _ => trivial), hN.warm hW⟩⟩ rfl rfl hl.1 rfl (lv_room (Nat.le_of_ble_eq_true rfl)) dX4_steer_5 ⟨Nat.le_of_ble_eq_true rfl, Nat.le_of_ble_eq_true rfl⟩) hS (fun q _ h => hFc q h) hFc (fun rr u t H_45 locs ht hvm hw hB hz1 hk1 hS2 => ?_)
    rw [hw]
    clear hw
    obtain ⟨hP1, -, hD1⟩ := hB
    rw [ht] at hP1
    replace hD := hD1.weaken (fun _ _ _ h => hFc _ h)
    replace hP := hP1
    replace hS := hS2
    clear hP1 hD1 hS2 hFc hfc hz1 hk1 hvm ht
    refine lv_pop hx hb dX4_steer_8 rfl ?_
    refine lv_goto (tgt := 102) hx hb dX4_steer_9 (by decide) ?_
    obtain ⟨h8, h9⟩ := ret_some hf
    rw [h8]
    exact W.vret hx hb hr (fun t ht hW => ⟨⟨(), rfl, trivial, by rw [ht]; exact hP, va_K.moved hW.alike hK, hD⟩, hS.F ht⟩) hS.2.2 dX4_steer_102

theorem md_X18_resource_1 : (.fieldLink RX18 684 "ResourceLedgerModel" "shownSize" "I" : Cond) ∈ wsX18_resource := List.mem_of_getElem? (i := 1) rfl
theorem iwd_X18_resource_X18 : ∀ w ∈ wsX180, w ∈ wsX18_resource := fun _ h => List.mem_cons_of_mem _ (List.mem_append_left _ (List.mem_append_right _ h))
theorem md_X18_resource_3 : (.fieldLink RX18 94 "ResourceLedgerModel" "digester" "LResourceLedgerModel$Digester;" : Cond) ∈ wsX18_resource := List.mem_of_getElem? (i := 3) rfl
theorem iwd_X18_resource_X12 : ∀ w ∈ wsX120, w ∈ wsX18_resource := fun _ h => List.mem_cons_of_mem _ (List.mem_append_right _ h)
theorem md_X18_resource_4 : (.fieldLink RX18 599 "ResourceLedgerModel" "shown" "[B" : Cond) ∈ wsX18_resource := List.mem_of_getElem? (i := 4) rfl
theorem md_X18_resource_2 : (.constant RX18 637 (65535) : Cond) ∈ wsX18_resource := List.mem_of_getElem? (i := 2) rfl
set_option maxHeartbeats 4000000 in
set_option maxRecDepth 100000 in
theorem de_X18_resource (l : Launch) (dC : Nat → ClassId) (dI : Nat → Nat → Nat) (cy : Nat → ClassId) (a : Nat → Nat) (sh : Nat → Nat × Nat) (n sz : Nat) (F : Nat) (z : St) (h0 : Nat) (x0 : Int64) (x1 : Int32) (x2 : Int32) {z8 : St} {r8 : Int32} (hf : fn_X18_resource F sh n z h0 x0 x1 x2 = some (z8, r8)) : Met l yX18_resource wsX18_resource ({ frames := 52, cells := 0, slots := 0, locals := 1144 }) (va_Pc [.ref (a h0), .long x0, .int x1, .int x2] (fun U => U.heap.size = sz ∧ va_P (dC, dI) vwCl (Wd cy a sh n z) U.heap ∧ va_K (dC, dI) vwCl (TYS cy) U ∧ va_D (fun _ => True) (Wd cy a sh n z) ∧ NK U)) (va_Qi (fun (r9 : Int32) (u : Unit) => r9 = r8) (fun u t => va_P (dC, dI) vwCl (Wd cy a sh n z8) t.heap ∧ va_K (dC, dI) vwCl (TYS cy) t ∧ va_D (va_A (Wd cy a sh n z) sz) (Wd cy a sh n z8)) (va_A (Wd cy a sh n z) sz)) 0 0 (va_A (Wd cy a sh n z) sz) := by
  refine Met.ofW (cc := cX18_resource) (maxL := 7) (ret := (some .int)) (by decide) rfl ?_
  intro p e s m args below meth c s₁ B hml hv
  obtain ⟨rfl, hsz, hP, hK, hD0, hN⟩ := hv
  have hx := B.exec
  have hb := B.bytes
  have hr := B.returns
  have hts := atoms_spec (ws := wsX18_resource) B.pre
  have hown : s.vm.findClass RX18 = some m.cls := findClass_of_methodNamed B.named
  have hlocks := B.notSynchronized
  subst hsz
  have hD := hD0.self (sz := s.heap.size)
  clear hD0
  generalize hAe : va_A (Wd cy a sh n z) s.heap.size = A at hD ⊢
  have hA : ∀ q : Nat, s.heap.size ≤ q → A q := fun q h => by rw [← hAe]; exact Or.inr h
  clear hAe
  have hS : va_S A s.heap s.heap [] := va_S.rf
  have hl := lv_entry ([.ref (a h0), .long x0, .int x1, .int x2]) (n := 7) (Nat.le_of_ble_eq_true rfl)
  rw [lg_entry_eq]
  generalize (lg_sl ([.ref (a h0), .long x0, .int x1, .int x2]) ++ List.replicate (7 - (lg_sl ([.ref (a h0), .long x0, .int x1, .int x2])).length) Slot.unset).toArray = ls at hl ⊢
  replace hl : lv_has ls 7 [(0, .ref (a h0)), (1, .long x0), (3, .int x1), (4, .int x2)] := hl
  unfold fn_X18_resource at hf
  refine de_start hS hP (fun H locs hS hP => ?_)
  refine lv_aload_n hx hb dX18_resource_0 rfl (lv_at hl 0 rfl) ?_
  refine lv_iconst (v := 0) hx hb dX18_resource_1 (by decide) ?_
  obtain ⟨g_1, hf⟩ := grd_some hf
  obtain ⟨kg_1, sg_1⟩ := okO_at g_1
  refine va_put (D := (dC, dI)) (ci := 18) (v := .int 0) (ty := .int) (C := RX18) (T := TX18) (N := 78) hx hb hts iwd_X18_resource_X18 tyX18 tyX18_ok nmX18 hown hK hP hD hS h0 (Wd_ob kg_1 sg_1 (by decide)) rfl 75 (by decide) (hts _ md_X18_resource_1) (fun _ h9 => h9) rfl (by decide +kernel) rfl rfl (by rw [fl_len]; decide) dX18_resource_2 (fun H_2 locs hP2 hD2 hS2 => ?_)
  rw [Wd_si sg_1 (by decide) rfl] at hP2 hD2
  obtain ⟨z_3, ez_3⟩ : ∃ w, w = si z h0 75 0 := ⟨_, rfl⟩
  rw [← ez_3] at hP2 hD2
  replace hf := lt_at ez_3 hf
  clear ez_3
  replace hP := hP2
  replace hD := hD2
  replace hS := hS2
  clear hP2 hD2 hS2
  refine lv_iload_n hx hb dX18_resource_5 rfl (lv_at hl 2 rfl) ?_
  refine de_cut (h := 46) (fun (x : St × Int32) => [.int x.2]) (fun x ls H locs => lv_has ls 7 [(0, .ref (a h0))] ∧ va_P (dC, dI) vwCl (Wd cy a sh n x.1) H ∧ va_D A (Wd cy a sh n x.1) ∧ va_S A s.heap H locs) (fun x => fn_X18_resource_B46 F sh n h0 x.1 x.2) (z8, r8) ?_ (fun B46 => ?_)
  · intro x ls H locs hI hf
    obtain ⟨z_5, p_4⟩ := x
    obtain ⟨hl2, hP2, hD2, hS2⟩ := hI
    replace hl : lv_has ls 7 [(0, .ref (a h0))] := hl2
    replace hP := hP2
    replace hD := hD2
    replace hS := hS2
    clear hl2 hP2 hD2 hS2
    replace hf := fn_X18_resource_B46_s hf
    refine W.eq (g2 := F0 m 46 ls [.int p_4]) rfl ?_
    refine lv_istore (lv' := [(5, .int p_4), (0, .ref (a h0))]) hx hb dX18_resource_46 hl (by decide) rfl (fun ls hl2 => ?_)
    replace hl := hl2
    clear hl2
    refine lv_iload hx hb dX18_resource_48 (lv_at hl 0 rfl) ?_
    refine lv_if_ge (tgt := 56) hx hb dX18_resource_50 (by decide) (fun c_6 => ?_) (fun c_6 => ?_)
    · skip
      rw [if_pos c_6] at hf
      refine lv_aload_n hx hb dX18_resource_56 rfl (lv_at hl 1 rfl) ?_
      obtain ⟨k_7, ek_7, hf⟩ := lnk_some hf
      refine va_get (D := (dC, dI)) (ci := 18) (v := .ref (a k_7)) (C := RX18) (T := TX18) (N := 78) hx hb hts iwd_X18_resource_X18 hown hK hP h0 (Wd_ob kg_1 sg_1 (by decide)) rfl 18 (by decide) (hts _ md_X18_resource_3) (fun _ h9 => h9) (fl_q rfl ek_7) dX18_resource_57 ?_
      obtain ⟨g_9, hf⟩ := grd_some hf
      obtain ⟨kg_9, sg_9⟩ := okO_at g_9
      obtain ⟨z_8, _u, hfc, hf⟩ := cal_some hf
      have hFc := de_free hD hS hA
      refine va_callv (va_runV (As := []) (rest := []) ⟨hx, hb, hml, hown, hts⟩ (de_X12_begin l dC dI cy a sh n H.size F z_5 k_7 hfc) (cwV 0 hts gX18_resource_X12_begin rfl rfl rfl (by decide +kernel) ⟨Nat.le_of_ble_eq_true rfl, Nat.le_of_ble_eq_true rfl⟩) ⟨fun a U g mk q => by obtain ⟨q0, q1, qP, qK, qD, qN⟩ := q; exact ⟨q0, q1, qP, va_K.moved (u := U) (U := U.calling g mk a) (Vm.Alike.refl U.vm) qK, qD, qN.same rfl⟩, va_recv hK hP (ci := 12) (q0 := k_7) rfl (Wd_ob kg_9 sg_9 (by decide)), fun U hU hW => ⟨rfl, by rw [hU], by rw [hU]; exact hP, va_K.moved hW.alike hK, hD.weaken (fun _ _ _ _ => trivial), hN.warm hW⟩⟩ rfl rfl hl.1 rfl (lv_room (Nat.le_of_ble_eq_true rfl)) dX18_resource_60 ⟨Nat.le_of_ble_eq_true rfl, Nat.le_of_ble_eq_true rfl⟩) hS (fun q _ h => hFc q h) hFc (fun u t H_10 locs ht hvm hw hB hz1 hk1 hS2 => ?_)
      obtain ⟨hP1, -, hD1⟩ := hB
      rw [ht] at hP1
      replace hD := hD1.weaken (fun _ _ _ h => hFc _ h)
      replace hP := hP1
      replace hS := hS2
      clear hP1 hD1 hS2 hFc hfc hz1 hk1 hvm ht
      refine lv_aload_n hx hb dX18_resource_63 rfl (lv_at hl 1 rfl) ?_
      refine lv_iload hx hb dX18_resource_64 (lv_at hl 0 rfl) ?_
      obtain ⟨z_11, _u, hfc, hf⟩ := cal_some hf
      have hFc := de_free hD hS hA
      refine va_callv (va_runV (As := [.int p_4]) (rest := []) ⟨hx, hb, hml, hown, hts⟩ (de_X18_addBytes l dC dI cy a sh n H_10.size F z_8 h0 p_4 hfc) (cwV 1 hts gX18_resource_X18_addBytes rfl rfl rfl (by decide +kernel) ⟨Nat.le_of_ble_eq_true rfl, Nat.le_of_ble_eq_true rfl⟩) ⟨fun a U g mk q => by obtain ⟨q0, q1, qP, qK, qD, qN⟩ := q; exact ⟨q0, q1, qP, va_K.moved (u := U) (U := U.calling g mk a) (Vm.Alike.refl U.vm) qK, qD, qN.same rfl⟩, va_recv hK hP (ci := 18) (q0 := h0) rfl (Wd_ob kg_1 sg_1 (by decide)), fun U hU hW => ⟨rfl, by rw [hU], by rw [hU]; exact hP, va_K.moved hW.alike hK, hD.weaken (fun _ _ _ _ => trivial), hN.warm hW⟩⟩ rfl rfl hl.1 rfl (lv_room (Nat.le_of_ble_eq_true rfl)) dX18_resource_66 ⟨Nat.le_of_ble_eq_true rfl, Nat.le_of_ble_eq_true rfl⟩) hS (fun q _ h => hFc q h) hFc (fun u t H_12 locs ht hvm hw hB hz1 hk1 hS2 => ?_)
      obtain ⟨hP1, -, hD1⟩ := hB
      rw [ht] at hP1
      replace hD := hD1.weaken (fun _ _ _ h => hFc _ h)
      replace hP := hP1
      replace hS := hS2
      clear hP1 hD1 hS2 hFc hfc hz1 hk1 hvm ht
      refine lv_aload_n hx hb dX18_resource_69 rfl (lv_at hl 1 rfl) ?_
      refine lv_aload_n hx hb dX18_resource_70 rfl (lv_at hl 1 rfl) ?_
      obtain ⟨k_13, ek_13, hf⟩ := lnk_some hf
      refine va_get (D := (dC, dI)) (ci := 18) (v := .ref (a k_13)) (C := RX18) (T := TX18) (N := 78) hx hb hts iwd_X18_resource_X18 hown hK hP h0 (Wd_ob kg_1 sg_1 (by decide)) rfl 18 (by decide) (hts _ md_X18_resource_3) (fun _ h9 => h9) (fl_q rfl ek_13) dX18_resource_71 ?_
      obtain ⟨g_14, hf⟩ := grd_some hf
      obtain ⟨kg_14, sg_14⟩ := okO_at g_14
      refine va_getN (D := (dC, dI)) (ci := 12) (v := .int (z_11.1 k_13 1)) (C := RX12) (T := TX12) (N := 4) hx hb hts iwd_X18_resource_X12 hown hK hP k_13 (Wd_ob kg_14 sg_14 (by decide)) rfl 1 (by decide) (va_Nw.use rfl (NK_f_X18_690 hN)) (fun _ h9 => h9) (fl_at (t := 0) rfl) dX18_resource_74 ?_
      refine va_put (D := (dC, dI)) (ci := 18) (v := .int (z_11.1 k_13 1)) (ty := .int) (C := RX18) (T := TX18) (N := 78) hx hb hts iwd_X18_resource_X18 tyX18 tyX18_ok nmX18 hown hK hP hD hS h0 (Wd_ob kg_1 sg_1 (by decide)) rfl 75 (by decide) (hts _ md_X18_resource_1) (fun _ h9 => h9) rfl (by decide +kernel) rfl rfl (by rw [fl_len]; decide) dX18_resource_77 (fun H_15 locs hP2 hD2 hS2 => ?_)
      rw [Wd_si sg_1 (by decide) rfl] at hP2 hD2
      obtain ⟨z_16, ez_16⟩ : ∃ w, w = si z_11 h0 75 (z_11.1 k_13 1) := ⟨_, rfl⟩
      rw [← ez_16] at hP2 hD2
      replace hf := lt_at ez_16 hf
      clear ez_16
      replace hP := hP2
      replace hD := hD2
      replace hS := hS2
      clear hP2 hD2 hS2
      refine lv_iconst (v := 0) hx hb dX18_resource_80 (by decide) ?_
      refine lv_istore (lv' := [(6, .int 0), (5, .int p_4), (0, .ref (a h0))]) hx hb dX18_resource_81 hl (by decide) rfl (fun ls hl2 => ?_)
      replace hl := hl2
      clear hl2
      have hl0 : lv_has ls 7 [(6, .int 0), (0, .ref (a h0))] := lv_sub hl [0, 2] rfl
      refine de_loop (h := 83) (fun (x : St × Int32) ls H locs => lv_has ls 7 [(6, .int x.2), (0, .ref (a h0))] ∧ va_P (dC, dI) vwCl (Wd cy a sh n x.1) H ∧ va_D A (Wd cy a sh n x.1) ∧ va_S A s.heap H locs) (fun f x => fn_X18_resource_L83 F sh n h0 f x.1 x.2) (z8, r8) ?_ (fun _ => rfl) F (z_16, 0) ls H_15 locs ⟨hl0, hP, hD, hS⟩ hf
      intro f_19 x ls H locs ih83 hI hf
      obtain ⟨z_18, p_17⟩ := x
      obtain ⟨hl2, hP2, hD2, hS2⟩ := hI
      replace hl : lv_has ls 7 [(6, .int p_17), (0, .ref (a h0))] := hl2
      replace hP := hP2
      replace hD := hD2
      replace hS := hS2
      clear hl2 hP2 hD2 hS2 hl0
      replace hf := fn_X18_resource_L83_s hf
      refine lv_iload hx hb dX18_resource_83 (lv_at hl 0 rfl) ?_
      refine lv_aload_n hx hb dX18_resource_85 rfl (lv_at hl 1 rfl) ?_
      refine va_get (D := (dC, dI)) (ci := 18) (v := .int (z_18.1 h0 75)) (C := RX18) (T := TX18) (N := 78) hx hb hts iwd_X18_resource_X18 hown hK hP h0 (Wd_ob kg_1 sg_1 (by decide)) rfl 75 (by decide) (hts _ md_X18_resource_1) (fun _ h9 => h9) (fl_at (t := 0) rfl) dX18_resource_86 ?_
      refine lv_icmp_ge (tgt := 115) hx hb dX18_resource_89 (by decide) (fun c_20 => ?_) (fun c_20 => ?_)
      · skip
        rw [if_pos c_20] at hf
        refine lv_aload_n hx hb dX18_resource_115 rfl (lv_at hl 1 rfl) ?_
        refine va_get (D := (dC, dI)) (ci := 18) (v := .int (z_18.1 h0 75)) (C := RX18) (T := TX18) (N := 78) hx hb hts iwd_X18_resource_X18 hown hK hP h0 (Wd_ob kg_1 sg_1 (by decide)) rfl 75 (by decide) (hts _ md_X18_resource_1) (fun _ h9 => h9) (fl_at (t := 0) rfl) dX18_resource_116 ?_
        obtain ⟨h8, h9⟩ := ret_some hf
        rw [h8, h9]
        exact W.iret (v := (z_18.1 h0 75)) hx hb hr (fun t ht hW => ⟨⟨(z_18.1 h0 75), (), rfl, rfl, by rw [ht]; exact hP, va_K.moved hW.alike hK, hD⟩, hS.F ht⟩) hS.2.2 dX18_resource_119
      · skip
        rw [if_neg c_20] at hf
        refine lv_aload_n hx hb dX18_resource_92 rfl (lv_at hl 1 rfl) ?_
        obtain ⟨k_21, ek_21, hf⟩ := lnk_some hf
        refine va_get (D := (dC, dI)) (ci := 18) (v := .ref (a k_21)) (C := RX18) (T := TX18) (N := 78) hx hb hts iwd_X18_resource_X18 hown hK hP h0 (Wd_ob kg_1 sg_1 (by decide)) rfl 74 (by decide) (hts _ md_X18_resource_4) (fun _ h9 => h9) (fl_q rfl ek_21) dX18_resource_93 ?_
        refine lv_iload hx hb dX18_resource_96 (lv_at hl 0 rfl) ?_
        refine lv_aload_n hx hb dX18_resource_98 rfl (lv_at hl 1 rfl) ?_
        obtain ⟨k_22, ek_22, hf⟩ := lnk_some hf
        refine va_get (D := (dC, dI)) (ci := 18) (v := .ref (a k_22)) (C := RX18) (T := TX18) (N := 78) hx hb hts iwd_X18_resource_X18 hown hK hP h0 (Wd_ob kg_1 sg_1 (by decide)) rfl 18 (by decide) (hts _ md_X18_resource_3) (fun _ h9 => h9) (fl_q rfl ek_22) dX18_resource_99 ?_
        obtain ⟨g_23, hf⟩ := grd_some hf
        obtain ⟨kg_23, sg_23⟩ := okO_at g_23
        obtain ⟨k_24, ek_24, hf⟩ := lnk_some hf
        refine va_getN (D := (dC, dI)) (ci := 12) (v := .ref (a k_24)) (C := RX12) (T := TX12) (N := 4) hx hb hts iwd_X18_resource_X12 hown hK hP k_22 (Wd_ob kg_23 sg_23 (by decide)) rfl 0 (by decide) (va_Nw.use rfl (NK_f_X18_691 hN)) (fun _ h9 => h9) (fl_q rfl ek_24) dX18_resource_102 ?_
        refine lv_iload hx hb dX18_resource_105 (lv_at hl 0 rfl) ?_
        obtain ⟨g_25, hf⟩ := grd_some hf
        obtain ⟨kg_25, sg_25, ig_25⟩ := okA_at g_25
        refine va_bald hx hb hK hP k_24 0 (Wd_ab kg_25 sg_25) rfl ig_25 dX18_resource_107 ?_
        obtain ⟨g_26, hf⟩ := grd_some hf
        obtain ⟨kg_26, sg_26, ig_26⟩ := okA_at g_26
        refine va_bast hx hb hK hP hD hS k_21 0 (Wd_ab kg_26 sg_26) rfl ig_26 dX18_resource_108 (fun H_27 locs hP2 hD2 hS2 => ?_)
        rw [Wd_tb sg_26] at hP2 hD2
        obtain ⟨z_28, ez_28⟩ : ∃ w, w = si z_18 k_21 p_17.toNatClampNeg (vp_nar .byte (z_18.1 k_24 p_17.toNatClampNeg)) := ⟨_, rfl⟩
        rw [← ez_28] at hP2 hD2
        replace hf := lt_at ez_28 hf
        clear ez_28
        replace hP := hP2
        replace hD := hD2
        replace hS := hS2
        clear hP2 hD2 hS2
        refine lv_iinc (v := (p_17 + 1)) (lv' := [(6, .int (p_17 + 1)), (0, .ref (a h0))]) hx hb dX18_resource_109 hl (k := 0) rfl rfl (by decide) rfl (fun ls hl2 => ?_)
        replace hl := hl2
        clear hl2
        refine lv_goto (tgt := 83) hx hb dX18_resource_112 (by decide) ?_
        exact ih83 (z_28, (p_17 + 1)) ls H_27 locs ⟨lv_sub hl [0, 1] rfl, hP, hD, hS⟩ hf
    · skip
      rw [if_neg c_6] at hf
      refine lv_bipush (v := (-2)) hx hb dX18_resource_53 (by decide) ?_
      obtain ⟨h8, h9⟩ := ret_some hf
      rw [h8, h9]
      exact W.iret (v := (-2)) hx hb hr (fun t ht hW => ⟨⟨(-2), (), rfl, rfl, by rw [ht]; exact hP, va_K.moved hW.alike hK, hD⟩, hS.F ht⟩) hS.2.2 dX18_resource_55
  refine de_cut (h := 29) (fun (x : St) => []) (fun x ls H locs => lv_has ls 7 [(0, .ref (a h0))] ∧ va_P (dC, dI) vwCl (Wd cy a sh n x) H ∧ va_D A (Wd cy a sh n x) ∧ va_S A s.heap H locs) (fun x => fn_X18_resource_B29 F sh n h0 x) (z8, r8) ?_ (fun B29 => ?_)
  · intro x ls H locs hI hf
    obtain ⟨z_29, ez⟩ : ∃ w, w = x := ⟨_, rfl⟩
    subst ez
    obtain ⟨hl2, hP2, hD2, hS2⟩ := hI
    replace hl : lv_has ls 7 [(0, .ref (a h0))] := hl2
    replace hP := hP2
    replace hD := hD2
    replace hS := hS2
    clear hl2 hP2 hD2 hS2
    replace hf := fn_X18_resource_B29_s hf
    refine W.eq (g2 := F0 m 29 ls []) rfl ?_
    refine lv_iconst (v := (-1)) hx hb dX18_resource_29 (by decide) ?_
    refine lv_goto (tgt := 46) hx hb dX18_resource_30 (by decide) ?_
    exact B46 (z_29, (-1)) ls H locs ⟨lv_sub hl [0] rfl, hP, hD, hS⟩ hf
  refine lv_if_lt (tgt := 29) hx hb dX18_resource_6 (by decide) (fun c_30 => ?_) (fun c_30 => ?_)
  · skip
    rw [if_pos c_30] at hf
    exact B29 (z_3) ls H_2 locs ⟨lv_sub hl [0] rfl, hP, hD, hS⟩ hf
  · skip
    rw [if_neg c_30] at hf
    refine lv_iload_n hx hb dX18_resource_9 rfl (lv_at hl 2 rfl) ?_
    refine lv_ldcw hx hb hown (hts _ md_X18_resource_2) dX18_resource_10 ?_
    refine lv_icmp_gt (tgt := 29) hx hb dX18_resource_13 (by decide) (fun c_31 => ?_) (fun c_31 => ?_)
    · skip
      rw [if_pos c_31] at hf
      exact B29 (z_3) ls H_2 locs ⟨lv_sub hl [0] rfl, hP, hD, hS⟩ hf
    · skip
      rw [if_neg c_31] at hf
      refine lv_iload hx hb dX18_resource_16 (lv_at hl 3 rfl) ?_
      refine lv_if_lt (tgt := 29) hx hb dX18_resource_18 (by decide) (fun c_32 => ?_) (fun c_32 => ?_)
      · skip
        rw [if_pos c_32] at hf
        exact B29 (z_3) ls H_2 locs ⟨lv_sub hl [0] rfl, hP, hD, hS⟩ hf
      · skip
        rw [if_neg c_32] at hf
        refine lv_iload hx hb dX18_resource_21 (lv_at hl 3 rfl) ?_
        refine lv_sipush (v := 255) hx hb dX18_resource_23 (by decide) ?_
        refine lv_icmp_le (tgt := 33) hx hb dX18_resource_26 (by decide) (fun c_33 => ?_) (fun c_33 => ?_)
        · skip
          rw [if_pos c_33] at hf
          refine lv_aload_n hx hb dX18_resource_33 rfl (lv_at hl 0 rfl) ?_
          refine lv_lload_n hx hb dX18_resource_34 rfl (lv_at hl 1 rfl) ?_
          refine lv_sipush (v := 256) hx hb dX18_resource_35 (by decide) ?_
          refine lv_iload_n hx hb dX18_resource_38 rfl (lv_at hl 2 rfl) ?_
          refine lv_imul hx hb dX18_resource_39 ?_
          refine lv_iload hx hb dX18_resource_40 (lv_at hl 3 rfl) ?_
          refine lv_iadd hx hb dX18_resource_42 ?_
          obtain ⟨z_34, r_35, hfc, hf⟩ := cal_some hf
          have hFc := de_free hD hS hA
          refine va_calli (va_runV (As := [.long x0, .int ((256 * x1) + x2)]) (rest := []) ⟨hx, hb, hml, hown, hts⟩ (de_X18_findResource l dC dI cy a sh n H_2.size F z_3 h0 x0 ((256 * x1) + x2) hfc) (cwV 2 hts gX18_resource_X18_findResource rfl rfl rfl (by decide +kernel) ⟨Nat.le_of_ble_eq_true rfl, Nat.le_of_ble_eq_true rfl⟩) ⟨fun a U g mk q => by obtain ⟨q0, q1, qP, qK, qD, qN⟩ := q; exact ⟨q0, q1, qP, va_K.moved (u := U) (U := U.calling g mk a) (Vm.Alike.refl U.vm) qK, qD, qN.same rfl⟩, va_recv hK hP (ci := 18) (q0 := h0) rfl (Wd_ob kg_1 sg_1 (by decide)), fun U hU hW => ⟨rfl, by rw [hU], by rw [hU]; exact hP, va_K.moved hW.alike hK, hD.weaken (fun _ _ _ _ => trivial), hN.warm hW⟩⟩ rfl rfl hl.1 rfl (lv_room (Nat.le_of_ble_eq_true rfl)) dX18_resource_43 ⟨Nat.le_of_ble_eq_true rfl, Nat.le_of_ble_eq_true rfl⟩) hS (fun q _ h => hFc q h) hFc (fun rr u t H_36 locs ht hvm hw hB hz1 hk1 hS2 => ?_)
          rw [hw]
          clear hw
          obtain ⟨hP1, -, hD1⟩ := hB
          rw [ht] at hP1
          replace hD := hD1.weaken (fun _ _ _ h => hFc _ h)
          replace hP := hP1
          replace hS := hS2
          clear hP1 hD1 hS2 hFc hfc hz1 hk1 hvm ht
          exact B46 (z_34, r_35) ls H_36 locs ⟨lv_sub hl [0] rfl, hP, hD, hS⟩ hf
        · skip
          rw [if_neg c_33] at hf
          exact B29 (z_3) ls H_2 locs ⟨lv_sub hl [0] rfl, hP, hD, hS⟩ hf

theorem md_X11_misfitOf_1 : (.fieldLink RX11 217 "ResourceLedger$Transaction" "place" "I" : Cond) ∈ wsX11_misfitOf := List.mem_of_getElem? (i := 1) rfl
theorem iwd_X11_misfitOf_X8 : ∀ w ∈ wsX80, w ∈ wsX11_misfitOf := fun _ h => List.mem_cons_of_mem _ (List.mem_append_left _ (List.mem_append_left _ (List.mem_append_left _ (List.mem_append_right _ h))))
theorem md_X11_misfitOf_2 : (.fieldLink RX11 226 "ResourceLedger$Program" "number" "I" : Cond) ∈ wsX11_misfitOf := List.mem_of_getElem? (i := 2) rfl
theorem iwd_X11_misfitOf_X5 : ∀ w ∈ wsX50, w ∈ wsX11_misfitOf := fun _ h => List.mem_cons_of_mem _ (List.mem_append_left _ (List.mem_append_left _ (List.mem_append_right _ h)))
theorem md_X11_misfitOf_3 : (.fieldLink RX11 22 "ResourceLedger" "state" "LResourceLedger$State;" : Cond) ∈ wsX11_misfitOf := List.mem_of_getElem? (i := 3) rfl
theorem iwd_X11_misfitOf_X11 : ∀ w ∈ wsX110, w ∈ wsX11_misfitOf := fun _ h => List.mem_cons_of_mem _ (List.mem_append_left _ (List.mem_append_right _ h))
set_option maxHeartbeats 4000000 in
set_option maxRecDepth 100000 in
theorem de_X11_misfitOf (l : Launch) (dC : Nat → ClassId) (dI : Nat → Nat → Nat) (cy : Nat → ClassId) (a : Nat → Nat) (sh : Nat → Nat × Nat) (n sz : Nat) (F : Nat) (z : St) (h0 : Nat) (x0 : Nat) (x1 : Nat) {z8 : St} {r8 : Int32} (hf : fn_X11_misfitOf F sh n z h0 x0 x1 = some (z8, r8)) : Met l yX11_misfitOf wsX11_misfitOf ({ frames := 4, cells := 0, slots := 0, locals := 98 }) (va_Pc [.ref (a h0), .ref (a x0), .ref (a x1)] (fun U => U.heap.size = sz ∧ va_P (dC, dI) vwCl (Wd cy a sh n z) U.heap ∧ va_K (dC, dI) vwCl (TYS cy) U ∧ va_D (fun _ => True) (Wd cy a sh n z) ∧ NK U)) (va_Qi (fun (r9 : Int32) (u : Unit) => r9 = r8) (fun u t => va_P (dC, dI) vwCl (Wd cy a sh n z8) t.heap ∧ va_K (dC, dI) vwCl (TYS cy) t ∧ va_D (va_A (Wd cy a sh n z) sz) (Wd cy a sh n z8)) (va_A (Wd cy a sh n z) sz)) 0 0 (va_A (Wd cy a sh n z) sz) := by
  refine Met.ofW (cc := cX11_misfitOf) (maxL := 3) (ret := (some .int)) (by decide) rfl ?_
  intro p e s m args below meth c s₁ B hml hv
  obtain ⟨rfl, hsz, hP, hK, hD0, hN⟩ := hv
  have hx := B.exec
  have hb := B.bytes
  have hr := B.returns
  have hts := atoms_spec (ws := wsX11_misfitOf) B.pre
  have hown : s.vm.findClass RX11 = some m.cls := findClass_of_methodNamed B.named
  have hlocks := B.notSynchronized
  subst hsz
  have hD := hD0.self (sz := s.heap.size)
  clear hD0
  generalize hAe : va_A (Wd cy a sh n z) s.heap.size = A at hD ⊢
  have hA : ∀ q : Nat, s.heap.size ≤ q → A q := fun q h => by rw [← hAe]; exact Or.inr h
  clear hAe
  have hS : va_S A s.heap s.heap [] := va_S.rf
  have hl := lv_entry ([.ref (a h0), .ref (a x0), .ref (a x1)]) (n := 3) (Nat.le_of_ble_eq_true rfl)
  rw [lg_entry_eq]
  generalize (lg_sl ([.ref (a h0), .ref (a x0), .ref (a x1)]) ++ List.replicate (3 - (lg_sl ([.ref (a h0), .ref (a x0), .ref (a x1)])).length) Slot.unset).toArray = ls at hl ⊢
  replace hl : lv_has ls 3 [(0, .ref (a h0)), (1, .ref (a x0)), (2, .ref (a x1))] := hl
  unfold fn_X11_misfitOf at hf
  refine de_start hS hP (fun H locs hS hP => ?_)
  refine lv_aload_n hx hb dX11_misfitOf_0 rfl (lv_at hl 2 rfl) ?_
  refine lv_iconst (v := 4) hx hb dX11_misfitOf_1 (by decide) ?_
  obtain ⟨g_1, hf⟩ := grd_some hf
  obtain ⟨kg_1, sg_1⟩ := okO_at g_1
  refine va_put (D := (dC, dI)) (ci := 8) (v := .int 4) (ty := .int) (C := RX8) (T := TX8) (N := 19) hx hb hts iwd_X11_misfitOf_X8 tyX8 tyX8_ok nmX8 hown hK hP hD hS x1 (Wd_ob kg_1 sg_1 (by decide)) rfl 14 (by decide) (hts _ md_X11_misfitOf_1) (fun _ h9 => h9) rfl (by decide +kernel) rfl rfl (by rw [fl_len]; decide) dX11_misfitOf_2 (fun H_2 locs hP2 hD2 hS2 => ?_)
  rw [Wd_si sg_1 (by decide) rfl] at hP2 hD2
  obtain ⟨z_3, ez_3⟩ : ∃ w, w = si z x1 14 4 := ⟨_, rfl⟩
  rw [← ez_3] at hP2 hD2
  replace hf := lt_at ez_3 hf
  clear ez_3
  replace hP := hP2
  replace hD := hD2
  replace hS := hS2
  clear hP2 hD2 hS2
  refine lv_aload_n hx hb dX11_misfitOf_5 rfl (lv_at hl 1 rfl) ?_
  obtain ⟨g_4, hf⟩ := grd_some hf
  obtain ⟨kg_4, sg_4⟩ := okO_at g_4
  refine va_get (D := (dC, dI)) (ci := 5) (v := .int (z_3.1 x0 2)) (C := RX5) (T := TX5) (N := 15) hx hb hts iwd_X11_misfitOf_X5 hown hK hP x0 (Wd_ob kg_4 sg_4 (by decide)) rfl 2 (by decide) (hts _ md_X11_misfitOf_2) (fun _ h9 => h9) (fl_at (t := 0) rfl) dX11_misfitOf_6 ?_
  refine lv_if_eq (tgt := 26) hx hb dX11_misfitOf_9 (by decide) (fun c_5 => ?_) (fun c_5 => ?_)
  · skip
    rw [if_pos c_5] at hf
    refine lv_bipush (v := 21) hx hb dX11_misfitOf_26 (by decide) ?_
    obtain ⟨h8, h9⟩ := ret_some hf
    rw [h8, h9]
    exact W.iret (v := 21) hx hb hr (fun t ht hW => ⟨⟨21, (), rfl, rfl, by rw [ht]; exact hP, va_K.moved hW.alike hK, hD⟩, hS.F ht⟩) hS.2.2 dX11_misfitOf_28
  · skip
    rw [if_neg c_5] at hf
    refine lv_aload_n hx hb dX11_misfitOf_12 rfl (lv_at hl 0 rfl) ?_
    obtain ⟨g_6, hf⟩ := grd_some hf
    obtain ⟨kg_6, sg_6⟩ := okO_at g_6
    obtain ⟨k_7, ek_7, hf⟩ := lnk_some hf
    refine va_get (D := (dC, dI)) (ci := 11) (v := .ref (a k_7)) (C := RX11) (T := TX11) (N := 13) hx hb hts iwd_X11_misfitOf_X11 hown hK hP h0 (Wd_ob kg_6 sg_6 (by decide)) rfl 6 (by decide) (hts _ md_X11_misfitOf_3) (fun _ h9 => h9) (fl_q rfl ek_7) dX11_misfitOf_13 ?_
    refine lv_aload_n hx hb dX11_misfitOf_16 rfl (lv_at hl 1 rfl) ?_
    refine va_get (D := (dC, dI)) (ci := 5) (v := .int (z_3.1 x0 2)) (C := RX5) (T := TX5) (N := 15) hx hb hts iwd_X11_misfitOf_X5 hown hK hP x0 (Wd_ob kg_4 sg_4 (by decide)) rfl 2 (by decide) (hts _ md_X11_misfitOf_2) (fun _ h9 => h9) (fl_at (t := 0) rfl) dX11_misfitOf_17 ?_
    obtain ⟨g_10, hf⟩ := grd_some hf
    obtain ⟨kg_10, sg_10⟩ := okO_at g_10
    obtain ⟨z_8, r_9, hfc, hf⟩ := cal_some hf
    have hFc := de_free hD hS hA
    refine va_callq (va_runV (As := [.int (z_3.1 x0 2)]) (rest := []) ⟨hx, hb, hml, hown, hts⟩ (de_X7_findProgram l dC dI cy a sh n H_2.size F z_3 k_7 (z_3.1 x0 2) hfc) (cwV 1 hts gX11_misfitOf_X7_findProgram rfl rfl rfl (by decide +kernel) ⟨Nat.le_of_ble_eq_true rfl, Nat.le_of_ble_eq_true rfl⟩) ⟨fun a U g mk q => by obtain ⟨q0, q1, qP, qK, qD, qN⟩ := q; exact ⟨q0, q1, qP, va_K.moved (u := U) (U := U.calling g mk a) (Vm.Alike.refl U.vm) qK, qD, qN.same rfl⟩, va_recv hK hP (ci := 7) (q0 := k_7) rfl (Wd_ob kg_10 sg_10 (by decide)), fun U hU hW => ⟨rfl, by rw [hU], by rw [hU]; exact hP, va_K.moved hW.alike hK, hD.weaken (fun _ _ _ _ => trivial), hN.warm hW⟩⟩ rfl rfl hl.1 rfl (lv_room (Nat.le_of_ble_eq_true rfl)) dX11_misfitOf_20 ⟨Nat.le_of_ble_eq_true rfl, Nat.le_of_ble_eq_true rfl⟩) hS (fun q _ h => hFc q h) hFc (fun rr u t H_11 locs ht hvm hw hB hz1 hk1 hS2 => ?_)
    rw [hw]
    clear hw
    obtain ⟨hP1, -, hD1⟩ := hB
    rw [ht] at hP1
    replace hD := hD1.weaken (fun _ _ _ h => hFc _ h)
    replace hP := hP1
    replace hS := hS2
    clear hP1 hD1 hS2 hFc hfc hz1 hk1 hvm ht
    rcases r_9 with _ | k_12
    · skip
      replace hf := nul_none hf
      refine W.eq (g2 := F0 m 23 ls [.null]) rfl ?_
      refine lv_ifnullN (tgt := 29) hx hb dX11_misfitOf_23 (by decide) ?_
      refine lv_aload_n hx hb dX11_misfitOf_29 rfl (lv_at hl 2 rfl) ?_
      refine lv_aload_n hx hb dX11_misfitOf_30 rfl (lv_at hl 1 rfl) ?_
      refine lv_aload_n hx hb dX11_misfitOf_31 rfl (lv_at hl 0 rfl) ?_
      obtain ⟨k_13, ek_13, hf⟩ := lnk_some hf
      refine va_get (D := (dC, dI)) (ci := 11) (v := .ref (a k_13)) (C := RX11) (T := TX11) (N := 13) hx hb hts iwd_X11_misfitOf_X11 hown hK hP h0 (Wd_ob kg_6 sg_6 (by decide)) rfl 6 (by decide) (hts _ md_X11_misfitOf_3) (fun _ h9 => h9) (fl_q rfl ek_13) dX11_misfitOf_32 ?_
      obtain ⟨z_14, r_15, hfc, hf⟩ := cal_some hf
      have hFc := de_free hD hS hA
      refine va_calli (va_runV (As := [.ref (a k_13)]) (rest := [.ref (a x1)]) ⟨hx, hb, hml, hown, hts⟩ (de_X5_strangeStructure l dC dI cy a sh n H_11.size F z_8 x0 k_13 hfc) (cwV 1 hts gX11_misfitOf_X5_strangeStructure rfl rfl rfl (by decide +kernel) ⟨Nat.le_of_ble_eq_true rfl, Nat.le_of_ble_eq_true rfl⟩) ⟨fun a U g mk q => by obtain ⟨q0, q1, qP, qK, qD, qN⟩ := q; exact ⟨q0, q1, qP, va_K.moved (u := U) (U := U.calling g mk a) (Vm.Alike.refl U.vm) qK, qD, qN.same rfl⟩, va_recv hK hP (ci := 5) (q0 := x0) rfl (Wd_ob kg_4 sg_4 (by decide)), fun U hU hW => ⟨rfl, by rw [hU], by rw [hU]; exact hP, va_K.moved hW.alike hK, hD.weaken (fun _ _ _ _ => trivial), hN.warm hW⟩⟩ rfl rfl hl.1 rfl (lv_room (Nat.le_of_ble_eq_true rfl)) dX11_misfitOf_35 ⟨Nat.le_of_ble_eq_true rfl, Nat.le_of_ble_eq_true rfl⟩) hS (fun q _ h => hFc q h) hFc (fun rr u t H_16 locs ht hvm hw hB hz1 hk1 hS2 => ?_)
      rw [hw]
      clear hw
      obtain ⟨hP1, -, hD1⟩ := hB
      rw [ht] at hP1
      replace hD := hD1.weaken (fun _ _ _ h => hFc _ h)
      replace hP := hP1
      replace hS := hS2
      clear hP1 hD1 hS2 hFc hfc hz1 hk1 hvm ht
      refine va_put (D := (dC, dI)) (ci := 8) (v := .int r_15) (ty := .int) (C := RX8) (T := TX8) (N := 19) hx hb hts iwd_X11_misfitOf_X8 tyX8 tyX8_ok nmX8 hown hK hP hD hS x1 (Wd_ob kg_1 sg_1 (by decide)) rfl 14 (by decide) (hts _ md_X11_misfitOf_1) (fun _ h9 => h9) rfl (by decide +kernel) rfl rfl (by rw [fl_len]; decide) dX11_misfitOf_38 (fun H_17 locs hP2 hD2 hS2 => ?_)
      rw [Wd_si sg_1 (by decide) rfl] at hP2 hD2
      obtain ⟨z_18, ez_18⟩ : ∃ w, w = si z_14 x1 14 r_15 := ⟨_, rfl⟩
      rw [← ez_18] at hP2 hD2
      replace hf := lt_at ez_18 hf
      clear ez_18
      replace hP := hP2
      replace hD := hD2
      replace hS := hS2
      clear hP2 hD2 hS2
      refine lv_aload_n hx hb dX11_misfitOf_41 rfl (lv_at hl 2 rfl) ?_
      refine va_get (D := (dC, dI)) (ci := 8) (v := .int (z_18.1 x1 14)) (C := RX8) (T := TX8) (N := 19) hx hb hts iwd_X11_misfitOf_X8 hown hK hP x1 (Wd_ob kg_1 sg_1 (by decide)) rfl 14 (by decide) (hts _ md_X11_misfitOf_1) (fun _ h9 => h9) (fl_at (t := 0) rfl) dX11_misfitOf_42 ?_
      refine lv_if_lt (tgt := 51) hx hb dX11_misfitOf_45 (by decide) (fun c_19 => ?_) (fun c_19 => ?_)
      · skip
        rw [if_pos c_19] at hf
        refine lv_aload_n hx hb dX11_misfitOf_51 rfl (lv_at hl 2 rfl) ?_
        refine lv_aload_n hx hb dX11_misfitOf_52 rfl (lv_at hl 1 rfl) ?_
        refine lv_aload_n hx hb dX11_misfitOf_53 rfl (lv_at hl 0 rfl) ?_
        obtain ⟨k_20, ek_20, hf⟩ := lnk_some hf
        refine va_get (D := (dC, dI)) (ci := 11) (v := .ref (a k_20)) (C := RX11) (T := TX11) (N := 13) hx hb hts iwd_X11_misfitOf_X11 hown hK hP h0 (Wd_ob kg_6 sg_6 (by decide)) rfl 6 (by decide) (hts _ md_X11_misfitOf_3) (fun _ h9 => h9) (fl_q rfl ek_20) dX11_misfitOf_54 ?_
        obtain ⟨z_21, r_22, hfc, hf⟩ := cal_some hf
        have hFc := de_free hD hS hA
        refine va_calli (va_runV (As := [.ref (a k_20)]) (rest := [.ref (a x1)]) ⟨hx, hb, hml, hown, hts⟩ (de_X5_strangeFunction l dC dI cy a sh n H_17.size F z_18 x0 k_20 hfc) (cwV 1 hts gX11_misfitOf_X5_strangeFunction rfl rfl rfl (by decide +kernel) ⟨Nat.le_of_ble_eq_true rfl, Nat.le_of_ble_eq_true rfl⟩) ⟨fun a U g mk q => by obtain ⟨q0, q1, qP, qK, qD, qN⟩ := q; exact ⟨q0, q1, qP, va_K.moved (u := U) (U := U.calling g mk a) (Vm.Alike.refl U.vm) qK, qD, qN.same rfl⟩, va_recv hK hP (ci := 5) (q0 := x0) rfl (Wd_ob kg_4 sg_4 (by decide)), fun U hU hW => ⟨rfl, by rw [hU], by rw [hU]; exact hP, va_K.moved hW.alike hK, hD.weaken (fun _ _ _ _ => trivial), hN.warm hW⟩⟩ rfl rfl hl.1 rfl (lv_room (Nat.le_of_ble_eq_true rfl)) dX11_misfitOf_57 ⟨Nat.le_of_ble_eq_true rfl, Nat.le_of_ble_eq_true rfl⟩) hS (fun q _ h => hFc q h) hFc (fun rr u t H_23 locs ht hvm hw hB hz1 hk1 hS2 => ?_)
        rw [hw]
        clear hw
        obtain ⟨hP1, -, hD1⟩ := hB
        rw [ht] at hP1
        replace hD := hD1.weaken (fun _ _ _ h => hFc _ h)
        replace hP := hP1
        replace hS := hS2
        clear hP1 hD1 hS2 hFc hfc hz1 hk1 hvm ht
        refine va_put (D := (dC, dI)) (ci := 8) (v := .int r_22) (ty := .int) (C := RX8) (T := TX8) (N := 19) hx hb hts iwd_X11_misfitOf_X8 tyX8 tyX8_ok nmX8 hown hK hP hD hS x1 (Wd_ob kg_1 sg_1 (by decide)) rfl 14 (by decide) (hts _ md_X11_misfitOf_1) (fun _ h9 => h9) rfl (by decide +kernel) rfl rfl (by rw [fl_len]; decide) dX11_misfitOf_60 (fun H_24 locs hP2 hD2 hS2 => ?_)
        rw [Wd_si sg_1 (by decide) rfl] at hP2 hD2
        obtain ⟨z_25, ez_25⟩ : ∃ w, w = si z_21 x1 14 r_22 := ⟨_, rfl⟩
        rw [← ez_25] at hP2 hD2
        replace hf := lt_at ez_25 hf
        clear ez_25
        replace hP := hP2
        replace hD := hD2
        replace hS := hS2
        clear hP2 hD2 hS2
        refine lv_aload_n hx hb dX11_misfitOf_63 rfl (lv_at hl 2 rfl) ?_
        refine va_get (D := (dC, dI)) (ci := 8) (v := .int (z_25.1 x1 14)) (C := RX8) (T := TX8) (N := 19) hx hb hts iwd_X11_misfitOf_X8 hown hK hP x1 (Wd_ob kg_1 sg_1 (by decide)) rfl 14 (by decide) (hts _ md_X11_misfitOf_1) (fun _ h9 => h9) (fl_at (t := 0) rfl) dX11_misfitOf_64 ?_
        refine lv_if_lt (tgt := 73) hx hb dX11_misfitOf_67 (by decide) (fun c_26 => ?_) (fun c_26 => ?_)
        · skip
          rw [if_pos c_26] at hf
          refine lv_aload_n hx hb dX11_misfitOf_73 rfl (lv_at hl 2 rfl) ?_
          refine lv_aload_n hx hb dX11_misfitOf_74 rfl (lv_at hl 1 rfl) ?_
          obtain ⟨z_27, r_28, hfc, hf⟩ := cal_some hf
          have hFc := de_free hD hS hA
          refine va_calli (va_runV (As := []) (rest := [.ref (a x1)]) ⟨hx, hb, hml, hown, hts⟩ (de_X5_weakStructure l dC dI cy a sh n H_24.size F z_25 x0 hfc) (cwV 0 hts gX11_misfitOf_X5_weakStructure rfl rfl rfl (by decide +kernel) ⟨Nat.le_of_ble_eq_true rfl, Nat.le_of_ble_eq_true rfl⟩) ⟨fun a U g mk q => by obtain ⟨q0, q1, qP, qK, qD, qN⟩ := q; exact ⟨q0, q1, qP, va_K.moved (u := U) (U := U.calling g mk a) (Vm.Alike.refl U.vm) qK, qD, qN.same rfl⟩, va_recv hK hP (ci := 5) (q0 := x0) rfl (Wd_ob kg_4 sg_4 (by decide)), fun U hU hW => ⟨rfl, by rw [hU], by rw [hU]; exact hP, va_K.moved hW.alike hK, hD.weaken (fun _ _ _ _ => trivial), hN.warm hW⟩⟩ rfl rfl hl.1 rfl (lv_room (Nat.le_of_ble_eq_true rfl)) dX11_misfitOf_75 ⟨Nat.le_of_ble_eq_true rfl, Nat.le_of_ble_eq_true rfl⟩) hS (fun q _ h => hFc q h) hFc (fun rr u t H_29 locs ht hvm hw hB hz1 hk1 hS2 => ?_)
          rw [hw]
          clear hw
          obtain ⟨hP1, -, hD1⟩ := hB
          rw [ht] at hP1
          replace hD := hD1.weaken (fun _ _ _ h => hFc _ h)
          replace hP := hP1
          replace hS := hS2
          clear hP1 hD1 hS2 hFc hfc hz1 hk1 hvm ht
          refine va_put (D := (dC, dI)) (ci := 8) (v := .int r_28) (ty := .int) (C := RX8) (T := TX8) (N := 19) hx hb hts iwd_X11_misfitOf_X8 tyX8 tyX8_ok nmX8 hown hK hP hD hS x1 (Wd_ob kg_1 sg_1 (by decide)) rfl 14 (by decide) (hts _ md_X11_misfitOf_1) (fun _ h9 => h9) rfl (by decide +kernel) rfl rfl (by rw [fl_len]; decide) dX11_misfitOf_78 (fun H_30 locs hP2 hD2 hS2 => ?_)
          rw [Wd_si sg_1 (by decide) rfl] at hP2 hD2
          obtain ⟨z_31, ez_31⟩ : ∃ w, w = si z_27 x1 14 r_28 := ⟨_, rfl⟩
          rw [← ez_31] at hP2 hD2
          replace hf := lt_at ez_31 hf
          clear ez_31
          replace hP := hP2
          replace hD := hD2
          replace hS := hS2
          clear hP2 hD2 hS2
          refine lv_aload_n hx hb dX11_misfitOf_81 rfl (lv_at hl 2 rfl) ?_
          refine va_get (D := (dC, dI)) (ci := 8) (v := .int (z_31.1 x1 14)) (C := RX8) (T := TX8) (N := 19) hx hb hts iwd_X11_misfitOf_X8 hown hK hP x1 (Wd_ob kg_1 sg_1 (by decide)) rfl 14 (by decide) (hts _ md_X11_misfitOf_1) (fun _ h9 => h9) (fl_at (t := 0) rfl) dX11_misfitOf_82 ?_
          refine lv_if_lt (tgt := 91) hx hb dX11_misfitOf_85 (by decide) (fun c_32 => ?_) (fun c_32 => ?_)
          · skip
            rw [if_pos c_32] at hf
            refine lv_aload_n hx hb dX11_misfitOf_91 rfl (lv_at hl 1 rfl) ?_
            refine lv_aload_n hx hb dX11_misfitOf_92 rfl (lv_at hl 0 rfl) ?_
            obtain ⟨k_33, ek_33, hf⟩ := lnk_some hf
            refine va_get (D := (dC, dI)) (ci := 11) (v := .ref (a k_33)) (C := RX11) (T := TX11) (N := 13) hx hb hts iwd_X11_misfitOf_X11 hown hK hP h0 (Wd_ob kg_6 sg_6 (by decide)) rfl 6 (by decide) (hts _ md_X11_misfitOf_3) (fun _ h9 => h9) (fl_q rfl ek_33) dX11_misfitOf_93 ?_
            obtain ⟨z_34, _u, hfc, hf⟩ := cal_some hf
            have hFc := de_free hD hS hA
            refine va_callv (va_runV (As := [.ref (a k_33)]) (rest := []) ⟨hx, hb, hml, hown, hts⟩ (de_X5_measure l dC dI cy a sh n H_30.size F z_31 x0 k_33 hfc) (cwV 1 hts gX11_misfitOf_X5_measure rfl rfl rfl (by decide +kernel) ⟨Nat.le_of_ble_eq_true rfl, Nat.le_of_ble_eq_true rfl⟩) ⟨fun a U g mk q => by obtain ⟨q0, q1, qP, qK, qD, qN⟩ := q; exact ⟨q0, q1, qP, va_K.moved (u := U) (U := U.calling g mk a) (Vm.Alike.refl U.vm) qK, qD, qN.same rfl⟩, va_recv hK hP (ci := 5) (q0 := x0) rfl (Wd_ob kg_4 sg_4 (by decide)), fun U hU hW => ⟨rfl, by rw [hU], by rw [hU]; exact hP, va_K.moved hW.alike hK, hD.weaken (fun _ _ _ _ => trivial), hN.warm hW⟩⟩ rfl rfl hl.1 rfl (lv_room (Nat.le_of_ble_eq_true rfl)) dX11_misfitOf_96 ⟨Nat.le_of_ble_eq_true rfl, Nat.le_of_ble_eq_true rfl⟩) hS (fun q _ h => hFc q h) hFc (fun u t H_35 locs ht hvm hw hB hz1 hk1 hS2 => ?_)
            obtain ⟨hP1, -, hD1⟩ := hB
            rw [ht] at hP1
            replace hD := hD1.weaken (fun _ _ _ h => hFc _ h)
            replace hP := hP1
            replace hS := hS2
            clear hP1 hD1 hS2 hFc hfc hz1 hk1 hvm ht
            refine lv_aload_n hx hb dX11_misfitOf_99 rfl (lv_at hl 2 rfl) ?_
            refine lv_aload_n hx hb dX11_misfitOf_100 rfl (lv_at hl 1 rfl) ?_
            obtain ⟨z_36, r_37, hfc, hf⟩ := cal_some hf
            have hFc := de_free hD hS hA
            refine va_calli (va_runV (As := []) (rest := [.ref (a x1)]) ⟨hx, hb, hml, hown, hts⟩ (de_X5_deepStructure l dC dI cy a sh n H_35.size F z_34 x0 hfc) (cwV 0 hts gX11_misfitOf_X5_deepStructure rfl rfl rfl (by decide +kernel) ⟨Nat.le_of_ble_eq_true rfl, Nat.le_of_ble_eq_true rfl⟩) ⟨fun a U g mk q => by obtain ⟨q0, q1, qP, qK, qD, qN⟩ := q; exact ⟨q0, q1, qP, va_K.moved (u := U) (U := U.calling g mk a) (Vm.Alike.refl U.vm) qK, qD, qN.same rfl⟩, va_recv hK hP (ci := 5) (q0 := x0) rfl (Wd_ob kg_4 sg_4 (by decide)), fun U hU hW => ⟨rfl, by rw [hU], by rw [hU]; exact hP, va_K.moved hW.alike hK, hD.weaken (fun _ _ _ _ => trivial), hN.warm hW⟩⟩ rfl rfl hl.1 rfl (lv_room (Nat.le_of_ble_eq_true rfl)) dX11_misfitOf_101 ⟨Nat.le_of_ble_eq_true rfl, Nat.le_of_ble_eq_true rfl⟩) hS (fun q _ h => hFc q h) hFc (fun rr u t H_38 locs ht hvm hw hB hz1 hk1 hS2 => ?_)
            rw [hw]
            clear hw
            obtain ⟨hP1, -, hD1⟩ := hB
            rw [ht] at hP1
            replace hD := hD1.weaken (fun _ _ _ h => hFc _ h)
            replace hP := hP1
            replace hS := hS2
            clear hP1 hD1 hS2 hFc hfc hz1 hk1 hvm ht
            refine va_put (D := (dC, dI)) (ci := 8) (v := .int r_37) (ty := .int) (C := RX8) (T := TX8) (N := 19) hx hb hts iwd_X11_misfitOf_X8 tyX8 tyX8_ok nmX8 hown hK hP hD hS x1 (Wd_ob kg_1 sg_1 (by decide)) rfl 14 (by decide) (hts _ md_X11_misfitOf_1) (fun _ h9 => h9) rfl (by decide +kernel) rfl rfl (by rw [fl_len]; decide) dX11_misfitOf_104 (fun H_39 locs hP2 hD2 hS2 => ?_)
            rw [Wd_si sg_1 (by decide) rfl] at hP2 hD2
            obtain ⟨z_40, ez_40⟩ : ∃ w, w = si z_36 x1 14 r_37 := ⟨_, rfl⟩
            rw [← ez_40] at hP2 hD2
            replace hf := lt_at ez_40 hf
            clear ez_40
            replace hP := hP2
            replace hD := hD2
            replace hS := hS2
            clear hP2 hD2 hS2
            refine lv_aload_n hx hb dX11_misfitOf_107 rfl (lv_at hl 2 rfl) ?_
            refine va_get (D := (dC, dI)) (ci := 8) (v := .int (z_40.1 x1 14)) (C := RX8) (T := TX8) (N := 19) hx hb hts iwd_X11_misfitOf_X8 hown hK hP x1 (Wd_ob kg_1 sg_1 (by decide)) rfl 14 (by decide) (hts _ md_X11_misfitOf_1) (fun _ h9 => h9) (fl_at (t := 0) rfl) dX11_misfitOf_108 ?_
            refine lv_if_lt (tgt := 119) hx hb dX11_misfitOf_111 (by decide) (fun c_41 => ?_) (fun c_41 => ?_)
            · skip
              rw [if_pos c_41] at hf
              refine lv_iconst (v := 0) hx hb dX11_misfitOf_119 (by decide) ?_
              obtain ⟨h8, h9⟩ := ret_some hf
              rw [h8, h9]
              exact W.iret (v := 0) hx hb hr (fun t ht hW => ⟨⟨0, (), rfl, rfl, by rw [ht]; exact hP, va_K.moved hW.alike hK, hD⟩, hS.F ht⟩) hS.2.2 dX11_misfitOf_120
            · skip
              rw [if_neg c_41] at hf
              refine lv_bipush (v := 25) hx hb dX11_misfitOf_114 (by decide) ?_
              refine lv_goto (tgt := 120) hx hb dX11_misfitOf_116 (by decide) ?_
              obtain ⟨h8, h9⟩ := ret_some hf
              rw [h8, h9]
              exact W.iret (v := 25) hx hb hr (fun t ht hW => ⟨⟨25, (), rfl, rfl, by rw [ht]; exact hP, va_K.moved hW.alike hK, hD⟩, hS.F ht⟩) hS.2.2 dX11_misfitOf_120
          · skip
            rw [if_neg c_32] at hf
            refine lv_bipush (v := 24) hx hb dX11_misfitOf_88 (by decide) ?_
            obtain ⟨h8, h9⟩ := ret_some hf
            rw [h8, h9]
            exact W.iret (v := 24) hx hb hr (fun t ht hW => ⟨⟨24, (), rfl, rfl, by rw [ht]; exact hP, va_K.moved hW.alike hK, hD⟩, hS.F ht⟩) hS.2.2 dX11_misfitOf_90
        · skip
          rw [if_neg c_26] at hf
          refine lv_bipush (v := 23) hx hb dX11_misfitOf_70 (by decide) ?_
          obtain ⟨h8, h9⟩ := ret_some hf
          rw [h8, h9]
          exact W.iret (v := 23) hx hb hr (fun t ht hW => ⟨⟨23, (), rfl, rfl, by rw [ht]; exact hP, va_K.moved hW.alike hK, hD⟩, hS.F ht⟩) hS.2.2 dX11_misfitOf_72
      · skip
        rw [if_neg c_19] at hf
        refine lv_bipush (v := 22) hx hb dX11_misfitOf_48 (by decide) ?_
        obtain ⟨h8, h9⟩ := ret_some hf
        rw [h8, h9]
        exact W.iret (v := 22) hx hb hr (fun t ht hW => ⟨⟨22, (), rfl, rfl, by rw [ht]; exact hP, va_K.moved hW.alike hK, hD⟩, hS.F ht⟩) hS.2.2 dX11_misfitOf_50
    · skip
      replace hf := nul_some hf
      refine W.eq (g2 := F0 m 23 ls [.ref (a k_12)]) rfl ?_
      refine lv_ifnull hx hb dX11_misfitOf_23 ?_
      refine lv_bipush (v := 21) hx hb dX11_misfitOf_26 (by decide) ?_
      obtain ⟨h8, h9⟩ := ret_some hf
      rw [h8, h9]
      exact W.iret (v := 21) hx hb hr (fun t ht hW => ⟨⟨21, (), rfl, rfl, by rw [ht]; exact hP, va_K.moved hW.alike hK, hD⟩, hS.F ht⟩) hS.2.2 dX11_misfitOf_28

