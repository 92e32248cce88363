theorem md_X4_run_1 : (.fieldLink RX4 75 "ResourceLedger$Machine" "t" "LResourceLedger$Transaction;" : Cond) ∈ wsX4_run := List.mem_of_getElem? (i := 1) rfl
theorem iwd_X4_run_X4 : ∀ w ∈ wsX40, w ∈ wsX4_run := fun _ h => List.mem_cons_of_mem _ (List.mem_append_left _ (List.mem_append_left _ (List.mem_append_left _ (List.mem_append_left _ (List.mem_append_left _ (List.mem_append_left _ (List.mem_append_left _ (List.mem_append_right _ h))))))))
theorem md_X4_run_2 : (.fieldLink RX4 79 "ResourceLedger$Machine" "gas" "I" : Cond) ∈ wsX4_run := List.mem_of_getElem? (i := 2) rfl
theorem md_X4_run_3 : (.fieldLink RX4 82 "ResourceLedger$Machine" "running" "Z" : Cond) ∈ wsX4_run := List.mem_of_getElem? (i := 3) rfl
theorem md_X4_run_4 : (.fieldLink RX4 86 "ResourceLedger$Machine" "outcome" "I" : Cond) ∈ wsX4_run := List.mem_of_getElem? (i := 4) rfl
theorem md_X4_run_5 : (.fieldLink RX4 89 "ResourceLedger$Machine" "code" "J" : Cond) ∈ wsX4_run := List.mem_of_getElem? (i := 5) rfl
theorem md_X4_run_6 : (.fieldLink RX4 12 "ResourceLedger$Machine" "heap" "LResourceLedger$Heap;" : Cond) ∈ wsX4_run := List.mem_of_getElem? (i := 6) rfl
theorem md_X4_run_7 : (.fieldLink RX4 67 "ResourceLedger$Machine" "journal" "LResourceLedger$Journal;" : Cond) ∈ wsX4_run := List.mem_of_getElem? (i := 7) rfl
theorem md_X4_run_8 : (.fieldLink RX4 100 "ResourceLedger$Machine" "top" "I" : Cond) ∈ wsX4_run := List.mem_of_getElem? (i := 8) rfl
theorem md_X4_run_9 : (.fieldLink RX4 58 "ResourceLedger$Machine" "state" "LResourceLedger$State;" : Cond) ∈ wsX4_run := List.mem_of_getElem? (i := 9) rfl
theorem md_X4_run_10 : (.fieldLink RX4 103 "ResourceLedger$Transaction" "module" "I" : Cond) ∈ wsX4_run := List.mem_of_getElem? (i := 10) rfl
theorem iwd_X4_run_X8 : ∀ w ∈ wsX80, w ∈ wsX4_run := fun _ h => List.mem_cons_of_mem _ (List.mem_append_left _ (List.mem_append_left _ (List.mem_append_left _ (List.mem_append_left _ (List.mem_append_left _ (List.mem_append_left _ (List.mem_append_right _ h)))))))
theorem md_X4_run_11 : (.fieldLink RX4 114 "ResourceLedger$Transaction" "function" "I" : Cond) ∈ wsX4_run := List.mem_of_getElem? (i := 11) rfl
theorem md_X4_run_12 : (.fieldLink RX4 121 "ResourceLedger$Transaction" "argumentCount" "I" : Cond) ∈ wsX4_run := List.mem_of_getElem? (i := 12) rfl
theorem md_X4_run_23 : (.fieldLink RX4 49 "ResourceLedger$Machine" "depths" "[I" : Cond) ∈ wsX4_run := List.mem_of_getElem? (i := 23) rfl
theorem md_X4_run_24 : (.fieldLink RX4 55 "ResourceLedger$Machine" "stack" "[I" : Cond) ∈ wsX4_run := List.mem_of_getElem? (i := 24) rfl
theorem md_X4_run_25 : (.fieldLink RX4 157 "ResourceLedger$Heap" "kind" "[B" : Cond) ∈ wsX4_run := List.mem_of_getElem? (i := 25) rfl
theorem iwd_X4_run_X1 : ∀ w ∈ wsX10, w ∈ wsX4_run := fun _ h => List.mem_cons_of_mem _ (List.mem_append_left _ (List.mem_append_left _ (List.mem_append_left _ (List.mem_append_left _ (List.mem_append_left _ (List.mem_append_right _ h))))))
theorem md_X4_run_26 : (.fieldLink RX4 160 "ResourceLedger$Heap" "high" "[J" : Cond) ∈ wsX4_run := List.mem_of_getElem? (i := 26) rfl
theorem md_X4_run_27 : (.fieldLink RX4 163 "ResourceLedger$Heap" "low" "[J" : Cond) ∈ wsX4_run := List.mem_of_getElem? (i := 27) rfl
theorem md_X4_run_22 : (.constantLong RX4 151 (4) : Cond) ∈ wsX4_run := List.mem_of_getElem? (i := 22) rfl
theorem md_X4_run_17 : (.fieldLink RX4 71 "ResourceLedger$Heap" "slips" "I" : Cond) ∈ wsX4_run := List.mem_of_getElem? (i := 17) rfl
theorem md_X4_run_18 : (.methodLink RX4 141 Lib.Math.min.name : Cond) ∈ wsX4_run := List.mem_of_getElem? (i := 18) rfl
theorem md_X4_run_19 : (.static Lib.Math.min.name : Cond) ∈ wsX4_run := List.mem_of_getElem? (i := 19) rfl
theorem md_X4_run_20 : (.initialized "java/lang/Math" : Cond) ∈ wsX4_run := List.mem_of_getElem? (i := 20) rfl
theorem md_X4_run_21 : (.code Lib.Math.min.name Lib.Math.min.code 2 (some .int) : Cond) ∈ wsX4_run := List.mem_of_getElem? (i := 21) rfl
theorem md_X4_run_13 : (.fieldLink RX4 52 "ResourceLedger$Machine" "locals" "[I" : Cond) ∈ wsX4_run := List.mem_of_getElem? (i := 13) rfl
theorem md_X4_run_14 : (.fieldLink RX4 124 "ResourceLedger$Transaction" "argumentType" "[I" : Cond) ∈ wsX4_run := List.mem_of_getElem? (i := 14) rfl
theorem md_X4_run_15 : (.fieldLink RX4 127 "ResourceLedger$Transaction" "argumentHigh" "[J" : Cond) ∈ wsX4_run := List.mem_of_getElem? (i := 15) rfl
theorem md_X4_run_16 : (.fieldLink RX4 131 "ResourceLedger$Transaction" "argumentLow" "[J" : Cond) ∈ wsX4_run := List.mem_of_getElem? (i := 16) rfl
set_option maxHeartbeats 4000000 in
set_option maxRecDepth 100000 in
theorem de_X4_run (l : Launch) (dC : Nat → ClassId) (dI : Nat → Nat → Nat) (cy : Nat → ClassId) (a : Nat → Nat) (sh : Nat → Nat × Nat) (n sz : Nat) (F : Nat) (sk : Nat → Nat) (z : St) (h0 : Nat) (x0 : Nat) {z8 : St} {r8 : Unit} (hf : fn_X4_run F sh n z h0 x0 = some (z8, r8)) : Met l yX4_run wsX4_run ({ frames := 54, cells := 0, slots := 0, locals := 1500 }) (va_Pc [.ref (a h0), .ref (a x0)] (fun U => U.heap.size = sz ∧ va_P (dC, dI) vwCl (Wd cy a sh n z) U.heap ∧ va_K (dC, dI) vwCl (TYS cy) U ∧ va_D (fun _ => True) (Wd cy a sh n z) ∧ NK U ∧ SKs sk (a CBK) (va_A (Wd cy a sh n z) sz) U U.heap)) (va_Qv (fun u : Unit => True) (fun u t => va_P (dC, dI) vwCl (Wd cy a sh n z8) t.heap ∧ va_K (dC, dI) vwCl (TYS cy) t ∧ va_D (va_A (Wd cy a sh n z) sz) (Wd cy a sh n z8)) (va_A (Wd cy a sh n z) sz)) 0 0 (va_A (Wd cy a sh n z) sz) := by
  refine Met.ofW (cc := cX4_run) (maxL := 4) (ret := none) (by decide) rfl ?_
  intro p e s m args below meth c s₁ B hml hv
  obtain ⟨rfl, hsz, hP, hK, hD0, hN, hSK⟩ := hv
  have hx := B.exec
  have hb := B.bytes
  have hr := B.returns
  have hts := atoms_spec (ws := wsX4_run) B.pre
  have hown : s.vm.findClass RX4 = some m.cls := findClass_of_methodNamed B.named
  have hlocks := B.notSynchronized
  subst hsz
  have hD := hD0.self (sz := s.heap.size)
  clear hD0
  generalize hAe : va_A (Wd cy a sh n z) s.heap.size = A at hD hSK ⊢
  have hA : ∀ q : Nat, s.heap.size ≤ q → A q := fun q h => by rw [← hAe]; exact Or.inr h
  clear hAe
  have hS : va_S A s.heap s.heap [] := va_S.rf
  have hl := lv_entry ([.ref (a h0), .ref (a x0)]) (n := 4) (Nat.le_of_ble_eq_true rfl)
  rw [lg_entry_eq]
  generalize (lg_sl ([.ref (a h0), .ref (a x0)]) ++ List.replicate (4 - (lg_sl ([.ref (a h0), .ref (a x0)])).length) Slot.unset).toArray = ls at hl ⊢
  replace hl : lv_has ls 4 [(0, .ref (a h0)), (1, .ref (a x0))] := hl
  unfold fn_X4_run at hf
  refine de_start hS hP (fun H locs hS hP => ?_)
  refine lv_aload_n hx hb dX4_run_0 rfl (lv_at hl 0 rfl) ?_
  refine lv_aload_n hx hb dX4_run_1 rfl (lv_at hl 1 rfl) ?_
  obtain ⟨g_1, hf⟩ := grd_some hf
  obtain ⟨kg_1, sg_1⟩ := okO_at g_1
  refine va_put (D := (dC, dI)) (ci := 4) (v := .ref (a x0)) (ty := .object "ResourceLedger$Transaction") (C := RX4) (T := TX4) (N := 18) hx hb hts iwd_X4_run_X4 tyX4 tyX4_ok nmX4 hown hK hP hD hS h0 (Wd_ob kg_1 sg_1 (by decide)) rfl 13 (by decide) (hts _ md_X4_run_1) (fun _ h9 => h9) rfl (by decide +kernel) rfl rfl (by rw [fl_len]; decide) dX4_run_2 (fun H_2 locs hP2 hD2 hS2 => ?_)
  rw [Wd_sq1 sg_1 (by decide) rfl] at hP2 hD2
  obtain ⟨z_3, ez_3⟩ : ∃ w, w = sq z h0 13 (some x0) := ⟨_, rfl⟩
  rw [← ez_3] at hP2 hD2
  replace hf := lt_at ez_3 hf
  clear ez_3
  replace hP := hP2
  replace hD := hD2
  replace hS := hS2
  clear hP2 hD2 hS2
  refine lv_aload_n hx hb dX4_run_5 rfl (lv_at hl 0 rfl) ?_
  refine lv_iconst (v := 0) hx hb dX4_run_6 (by decide) ?_
  refine va_put (D := (dC, dI)) (ci := 4) (v := .int 0) (ty := .int) (C := RX4) (T := TX4) (N := 18) hx hb hts iwd_X4_run_X4 tyX4 tyX4_ok nmX4 hown hK hP hD hS h0 (Wd_ob kg_1 sg_1 (by decide)) rfl 14 (by decide) (hts _ md_X4_run_2) (fun _ h9 => h9) rfl (by decide +kernel) rfl rfl (by rw [fl_len]; decide) dX4_run_7 (fun H_4 locs hP2 hD2 hS2 => ?_)
  rw [Wd_si sg_1 (by decide) rfl] at hP2 hD2
  obtain ⟨z_5, ez_5⟩ : ∃ w, w = si z_3 h0 14 0 := ⟨_, rfl⟩
  rw [← ez_5] at hP2 hD2
  replace hf := lt_at ez_5 hf
  clear ez_5
  replace hP := hP2
  replace hD := hD2
  replace hS := hS2
  clear hP2 hD2 hS2
  refine lv_aload_n hx hb dX4_run_10 rfl (lv_at hl 0 rfl) ?_
  refine lv_iconst (v := 1) hx hb dX4_run_11 (by decide) ?_
  refine va_put (D := (dC, dI)) (ci := 4) (v := .int 1) (ty := .boolean) (C := RX4) (T := TX4) (N := 18) hx hb hts iwd_X4_run_X4 tyX4 tyX4_ok nmX4 hown hK hP hD hS h0 (Wd_ob kg_1 sg_1 (by decide)) rfl 15 (by decide) (hts _ md_X4_run_3) (fun _ h9 => h9) rfl (by decide +kernel) rfl rfl (by rw [fl_len]; decide) dX4_run_12 (fun H_6 locs hP2 hD2 hS2 => ?_)
  rw [Wd_si sg_1 (by decide) rfl] at hP2 hD2
  obtain ⟨z_7, ez_7⟩ : ∃ w, w = si z_5 h0 15 1 := ⟨_, rfl⟩
  rw [← ez_7] at hP2 hD2
  replace hf := lt_at ez_7 hf
  clear ez_7
  replace hP := hP2
  replace hD := hD2
  replace hS := hS2
  clear hP2 hD2 hS2
  refine lv_aload_n hx hb dX4_run_15 rfl (lv_at hl 0 rfl) ?_
  refine lv_iconst (v := 0) hx hb dX4_run_16 (by decide) ?_
  refine va_put (D := (dC, dI)) (ci := 4) (v := .int 0) (ty := .int) (C := RX4) (T := TX4) (N := 18) hx hb hts iwd_X4_run_X4 tyX4 tyX4_ok nmX4 hown hK hP hD hS h0 (Wd_ob kg_1 sg_1 (by decide)) rfl 16 (by decide) (hts _ md_X4_run_4) (fun _ h9 => h9) rfl (by decide +kernel) rfl rfl (by rw [fl_len]; decide) dX4_run_17 (fun H_8 locs hP2 hD2 hS2 => ?_)
  rw [Wd_si sg_1 (by decide) rfl] at hP2 hD2
  obtain ⟨z_9, ez_9⟩ : ∃ w, w = si z_7 h0 16 0 := ⟨_, rfl⟩
  rw [← ez_9] at hP2 hD2
  replace hf := lt_at ez_9 hf
  clear ez_9
  replace hP := hP2
  replace hD := hD2
  replace hS := hS2
  clear hP2 hD2 hS2
  refine lv_aload_n hx hb dX4_run_20 rfl (lv_at hl 0 rfl) ?_
  refine lv_lconst (v := 0) hx hb dX4_run_21 (by decide) ?_
  refine va_put (D := (dC, dI)) (ci := 4) (v := .long 0) (ty := .long) (C := RX4) (T := TX4) (N := 18) hx hb hts iwd_X4_run_X4 tyX4 tyX4_ok nmX4 hown hK hP hD hS h0 (Wd_ob kg_1 sg_1 (by decide)) rfl 17 (by decide) (hts _ md_X4_run_5) (fun _ h9 => h9) rfl (by decide +kernel) rfl rfl (by rw [fl_len]; decide) dX4_run_22 (fun H_10 locs hP2 hD2 hS2 => ?_)
  rw [Wd_sl sg_1 (by decide) rfl] at hP2 hD2
  obtain ⟨z_11, ez_11⟩ : ∃ w, w = sl z_9 h0 17 0 := ⟨_, rfl⟩
  rw [← ez_11] at hP2 hD2
  replace hf := lt_at ez_11 hf
  clear ez_11
  replace hP := hP2
  replace hD := hD2
  replace hS := hS2
  clear hP2 hD2 hS2
  refine lv_aload_n hx hb dX4_run_25 rfl (lv_at hl 0 rfl) ?_
  obtain ⟨k_12, ek_12, hf⟩ := lnk_some hf
  refine va_get (D := (dC, dI)) (ci := 4) (v := .ref (a k_12)) (C := RX4) (T := TX4) (N := 18) hx hb hts iwd_X4_run_X4 hown hK hP h0 (Wd_ob kg_1 sg_1 (by decide)) rfl 1 (by decide) (hts _ md_X4_run_6) (fun _ h9 => h9) (fl_q rfl ek_12) dX4_run_26 ?_
  obtain ⟨g_14, hf⟩ := grd_some hf
  obtain ⟨kg_14, sg_14⟩ := okO_at g_14
  obtain ⟨z_13, _u, hfc, hf⟩ := cal_some hf
  have hFc := de_free hD hS hA
  refine va_callv (va_runV (As := []) (rest := []) ⟨hx, hb, hml, hown, hts⟩ (de_X1_clear l dC dI cy a sh n H_10.size F z_11 k_12 hfc) (cwV 0 hts gX4_run_X1_clear rfl rfl rfl (by decide +kernel) ⟨Nat.le_of_ble_eq_true rfl, Nat.le_of_ble_eq_true rfl⟩) ⟨fun a U g mk q => by obtain ⟨q0, q1, qP, qK, qD, qN⟩ := q; exact ⟨q0, q1, qP, va_K.moved (u := U) (U := U.calling g mk a) (Vm.Alike.refl U.vm) qK, qD, qN.same rfl⟩, va_recv hK hP (ci := 1) (q0 := k_12) rfl (Wd_ob kg_14 sg_14 (by decide)), fun U hU hW => ⟨rfl, by rw [hU], by rw [hU]; exact hP, va_K.moved hW.alike hK, hD.weaken (fun _ _ _ _ => trivial), hN.warm hW⟩⟩ rfl rfl hl.1 rfl (lv_room (Nat.le_of_ble_eq_true rfl)) dX4_run_29 ⟨Nat.le_of_ble_eq_true rfl, Nat.le_of_ble_eq_true rfl⟩) hS (fun q _ h => hFc q h) hFc (fun u t H_15 locs ht hvm hw hB hz1 hk1 hS2 => ?_)
  obtain ⟨hP1, -, hD1⟩ := hB
  rw [ht] at hP1
  replace hD := hD1.weaken (fun _ _ _ h => hFc _ h)
  replace hP := hP1
  replace hS := hS2
  clear hP1 hD1 hS2 hFc hfc hz1 hk1 hvm ht
  refine lv_aload_n hx hb dX4_run_32 rfl (lv_at hl 0 rfl) ?_
  obtain ⟨k_16, ek_16, hf⟩ := lnk_some hf
  refine va_get (D := (dC, dI)) (ci := 4) (v := .ref (a k_16)) (C := RX4) (T := TX4) (N := 18) hx hb hts iwd_X4_run_X4 hown hK hP h0 (Wd_ob kg_1 sg_1 (by decide)) rfl 2 (by decide) (hts _ md_X4_run_7) (fun _ h9 => h9) (fl_q rfl ek_16) dX4_run_33 ?_
  refine lv_aload_n hx hb dX4_run_36 rfl (lv_at hl 0 rfl) ?_
  obtain ⟨k_17, ek_17, hf⟩ := lnk_some hf
  refine va_get (D := (dC, dI)) (ci := 4) (v := .ref (a k_17)) (C := RX4) (T := TX4) (N := 18) hx hb hts iwd_X4_run_X4 hown hK hP h0 (Wd_ob kg_1 sg_1 (by decide)) rfl 13 (by decide) (hts _ md_X4_run_1) (fun _ h9 => h9) (fl_q rfl ek_17) dX4_run_37 ?_
  obtain ⟨g_19, hf⟩ := grd_some hf
  obtain ⟨kg_19, sg_19⟩ := okO_at g_19
  obtain ⟨z_18, _u, hfc, hf⟩ := cal_some hf
  have hFc := de_free hD hS hA
  refine va_callv (va_runV (As := [.ref (a k_17)]) (rest := []) ⟨hx, hb, hml, hown, hts⟩ (de_X2_open l dC dI cy a sh n H_15.size F z_13 k_16 k_17 hfc) (cwV 1 hts gX4_run_X2_open rfl rfl rfl (by decide +kernel) ⟨Nat.le_of_ble_eq_true rfl, Nat.le_of_ble_eq_true rfl⟩) ⟨fun a U g mk q => by obtain ⟨q0, q1, qP, qK, qD, qN⟩ := q; exact ⟨q0, q1, qP, va_K.moved (u := U) (U := U.calling g mk a) (Vm.Alike.refl U.vm) qK, qD, qN.same rfl⟩, va_recv hK hP (ci := 2) (q0 := k_16) rfl (Wd_ob kg_19 sg_19 (by decide)), fun U hU hW => ⟨rfl, by rw [hU], by rw [hU]; exact hP, va_K.moved hW.alike hK, hD.weaken (fun _ _ _ _ => trivial), hN.warm hW⟩⟩ rfl rfl hl.1 rfl (lv_room (Nat.le_of_ble_eq_true rfl)) dX4_run_40 ⟨Nat.le_of_ble_eq_true rfl, Nat.le_of_ble_eq_true rfl⟩) hS (fun q _ h => hFc q h) hFc (fun u t H_20 locs ht hvm hw hB hz1 hk1 hS2 => ?_)
  obtain ⟨hP1, -, hD1⟩ := hB
  rw [ht] at hP1
  replace hD := hD1.weaken (fun _ _ _ h => hFc _ h)
  replace hP := hP1
  replace hS := hS2
  clear hP1 hD1 hS2 hFc hfc hz1 hk1 hvm ht
  refine lv_aload_n hx hb dX4_run_43 rfl (lv_at hl 0 rfl) ?_
  refine lv_iconst (v := (-1)) hx hb dX4_run_44 (by decide) ?_
  refine va_put (D := (dC, dI)) (ci := 4) (v := .int (-1)) (ty := .int) (C := RX4) (T := TX4) (N := 18) hx hb hts iwd_X4_run_X4 tyX4 tyX4_ok nmX4 hown hK hP hD hS h0 (Wd_ob kg_1 sg_1 (by decide)) rfl 12 (by decide) (hts _ md_X4_run_8) (fun _ h9 => h9) rfl (by decide +kernel) rfl rfl (by rw [fl_len]; decide) dX4_run_45 (fun H_21 locs hP2 hD2 hS2 => ?_)
  rw [Wd_si sg_1 (by decide) rfl] at hP2 hD2
  obtain ⟨z_22, ez_22⟩ : ∃ w, w = si z_18 h0 12 (-1) := ⟨_, rfl⟩
  rw [← ez_22] at hP2 hD2
  replace hf := lt_at ez_22 hf
  clear ez_22
  replace hP := hP2
  replace hD := hD2
  replace hS := hS2
  clear hP2 hD2 hS2
  refine lv_aload_n hx hb dX4_run_48 rfl (lv_at hl 0 rfl) ?_
  refine lv_aload_n hx hb dX4_run_49 rfl (lv_at hl 0 rfl) ?_
  obtain ⟨k_23, ek_23, hf⟩ := lnk_some hf
  refine va_get (D := (dC, dI)) (ci := 4) (v := .ref (a k_23)) (C := RX4) (T := TX4) (N := 18) hx hb hts iwd_X4_run_X4 hown hK hP h0 (Wd_ob kg_1 sg_1 (by decide)) rfl 0 (by decide) (hts _ md_X4_run_9) (fun _ h9 => h9) (fl_q rfl ek_23) dX4_run_50 ?_
  refine lv_aload_n hx hb dX4_run_53 rfl (lv_at hl 0 rfl) ?_
  obtain ⟨k_24, ek_24, hf⟩ := lnk_some hf
  refine va_get (D := (dC, dI)) (ci := 4) (v := .ref (a k_24)) (C := RX4) (T := TX4) (N := 18) hx hb hts iwd_X4_run_X4 hown hK hP h0 (Wd_ob kg_1 sg_1 (by decide)) rfl 13 (by decide) (hts _ md_X4_run_1) (fun _ h9 => h9) (fl_q rfl ek_24) dX4_run_54 ?_
  obtain ⟨g_25, hf⟩ := grd_some hf
  obtain ⟨kg_25, sg_25⟩ := okO_at g_25
  refine va_get (D := (dC, dI)) (ci := 8) (v := .int (z_22.1 k_24 4)) (C := RX8) (T := TX8) (N := 19) hx hb hts iwd_X4_run_X8 hown hK hP k_24 (Wd_ob kg_25 sg_25 (by decide)) rfl 4 (by decide) (hts _ md_X4_run_10) (fun _ h9 => h9) (fl_at (t := 0) rfl) dX4_run_57 ?_
  obtain ⟨g_28, hf⟩ := grd_some hf
  obtain ⟨kg_28, sg_28⟩ := okO_at g_28
  obtain ⟨z_26, r_27, hfc, hf⟩ := cal_some hf
  have hFc := de_free hD hS hA
  refine va_callq (va_runV (As := [.int (z_22.1 k_24 4)]) (rest := [.ref (a h0)]) ⟨hx, hb, hml, hown, hts⟩ (de_X7_findProgram l dC dI cy a sh n H_21.size F z_22 k_23 (z_22.1 k_24 4) hfc) (cwV 1 hts gX4_run_X7_findProgram rfl rfl rfl (by decide +kernel) ⟨Nat.le_of_ble_eq_true rfl, Nat.le_of_ble_eq_true rfl⟩) ⟨fun a U g mk q => by obtain ⟨q0, q1, qP, qK, qD, qN⟩ := q; exact ⟨q0, q1, qP, va_K.moved (u := U) (U := U.calling g mk a) (Vm.Alike.refl U.vm) qK, qD, qN.same rfl⟩, va_recv hK hP (ci := 7) (q0 := k_23) rfl (Wd_ob kg_28 sg_28 (by decide)), fun U hU hW => ⟨rfl, by rw [hU], by rw [hU]; exact hP, va_K.moved hW.alike hK, hD.weaken (fun _ _ _ _ => trivial), hN.warm hW⟩⟩ rfl rfl hl.1 rfl (lv_room (Nat.le_of_ble_eq_true rfl)) dX4_run_60 ⟨Nat.le_of_ble_eq_true rfl, Nat.le_of_ble_eq_true rfl⟩) hS (fun q _ h => hFc q h) hFc (fun rr u t H_29 locs ht hvm hw hB hz1 hk1 hS2 => ?_)
  rw [hw]
  clear hw
  obtain ⟨hP1, -, hD1⟩ := hB
  rw [ht] at hP1
  replace hD := hD1.weaken (fun _ _ _ h => hFc _ h)
  replace hP := hP1
  replace hS := hS2
  clear hP1 hD1 hS2 hFc hfc hz1 hk1 hvm ht
  rcases r_27 with _ | k_30
  · skip
    replace hf := nul_none hf
    refine W.eq (g2 := F0 m 63 ls [.null, .ref (a h0)]) rfl ?_
    refine lv_aload_n hx hb dX4_run_63 rfl (lv_at hl 0 rfl) ?_
    obtain ⟨k_31, ek_31, hf⟩ := lnk_some hf
    refine va_get (D := (dC, dI)) (ci := 4) (v := .ref (a k_31)) (C := RX4) (T := TX4) (N := 18) hx hb hts iwd_X4_run_X4 hown hK hP h0 (Wd_ob kg_1 sg_1 (by decide)) rfl 13 (by decide) (hts _ md_X4_run_1) (fun _ h9 => h9) (fl_q rfl ek_31) dX4_run_64 ?_
    obtain ⟨g_32, hf⟩ := grd_some hf
    obtain ⟨kg_32, sg_32⟩ := okO_at g_32
    refine va_get (D := (dC, dI)) (ci := 8) (v := .int (z_26.1 k_31 5)) (C := RX8) (T := TX8) (N := 19) hx hb hts iwd_X4_run_X8 hown hK hP k_31 (Wd_ob kg_32 sg_32 (by decide)) rfl 5 (by decide) (hts _ md_X4_run_11) (fun _ h9 => h9) (fl_at (t := 0) rfl) dX4_run_67 ?_
    exact absurd hf (by simp)
  · skip
    replace hf := nul_some hf
    refine W.eq (g2 := F0 m 63 ls [.ref (a k_30), .ref (a h0)]) rfl ?_
    refine lv_aload_n hx hb dX4_run_63 rfl (lv_at hl 0 rfl) ?_
    obtain ⟨k_33, ek_33, hf⟩ := lnk_some hf
    refine va_get (D := (dC, dI)) (ci := 4) (v := .ref (a k_33)) (C := RX4) (T := TX4) (N := 18) hx hb hts iwd_X4_run_X4 hown hK hP h0 (Wd_ob kg_1 sg_1 (by decide)) rfl 13 (by decide) (hts _ md_X4_run_1) (fun _ h9 => h9) (fl_q rfl ek_33) dX4_run_64 ?_
    obtain ⟨g_34, hf⟩ := grd_some hf
    obtain ⟨kg_34, sg_34⟩ := okO_at g_34
    refine va_get (D := (dC, dI)) (ci := 8) (v := .int (z_26.1 k_33 5)) (C := RX8) (T := TX8) (N := 19) hx hb hts iwd_X4_run_X8 hown hK hP k_33 (Wd_ob kg_34 sg_34 (by decide)) rfl 5 (by decide) (hts _ md_X4_run_11) (fun _ h9 => h9) (fl_at (t := 0) rfl) dX4_run_67 ?_
    obtain ⟨z_35, _u, hfc, hf⟩ := cal_some hf
    have hFc := de_free hD hS hA
    refine va_callv (va_runV (As := [.ref (a k_30), .int (z_26.1 k_33 5)]) (rest := []) ⟨hx, hb, hml, hown, hts⟩ (de_X4_pushFrame l dC dI cy a sh n H_29.size F z_26 h0 k_30 (z_26.1 k_33 5) hfc) (cwV 2 hts gX4_run_X4_pushFrame rfl rfl rfl (by decide +kernel) ⟨Nat.le_of_ble_eq_true rfl, Nat.le_of_ble_eq_true rfl⟩) ⟨fun a U g mk q => by obtain ⟨q0, q1, qP, qK, qD, qN⟩ := q; exact ⟨q0, q1, qP, va_K.moved (u := U) (U := U.calling g mk a) (Vm.Alike.refl U.vm) qK, qD, qN.same rfl⟩, va_recv hK hP (ci := 4) (q0 := h0) rfl (Wd_ob kg_1 sg_1 (by decide)), fun U hU hW => ⟨rfl, by rw [hU], by rw [hU]; exact hP, va_K.moved hW.alike hK, hD.weaken (fun _ _ _ _ => trivial), hN.warm hW⟩⟩ rfl rfl hl.1 rfl (lv_room (Nat.le_of_ble_eq_true rfl)) dX4_run_70 ⟨Nat.le_of_ble_eq_true rfl, Nat.le_of_ble_eq_true rfl⟩) hS (fun q _ h => hFc q h) hFc (fun u t H_36 locs ht hvm hw hB hz1 hk1 hS2 => ?_)
    obtain ⟨hP1, -, hD1⟩ := hB
    rw [ht] at hP1
    replace hD := hD1.weaken (fun _ _ _ h => hFc _ h)
    replace hP := hP1
    replace hS := hS2
    clear hP1 hD1 hS2 hFc hfc hz1 hk1 hvm ht
    refine lv_iconst (v := 0) hx hb dX4_run_73 (by decide) ?_
    refine lv_istore_n (lv' := [(2, .int 0), (0, .ref (a h0)), (1, .ref (a x0))]) hx hb dX4_run_74 rfl hl (by decide) rfl (fun ls hl2 => ?_)
    replace hl := hl2
    clear hl2
    have hl0 : lv_has ls 4 [(2, .int 0), (0, .ref (a h0))] := lv_sub hl [0, 1] rfl
    refine de_loop (h := 75) (fun (x : St × Int32) ls H locs => lv_has ls 4 [(2, .int x.2), (0, .ref (a h0))] ∧ va_P (dC, dI) vwCl (Wd cy a sh n x.1) H ∧ va_D A (Wd cy a sh n x.1) ∧ va_S A s.heap H locs) (fun f x => fn_X4_run_L75 F sh n h0 f x.1 x.2) (z8, r8) ?_ (fun _ => rfl) F (z_35, 0) ls H_36 locs ⟨hl0, hP, hD, hS⟩ hf
    intro f_39 x ls H locs ih75 hI hf
    obtain ⟨z_38, p_37⟩ := x
    obtain ⟨hl2, hP2, hD2, hS2⟩ := hI
    replace hl : lv_has ls 4 [(2, .int p_37), (0, .ref (a h0))] := hl2
    replace hP := hP2
    replace hD := hD2
    replace hS := hS2
    clear hl2 hP2 hD2 hS2 hl0
    replace hf := fn_X4_run_L75_s hf
    refine lv_iload_n hx hb dX4_run_75 rfl (lv_at hl 0 rfl) ?_
    refine lv_aload_n hx hb dX4_run_76 rfl (lv_at hl 1 rfl) ?_
    obtain ⟨k_40, ek_40, hf⟩ := lnk_some hf
    refine va_get (D := (dC, dI)) (ci := 4) (v := .ref (a k_40)) (C := RX4) (T := TX4) (N := 18) hx hb hts iwd_X4_run_X4 hown hK hP h0 (Wd_ob kg_1 sg_1 (by decide)) rfl 13 (by decide) (hts _ md_X4_run_1) (fun _ h9 => h9) (fl_q rfl ek_40) dX4_run_77 ?_
    obtain ⟨g_41, hf⟩ := grd_some hf
    obtain ⟨kg_41, sg_41⟩ := okO_at g_41
    refine va_get (D := (dC, dI)) (ci := 8) (v := .int (z_38.1 k_40 7)) (C := RX8) (T := TX8) (N := 19) hx hb hts iwd_X4_run_X8 hown hK hP k_40 (Wd_ob kg_41 sg_41 (by decide)) rfl 7 (by decide) (hts _ md_X4_run_12) (fun _ h9 => h9) (fl_at (t := 0) rfl) dX4_run_80 ?_
    refine lv_icmp_ge (tgt := 132) hx hb dX4_run_83 (by decide) (fun c_42 => ?_) (fun c_42 => ?_)
    · skip
      rw [if_pos c_42] at hf
      refine lv_iconst (v := 0) hx hb dX4_run_132 (by decide) ?_
      refine lv_istore_n (lv' := [(2, .int 0), (0, .ref (a h0))]) hx hb dX4_run_133 rfl hl (by decide) rfl (fun ls hl2 => ?_)
      replace hl := hl2
      clear hl2
      have hl0 : lv_has ls 4 [(2, .int 0), (0, .ref (a h0))] := lv_sub hl [0, 1] rfl
      refine de_loop (h := 134) (fun (x : St × Int32) ls H locs => lv_has ls 4 [(2, .int x.2), (0, .ref (a h0))] ∧ va_P (dC, dI) vwCl (Wd cy a sh n x.1) H ∧ va_D A (Wd cy a sh n x.1) ∧ va_S A s.heap H locs) (fun f x => fn_X4_run_L134 F sh n h0 f x.1 x.2) (z8, r8) ?_ (fun _ => rfl) F (z_38, 0) ls H locs ⟨hl0, hP, hD, hS⟩ hf
      intro f_45 x ls H locs ih134 hI hf
      obtain ⟨z_44, p_43⟩ := x
      obtain ⟨hl2, hP2, hD2, hS2⟩ := hI
      replace hl : lv_has ls 4 [(2, .int p_43), (0, .ref (a h0))] := hl2
      replace hP := hP2
      replace hD := hD2
      replace hS := hS2
      clear hl2 hP2 hD2 hS2 hl0
      replace hf := fn_X4_run_L134_s hf
      refine lv_iload_n hx hb dX4_run_134 rfl (lv_at hl 0 rfl) ?_
      refine lv_sipush (v := 20000) hx hb dX4_run_135 (by decide) ?_
      refine de_cut (h := 186) (fun (x : St) => []) (fun x ls H locs => lv_has ls 4 [(0, .ref (a h0))] ∧ va_P (dC, dI) vwCl (Wd cy a sh n x) H ∧ va_D A (Wd cy a sh n x) ∧ va_S A s.heap H locs) (fun x => fn_X4_run_B186 F sh n h0 x) (z8, r8) ?_ (fun B186 => ?_)
      · intro x ls H locs hI hf
        obtain ⟨z_46, ez⟩ : ∃ w, w = x := ⟨_, rfl⟩
        subst ez
        obtain ⟨hl2, hP2, hD2, hS2⟩ := hI
        replace hl : lv_has ls 4 [(0, .ref (a h0))] := hl2
        replace hP := hP2
        replace hD := hD2
        replace hS := hS2
        clear hl2 hP2 hD2 hS2
        replace hf := fn_X4_run_B186_s hf
        refine W.eq (g2 := F0 m 186 ls []) rfl ?_
        refine lv_aload_n hx hb dX4_run_186 rfl (lv_at hl 0 rfl) ?_
        refine va_get (D := (dC, dI)) (ci := 4) (v := .int (z_46.1 h0 16)) (C := RX4) (T := TX4) (N := 18) hx hb hts iwd_X4_run_X4 hown hK hP h0 (Wd_ob kg_1 sg_1 (by decide)) rfl 16 (by decide) (hts _ md_X4_run_4) (fun _ h9 => h9) (fl_at (t := 0) rfl) dX4_run_187 ?_
        refine de_cut (h := 211) (fun (x : St) => []) (fun x ls H locs => lv_has ls 4 [(0, .ref (a h0))] ∧ va_P (dC, dI) vwCl (Wd cy a sh n x) H ∧ va_D A (Wd cy a sh n x) ∧ va_S A s.heap H locs) (fun x => fn_X4_run_B211 F sh n h0 x) (z8, r8) ?_ (fun B211 => ?_)
        · intro x ls H locs hI hf
          obtain ⟨z_47, ez⟩ : ∃ w, w = x := ⟨_, rfl⟩
          subst ez
          obtain ⟨hl2, hP2, hD2, hS2⟩ := hI
          replace hl : lv_has ls 4 [(0, .ref (a h0))] := hl2
          replace hP := hP2
          replace hD := hD2
          replace hS := hS2
          clear hl2 hP2 hD2 hS2
          replace hf := fn_X4_run_B211_s hf
          refine W.eq (g2 := F0 m 211 ls []) rfl ?_
          refine lv_aload_n hx hb dX4_run_211 rfl (lv_at hl 0 rfl) ?_
          refine va_get (D := (dC, dI)) (ci := 4) (v := .int (z_47.1 h0 16)) (C := RX4) (T := TX4) (N := 18) hx hb hts iwd_X4_run_X4 hown hK hP h0 (Wd_ob kg_1 sg_1 (by decide)) rfl 16 (by decide) (hts _ md_X4_run_4) (fun _ h9 => h9) (fl_at (t := 0) rfl) dX4_run_212 ?_
          refine de_cut (h := 284) (fun (x : St) => []) (fun x ls H locs => lv_has ls 4 [(0, .ref (a h0))] ∧ va_P (dC, dI) vwCl (Wd cy a sh n x) H ∧ va_D A (Wd cy a sh n x) ∧ va_S A s.heap H locs) (fun x => fn_X4_run_B284 F sh n h0 x) (z8, r8) ?_ (fun B284 => ?_)
          · intro x ls H locs hI hf
            obtain ⟨z_48, ez⟩ : ∃ w, w = x := ⟨_, rfl⟩
            subst ez
            obtain ⟨hl2, hP2, hD2, hS2⟩ := hI
            replace hl : lv_has ls 4 [(0, .ref (a h0))] := hl2
            replace hP := hP2
            replace hD := hD2
            replace hS := hS2
            clear hl2 hP2 hD2 hS2
            replace hf := fn_X4_run_B284_s hf
            refine W.eq (g2 := F0 m 284 ls []) rfl ?_
            refine lv_aload_n hx hb dX4_run_284 rfl (lv_at hl 0 rfl) ?_
            obtain ⟨k_49, ek_49, hf⟩ := lnk_some hf
            refine va_get (D := (dC, dI)) (ci := 4) (v := .ref (a k_49)) (C := RX4) (T := TX4) (N := 18) hx hb hts iwd_X4_run_X4 hown hK hP h0 (Wd_ob kg_1 sg_1 (by decide)) rfl 13 (by decide) (hts _ md_X4_run_1) (fun _ h9 => h9) (fl_q rfl ek_49) dX4_run_285 ?_
            refine lv_aload_n hx hb dX4_run_288 rfl (lv_at hl 0 rfl) ?_
            refine va_get (D := (dC, dI)) (ci := 4) (v := .int (z_48.1 h0 16)) (C := RX4) (T := TX4) (N := 18) hx hb hts iwd_X4_run_X4 hown hK hP h0 (Wd_ob kg_1 sg_1 (by decide)) rfl 16 (by decide) (hts _ md_X4_run_4) (fun _ h9 => h9) (fl_at (t := 0) rfl) dX4_run_289 ?_
            refine lv_aload_n hx hb dX4_run_292 rfl (lv_at hl 0 rfl) ?_
            refine va_get (D := (dC, dI)) (ci := 4) (v := .long (z_48.2.1 h0 17)) (C := RX4) (T := TX4) (N := 18) hx hb hts iwd_X4_run_X4 hown hK hP h0 (Wd_ob kg_1 sg_1 (by decide)) rfl 17 (by decide) (hts _ md_X4_run_5) (fun _ h9 => h9) (fl_at (t := 1) rfl) dX4_run_293 ?_
            refine lv_aload_n hx hb dX4_run_296 rfl (lv_at hl 0 rfl) ?_
            refine va_get (D := (dC, dI)) (ci := 4) (v := .int (z_48.1 h0 14)) (C := RX4) (T := TX4) (N := 18) hx hb hts iwd_X4_run_X4 hown hK hP h0 (Wd_ob kg_1 sg_1 (by decide)) rfl 14 (by decide) (hts _ md_X4_run_2) (fun _ h9 => h9) (fl_at (t := 0) rfl) dX4_run_297 ?_
            obtain ⟨g_51, hf⟩ := grd_some hf
            obtain ⟨kg_51, sg_51⟩ := okO_at g_51
            obtain ⟨z_50, _u, hfc, hf⟩ := cal_some hf
            have hFc := de_free hD hS hA
            refine va_callv (va_runV (As := [.int (z_48.1 h0 16), .long (z_48.2.1 h0 17), .int (z_48.1 h0 14)]) (rest := []) ⟨hx, hb, hml, hown, hts⟩ (de_X8_end l dC dI cy a sh n H.size F z_48 k_49 (z_48.1 h0 16) (z_48.2.1 h0 17) (z_48.1 h0 14) hfc) (cwV 3 hts gX4_run_X8_end rfl rfl rfl (by decide +kernel) ⟨Nat.le_of_ble_eq_true rfl, Nat.le_of_ble_eq_true rfl⟩) ⟨fun a U g mk q => by obtain ⟨q0, q1, qP, qK, qD, qN⟩ := q; exact ⟨q0, q1, qP, va_K.moved (u := U) (U := U.calling g mk a) (Vm.Alike.refl U.vm) qK, qD, qN.same rfl⟩, va_recv hK hP (ci := 8) (q0 := k_49) rfl (Wd_ob kg_51 sg_51 (by decide)), fun U hU hW => ⟨rfl, by rw [hU], by rw [hU]; exact hP, va_K.moved hW.alike hK, hD.weaken (fun _ _ _ _ => trivial), hN.warm hW⟩⟩ rfl rfl hl.1 rfl (lv_room (Nat.le_of_ble_eq_true rfl)) dX4_run_300 ⟨Nat.le_of_ble_eq_true rfl, Nat.le_of_ble_eq_true rfl⟩) hS (fun q _ h => hFc q h) hFc (fun u t H_52 locs ht hvm hw hB hz1 hk1 hS2 => ?_)
            obtain ⟨hP1, -, hD1⟩ := hB
            rw [ht] at hP1
            replace hD := hD1.weaken (fun _ _ _ h => hFc _ h)
            replace hP := hP1
            replace hS := hS2
            clear hP1 hD1 hS2 hFc hfc hz1 hk1 hvm ht
            obtain ⟨h8, h9⟩ := ret_some hf
            rw [h8]
            exact W.vret hx hb hr (fun t ht hW => ⟨⟨(), rfl, trivial, by rw [ht]; exact hP, va_K.moved hW.alike hK, hD⟩, hS.F ht⟩) hS.2.2 dX4_run_303
          refine lv_if_ne (tgt := 284) hx hb dX4_run_215 (by decide) (fun c_53 => ?_) (fun c_53 => ?_)
          · skip
            rw [if_neg c_53] at hf
            exact B284 (z_47) ls H locs ⟨lv_sub hl [0] rfl, hP, hD, hS⟩ hf
          · skip
            rw [if_pos c_53] at hf
            refine lv_iconst (v := 0) hx hb dX4_run_218 (by decide) ?_
            refine lv_istore_n (lv' := [(2, .int 0), (0, .ref (a h0))]) hx hb dX4_run_219 rfl hl (by decide) rfl (fun ls hl2 => ?_)
            replace hl := hl2
            clear hl2
            have hl0 : lv_has ls 4 [(2, .int 0), (0, .ref (a h0))] := lv_sub hl [0, 1] rfl
            refine de_loop (h := 220) (fun (x : St × Int32) ls H locs => lv_has ls 4 [(2, .int x.2), (0, .ref (a h0))] ∧ va_P (dC, dI) vwCl (Wd cy a sh n x.1) H ∧ va_D A (Wd cy a sh n x.1) ∧ va_S A s.heap H locs) (fun f x => fn_X4_run_L220 F sh n h0 f x.1 x.2) (z8, r8) ?_ (fun _ => rfl) F (z_47, 0) ls H locs ⟨hl0, hP, hD, hS⟩ hf
            intro f_56 x ls H locs ih220 hI hf
            obtain ⟨z_55, p_54⟩ := x
            obtain ⟨hl2, hP2, hD2, hS2⟩ := hI
            replace hl : lv_has ls 4 [(2, .int p_54), (0, .ref (a h0))] := hl2
            replace hP := hP2
            replace hD := hD2
            replace hS := hS2
            clear hl2 hP2 hD2 hS2 hl0
            replace hf := fn_X4_run_L220_s hf
            refine lv_iload_n hx hb dX4_run_220 rfl (lv_at hl 0 rfl) ?_
            refine lv_aload_n hx hb dX4_run_221 rfl (lv_at hl 1 rfl) ?_
            obtain ⟨k_57, ek_57, hf⟩ := lnk_some hf
            refine va_get (D := (dC, dI)) (ci := 4) (v := .ref (a k_57)) (C := RX4) (T := TX4) (N := 18) hx hb hts iwd_X4_run_X4 hown hK hP h0 (Wd_ob kg_1 sg_1 (by decide)) rfl 9 (by decide) (hts _ md_X4_run_23) (fun _ h9 => h9) (fl_q rfl ek_57) dX4_run_222 ?_
            refine lv_iconst (v := 0) hx hb dX4_run_225 (by decide) ?_
            obtain ⟨g_58, hf⟩ := grd_some hf
            obtain ⟨kg_58, sg_58, ig_58⟩ := okA_at g_58
            refine va_iald hx hb hK hP k_57 1 (Wd_ai kg_58 sg_58) rfl ig_58 dX4_run_226 ?_
            refine lv_icmp_ge (tgt := 277) hx hb dX4_run_227 (by decide) (fun c_59 => ?_) (fun c_59 => ?_)
            · skip
              rw [if_pos c_59] at hf
              refine lv_aload_n hx hb dX4_run_277 rfl (lv_at hl 1 rfl) ?_
              obtain ⟨k_60, ek_60, hf⟩ := lnk_some hf
              refine va_get (D := (dC, dI)) (ci := 4) (v := .ref (a k_60)) (C := RX4) (T := TX4) (N := 18) hx hb hts iwd_X4_run_X4 hown hK hP h0 (Wd_ob kg_1 sg_1 (by decide)) rfl 2 (by decide) (hts _ md_X4_run_7) (fun _ h9 => h9) (fl_q rfl ek_60) dX4_run_278 ?_
              obtain ⟨g_62, hf⟩ := grd_some hf
              obtain ⟨kg_62, sg_62⟩ := okO_at g_62
              obtain ⟨z_61, _u, hfc, hf⟩ := cal_some hf
              have hFc := de_free hD hS hA
              refine va_callv (va_runV (As := []) (rest := []) ⟨hx, hb, hml, hown, hts⟩ (de_X2_commit l dC dI cy a sh n H.size F z_55 k_60 hfc) (cwV 0 hts gX4_run_X2_commit rfl rfl rfl (by decide +kernel) ⟨Nat.le_of_ble_eq_true rfl, Nat.le_of_ble_eq_true rfl⟩) ⟨fun a U g mk q => by obtain ⟨q0, q1, qP, qK, qD, qN⟩ := q; exact ⟨q0, q1, qP, va_K.moved (u := U) (U := U.calling g mk a) (Vm.Alike.refl U.vm) qK, qD, qN.same rfl⟩, va_recv hK hP (ci := 2) (q0 := k_60) rfl (Wd_ob kg_62 sg_62 (by decide)), fun U hU hW => ⟨rfl, by rw [hU], by rw [hU]; exact hP, va_K.moved hW.alike hK, hD.weaken (fun _ _ _ _ => trivial), hN.warm hW⟩⟩ rfl rfl hl.1 rfl (lv_room (Nat.le_of_ble_eq_true rfl)) dX4_run_281 ⟨Nat.le_of_ble_eq_true rfl, Nat.le_of_ble_eq_true rfl⟩) hS (fun q _ h => hFc q h) hFc (fun u t H_63 locs ht hvm hw hB hz1 hk1 hS2 => ?_)
              obtain ⟨hP1, -, hD1⟩ := hB
              rw [ht] at hP1
              replace hD := hD1.weaken (fun _ _ _ h => hFc _ h)
              replace hP := hP1
              replace hS := hS2
              clear hP1 hD1 hS2 hFc hfc hz1 hk1 hvm ht
              exact B284 (z_61) ls H_63 locs ⟨lv_sub hl [1] rfl, hP, hD, hS⟩ hf
            · skip
              rw [if_neg c_59] at hf
              refine lv_aload_n hx hb dX4_run_230 rfl (lv_at hl 1 rfl) ?_
              obtain ⟨k_64, ek_64, hf⟩ := lnk_some hf
              refine va_get (D := (dC, dI)) (ci := 4) (v := .ref (a k_64)) (C := RX4) (T := TX4) (N := 18) hx hb hts iwd_X4_run_X4 hown hK hP h0 (Wd_ob kg_1 sg_1 (by decide)) rfl 11 (by decide) (hts _ md_X4_run_24) (fun _ h9 => h9) (fl_q rfl ek_64) dX4_run_231 ?_
              refine lv_iload_n hx hb dX4_run_234 rfl (lv_at hl 0 rfl) ?_
              obtain ⟨g_65, hf⟩ := grd_some hf
              obtain ⟨kg_65, sg_65, ig_65⟩ := okA_at g_65
              refine va_iald hx hb hK hP k_64 1 (Wd_ai kg_65 sg_65) rfl ig_65 dX4_run_235 ?_
              refine lv_topi (fun v_66 ev_66 => ?_)
              replace hf := lt_at ev_66 hf
              clear ev_66
              refine lv_istore_n (lv' := [(3, .int v_66), (2, .int p_54), (0, .ref (a h0))]) hx hb dX4_run_236 rfl hl (by decide) rfl (fun ls hl2 => ?_)
              replace hl := hl2
              clear hl2
              refine lv_aload_n hx hb dX4_run_237 rfl (lv_at hl 2 rfl) ?_
              obtain ⟨k_67, ek_67, hf⟩ := lnk_some hf
              refine va_get (D := (dC, dI)) (ci := 4) (v := .ref (a k_67)) (C := RX4) (T := TX4) (N := 18) hx hb hts iwd_X4_run_X4 hown hK hP h0 (Wd_ob kg_1 sg_1 (by decide)) rfl 13 (by decide) (hts _ md_X4_run_1) (fun _ h9 => h9) (fl_q rfl ek_67) dX4_run_238 ?_
              refine lv_aload_n hx hb dX4_run_241 rfl (lv_at hl 2 rfl) ?_
              obtain ⟨k_68, ek_68, hf⟩ := lnk_some hf
              refine va_get (D := (dC, dI)) (ci := 4) (v := .ref (a k_68)) (C := RX4) (T := TX4) (N := 18) hx hb hts iwd_X4_run_X4 hown hK hP h0 (Wd_ob kg_1 sg_1 (by decide)) rfl 1 (by decide) (hts _ md_X4_run_6) (fun _ h9 => h9) (fl_q rfl ek_68) dX4_run_242 ?_
              obtain ⟨g_69, hf⟩ := grd_some hf
              obtain ⟨kg_69, sg_69⟩ := okO_at g_69
              obtain ⟨k_70, ek_70, hf⟩ := lnk_some hf
              refine va_get (D := (dC, dI)) (ci := 1) (v := .ref (a k_70)) (C := RX1) (T := TX1) (N := 7) hx hb hts iwd_X4_run_X1 hown hK hP k_68 (Wd_ob kg_69 sg_69 (by decide)) rfl 0 (by decide) (hts _ md_X4_run_25) (fun _ h9 => h9) (fl_q rfl ek_70) dX4_run_245 ?_
              refine lv_iload_n hx hb dX4_run_248 rfl (lv_at hl 0 rfl) ?_
              obtain ⟨g_71, hf⟩ := grd_some hf
              obtain ⟨kg_71, sg_71, ig_71⟩ := okA_at g_71
              refine va_bald hx hb hK hP k_70 0 (Wd_ab kg_71 sg_71) rfl ig_71 dX4_run_249 ?_
              refine lv_aload_n hx hb dX4_run_250 rfl (lv_at hl 2 rfl) ?_
              obtain ⟨k_72, ek_72, hf⟩ := lnk_some hf
              refine va_get (D := (dC, dI)) (ci := 4) (v := .ref (a k_72)) (C := RX4) (T := TX4) (N := 18) hx hb hts iwd_X4_run_X4 hown hK hP h0 (Wd_ob kg_1 sg_1 (by decide)) rfl 1 (by decide) (hts _ md_X4_run_6) (fun _ h9 => h9) (fl_q rfl ek_72) dX4_run_251 ?_
              obtain ⟨g_73, hf⟩ := grd_some hf
              obtain ⟨kg_73, sg_73⟩ := okO_at g_73
              obtain ⟨k_74, ek_74, hf⟩ := lnk_some hf
              refine va_get (D := (dC, dI)) (ci := 1) (v := .ref (a k_74)) (C := RX1) (T := TX1) (N := 7) hx hb hts iwd_X4_run_X1 hown hK hP k_72 (Wd_ob kg_73 sg_73 (by decide)) rfl 2 (by decide) (hts _ md_X4_run_26) (fun _ h9 => h9) (fl_q rfl ek_74) dX4_run_254 ?_
              refine lv_iload_n hx hb dX4_run_257 rfl (lv_at hl 0 rfl) ?_
              obtain ⟨g_75, hf⟩ := grd_some hf
              obtain ⟨kg_75, sg_75, ig_75⟩ := okA_at g_75
              refine va_lald hx hb hK hP k_74 2 (Wd_al kg_75 sg_75) rfl ig_75 dX4_run_258 ?_
              refine lv_aload_n hx hb dX4_run_259 rfl (lv_at hl 2 rfl) ?_
              obtain ⟨k_76, ek_76, hf⟩ := lnk_some hf
              refine va_get (D := (dC, dI)) (ci := 4) (v := .ref (a k_76)) (C := RX4) (T := TX4) (N := 18) hx hb hts iwd_X4_run_X4 hown hK hP h0 (Wd_ob kg_1 sg_1 (by decide)) rfl 1 (by decide) (hts _ md_X4_run_6) (fun _ h9 => h9) (fl_q rfl ek_76) dX4_run_260 ?_
              obtain ⟨g_77, hf⟩ := grd_some hf
              obtain ⟨kg_77, sg_77⟩ := okO_at g_77
              obtain ⟨k_78, ek_78, hf⟩ := lnk_some hf
              refine va_get (D := (dC, dI)) (ci := 1) (v := .ref (a k_78)) (C := RX1) (T := TX1) (N := 7) hx hb hts iwd_X4_run_X1 hown hK hP k_76 (Wd_ob kg_77 sg_77 (by decide)) rfl 1 (by decide) (hts _ md_X4_run_27) (fun _ h9 => h9) (fl_q rfl ek_78) dX4_run_263 ?_
              refine lv_iload_n hx hb dX4_run_266 rfl (lv_at hl 0 rfl) ?_
              obtain ⟨g_79, hf⟩ := grd_some hf
              obtain ⟨kg_79, sg_79, ig_79⟩ := okA_at g_79
              refine va_lald hx hb hK hP k_78 2 (Wd_al kg_79 sg_79) rfl ig_79 dX4_run_267 ?_
              obtain ⟨g_81, hf⟩ := grd_some hf
              obtain ⟨kg_81, sg_81⟩ := okO_at g_81
              obtain ⟨z_80, _u, hfc, hf⟩ := cal_some hf
              have hFc := de_free hD hS hA
              refine va_callv (va_runV (As := [.int (z_55.1 k_70 v_66.toNatClampNeg), .long (z_55.2.1 k_74 v_66.toNatClampNeg), .long (z_55.2.1 k_78 v_66.toNatClampNeg)]) (rest := []) ⟨hx, hb, hml, hown, hts⟩ (de_X8_addResult l dC dI cy a sh n H.size F z_55 k_67 (z_55.1 k_70 v_66.toNatClampNeg) (z_55.2.1 k_74 v_66.toNatClampNeg) (z_55.2.1 k_78 v_66.toNatClampNeg) hfc) (cwV 3 hts gX4_run_X8_addResult rfl rfl rfl (by decide +kernel) ⟨Nat.le_of_ble_eq_true rfl, Nat.le_of_ble_eq_true rfl⟩) ⟨fun a U g mk q => by obtain ⟨q0, q1, qP, qK, qD, qN⟩ := q; exact ⟨q0, q1, qP, va_K.moved (u := U) (U := U.calling g mk a) (Vm.Alike.refl U.vm) qK, qD, qN.same rfl⟩, va_recv hK hP (ci := 8) (q0 := k_67) rfl (Wd_ob kg_81 sg_81 (by decide)), fun U hU hW => ⟨rfl, by rw [hU], by rw [hU]; exact hP, va_K.moved hW.alike hK, hD.weaken (fun _ _ _ _ => trivial), hN.warm hW⟩⟩ rfl rfl hl.1 rfl (lv_room (Nat.le_of_ble_eq_true rfl)) dX4_run_268 ⟨Nat.le_of_ble_eq_true rfl, Nat.le_of_ble_eq_true rfl⟩) hS (fun q _ h => hFc q h) hFc (fun u t H_82 locs ht hvm hw hB hz1 hk1 hS2 => ?_)
              obtain ⟨hP1, -, hD1⟩ := hB
              rw [ht] at hP1
              replace hD := hD1.weaken (fun _ _ _ h => hFc _ h)
              replace hP := hP1
              replace hS := hS2
              clear hP1 hD1 hS2 hFc hfc hz1 hk1 hvm ht
              refine lv_iinc (v := (p_54 + 1)) (lv' := [(2, .int (p_54 + 1)), (3, .int v_66), (0, .ref (a h0))]) hx hb dX4_run_271 hl (k := 1) rfl rfl (by decide) rfl (fun ls hl2 => ?_)
              replace hl := hl2
              clear hl2
              refine lv_goto (tgt := 220) hx hb dX4_run_274 (by decide) ?_
              exact ih220 (z_80, (p_54 + 1)) ls H_82 locs ⟨lv_sub hl [0, 2] rfl, hP, hD, hS⟩ hf
        refine lv_if_ne (tgt := 211) hx hb dX4_run_190 (by decide) (fun c_83 => ?_) (fun c_83 => ?_)
        · skip
          rw [if_neg c_83] at hf
          exact B211 (z_46) ls H locs ⟨lv_sub hl [0] rfl, hP, hD, hS⟩ hf
        · skip
          rw [if_pos c_83] at hf
          refine lv_aload_n hx hb dX4_run_193 rfl (lv_at hl 0 rfl) ?_
          obtain ⟨k_84, ek_84, hf⟩ := lnk_some hf
          refine va_get (D := (dC, dI)) (ci := 4) (v := .ref (a k_84)) (C := RX4) (T := TX4) (N := 18) hx hb hts iwd_X4_run_X4 hown hK hP h0 (Wd_ob kg_1 sg_1 (by decide)) rfl 2 (by decide) (hts _ md_X4_run_7) (fun _ h9 => h9) (fl_q rfl ek_84) dX4_run_194 ?_
          obtain ⟨g_87, hf⟩ := grd_some hf
          obtain ⟨kg_87, sg_87⟩ := okO_at g_87
          obtain ⟨z_85, r_86, hfc, hf⟩ := cal_some hf
          have hFc := de_free hD hS hA
          refine va_calli (va_runV (As := []) (rest := []) ⟨hx, hb, hml, hown, hts⟩ (de_X2_fits l dC dI cy a sh n H.size F z_46 k_84 hfc) (cwV 0 hts gX4_run_X2_fits rfl rfl rfl (by decide +kernel) ⟨Nat.le_of_ble_eq_true rfl, Nat.le_of_ble_eq_true rfl⟩) ⟨fun a U g mk q => by obtain ⟨q0, q1, qP, qK, qD, qN⟩ := q; exact ⟨q0, q1, qP, va_K.moved (u := U) (U := U.calling g mk a) (Vm.Alike.refl U.vm) qK, qD, qN.same rfl⟩, va_recv hK hP (ci := 2) (q0 := k_84) rfl (Wd_ob kg_87 sg_87 (by decide)), fun U hU hW => ⟨rfl, by rw [hU], by rw [hU]; exact hP, va_K.moved hW.alike hK, hD.weaken (fun _ _ _ _ => trivial), hN.warm hW⟩⟩ rfl rfl hl.1 rfl (lv_room (Nat.le_of_ble_eq_true rfl)) dX4_run_197 ⟨Nat.le_of_ble_eq_true rfl, Nat.le_of_ble_eq_true rfl⟩) hS (fun q _ h => hFc q h) hFc (fun rr u t H_88 locs ht hvm hw hB hz1 hk1 hS2 => ?_)
          rw [hw]
          clear hw
          obtain ⟨hP1, -, hD1⟩ := hB
          rw [ht] at hP1
          replace hD := hD1.weaken (fun _ _ _ h => hFc _ h)
          replace hP := hP1
          replace hS := hS2
          clear hP1 hD1 hS2 hFc hfc hz1 hk1 hvm ht
          refine lv_if_ne (tgt := 211) hx hb dX4_run_200 (by decide) (fun c_89 => ?_) (fun c_89 => ?_)
          · skip
            rw [if_neg c_89] at hf
            exact B211 (z_85) ls H_88 locs ⟨lv_sub hl [0] rfl, hP, hD, hS⟩ hf
          · skip
            rw [if_pos c_89] at hf
            refine lv_aload_n hx hb dX4_run_203 rfl (lv_at hl 0 rfl) ?_
            refine lv_iconst (v := 2) hx hb dX4_run_204 (by decide) ?_
            refine lv_ldc2 hx hb hown (hts _ md_X4_run_22) dX4_run_205 ?_
            obtain ⟨z_90, _u, hfc, hf⟩ := cal_some hf
            have hFc := de_free hD hS hA
            refine va_callv (va_runV (As := [.int 2, .long 4]) (rest := []) ⟨hx, hb, hml, hown, hts⟩ (de_X4_end l dC dI cy a sh n H_88.size F z_85 h0 2 4 hfc) (cwV 2 hts gX4_run_X4_end rfl rfl rfl (by decide +kernel) ⟨Nat.le_of_ble_eq_true rfl, Nat.le_of_ble_eq_true rfl⟩) ⟨fun a U g mk q => by obtain ⟨q0, q1, qP, qK, qD, qN⟩ := q; exact ⟨q0, q1, qP, va_K.moved (u := U) (U := U.calling g mk a) (Vm.Alike.refl U.vm) qK, qD, qN.same rfl⟩, va_recv hK hP (ci := 4) (q0 := h0) rfl (Wd_ob kg_1 sg_1 (by decide)), fun U hU hW => ⟨rfl, by rw [hU], by rw [hU]; exact hP, va_K.moved hW.alike hK, hD.weaken (fun _ _ _ _ => trivial), hN.warm hW⟩⟩ rfl rfl hl.1 rfl (lv_room (Nat.le_of_ble_eq_true rfl)) dX4_run_208 ⟨Nat.le_of_ble_eq_true rfl, Nat.le_of_ble_eq_true rfl⟩) hS (fun q _ h => hFc q h) hFc (fun u t H_91 locs ht hvm hw hB hz1 hk1 hS2 => ?_)
            obtain ⟨hP1, -, hD1⟩ := hB
            rw [ht] at hP1
            replace hD := hD1.weaken (fun _ _ _ h => hFc _ h)
            replace hP := hP1
            replace hS := hS2
            clear hP1 hD1 hS2 hFc hfc hz1 hk1 hvm ht
            exact B211 (z_90) ls H_91 locs ⟨lv_sub hl [0] rfl, hP, hD, hS⟩ hf
      refine lv_icmp_gt (tgt := 186) hx hb dX4_run_138 (by decide) (fun c_92 => ?_) (fun c_92 => ?_)
      · skip
        rw [if_pos c_92] at hf
        exact B186 (z_44) ls H locs ⟨lv_sub hl [1] rfl, hP, hD, hS⟩ hf
      · skip
        rw [if_neg c_92] at hf
        refine lv_aload_n hx hb dX4_run_141 rfl (lv_at hl 1 rfl) ?_
        refine va_get (D := (dC, dI)) (ci := 4) (v := .int (z_44.1 h0 15)) (C := RX4) (T := TX4) (N := 18) hx hb hts iwd_X4_run_X4 hown hK hP h0 (Wd_ob kg_1 sg_1 (by decide)) rfl 15 (by decide) (hts _ md_X4_run_3) (fun _ h9 => h9) (fl_at (t := 0) rfl) dX4_run_142 ?_
        refine lv_if_eq (tgt := 186) hx hb dX4_run_145 (by decide) (fun c_93 => ?_) (fun c_93 => ?_)
        · skip
          rw [if_pos c_93] at hf
          exact B186 (z_44) ls H locs ⟨lv_sub hl [1] rfl, hP, hD, hS⟩ hf
        · skip
          rw [if_neg c_93] at hf
          refine lv_aload_n hx hb dX4_run_148 rfl (lv_at hl 1 rfl) ?_
          obtain ⟨k_94, ek_94, hf⟩ := lnk_some hf
          refine va_get (D := (dC, dI)) (ci := 4) (v := .ref (a k_94)) (C := RX4) (T := TX4) (N := 18) hx hb hts iwd_X4_run_X4 hown hK hP h0 (Wd_ob kg_1 sg_1 (by decide)) rfl 1 (by decide) (hts _ md_X4_run_6) (fun _ h9 => h9) (fl_q rfl ek_94) dX4_run_149 ?_
          obtain ⟨g_95, hf⟩ := grd_some hf
          obtain ⟨kg_95, sg_95⟩ := okO_at g_95
          refine va_get (D := (dC, dI)) (ci := 1) (v := .int (z_44.1 k_94 6)) (C := RX1) (T := TX1) (N := 7) hx hb hts iwd_X4_run_X1 hown hK hP k_94 (Wd_ob kg_95 sg_95 (by decide)) rfl 6 (by decide) (hts _ md_X4_run_17) (fun _ h9 => h9) (fl_at (t := 0) rfl) dX4_run_152 ?_
          refine lv_topi (fun v_96 ev_96 => ?_)
          replace hf := lt_at ev_96 hf
          clear ev_96
          refine lv_istore_n (lv' := [(3, .int v_96), (2, .int p_43), (0, .ref (a h0))]) hx hb dX4_run_155 rfl hl (by decide) rfl (fun ls hl2 => ?_)
          replace hl := hl2
          clear hl2
          refine lv_aload_n hx hb dX4_run_156 rfl (lv_at hl 2 rfl) ?_
          obtain ⟨z_97, _u, hfc, hf⟩ := cal_some hf
          have hFc := de_free hD hS hA
          refine va_callv (va_runV (As := []) (rest := []) ⟨hx, hb, hml, hown, hts⟩ (de_X4_step l dC dI cy a sh n H.size F sk z_44 h0 hfc) (cwV 0 hts gX4_run_X4_step rfl rfl rfl (by decide +kernel) ⟨Nat.le_of_ble_eq_true rfl, Nat.le_of_ble_eq_true rfl⟩) ⟨fun a U g mk q => by obtain ⟨q0, q1, qP, qK, qD, qN, qS⟩ := q; exact ⟨q0, q1, qP, va_K.moved (u := U) (U := U.calling g mk a) (Vm.Alike.refl U.vm) qK, qD, qN.same rfl, SKs.moved (u := U) (U := U.calling g mk a) (Vm.Alike.refl U.vm) qS⟩, va_recv hK hP (ci := 4) (q0 := h0) rfl (Wd_ob kg_1 sg_1 (by decide)), fun U hU hW => ⟨rfl, by rw [hU], by rw [hU]; exact hP, va_K.moved hW.alike hK, hD.weaken (fun _ _ _ _ => trivial), hN.warm hW, by rw [hU]; exact ((hSK.kept hS.2.1).narrow hFc).moved hW.alike⟩⟩ rfl rfl hl.1 rfl (lv_room (Nat.le_of_ble_eq_true rfl)) dX4_run_157 ⟨Nat.le_of_ble_eq_true rfl, Nat.le_of_ble_eq_true rfl⟩) hS (fun q _ h => hFc q h) hFc (fun u t H_98 locs ht hvm hw hB hz1 hk1 hS2 => ?_)
          obtain ⟨hP1, -, hD1⟩ := hB
          rw [ht] at hP1
          replace hD := hD1.weaken (fun _ _ _ h => hFc _ h)
          replace hP := hP1
          replace hS := hS2
          clear hP1 hD1 hS2 hFc hfc hz1 hk1 hvm ht
          refine lv_aload_n hx hb dX4_run_160 rfl (lv_at hl 2 rfl) ?_
          obtain ⟨k_99, ek_99, hf⟩ := lnk_some hf
          refine va_get (D := (dC, dI)) (ci := 4) (v := .ref (a k_99)) (C := RX4) (T := TX4) (N := 18) hx hb hts iwd_X4_run_X4 hown hK hP h0 (Wd_ob kg_1 sg_1 (by decide)) rfl 1 (by decide) (hts _ md_X4_run_6) (fun _ h9 => h9) (fl_q rfl ek_99) dX4_run_161 ?_
          refine lv_aload_n hx hb dX4_run_164 rfl (lv_at hl 2 rfl) ?_
          obtain ⟨k_100, ek_100, hf⟩ := lnk_some hf
          refine va_get (D := (dC, dI)) (ci := 4) (v := .ref (a k_100)) (C := RX4) (T := TX4) (N := 18) hx hb hts iwd_X4_run_X4 hown hK hP h0 (Wd_ob kg_1 sg_1 (by decide)) rfl 1 (by decide) (hts _ md_X4_run_6) (fun _ h9 => h9) (fl_q rfl ek_100) dX4_run_165 ?_
          obtain ⟨g_101, hf⟩ := grd_some hf
          obtain ⟨kg_101, sg_101⟩ := okO_at g_101
          refine va_get (D := (dC, dI)) (ci := 1) (v := .int (z_97.1 k_100 6)) (C := RX1) (T := TX1) (N := 7) hx hb hts iwd_X4_run_X1 hown hK hP k_100 (Wd_ob kg_101 sg_101 (by decide)) rfl 6 (by decide) (hts _ md_X4_run_17) (fun _ h9 => h9) (fl_at (t := 0) rfl) dX4_run_168 ?_
          refine lv_iload_n hx hb dX4_run_171 rfl (lv_at hl 0 rfl) ?_
          refine lv_iconst (v := 1) hx hb dX4_run_172 (by decide) ?_
          refine lv_iadd hx hb dX4_run_173 ?_
          refine va_mmin hx hb (hml.trans hl.1.symm) hown (hts _ md_X4_run_18) (hts _ md_X4_run_19) (hts _ md_X4_run_20) (hts _ md_X4_run_21) (Nat.le_of_ble_eq_true rfl) (Nat.le_of_ble_eq_true rfl) (Nat.le_of_ble_eq_true rfl) (Nat.le_of_ble_eq_true rfl) dX4_run_174 ?_
          refine lv_topi (fun v_102 ev_102 => ?_)
          replace hf := lt_at ev_102 hf
          clear ev_102
          obtain ⟨g_103, hf⟩ := grd_some hf
          obtain ⟨kg_103, sg_103⟩ := okO_at g_103
          refine va_put (D := (dC, dI)) (ci := 1) (v := .int v_102) (ty := .int) (C := RX1) (T := TX1) (N := 7) hx hb hts iwd_X4_run_X1 tyX1 tyX1_ok nmX1 hown hK hP hD hS k_99 (Wd_ob kg_103 sg_103 (by decide)) rfl 6 (by decide) (hts _ md_X4_run_17) (fun _ h9 => h9) rfl (by decide +kernel) rfl rfl (by rw [fl_len]; decide) dX4_run_177 (fun H_104 locs hP2 hD2 hS2 => ?_)
          rw [Wd_si sg_103 (by decide) rfl] at hP2 hD2
          obtain ⟨z_105, ez_105⟩ : ∃ w, w = si z_97 k_99 6 v_102 := ⟨_, rfl⟩
          rw [← ez_105] at hP2 hD2
          replace hf := lt_at ez_105 hf
          clear ez_105
          replace hP := hP2
          replace hD := hD2
          replace hS := hS2
          clear hP2 hD2 hS2
          refine lv_iinc (v := (p_43 + 1)) (lv' := [(2, .int (p_43 + 1)), (3, .int v_96), (0, .ref (a h0))]) hx hb dX4_run_180 hl (k := 1) rfl rfl (by decide) rfl (fun ls hl2 => ?_)
          replace hl := hl2
          clear hl2
          refine lv_goto (tgt := 134) hx hb dX4_run_183 (by decide) ?_
          exact ih134 (z_105, (p_43 + 1)) ls H_104 locs ⟨lv_sub hl [0, 2] rfl, hP, hD, hS⟩ hf
    · skip
      rw [if_neg c_42] at hf
      refine lv_aload_n hx hb dX4_run_86 rfl (lv_at hl 1 rfl) ?_
      obtain ⟨k_106, ek_106, hf⟩ := lnk_some hf
      refine va_get (D := (dC, dI)) (ci := 4) (v := .ref (a k_106)) (C := RX4) (T := TX4) (N := 18) hx hb hts iwd_X4_run_X4 hown hK hP h0 (Wd_ob kg_1 sg_1 (by decide)) rfl 10 (by decide) (hts _ md_X4_run_13) (fun _ h9 => h9) (fl_q rfl ek_106) dX4_run_87 ?_
      refine lv_iload_n hx hb dX4_run_90 rfl (lv_at hl 0 rfl) ?_
      refine lv_aload_n hx hb dX4_run_91 rfl (lv_at hl 1 rfl) ?_
      obtain ⟨k_107, ek_107, hf⟩ := lnk_some hf
      refine va_get (D := (dC, dI)) (ci := 4) (v := .ref (a k_107)) (C := RX4) (T := TX4) (N := 18) hx hb hts iwd_X4_run_X4 hown hK hP h0 (Wd_ob kg_1 sg_1 (by decide)) rfl 1 (by decide) (hts _ md_X4_run_6) (fun _ h9 => h9) (fl_q rfl ek_107) dX4_run_92 ?_
      refine lv_aload_n hx hb dX4_run_95 rfl (lv_at hl 1 rfl) ?_
      obtain ⟨k_108, ek_108, hf⟩ := lnk_some hf
      refine va_get (D := (dC, dI)) (ci := 4) (v := .ref (a k_108)) (C := RX4) (T := TX4) (N := 18) hx hb hts iwd_X4_run_X4 hown hK hP h0 (Wd_ob kg_1 sg_1 (by decide)) rfl 13 (by decide) (hts _ md_X4_run_1) (fun _ h9 => h9) (fl_q rfl ek_108) dX4_run_96 ?_
      obtain ⟨g_109, hf⟩ := grd_some hf
      obtain ⟨kg_109, sg_109⟩ := okO_at g_109
      obtain ⟨k_110, ek_110, hf⟩ := lnk_some hf
      refine va_get (D := (dC, dI)) (ci := 8) (v := .ref (a k_110)) (C := RX8) (T := TX8) (N := 19) hx hb hts iwd_X4_run_X8 hown hK hP k_108 (Wd_ob kg_109 sg_109 (by decide)) rfl 8 (by decide) (hts _ md_X4_run_14) (fun _ h9 => h9) (fl_q rfl ek_110) dX4_run_99 ?_
      refine lv_iload_n hx hb dX4_run_102 rfl (lv_at hl 0 rfl) ?_
      obtain ⟨g_111, hf⟩ := grd_some hf
      obtain ⟨kg_111, sg_111, ig_111⟩ := okA_at g_111
      refine va_iald hx hb hK hP k_110 1 (Wd_ai kg_111 sg_111) rfl ig_111 dX4_run_103 ?_
      refine lv_aload_n hx hb dX4_run_104 rfl (lv_at hl 1 rfl) ?_
      obtain ⟨k_112, ek_112, hf⟩ := lnk_some hf
      refine va_get (D := (dC, dI)) (ci := 4) (v := .ref (a k_112)) (C := RX4) (T := TX4) (N := 18) hx hb hts iwd_X4_run_X4 hown hK hP h0 (Wd_ob kg_1 sg_1 (by decide)) rfl 13 (by decide) (hts _ md_X4_run_1) (fun _ h9 => h9) (fl_q rfl ek_112) dX4_run_105 ?_
      obtain ⟨g_113, hf⟩ := grd_some hf
      obtain ⟨kg_113, sg_113⟩ := okO_at g_113
      obtain ⟨k_114, ek_114, hf⟩ := lnk_some hf
      refine va_get (D := (dC, dI)) (ci := 8) (v := .ref (a k_114)) (C := RX8) (T := TX8) (N := 19) hx hb hts iwd_X4_run_X8 hown hK hP k_112 (Wd_ob kg_113 sg_113 (by decide)) rfl 9 (by decide) (hts _ md_X4_run_15) (fun _ h9 => h9) (fl_q rfl ek_114) dX4_run_108 ?_
      refine lv_iload_n hx hb dX4_run_111 rfl (lv_at hl 0 rfl) ?_
      obtain ⟨g_115, hf⟩ := grd_some hf
      obtain ⟨kg_115, sg_115, ig_115⟩ := okA_at g_115
      refine va_lald hx hb hK hP k_114 2 (Wd_al kg_115 sg_115) rfl ig_115 dX4_run_112 ?_
      refine lv_aload_n hx hb dX4_run_113 rfl (lv_at hl 1 rfl) ?_
      obtain ⟨k_116, ek_116, hf⟩ := lnk_some hf
      refine va_get (D := (dC, dI)) (ci := 4) (v := .ref (a k_116)) (C := RX4) (T := TX4) (N := 18) hx hb hts iwd_X4_run_X4 hown hK hP h0 (Wd_ob kg_1 sg_1 (by decide)) rfl 13 (by decide) (hts _ md_X4_run_1) (fun _ h9 => h9) (fl_q rfl ek_116) dX4_run_114 ?_
      obtain ⟨g_117, hf⟩ := grd_some hf
      obtain ⟨kg_117, sg_117⟩ := okO_at g_117
      obtain ⟨k_118, ek_118, hf⟩ := lnk_some hf
      refine va_get (D := (dC, dI)) (ci := 8) (v := .ref (a k_118)) (C := RX8) (T := TX8) (N := 19) hx hb hts iwd_X4_run_X8 hown hK hP k_116 (Wd_ob kg_117 sg_117 (by decide)) rfl 10 (by decide) (hts _ md_X4_run_16) (fun _ h9 => h9) (fl_q rfl ek_118) dX4_run_117 ?_
      refine lv_iload_n hx hb dX4_run_120 rfl (lv_at hl 0 rfl) ?_
      obtain ⟨g_119, hf⟩ := grd_some hf
      obtain ⟨kg_119, sg_119, ig_119⟩ := okA_at g_119
      refine va_lald hx hb hK hP k_118 2 (Wd_al kg_119 sg_119) rfl ig_119 dX4_run_121 ?_
      obtain ⟨g_122, hf⟩ := grd_some hf
      obtain ⟨kg_122, sg_122⟩ := okO_at g_122
      obtain ⟨z_120, r_121, hfc, hf⟩ := cal_some hf
      have hFc := de_free hD hS hA
      refine va_calli (va_runV (As := [.int (z_38.1 k_110 p_37.toNatClampNeg), .long (z_38.2.1 k_114 p_37.toNatClampNeg), .long (z_38.2.1 k_118 p_37.toNatClampNeg)]) (rest := [.int p_37, .ref (a k_106)]) ⟨hx, hb, hml, hown, hts⟩ (de_X1_make l dC dI cy a sh n H.size F z_38 k_107 (z_38.1 k_110 p_37.toNatClampNeg) (z_38.2.1 k_114 p_37.toNatClampNeg) (z_38.2.1 k_118 p_37.toNatClampNeg) hfc) (cwV 3 hts gX4_run_X1_make rfl rfl rfl (by decide +kernel) ⟨Nat.le_of_ble_eq_true rfl, Nat.le_of_ble_eq_true rfl⟩) ⟨fun a U g mk q => by obtain ⟨q0, q1, qP, qK, qD, qN⟩ := q; exact ⟨q0, q1, qP, va_K.moved (u := U) (U := U.calling g mk a) (Vm.Alike.refl U.vm) qK, qD, qN.same rfl⟩, va_recv hK hP (ci := 1) (q0 := k_107) rfl (Wd_ob kg_122 sg_122 (by decide)), fun U hU hW => ⟨rfl, by rw [hU], by rw [hU]; exact hP, va_K.moved hW.alike hK, hD.weaken (fun _ _ _ _ => trivial), hN.warm hW⟩⟩ rfl rfl hl.1 rfl (lv_room (Nat.le_of_ble_eq_true rfl)) dX4_run_122 ⟨Nat.le_of_ble_eq_true rfl, Nat.le_of_ble_eq_true rfl⟩) hS (fun q _ h => hFc q h) hFc (fun rr u t H_123 locs ht hvm hw hB hz1 hk1 hS2 => ?_)
      rw [hw]
      clear hw
      obtain ⟨hP1, -, hD1⟩ := hB
      rw [ht] at hP1
      replace hD := hD1.weaken (fun _ _ _ h => hFc _ h)
      replace hP := hP1
      replace hS := hS2
      clear hP1 hD1 hS2 hFc hfc hz1 hk1 hvm ht
      obtain ⟨g_124, hf⟩ := grd_some hf
      obtain ⟨kg_124, sg_124, ig_124⟩ := okA_at g_124
      refine va_iast hx hb hK hP hD hS k_106 1 (Wd_ai kg_124 sg_124) rfl ig_124 dX4_run_125 (fun H_125 locs hP2 hD2 hS2 => ?_)
      rw [Wd_ti sg_124] at hP2 hD2
      obtain ⟨z_126, ez_126⟩ : ∃ w, w = si z_120 k_106 p_37.toNatClampNeg r_121 := ⟨_, rfl⟩
      rw [← ez_126] at hP2 hD2
      replace hf := lt_at ez_126 hf
      clear ez_126
      replace hP := hP2
      replace hD := hD2
      replace hS := hS2
      clear hP2 hD2 hS2
      refine lv_iinc (v := (p_37 + 1)) (lv' := [(2, .int (p_37 + 1)), (0, .ref (a h0))]) hx hb dX4_run_126 hl (k := 0) rfl rfl (by decide) rfl (fun ls hl2 => ?_)
      replace hl := hl2
      clear hl2
      refine lv_goto (tgt := 75) hx hb dX4_run_129 (by decide) ?_
      exact ih75 (z_126, (p_37 + 1)) ls H_125 locs ⟨lv_sub hl [0, 1] rfl, hP, hD, hS⟩ hf

theorem md_X13_begin_1 : (.fieldLink RX13 48 "ResourceLedgerModel$Looker" "fault" "I" : Cond) ∈ wsX13_begin := List.mem_of_getElem? (i := 1) rfl
theorem iwd_X13_begin_X13 : ∀ w ∈ wsX130, w ∈ wsX13_begin := fun _ h => List.mem_cons_of_mem _ (List.mem_append_left _ (List.mem_append_right _ h))
theorem md_X13_begin_2 : (.fieldLink RX13 92 "ResourceLedgerModel$Looker" "height" "I" : Cond) ∈ wsX13_begin := List.mem_of_getElem? (i := 2) rfl
theorem md_X13_begin_3 : (.fieldLink RX13 72 "ResourceLedgerModel$Looker" "unit" "LResourceLedgerModel$Unit;" : Cond) ∈ wsX13_begin := List.mem_of_getElem? (i := 3) rfl
theorem md_X13_begin_4 : (.fieldLink RX13 176 "ResourceLedgerModel$Looker" "now" "I" : Cond) ∈ wsX13_begin := List.mem_of_getElem? (i := 4) rfl
theorem md_X13_begin_5 : (.fieldLink RX13 231 "ResourceLedgerModel$Looker" "many" "I" : Cond) ∈ wsX13_begin := List.mem_of_getElem? (i := 5) rfl
theorem md_X13_begin_6 : (.fieldLink RX13 136 "ResourceLedgerModel$Looker" "locals" "I" : Cond) ∈ wsX13_begin := List.mem_of_getElem? (i := 6) rfl
theorem md_X13_begin_8 : (.fieldLink RX13 13 "ResourceLedgerModel$Looker" "came" "[Z" : Cond) ∈ wsX13_begin := List.mem_of_getElem? (i := 8) rfl
theorem md_X13_begin_10 : (.fieldLink RX13 21 "ResourceLedgerModel$Looker" "thereAt" "[Z" : Cond) ∈ wsX13_begin := List.mem_of_getElem? (i := 10) rfl
theorem md_X13_begin_11 : (.fieldLink RX13 24 "ResourceLedgerModel$Looker" "originsAt" "[J" : Cond) ∈ wsX13_begin := List.mem_of_getElem? (i := 11) rfl
theorem md_X13_begin_12 : (.fieldLink RX13 27 "ResourceLedgerModel$Looker" "insideAt" "[Z" : Cond) ∈ wsX13_begin := List.mem_of_getElem? (i := 12) rfl
theorem md_X13_begin_7 : (.fieldLink RX13 7 "ResourceLedgerModel$Looker" "localTypes" "[J" : Cond) ∈ wsX13_begin := List.mem_of_getElem? (i := 7) rfl
theorem md_X13_begin_9 : (.fieldLink RX13 17 "ResourceLedgerModel$Looker" "led" "[Z" : Cond) ∈ wsX13_begin := List.mem_of_getElem? (i := 9) rfl
set_option maxHeartbeats 4000000 in
set_option maxRecDepth 100000 in
theorem de_X13_begin (l : Launch) (dC : Nat → ClassId) (dI : Nat → Nat → Nat) (cy : Nat → ClassId) (a : Nat → Nat) (sh : Nat → Nat × Nat) (n sz : Nat) (F : Nat) (z : St) (h0 : Nat) {z8 : St} {r8 : Unit} (hf : fn_X13_begin F sh n z h0 = some (z8, r8)) : Met l yX13_begin wsX13_begin ({ frames := 6, cells := 0, slots := 0, locals := 139 }) (va_Pc [.ref (a h0)] (fun U => U.heap.size = sz ∧ va_P (dC, dI) vwCl (Wd cy a sh n z) U.heap ∧ va_K (dC, dI) vwCl (TYS cy) U ∧ va_D (fun _ => True) (Wd cy a sh n z) ∧ NK U)) (va_Qv (fun u : Unit => True) (fun u t => va_P (dC, dI) vwCl (Wd cy a sh n z8) t.heap ∧ va_K (dC, dI) vwCl (TYS cy) t ∧ va_D (va_A (Wd cy a sh n z) sz) (Wd cy a sh n z8)) (va_A (Wd cy a sh n z) sz)) 0 0 (va_A (Wd cy a sh n z) sz) := by
  refine Met.ofW (cc := cX13_begin) (maxL := 4) (ret := none) (by decide) rfl ?_
  intro p e s m args below meth c s₁ B hml hv
  obtain ⟨rfl, hsz, hP, hK, hD0, hN⟩ := hv
  have hx := B.exec
  have hb := B.bytes
  have hr := B.returns
  have hts := atoms_spec (ws := wsX13_begin) B.pre
  have hown : s.vm.findClass RX13 = some m.cls := findClass_of_methodNamed B.named
  have hlocks := B.notSynchronized
  subst hsz
  have hD := hD0.self (sz := s.heap.size)
  clear hD0
  generalize hAe : va_A (Wd cy a sh n z) s.heap.size = A at hD ⊢
  have hA : ∀ q : Nat, s.heap.size ≤ q → A q := fun q h => by rw [← hAe]; exact Or.inr h
  clear hAe
  have hS : va_S A s.heap s.heap [] := va_S.rf
  have hl := lv_entry ([.ref (a h0)]) (n := 4) (Nat.le_of_ble_eq_true rfl)
  rw [lg_entry_eq]
  generalize (lg_sl ([.ref (a h0)]) ++ List.replicate (4 - (lg_sl ([.ref (a h0)])).length) Slot.unset).toArray = ls at hl ⊢
  replace hl : lv_has ls 4 [(0, .ref (a h0))] := hl
  unfold fn_X13_begin at hf
  refine de_start hS hP (fun H locs hS hP => ?_)
  refine lv_aload_n hx hb dX13_begin_0 rfl (lv_at hl 0 rfl) ?_
  refine lv_iconst (v := 0) hx hb dX13_begin_1 (by decide) ?_
  obtain ⟨g_1, hf⟩ := grd_some hf
  obtain ⟨kg_1, sg_1⟩ := okO_at g_1
  refine va_put (D := (dC, dI)) (ci := 13) (v := .int 0) (ty := .int) (C := RX13) (T := TX13) (N := 22) hx hb hts iwd_X13_begin_X13 tyX13 tyX13_ok nmX13 hown hK hP hD hS h0 (Wd_ob kg_1 sg_1 (by decide)) rfl 18 (by decide) (hts _ md_X13_begin_1) (fun _ h9 => h9) rfl (by decide +kernel) rfl rfl (by rw [fl_len]; decide) dX13_begin_2 (fun H_2 locs hP2 hD2 hS2 => ?_)
  rw [Wd_si sg_1 (by decide) rfl] at hP2 hD2
  obtain ⟨z_3, ez_3⟩ : ∃ w, w = si z h0 18 0 := ⟨_, rfl⟩
  rw [← ez_3] at hP2 hD2
  replace hf := lt_at ez_3 hf
  clear ez_3
  replace hP := hP2
  replace hD := hD2
  replace hS := hS2
  clear hP2 hD2 hS2
  refine lv_aload_n hx hb dX13_begin_5 rfl (lv_at hl 0 rfl) ?_
  refine lv_iconst (v := 0) hx hb dX13_begin_6 (by decide) ?_
  refine va_put (D := (dC, dI)) (ci := 13) (v := .int 0) (ty := .int) (C := RX13) (T := TX13) (N := 22) hx hb hts iwd_X13_begin_X13 tyX13 tyX13_ok nmX13 hown hK hP hD hS h0 (Wd_ob kg_1 sg_1 (by decide)) rfl 14 (by decide) (hts _ md_X13_begin_2) (fun _ h9 => h9) rfl (by decide +kernel) rfl rfl (by rw [fl_len]; decide) dX13_begin_7 (fun H_4 locs hP2 hD2 hS2 => ?_)
  rw [Wd_si sg_1 (by decide) rfl] at hP2 hD2
  obtain ⟨z_5, ez_5⟩ : ∃ w, w = si z_3 h0 14 0 := ⟨_, rfl⟩
  rw [← ez_5] at hP2 hD2
  replace hf := lt_at ez_5 hf
  clear ez_5
  replace hP := hP2
  replace hD := hD2
  replace hS := hS2
  clear hP2 hD2 hS2
  refine lv_aload_n hx hb dX13_begin_10 rfl (lv_at hl 0 rfl) ?_
  refine lv_aload_n hx hb dX13_begin_11 rfl (lv_at hl 0 rfl) ?_
  obtain ⟨k_6, ek_6, hf⟩ := lnk_some hf
  refine va_get (D := (dC, dI)) (ci := 13) (v := .ref (a k_6)) (C := RX13) (T := TX13) (N := 22) hx hb hts iwd_X13_begin_X13 hown hK hP h0 (Wd_ob kg_1 sg_1 (by decide)) rfl 0 (by decide) (hts _ md_X13_begin_3) (fun _ h9 => h9) (fl_q rfl ek_6) dX13_begin_12 ?_
  refine lv_aload_n hx hb dX13_begin_15 rfl (lv_at hl 0 rfl) ?_
  refine va_get (D := (dC, dI)) (ci := 13) (v := .int (z_5.1 h0 1)) (C := RX13) (T := TX13) (N := 22) hx hb hts iwd_X13_begin_X13 hown hK hP h0 (Wd_ob kg_1 sg_1 (by decide)) rfl 1 (by decide) (hts _ md_X13_begin_4) (fun _ h9 => h9) (fl_at (t := 0) rfl) dX13_begin_16 ?_
  obtain ⟨g_9, hf⟩ := grd_some hf
  obtain ⟨kg_9, sg_9⟩ := okO_at g_9
  obtain ⟨z_7, r_8, hfc, hf⟩ := cal_some hf
  have hFc := de_free hD hS hA
  refine va_calli (va_runV (As := [.int (z_5.1 h0 1)]) (rest := [.ref (a h0)]) ⟨hx, hb, hml, hown, hts⟩ (de_X16_instructions l dC dI cy a sh n H_4.size F z_5 k_6 (z_5.1 h0 1) hfc) (cwV 1 hts gX13_begin_X16_instructions rfl rfl rfl (by decide +kernel) ⟨Nat.le_of_ble_eq_true rfl, Nat.le_of_ble_eq_true rfl⟩) ⟨fun a U g mk q => by obtain ⟨q0, q1, qP, qK, qD, qN⟩ := q; exact ⟨q0, q1, qP, va_K.moved (u := U) (U := U.calling g mk a) (Vm.Alike.refl U.vm) qK, qD, qN.same rfl⟩, va_recv hK hP (ci := 16) (q0 := k_6) rfl (Wd_ob kg_9 sg_9 (by decide)), fun U hU hW => ⟨rfl, by rw [hU], by rw [hU]; exact hP, va_K.moved hW.alike hK, hD.weaken (fun _ _ _ _ => trivial), hN.warm hW⟩⟩ rfl rfl hl.1 rfl (lv_room (Nat.le_of_ble_eq_true rfl)) dX13_begin_19 ⟨Nat.le_of_ble_eq_true rfl, Nat.le_of_ble_eq_true rfl⟩) hS (fun q _ h => hFc q h) hFc (fun rr u t H_10 locs ht hvm hw hB hz1 hk1 hS2 => ?_)
  rw [hw]
  clear hw
  obtain ⟨hP1, -, hD1⟩ := hB
  rw [ht] at hP1
  replace hD := hD1.weaken (fun _ _ _ h => hFc _ h)
  replace hP := hP1
  replace hS := hS2
  clear hP1 hD1 hS2 hFc hfc hz1 hk1 hvm ht
  refine va_put (D := (dC, dI)) (ci := 13) (v := .int r_8) (ty := .int) (C := RX13) (T := TX13) (N := 22) hx hb hts iwd_X13_begin_X13 tyX13 tyX13_ok nmX13 hown hK hP hD hS h0 (Wd_ob kg_1 sg_1 (by decide)) rfl 4 (by decide) (hts _ md_X13_begin_5) (fun _ h9 => h9) rfl (by decide +kernel) rfl rfl (by rw [fl_len]; decide) dX13_begin_22 (fun H_11 locs hP2 hD2 hS2 => ?_)
  rw [Wd_si sg_1 (by decide) rfl] at hP2 hD2
  obtain ⟨z_12, ez_12⟩ : ∃ w, w = si z_7 h0 4 r_8 := ⟨_, rfl⟩
  rw [← ez_12] at hP2 hD2
  replace hf := lt_at ez_12 hf
  clear ez_12
  replace hP := hP2
  replace hD := hD2
  replace hS := hS2
  clear hP2 hD2 hS2
  refine lv_aload_n hx hb dX13_begin_25 rfl (lv_at hl 0 rfl) ?_
  obtain ⟨k_13, ek_13, hf⟩ := lnk_some hf
  refine va_get (D := (dC, dI)) (ci := 13) (v := .ref (a k_13)) (C := RX13) (T := TX13) (N := 22) hx hb hts iwd_X13_begin_X13 hown hK hP h0 (Wd_ob kg_1 sg_1 (by decide)) rfl 0 (by decide) (hts _ md_X13_begin_3) (fun _ h9 => h9) (fl_q rfl ek_13) dX13_begin_26 ?_
  refine lv_aload_n hx hb dX13_begin_29 rfl (lv_at hl 0 rfl) ?_
  refine va_get (D := (dC, dI)) (ci := 13) (v := .int (z_12.1 h0 1)) (C := RX13) (T := TX13) (N := 22) hx hb hts iwd_X13_begin_X13 hown hK hP h0 (Wd_ob kg_1 sg_1 (by decide)) rfl 1 (by decide) (hts _ md_X13_begin_4) (fun _ h9 => h9) (fl_at (t := 0) rfl) dX13_begin_30 ?_
  refine lv_iconst (v := 0) hx hb dX13_begin_33 (by decide) ?_
  obtain ⟨g_16, hf⟩ := grd_some hf
  obtain ⟨kg_16, sg_16⟩ := okO_at g_16
  obtain ⟨z_14, r_15, hfc, hf⟩ := cal_some hf
  have hFc := de_free hD hS hA
  refine va_calli (va_runV (As := [.int (z_12.1 h0 1), .int 0]) (rest := []) ⟨hx, hb, hml, hown, hts⟩ (de_X16_many l dC dI cy a sh n H_11.size F z_12 k_13 (z_12.1 h0 1) 0 hfc) (cwV 2 hts gX13_begin_X16_many rfl rfl rfl (by decide +kernel) ⟨Nat.le_of_ble_eq_true rfl, Nat.le_of_ble_eq_true rfl⟩) ⟨fun a U g mk q => by obtain ⟨q0, q1, qP, qK, qD, qN⟩ := q; exact ⟨q0, q1, qP, va_K.moved (u := U) (U := U.calling g mk a) (Vm.Alike.refl U.vm) qK, qD, qN.same rfl⟩, va_recv hK hP (ci := 16) (q0 := k_13) rfl (Wd_ob kg_16 sg_16 (by decide)), fun U hU hW => ⟨rfl, by rw [hU], by rw [hU]; exact hP, va_K.moved hW.alike hK, hD.weaken (fun _ _ _ _ => trivial), hN.warm hW⟩⟩ rfl rfl hl.1 rfl (lv_room (Nat.le_of_ble_eq_true rfl)) dX13_begin_34 ⟨Nat.le_of_ble_eq_true rfl, Nat.le_of_ble_eq_true rfl⟩) hS (fun q _ h => hFc q h) hFc (fun rr u t H_17 locs ht hvm hw hB hz1 hk1 hS2 => ?_)
  rw [hw]
  clear hw
  obtain ⟨hP1, -, hD1⟩ := hB
  rw [ht] at hP1
  replace hD := hD1.weaken (fun _ _ _ h => hFc _ h)
  replace hP := hP1
  replace hS := hS2
  clear hP1 hD1 hS2 hFc hfc hz1 hk1 hvm ht
  refine lv_istore_n (lv' := [(1, .int r_15), (0, .ref (a h0))]) hx hb dX13_begin_37 rfl hl (by decide) rfl (fun ls hl2 => ?_)
  replace hl := hl2
  clear hl2
  refine lv_aload_n hx hb dX13_begin_38 rfl (lv_at hl 1 rfl) ?_
  refine lv_iload_n hx hb dX13_begin_39 rfl (lv_at hl 0 rfl) ?_
  refine lv_aload_n hx hb dX13_begin_40 rfl (lv_at hl 1 rfl) ?_
  obtain ⟨k_18, ek_18, hf⟩ := lnk_some hf
  refine va_get (D := (dC, dI)) (ci := 13) (v := .ref (a k_18)) (C := RX13) (T := TX13) (N := 22) hx hb hts iwd_X13_begin_X13 hown hK hP h0 (Wd_ob kg_1 sg_1 (by decide)) rfl 0 (by decide) (hts _ md_X13_begin_3) (fun _ h9 => h9) (fl_q rfl ek_18) dX13_begin_41 ?_
  refine lv_aload_n hx hb dX13_begin_44 rfl (lv_at hl 1 rfl) ?_
  refine va_get (D := (dC, dI)) (ci := 13) (v := .int (z_14.1 h0 1)) (C := RX13) (T := TX13) (N := 22) hx hb hts iwd_X13_begin_X13 hown hK hP h0 (Wd_ob kg_1 sg_1 (by decide)) rfl 1 (by decide) (hts _ md_X13_begin_4) (fun _ h9 => h9) (fl_at (t := 0) rfl) dX13_begin_45 ?_
  refine lv_iconst (v := 2) hx hb dX13_begin_48 (by decide) ?_
  obtain ⟨g_21, hf⟩ := grd_some hf
  obtain ⟨kg_21, sg_21⟩ := okO_at g_21
  obtain ⟨z_19, r_20, hfc, hf⟩ := cal_some hf
  have hFc := de_free hD hS hA
  refine va_calli (va_runV (As := [.int (z_14.1 h0 1), .int 2]) (rest := [.int r_15, .ref (a h0)]) ⟨hx, hb, hml, hown, hts⟩ (de_X16_many l dC dI cy a sh n H_17.size F z_14 k_18 (z_14.1 h0 1) 2 hfc) (cwV 2 hts gX13_begin_X16_many rfl rfl rfl (by decide +kernel) ⟨Nat.le_of_ble_eq_true rfl, Nat.le_of_ble_eq_true rfl⟩) ⟨fun a U g mk q => by obtain ⟨q0, q1, qP, qK, qD, qN⟩ := q; exact ⟨q0, q1, qP, va_K.moved (u := U) (U := U.calling g mk a) (Vm.Alike.refl U.vm) qK, qD, qN.same rfl⟩, va_recv hK hP (ci := 16) (q0 := k_18) rfl (Wd_ob kg_21 sg_21 (by decide)), fun U hU hW => ⟨rfl, by rw [hU], by rw [hU]; exact hP, va_K.moved hW.alike hK, hD.weaken (fun _ _ _ _ => trivial), hN.warm hW⟩⟩ rfl rfl hl.1 rfl (lv_room (Nat.le_of_ble_eq_true rfl)) dX13_begin_49 ⟨Nat.le_of_ble_eq_true rfl, Nat.le_of_ble_eq_true rfl⟩) hS (fun q _ h => hFc q h) hFc (fun rr u t H_22 locs ht hvm hw hB hz1 hk1 hS2 => ?_)
  rw [hw]
  clear hw
  obtain ⟨hP1, -, hD1⟩ := hB
  rw [ht] at hP1
  replace hD := hD1.weaken (fun _ _ _ h => hFc _ h)
  replace hP := hP1
  replace hS := hS2
  clear hP1 hD1 hS2 hFc hfc hz1 hk1 hvm ht
  refine lv_iadd hx hb dX13_begin_52 ?_
  refine va_put (D := (dC, dI)) (ci := 13) (v := .int (r_15 + r_20)) (ty := .int) (C := RX13) (T := TX13) (N := 22) hx hb hts iwd_X13_begin_X13 tyX13 tyX13_ok nmX13 hown hK hP hD hS h0 (Wd_ob kg_1 sg_1 (by decide)) rfl 2 (by decide) (hts _ md_X13_begin_6) (fun _ h9 => h9) rfl (by decide +kernel) rfl rfl (by rw [fl_len]; decide) dX13_begin_53 (fun H_23 locs hP2 hD2 hS2 => ?_)
  rw [Wd_si sg_1 (by decide) rfl] at hP2 hD2
  obtain ⟨z_24, ez_24⟩ : ∃ w, w = si z_19 h0 2 (r_15 + r_20) := ⟨_, rfl⟩
  rw [← ez_24] at hP2 hD2
  replace hf := lt_at ez_24 hf
  clear ez_24
  replace hP := hP2
  replace hD := hD2
  replace hS := hS2
  clear hP2 hD2 hS2
  refine lv_iconst (v := 0) hx hb dX13_begin_56 (by decide) ?_
  refine lv_istore_n (lv' := [(2, .int 0), (1, .int r_15), (0, .ref (a h0))]) hx hb dX13_begin_57 rfl hl (by decide) rfl (fun ls hl2 => ?_)
  replace hl := hl2
  clear hl2
  have hl0 : lv_has ls 4 [(2, .int 0), (1, .int r_15), (0, .ref (a h0))] := lv_sub hl [0, 1, 2] rfl
  refine de_loop (h := 58) (fun (x : St × Int32) ls H locs => lv_has ls 4 [(2, .int x.2), (1, .int r_15), (0, .ref (a h0))] ∧ va_P (dC, dI) vwCl (Wd cy a sh n x.1) H ∧ va_D A (Wd cy a sh n x.1) ∧ va_S A s.heap H locs) (fun f x => fn_X13_begin_L58 F sh n h0 r_15 f x.1 x.2) (z8, r8) ?_ (fun _ => rfl) F (z_24, 0) ls H_23 locs ⟨hl0, hP, hD, hS⟩ hf
  intro f_27 x ls H locs ih58 hI hf
  obtain ⟨z_26, p_25⟩ := x
  obtain ⟨hl2, hP2, hD2, hS2⟩ := hI
  replace hl : lv_has ls 4 [(2, .int p_25), (1, .int r_15), (0, .ref (a h0))] := hl2
  replace hP := hP2
  replace hD := hD2
  replace hS := hS2
  clear hl2 hP2 hD2 hS2 hl0
  replace hf := fn_X13_begin_L58_s hf
  refine lv_iload_n hx hb dX13_begin_58 rfl (lv_at hl 0 rfl) ?_
  refine lv_aload_n hx hb dX13_begin_59 rfl (lv_at hl 2 rfl) ?_
  refine va_get (D := (dC, dI)) (ci := 13) (v := .int (z_26.1 h0 2)) (C := RX13) (T := TX13) (N := 22) hx hb hts iwd_X13_begin_X13 hown hK hP h0 (Wd_ob kg_1 sg_1 (by decide)) rfl 2 (by decide) (hts _ md_X13_begin_6) (fun _ h9 => h9) (fl_at (t := 0) rfl) dX13_begin_60 ?_
  refine lv_icmp_ge (tgt := 114) hx hb dX13_begin_63 (by decide) (fun c_28 => ?_) (fun c_28 => ?_)
  · skip
    rw [if_pos c_28] at hf
    refine lv_iconst (v := 0) hx hb dX13_begin_114 (by decide) ?_
    refine lv_istore_n (lv' := [(2, .int 0), (1, .int r_15), (0, .ref (a h0))]) hx hb dX13_begin_115 rfl hl (by decide) rfl (fun ls hl2 => ?_)
    replace hl := hl2
    clear hl2
    have hl0 : lv_has ls 4 [(2, .int 0), (1, .int r_15), (0, .ref (a h0))] := lv_sub hl [0, 1, 2] rfl
    refine de_loop (h := 116) (fun (x : St × Int32) ls H locs => lv_has ls 4 [(2, .int x.2), (1, .int r_15), (0, .ref (a h0))] ∧ va_P (dC, dI) vwCl (Wd cy a sh n x.1) H ∧ va_D A (Wd cy a sh n x.1) ∧ va_S A s.heap H locs) (fun f x => fn_X13_begin_L116 F sh n h0 r_15 f x.1 x.2) (z8, r8) ?_ (fun _ => rfl) F (z_26, 0) ls H locs ⟨hl0, hP, hD, hS⟩ hf
    intro f_31 x ls H locs ih116 hI hf
    obtain ⟨z_30, p_29⟩ := x
    obtain ⟨hl2, hP2, hD2, hS2⟩ := hI
    replace hl : lv_has ls 4 [(2, .int p_29), (1, .int r_15), (0, .ref (a h0))] := hl2
    replace hP := hP2
    replace hD := hD2
    replace hS := hS2
    clear hl2 hP2 hD2 hS2 hl0
    replace hf := fn_X13_begin_L116_s hf
    refine lv_iload_n hx hb dX13_begin_116 rfl (lv_at hl 0 rfl) ?_
    refine lv_sipush (v := 1024) hx hb dX13_begin_117 (by decide) ?_
    refine lv_icmp_gt (tgt := 143) hx hb dX13_begin_120 (by decide) (fun c_32 => ?_) (fun c_32 => ?_)
    · skip
      rw [if_pos c_32] at hf
      refine lv_iconst (v := 0) hx hb dX13_begin_143 (by decide) ?_
      refine lv_istore_n (lv' := [(2, .int 0), (1, .int r_15), (0, .ref (a h0))]) hx hb dX13_begin_144 rfl hl (by decide) rfl (fun ls hl2 => ?_)
      replace hl := hl2
      clear hl2
      have hl0 : lv_has ls 4 [(2, .int 0), (1, .int r_15), (0, .ref (a h0))] := lv_sub hl [0, 1, 2] rfl
      refine de_loop (h := 145) (fun (x : St × Int32) ls H locs => lv_has ls 4 [(2, .int x.2), (1, .int r_15), (0, .ref (a h0))] ∧ va_P (dC, dI) vwCl (Wd cy a sh n x.1) H ∧ va_D A (Wd cy a sh n x.1) ∧ va_S A s.heap H locs) (fun f x => fn_X13_begin_L145 F sh n h0 r_15 f x.1 x.2) (z8, r8) ?_ (fun _ => rfl) F (z_30, 0) ls H locs ⟨hl0, hP, hD, hS⟩ hf
      intro f_35 x ls H locs ih145 hI hf
      obtain ⟨z_34, p_33⟩ := x
      obtain ⟨hl2, hP2, hD2, hS2⟩ := hI
      replace hl : lv_has ls 4 [(2, .int p_33), (1, .int r_15), (0, .ref (a h0))] := hl2
      replace hP := hP2
      replace hD := hD2
      replace hS := hS2
      clear hl2 hP2 hD2 hS2 hl0
      replace hf := fn_X13_begin_L145_s hf
      refine lv_iload_n hx hb dX13_begin_145 rfl (lv_at hl 0 rfl) ?_
      refine lv_aload_n hx hb dX13_begin_146 rfl (lv_at hl 2 rfl) ?_
      refine va_get (D := (dC, dI)) (ci := 13) (v := .int (z_34.1 h0 4)) (C := RX13) (T := TX13) (N := 22) hx hb hts iwd_X13_begin_X13 hown hK hP h0 (Wd_ob kg_1 sg_1 (by decide)) rfl 4 (by decide) (hts _ md_X13_begin_5) (fun _ h9 => h9) (fl_at (t := 0) rfl) dX13_begin_147 ?_
      refine lv_icmp_ge (tgt := 202) hx hb dX13_begin_150 (by decide) (fun c_36 => ?_) (fun c_36 => ?_)
      · skip
        rw [if_pos c_36] at hf
        refine lv_aload_n hx hb dX13_begin_202 rfl (lv_at hl 2 rfl) ?_
        obtain ⟨k_37, ek_37, hf⟩ := lnk_some hf
        refine va_get (D := (dC, dI)) (ci := 13) (v := .ref (a k_37)) (C := RX13) (T := TX13) (N := 22) hx hb hts iwd_X13_begin_X13 hown hK hP h0 (Wd_ob kg_1 sg_1 (by decide)) rfl 6 (by decide) (hts _ md_X13_begin_8) (fun _ h9 => h9) (fl_q rfl ek_37) dX13_begin_203 ?_
        refine lv_iconst (v := 0) hx hb dX13_begin_206 (by decide) ?_
        refine lv_iconst (v := 1) hx hb dX13_begin_207 (by decide) ?_
        obtain ⟨g_38, hf⟩ := grd_some hf
        obtain ⟨kg_38, sg_38, ig_38⟩ := okA_at g_38
        refine va_zast hx hb hK hP hD hS k_37 3 (Wd_az kg_38 sg_38) rfl ig_38 dX13_begin_208 (fun H_39 locs hP2 hD2 hS2 => ?_)
        rw [Wd_tz sg_38] at hP2 hD2
        obtain ⟨z_40, ez_40⟩ : ∃ w, w = si z_34 k_37 (0 : Int32).toNatClampNeg (vp_nar .boolean 1) := ⟨_, rfl⟩
        rw [← ez_40] at hP2 hD2
        replace hf := lt_at ez_40 hf
        clear ez_40
        replace hP := hP2
        replace hD := hD2
        replace hS := hS2
        clear hP2 hD2 hS2
        refine lv_iconst (v := 0) hx hb dX13_begin_209 (by decide) ?_
        refine lv_istore_n (lv' := [(2, .int 0), (1, .int r_15), (0, .ref (a h0))]) hx hb dX13_begin_210 rfl hl (by decide) rfl (fun ls hl2 => ?_)
        replace hl := hl2
        clear hl2
        have hl0 : lv_has ls 4 [(2, .int 0), (1, .int r_15), (0, .ref (a h0))] := lv_sub hl [0, 1, 2] rfl
        refine de_loop (h := 211) (fun (x : St × Int32) ls H locs => lv_has ls 4 [(2, .int x.2), (1, .int r_15), (0, .ref (a h0))] ∧ va_P (dC, dI) vwCl (Wd cy a sh n x.1) H ∧ va_D A (Wd cy a sh n x.1) ∧ va_S A s.heap H locs) (fun f x => fn_X13_begin_L211 F sh n h0 r_15 f x.1 x.2) (z8, r8) ?_ (fun _ => rfl) F (z_40, 0) ls H_39 locs ⟨hl0, hP, hD, hS⟩ hf
        intro f_43 x ls H locs ih211 hI hf
        obtain ⟨z_42, p_41⟩ := x
        obtain ⟨hl2, hP2, hD2, hS2⟩ := hI
        replace hl : lv_has ls 4 [(2, .int p_41), (1, .int r_15), (0, .ref (a h0))] := hl2
        replace hP := hP2
        replace hD := hD2
        replace hS := hS2
        clear hl2 hP2 hD2 hS2 hl0
        replace hf := fn_X13_begin_L211_s hf
        refine lv_iload_n hx hb dX13_begin_211 rfl (lv_at hl 0 rfl) ?_
        refine lv_aload_n hx hb dX13_begin_212 rfl (lv_at hl 2 rfl) ?_
        refine va_get (D := (dC, dI)) (ci := 13) (v := .int (z_42.1 h0 2)) (C := RX13) (T := TX13) (N := 22) hx hb hts iwd_X13_begin_X13 hown hK hP h0 (Wd_ob kg_1 sg_1 (by decide)) rfl 2 (by decide) (hts _ md_X13_begin_6) (fun _ h9 => h9) (fl_at (t := 0) rfl) dX13_begin_213 ?_
        refine lv_icmp_ge (tgt := 282) hx hb dX13_begin_216 (by decide) (fun c_44 => ?_) (fun c_44 => ?_)
        · skip
          rw [if_pos c_44] at hf
          obtain ⟨h8, h9⟩ := ret_some hf
          rw [h8]
          exact W.vret hx hb hr (fun t ht hW => ⟨⟨(), rfl, trivial, by rw [ht]; exact hP, va_K.moved hW.alike hK, hD⟩, hS.F ht⟩) hS.2.2 dX13_begin_282
        · skip
          rw [if_neg c_44] at hf
          refine lv_iload_n hx hb dX13_begin_219 rfl (lv_at hl 0 rfl) ?_
          refine lv_iload_n hx hb dX13_begin_220 rfl (lv_at hl 1 rfl) ?_
          refine de_cut (h := 229) (fun (x : St × Int32) => [.int x.2]) (fun x ls H locs => lv_has ls 4 [(2, .int p_41), (1, .int r_15), (0, .ref (a h0))] ∧ va_P (dC, dI) vwCl (Wd cy a sh n x.1) H ∧ va_D A (Wd cy a sh n x.1) ∧ va_S A s.heap H locs) (fun x => fn_X13_begin_B229 F sh n h0 p_41 (fun z9 q2 => fn_X13_begin_L211 F sh n h0 r_15 f_43 z9 q2) x.1 x.2) (z8, r8) ?_ (fun B229 => ?_)
          · intro x ls H locs hI hf
            obtain ⟨z_46, p_45⟩ := x
            obtain ⟨hl2, hP2, hD2, hS2⟩ := hI
            replace hl : lv_has ls 4 [(2, .int p_41), (1, .int r_15), (0, .ref (a h0))] := hl2
            replace hP := hP2
            replace hD := hD2
            replace hS := hS2
            clear hl2 hP2 hD2 hS2
            replace hf := fn_X13_begin_B229_s hf
            refine W.eq (g2 := F0 m 229 ls [.int p_45]) rfl ?_
            refine lv_istore_n (lv' := [(3, .int p_45), (2, .int p_41), (1, .int r_15), (0, .ref (a h0))]) hx hb dX13_begin_229 rfl hl (by decide) rfl (fun ls hl2 => ?_)
            replace hl := hl2
            clear hl2
            refine lv_aload_n hx hb dX13_begin_230 rfl (lv_at hl 3 rfl) ?_
            obtain ⟨k_47, ek_47, hf⟩ := lnk_some hf
            refine va_get (D := (dC, dI)) (ci := 13) (v := .ref (a k_47)) (C := RX13) (T := TX13) (N := 22) hx hb hts iwd_X13_begin_X13 hown hK hP h0 (Wd_ob kg_1 sg_1 (by decide)) rfl 8 (by decide) (hts _ md_X13_begin_10) (fun _ h9 => h9) (fl_q rfl ek_47) dX13_begin_231 ?_
            refine lv_iload_n hx hb dX13_begin_234 rfl (lv_at hl 1 rfl) ?_
            refine lv_iload_n hx hb dX13_begin_235 rfl (lv_at hl 0 rfl) ?_
            obtain ⟨g_48, hf⟩ := grd_some hf
            obtain ⟨kg_48, sg_48, ig_48⟩ := okA_at g_48
            refine va_zast hx hb hK hP hD hS k_47 3 (Wd_az kg_48 sg_48) rfl ig_48 dX13_begin_236 (fun H_49 locs hP2 hD2 hS2 => ?_)
            rw [Wd_tz sg_48] at hP2 hD2
            obtain ⟨z_50, ez_50⟩ : ∃ w, w = si z_46 k_47 p_41.toNatClampNeg (vp_nar .boolean p_45) := ⟨_, rfl⟩
            rw [← ez_50] at hP2 hD2
            replace hf := lt_at ez_50 hf
            clear ez_50
            replace hP := hP2
            replace hD := hD2
            replace hS := hS2
            clear hP2 hD2 hS2
            refine lv_aload_n hx hb dX13_begin_237 rfl (lv_at hl 3 rfl) ?_
            obtain ⟨k_51, ek_51, hf⟩ := lnk_some hf
            refine va_get (D := (dC, dI)) (ci := 13) (v := .ref (a k_51)) (C := RX13) (T := TX13) (N := 22) hx hb hts iwd_X13_begin_X13 hown hK hP h0 (Wd_ob kg_1 sg_1 (by decide)) rfl 9 (by decide) (hts _ md_X13_begin_11) (fun _ h9 => h9) (fl_q rfl ek_51) dX13_begin_238 ?_
            refine lv_iload_n hx hb dX13_begin_241 rfl (lv_at hl 1 rfl) ?_
            refine lv_iload_n hx hb dX13_begin_242 rfl (lv_at hl 0 rfl) ?_
            refine de_cut (h := 268) (fun (x : St × Int64) => [.long x.2, .int p_41, .ref (a k_51)]) (fun x ls H locs => lv_has ls 4 [(2, .int p_41), (1, .int r_15), (0, .ref (a h0))] ∧ va_P (dC, dI) vwCl (Wd cy a sh n x.1) H ∧ va_D A (Wd cy a sh n x.1) ∧ va_S A s.heap H locs) (fun x => fn_X13_begin_B268 F sh n k_51 p_41 h0 (fun z9 q2 => fn_X13_begin_L211 F sh n h0 r_15 f_43 z9 q2) x.1 x.2) (z8, r8) ?_ (fun B268 => ?_)
            · intro x ls H locs hI hf
              obtain ⟨z_53, p_52⟩ := x
              obtain ⟨hl2, hP2, hD2, hS2⟩ := hI
              replace hl : lv_has ls 4 [(2, .int p_41), (1, .int r_15), (0, .ref (a h0))] := hl2
              replace hP := hP2
              replace hD := hD2
              replace hS := hS2
              clear hl2 hP2 hD2 hS2
              replace hf := fn_X13_begin_B268_s hf
              refine W.eq (g2 := F0 m 268 ls [.long p_52, .int p_41, .ref (a k_51)]) rfl ?_
              obtain ⟨g_54, hf⟩ := grd_some hf
              obtain ⟨kg_54, sg_54, ig_54⟩ := okA_at g_54
              refine va_last hx hb hK hP hD hS k_51 2 (Wd_al kg_54 sg_54) rfl ig_54 dX13_begin_268 (fun H_55 locs hP2 hD2 hS2 => ?_)
              rw [Wd_tl sg_54] at hP2 hD2
              obtain ⟨z_56, ez_56⟩ : ∃ w, w = sl z_53 k_51 p_41.toNatClampNeg p_52 := ⟨_, rfl⟩
              rw [← ez_56] at hP2 hD2
              replace hf := lt_at ez_56 hf
              clear ez_56
              replace hP := hP2
              replace hD := hD2
              replace hS := hS2
              clear hP2 hD2 hS2
              refine lv_aload_n hx hb dX13_begin_269 rfl (lv_at hl 2 rfl) ?_
              obtain ⟨k_57, ek_57, hf⟩ := lnk_some hf
              refine va_get (D := (dC, dI)) (ci := 13) (v := .ref (a k_57)) (C := RX13) (T := TX13) (N := 22) hx hb hts iwd_X13_begin_X13 hown hK hP h0 (Wd_ob kg_1 sg_1 (by decide)) rfl 10 (by decide) (hts _ md_X13_begin_12) (fun _ h9 => h9) (fl_q rfl ek_57) dX13_begin_270 ?_
              refine lv_iload_n hx hb dX13_begin_273 rfl (lv_at hl 0 rfl) ?_
              refine lv_iconst (v := 0) hx hb dX13_begin_274 (by decide) ?_
              obtain ⟨g_58, hf⟩ := grd_some hf
              obtain ⟨kg_58, sg_58, ig_58⟩ := okA_at g_58
              refine va_zast hx hb hK hP hD hS k_57 3 (Wd_az kg_58 sg_58) rfl ig_58 dX13_begin_275 (fun H_59 locs hP2 hD2 hS2 => ?_)
              rw [Wd_tz sg_58] at hP2 hD2
              obtain ⟨z_60, ez_60⟩ : ∃ w, w = si z_56 k_57 p_41.toNatClampNeg (vp_nar .boolean 0) := ⟨_, rfl⟩
              rw [← ez_60] at hP2 hD2
              replace hf := lt_at ez_60 hf
              clear ez_60
              replace hP := hP2
              replace hD := hD2
              replace hS := hS2
              clear hP2 hD2 hS2
              refine lv_iinc (v := (p_41 + 1)) (lv' := [(2, .int (p_41 + 1)), (1, .int r_15), (0, .ref (a h0))]) hx hb dX13_begin_276 hl (k := 0) rfl rfl (by decide) rfl (fun ls hl2 => ?_)
              replace hl := hl2
              clear hl2
              refine lv_goto (tgt := 211) hx hb dX13_begin_279 (by decide) ?_
              exact ih211 (z_60, (p_41 + 1)) ls H_59 locs ⟨lv_sub hl [0, 1, 2] rfl, hP, hD, hS⟩ hf
            refine de_cut (h := 267) (fun (x : St) => [.int p_41, .ref (a k_51)]) (fun x ls H locs => lv_has ls 4 [(2, .int p_41), (1, .int r_15), (0, .ref (a h0))] ∧ va_P (dC, dI) vwCl (Wd cy a sh n x) H ∧ va_D A (Wd cy a sh n x) ∧ va_S A s.heap H locs) (fun x => fn_X13_begin_B267 F sh n k_51 p_41 h0 (fun z9 q2 => fn_X13_begin_L211 F sh n h0 r_15 f_43 z9 q2) x) (z8, r8) ?_ (fun B267 => ?_)
            · intro x ls H locs hI hf
              obtain ⟨z_61, ez⟩ : ∃ w, w = x := ⟨_, rfl⟩
              subst ez
              obtain ⟨hl2, hP2, hD2, hS2⟩ := hI
              replace hl : lv_has ls 4 [(2, .int p_41), (1, .int r_15), (0, .ref (a h0))] := hl2
              replace hP := hP2
              replace hD := hD2
              replace hS := hS2
              clear hl2 hP2 hD2 hS2
              replace hf := fn_X13_begin_B267_s hf
              refine W.eq (g2 := F0 m 267 ls [.int p_41, .ref (a k_51)]) rfl ?_
              refine lv_lconst (v := 0) hx hb dX13_begin_267 (by decide) ?_
              exact B268 (z_61, 0) ls H locs ⟨lv_sub hl [0, 1, 2] rfl, hP, hD, hS⟩ hf
            refine lv_if_eq (tgt := 267) hx hb dX13_begin_243 (by decide) (fun c_62 => ?_) (fun c_62 => ?_)
            · skip
              rw [if_pos c_62] at hf
              exact B267 (z_50) ls H_49 locs ⟨lv_sub hl [1, 2, 3] rfl, hP, hD, hS⟩ hf
            · skip
              rw [if_neg c_62] at hf
              refine lv_aload_n hx hb dX13_begin_246 rfl (lv_at hl 3 rfl) ?_
              obtain ⟨k_63, ek_63, hf⟩ := lnk_some hf
              refine va_get (D := (dC, dI)) (ci := 13) (v := .ref (a k_63)) (C := RX13) (T := TX13) (N := 22) hx hb hts iwd_X13_begin_X13 hown hK hP h0 (Wd_ob kg_1 sg_1 (by decide)) rfl 3 (by decide) (hts _ md_X13_begin_7) (fun _ h9 => h9) (fl_q rfl ek_63) dX13_begin_247 ?_
              refine lv_iload_n hx hb dX13_begin_250 rfl (lv_at hl 1 rfl) ?_
              obtain ⟨g_64, hf⟩ := grd_some hf
              obtain ⟨kg_64, sg_64, ig_64⟩ := okA_at g_64
              refine va_lald hx hb hK hP k_63 2 (Wd_al kg_64 sg_64) rfl ig_64 dX13_begin_251 ?_
              obtain ⟨z_65, r_66, hfc, hf⟩ := cal_some hf
              have hFc := de_free hD hS hA
              refine va_calli (va_runS (As := [.long (z_50.2.1 k_63 p_41.toNatClampNeg)]) (rest := [.int p_41, .ref (a k_51)]) ⟨hx, hb, hml, hown, hts⟩ (de_X13_isReference l dC dI cy a sh n H_49.size F z_50 (z_50.2.1 k_63 p_41.toNatClampNeg) hfc) (va_cwS 1 hts gX13_begin_X13_isReference rfl rfl rfl (by decide +kernel) ⟨Nat.le_of_ble_eq_true rfl, Nat.le_of_ble_eq_true rfl⟩) ⟨fun a U g mk q => by obtain ⟨q0, q1, qP, qK, qD, qN⟩ := q; exact ⟨q0, q1, qP, va_K.moved (u := U) (U := U.calling g mk a) (Vm.Alike.refl U.vm) qK, qD, qN.same rfl⟩, fun U hU hW => ⟨rfl, by rw [hU], by rw [hU]; exact hP, va_K.moved hW.alike hK, hD.weaken (fun _ _ _ _ => trivial), hN.warm hW⟩⟩ rfl rfl hl.1 rfl (lv_room (Nat.le_of_ble_eq_true rfl)) dX13_begin_252 ⟨Nat.le_of_ble_eq_true rfl, Nat.le_of_ble_eq_true rfl⟩) hS (fun q _ h => hFc q h) hFc (fun rr u t H_67 locs ht hvm hw hB hz1 hk1 hS2 => ?_)
              rw [hw]
              clear hw
              obtain ⟨hP1, -, hD1⟩ := hB
              rw [ht] at hP1
              replace hD := hD1.weaken (fun _ _ _ h => hFc _ h)
              replace hP := hP1
              replace hS := hS2
              clear hP1 hD1 hS2 hFc hfc hz1 hk1 hvm ht
              refine lv_if_eq (tgt := 267) hx hb dX13_begin_255 (by decide) (fun c_68 => ?_) (fun c_68 => ?_)
              · skip
                rw [if_pos c_68] at hf
                exact B267 (z_65) ls H_67 locs ⟨lv_sub hl [1, 2, 3] rfl, hP, hD, hS⟩ hf
              · skip
                rw [if_neg c_68] at hf
                refine lv_lconst (v := 1) hx hb dX13_begin_258 (by decide) ?_
                refine lv_bipush (v := 40) hx hb dX13_begin_259 (by decide) ?_
                refine lv_iload_n hx hb dX13_begin_261 rfl (lv_at hl 1 rfl) ?_
                refine lv_iadd hx hb dX13_begin_262 ?_
                refine lv_lshl (v := (1 <<< (((40 + p_41) : Int32).toInt64 &&& 63))) hx hb dX13_begin_263 rfl ?_
                refine lv_goto (tgt := 268) hx hb dX13_begin_264 (by decide) ?_
                exact B268 (z_65, ((1 <<< (((40 + p_41) : Int32).toInt64 &&& 63)))) ls H_67 locs ⟨lv_sub hl [1, 2, 3] rfl, hP, hD, hS⟩ hf
          refine lv_icmp_ge (tgt := 228) hx hb dX13_begin_221 (by decide) (fun c_69 => ?_) (fun c_69 => ?_)
          · skip
            rw [if_pos c_69] at hf
            refine lv_iconst (v := 0) hx hb dX13_begin_228 (by decide) ?_
            exact B229 (z_42, 0) ls H locs ⟨lv_sub hl [0, 1, 2] rfl, hP, hD, hS⟩ hf
          · skip
            rw [if_neg c_69] at hf
            refine lv_iconst (v := 1) hx hb dX13_begin_224 (by decide) ?_
            refine lv_goto (tgt := 229) hx hb dX13_begin_225 (by decide) ?_
            exact B229 (z_42, 1) ls H locs ⟨lv_sub hl [0, 1, 2] rfl, hP, hD, hS⟩ hf
      · skip
        rw [if_neg c_36] at hf
        refine lv_aload_n hx hb dX13_begin_153 rfl (lv_at hl 2 rfl) ?_
        obtain ⟨k_70, ek_70, hf⟩ := lnk_some hf
        refine va_get (D := (dC, dI)) (ci := 13) (v := .ref (a k_70)) (C := RX13) (T := TX13) (N := 22) hx hb hts iwd_X13_begin_X13 hown hK hP h0 (Wd_ob kg_1 sg_1 (by decide)) rfl 0 (by decide) (hts _ md_X13_begin_3) (fun _ h9 => h9) (fl_q rfl ek_70) dX13_begin_154 ?_
        refine lv_aload_n hx hb dX13_begin_157 rfl (lv_at hl 2 rfl) ?_
        refine va_get (D := (dC, dI)) (ci := 13) (v := .int (z_34.1 h0 1)) (C := RX13) (T := TX13) (N := 22) hx hb hts iwd_X13_begin_X13 hown hK hP h0 (Wd_ob kg_1 sg_1 (by decide)) rfl 1 (by decide) (hts _ md_X13_begin_4) (fun _ h9 => h9) (fl_at (t := 0) rfl) dX13_begin_158 ?_
        refine lv_iload_n hx hb dX13_begin_161 rfl (lv_at hl 0 rfl) ?_
        obtain ⟨g_73, hf⟩ := grd_some hf
        obtain ⟨kg_73, sg_73⟩ := okO_at g_73
        obtain ⟨z_71, r_72, hfc, hf⟩ := cal_some hf
        have hFc := de_free hD hS hA
        refine va_calli (va_runV (As := [.int (z_34.1 h0 1), .int p_33]) (rest := []) ⟨hx, hb, hml, hown, hts⟩ (de_X16_operation l dC dI cy a sh n H.size F z_34 k_70 (z_34.1 h0 1) p_33 hfc) (cwV 2 hts gX13_begin_X16_operation rfl rfl rfl (by decide +kernel) ⟨Nat.le_of_ble_eq_true rfl, Nat.le_of_ble_eq_true rfl⟩) ⟨fun a U g mk q => by obtain ⟨q0, q1, qP, qK, qD, qN⟩ := q; exact ⟨q0, q1, qP, va_K.moved (u := U) (U := U.calling g mk a) (Vm.Alike.refl U.vm) qK, qD, qN.same rfl⟩, va_recv hK hP (ci := 16) (q0 := k_70) rfl (Wd_ob kg_73 sg_73 (by decide)), fun U hU hW => ⟨rfl, by rw [hU], by rw [hU]; exact hP, va_K.moved hW.alike hK, hD.weaken (fun _ _ _ _ => trivial), hN.warm hW⟩⟩ rfl rfl hl.1 rfl (lv_room (Nat.le_of_ble_eq_true rfl)) dX13_begin_162 ⟨Nat.le_of_ble_eq_true rfl, Nat.le_of_ble_eq_true rfl⟩) hS (fun q _ h => hFc q h) hFc (fun rr u t H_74 locs ht hvm hw hB hz1 hk1 hS2 => ?_)
        rw [hw]
        clear hw
        obtain ⟨hP1, -, hD1⟩ := hB
        rw [ht] at hP1
        replace hD := hD1.weaken (fun _ _ _ h => hFc _ h)
        replace hP := hP1
        replace hS := hS2
        clear hP1 hD1 hS2 hFc hfc hz1 hk1 hvm ht
        refine lv_istore_n (lv' := [(3, .int r_72), (2, .int p_33), (1, .int r_15), (0, .ref (a h0))]) hx hb dX13_begin_165 rfl hl (by decide) rfl (fun ls hl2 => ?_)
        replace hl := hl2
        clear hl2
        refine lv_iload_n hx hb dX13_begin_166 rfl (lv_at hl 0 rfl) ?_
        refine lv_iconst (v := 1) hx hb dX13_begin_167 (by decide) ?_
        refine de_cut (h := 196) (fun (x : St) => []) (fun x ls H locs => lv_has ls 4 [(2, .int p_33), (1, .int r_15), (0, .ref (a h0))] ∧ va_P (dC, dI) vwCl (Wd cy a sh n x) H ∧ va_D A (Wd cy a sh n x) ∧ va_S A s.heap H locs) (fun x => fn_X13_begin_B196 F sh n p_33 (fun z9 q2 => fn_X13_begin_L145 F sh n h0 r_15 f_35 z9 q2) x) (z8, r8) ?_ (fun B196 => ?_)
        · intro x ls H locs hI hf
          obtain ⟨z_75, ez⟩ : ∃ w, w = x := ⟨_, rfl⟩
          subst ez
          obtain ⟨hl2, hP2, hD2, hS2⟩ := hI
          replace hl : lv_has ls 4 [(2, .int p_33), (1, .int r_15), (0, .ref (a h0))] := hl2
          replace hP := hP2
          replace hD := hD2
          replace hS := hS2
          clear hl2 hP2 hD2 hS2
          replace hf := fn_X13_begin_B196_s hf
          refine W.eq (g2 := F0 m 196 ls []) rfl ?_
          refine lv_iinc (v := (p_33 + 1)) (lv' := [(2, .int (p_33 + 1)), (1, .int r_15), (0, .ref (a h0))]) hx hb dX13_begin_196 hl (k := 0) rfl rfl (by decide) rfl (fun ls hl2 => ?_)
          replace hl := hl2
          clear hl2
          refine lv_goto (tgt := 145) hx hb dX13_begin_199 (by decide) ?_
          exact ih145 (z_75, (p_33 + 1)) ls H locs ⟨lv_sub hl [0, 1, 2] rfl, hP, hD, hS⟩ hf
        refine lv_icmp_le (tgt := 196) hx hb dX13_begin_168 (by decide) (fun c_76 => ?_) (fun c_76 => ?_)
        · skip
          rw [if_pos c_76] at hf
          exact B196 (z_71) ls H_74 locs ⟨lv_sub hl [1, 2, 3] rfl, hP, hD, hS⟩ hf
        · skip
          rw [if_neg c_76] at hf
          refine lv_iload_n hx hb dX13_begin_171 rfl (lv_at hl 0 rfl) ?_
          refine lv_iconst (v := 5) hx hb dX13_begin_172 (by decide) ?_
          refine lv_icmp_ge (tgt := 196) hx hb dX13_begin_173 (by decide) (fun c_77 => ?_) (fun c_77 => ?_)
          · skip
            rw [if_pos c_77] at hf
            exact B196 (z_71) ls H_74 locs ⟨lv_sub hl [1, 2, 3] rfl, hP, hD, hS⟩ hf
          · skip
            rw [if_neg c_77] at hf
            refine lv_aload_n hx hb dX13_begin_176 rfl (lv_at hl 3 rfl) ?_
            obtain ⟨k_78, ek_78, hf⟩ := lnk_some hf
            refine va_get (D := (dC, dI)) (ci := 13) (v := .ref (a k_78)) (C := RX13) (T := TX13) (N := 22) hx hb hts iwd_X13_begin_X13 hown hK hP h0 (Wd_ob kg_1 sg_1 (by decide)) rfl 7 (by decide) (hts _ md_X13_begin_9) (fun _ h9 => h9) (fl_q rfl ek_78) dX13_begin_177 ?_
            refine lv_aload_n hx hb dX13_begin_180 rfl (lv_at hl 3 rfl) ?_
            obtain ⟨k_79, ek_79, hf⟩ := lnk_some hf
            refine va_get (D := (dC, dI)) (ci := 13) (v := .ref (a k_79)) (C := RX13) (T := TX13) (N := 22) hx hb hts iwd_X13_begin_X13 hown hK hP h0 (Wd_ob kg_1 sg_1 (by decide)) rfl 0 (by decide) (hts _ md_X13_begin_3) (fun _ h9 => h9) (fl_q rfl ek_79) dX13_begin_181 ?_
            refine lv_aload_n hx hb dX13_begin_184 rfl (lv_at hl 3 rfl) ?_
            refine va_get (D := (dC, dI)) (ci := 13) (v := .int (z_71.1 h0 1)) (C := RX13) (T := TX13) (N := 22) hx hb hts iwd_X13_begin_X13 hown hK hP h0 (Wd_ob kg_1 sg_1 (by decide)) rfl 1 (by decide) (hts _ md_X13_begin_4) (fun _ h9 => h9) (fl_at (t := 0) rfl) dX13_begin_185 ?_
            refine lv_iload_n hx hb dX13_begin_188 rfl (lv_at hl 1 rfl) ?_
            refine lv_iconst (v := 0) hx hb dX13_begin_189 (by decide) ?_
            obtain ⟨g_82, hf⟩ := grd_some hf
            obtain ⟨kg_82, sg_82⟩ := okO_at g_82
            obtain ⟨z_80, r_81, hfc, hf⟩ := cal_some hf
            have hFc := de_free hD hS hA
            refine va_calll (va_runV (As := [.int (z_71.1 h0 1), .int p_33, .int 0]) (rest := [.ref (a k_78)]) ⟨hx, hb, hml, hown, hts⟩ (de_X16_operand l dC dI cy a sh n H_74.size F z_71 k_79 (z_71.1 h0 1) p_33 0 hfc) (cwV 3 hts gX13_begin_X16_operand rfl rfl rfl (by decide +kernel) ⟨Nat.le_of_ble_eq_true rfl, Nat.le_of_ble_eq_true rfl⟩) ⟨fun a U g mk q => by obtain ⟨q0, q1, qP, qK, qD, qN⟩ := q; exact ⟨q0, q1, qP, va_K.moved (u := U) (U := U.calling g mk a) (Vm.Alike.refl U.vm) qK, qD, qN.same rfl⟩, va_recv hK hP (ci := 16) (q0 := k_79) rfl (Wd_ob kg_82 sg_82 (by decide)), fun U hU hW => ⟨rfl, by rw [hU], by rw [hU]; exact hP, va_K.moved hW.alike hK, hD.weaken (fun _ _ _ _ => trivial), hN.warm hW⟩⟩ rfl rfl hl.1 rfl (lv_room (Nat.le_of_ble_eq_true rfl)) dX13_begin_190 ⟨Nat.le_of_ble_eq_true rfl, Nat.le_of_ble_eq_true rfl⟩) hS (fun q _ h => hFc q h) hFc (fun rr u t H_83 locs ht hvm hw hB hz1 hk1 hS2 => ?_)
            rw [hw]
            clear hw
            obtain ⟨hP1, -, hD1⟩ := hB
            rw [ht] at hP1
            replace hD := hD1.weaken (fun _ _ _ h => hFc _ h)
            replace hP := hP1
            replace hS := hS2
            clear hP1 hD1 hS2 hFc hfc hz1 hk1 hvm ht
            refine lv_l2i (v := (r_81 : Int64).toInt32) hx hb dX13_begin_193 rfl ?_
            refine lv_iconst (v := 1) hx hb dX13_begin_194 (by decide) ?_
            obtain ⟨g_84, hf⟩ := grd_some hf
            obtain ⟨kg_84, sg_84, ig_84⟩ := okA_at g_84
            refine va_zast hx hb hK hP hD hS k_78 3 (Wd_az kg_84 sg_84) rfl ig_84 dX13_begin_195 (fun H_85 locs hP2 hD2 hS2 => ?_)
            rw [Wd_tz sg_84] at hP2 hD2
            obtain ⟨z_86, ez_86⟩ : ∃ w, w = si z_80 k_78 ((r_81 : Int64).toInt32).toNatClampNeg (vp_nar .boolean 1) := ⟨_, rfl⟩
            rw [← ez_86] at hP2 hD2
            replace hf := lt_at ez_86 hf
            clear ez_86
            replace hP := hP2
            replace hD := hD2
            replace hS := hS2
            clear hP2 hD2 hS2
            exact B196 (z_86) ls H_85 locs ⟨lv_sub hl [1, 2, 3] rfl, hP, hD, hS⟩ hf
    · skip
      rw [if_neg c_32] at hf
      refine lv_aload_n hx hb dX13_begin_123 rfl (lv_at hl 2 rfl) ?_
      obtain ⟨k_87, ek_87, hf⟩ := lnk_some hf
      refine va_get (D := (dC, dI)) (ci := 13) (v := .ref (a k_87)) (C := RX13) (T := TX13) (N := 22) hx hb hts iwd_X13_begin_X13 hown hK hP h0 (Wd_ob kg_1 sg_1 (by decide)) rfl 6 (by decide) (hts _ md_X13_begin_8) (fun _ h9 => h9) (fl_q rfl ek_87) dX13_begin_124 ?_
      refine lv_iload_n hx hb dX13_begin_127 rfl (lv_at hl 0 rfl) ?_
      refine lv_iconst (v := 0) hx hb dX13_begin_128 (by decide) ?_
      obtain ⟨g_88, hf⟩ := grd_some hf
      obtain ⟨kg_88, sg_88, ig_88⟩ := okA_at g_88
      refine va_zast hx hb hK hP hD hS k_87 3 (Wd_az kg_88 sg_88) rfl ig_88 dX13_begin_129 (fun H_89 locs hP2 hD2 hS2 => ?_)
      rw [Wd_tz sg_88] at hP2 hD2
      obtain ⟨z_90, ez_90⟩ : ∃ w, w = si z_30 k_87 p_29.toNatClampNeg (vp_nar .boolean 0) := ⟨_, rfl⟩
      rw [← ez_90] at hP2 hD2
      replace hf := lt_at ez_90 hf
      clear ez_90
      replace hP := hP2
      replace hD := hD2
      replace hS := hS2
      clear hP2 hD2 hS2
      refine lv_aload_n hx hb dX13_begin_130 rfl (lv_at hl 2 rfl) ?_
      obtain ⟨k_91, ek_91, hf⟩ := lnk_some hf
      refine va_get (D := (dC, dI)) (ci := 13) (v := .ref (a k_91)) (C := RX13) (T := TX13) (N := 22) hx hb hts iwd_X13_begin_X13 hown hK hP h0 (Wd_ob kg_1 sg_1 (by decide)) rfl 7 (by decide) (hts _ md_X13_begin_9) (fun _ h9 => h9) (fl_q rfl ek_91) dX13_begin_131 ?_
      refine lv_iload_n hx hb dX13_begin_134 rfl (lv_at hl 0 rfl) ?_
      refine lv_iconst (v := 0) hx hb dX13_begin_135 (by decide) ?_
      obtain ⟨g_92, hf⟩ := grd_some hf
      obtain ⟨kg_92, sg_92, ig_92⟩ := okA_at g_92
      refine va_zast hx hb hK hP hD hS k_91 3 (Wd_az kg_92 sg_92) rfl ig_92 dX13_begin_136 (fun H_93 locs hP2 hD2 hS2 => ?_)
      rw [Wd_tz sg_92] at hP2 hD2
      obtain ⟨z_94, ez_94⟩ : ∃ w, w = si z_90 k_91 p_29.toNatClampNeg (vp_nar .boolean 0) := ⟨_, rfl⟩
      rw [← ez_94] at hP2 hD2
      replace hf := lt_at ez_94 hf
      clear ez_94
      replace hP := hP2
      replace hD := hD2
      replace hS := hS2
      clear hP2 hD2 hS2
      refine lv_iinc (v := (p_29 + 1)) (lv' := [(2, .int (p_29 + 1)), (1, .int r_15), (0, .ref (a h0))]) hx hb dX13_begin_137 hl (k := 0) rfl rfl (by decide) rfl (fun ls hl2 => ?_)
      replace hl := hl2
      clear hl2
      refine lv_goto (tgt := 116) hx hb dX13_begin_140 (by decide) ?_
      exact ih116 (z_94, (p_29 + 1)) ls H_93 locs ⟨lv_sub hl [0, 1, 2] rfl, hP, hD, hS⟩ hf
  · skip
    rw [if_neg c_28] at hf
    refine lv_aload_n hx hb dX13_begin_66 rfl (lv_at hl 2 rfl) ?_
    obtain ⟨k_95, ek_95, hf⟩ := lnk_some hf
    refine va_get (D := (dC, dI)) (ci := 13) (v := .ref (a k_95)) (C := RX13) (T := TX13) (N := 22) hx hb hts iwd_X13_begin_X13 hown hK hP h0 (Wd_ob kg_1 sg_1 (by decide)) rfl 3 (by decide) (hts _ md_X13_begin_7) (fun _ h9 => h9) (fl_q rfl ek_95) dX13_begin_67 ?_
    refine lv_iload_n hx hb dX13_begin_70 rfl (lv_at hl 0 rfl) ?_
    refine lv_iload_n hx hb dX13_begin_71 rfl (lv_at hl 0 rfl) ?_
    refine lv_iload_n hx hb dX13_begin_72 rfl (lv_at hl 1 rfl) ?_
    refine de_cut (h := 107) (fun (x : St × Int64) => [.long x.2, .int p_25, .ref (a k_95)]) (fun x ls H locs => lv_has ls 4 [(2, .int p_25), (1, .int r_15), (0, .ref (a h0))] ∧ va_P (dC, dI) vwCl (Wd cy a sh n x.1) H ∧ va_D A (Wd cy a sh n x.1) ∧ va_S A s.heap H locs) (fun x => fn_X13_begin_B107 F sh n k_95 p_25 (fun z9 q2 => fn_X13_begin_L58 F sh n h0 r_15 f_27 z9 q2) x.1 x.2) (z8, r8) ?_ (fun B107 => ?_)
    · intro x ls H locs hI hf
      obtain ⟨z_97, p_96⟩ := x
      obtain ⟨hl2, hP2, hD2, hS2⟩ := hI
      replace hl : lv_has ls 4 [(2, .int p_25), (1, .int r_15), (0, .ref (a h0))] := hl2
      replace hP := hP2
      replace hD := hD2
      replace hS := hS2
      clear hl2 hP2 hD2 hS2
      replace hf := fn_X13_begin_B107_s hf
      refine W.eq (g2 := F0 m 107 ls [.long p_96, .int p_25, .ref (a k_95)]) rfl ?_
      obtain ⟨g_98, hf⟩ := grd_some hf
      obtain ⟨kg_98, sg_98, ig_98⟩ := okA_at g_98
      refine va_last hx hb hK hP hD hS k_95 2 (Wd_al kg_98 sg_98) rfl ig_98 dX13_begin_107 (fun H_99 locs hP2 hD2 hS2 => ?_)
      rw [Wd_tl sg_98] at hP2 hD2
      obtain ⟨z_100, ez_100⟩ : ∃ w, w = sl z_97 k_95 p_25.toNatClampNeg p_96 := ⟨_, rfl⟩
      rw [← ez_100] at hP2 hD2
      replace hf := lt_at ez_100 hf
      clear ez_100
      replace hP := hP2
      replace hD := hD2
      replace hS := hS2
      clear hP2 hD2 hS2
      refine lv_iinc (v := (p_25 + 1)) (lv' := [(2, .int (p_25 + 1)), (1, .int r_15), (0, .ref (a h0))]) hx hb dX13_begin_108 hl (k := 0) rfl rfl (by decide) rfl (fun ls hl2 => ?_)
      replace hl := hl2
      clear hl2
      refine lv_goto (tgt := 58) hx hb dX13_begin_111 (by decide) ?_
      exact ih58 (z_100, (p_25 + 1)) ls H_99 locs ⟨lv_sub hl [0, 1, 2] rfl, hP, hD, hS⟩ hf
    refine lv_icmp_ge (tgt := 92) hx hb dX13_begin_73 (by decide) (fun c_101 => ?_) (fun c_101 => ?_)
    · skip
      rw [if_pos c_101] at hf
      refine lv_aload_n hx hb dX13_begin_92 rfl (lv_at hl 2 rfl) ?_
      obtain ⟨k_102, ek_102, hf⟩ := lnk_some hf
      refine va_get (D := (dC, dI)) (ci := 13) (v := .ref (a k_102)) (C := RX13) (T := TX13) (N := 22) hx hb hts iwd_X13_begin_X13 hown hK hP h0 (Wd_ob kg_1 sg_1 (by decide)) rfl 0 (by decide) (hts _ md_X13_begin_3) (fun _ h9 => h9) (fl_q rfl ek_102) dX13_begin_93 ?_
      refine lv_aload_n hx hb dX13_begin_96 rfl (lv_at hl 2 rfl) ?_
      refine va_get (D := (dC, dI)) (ci := 13) (v := .int (z_26.1 h0 1)) (C := RX13) (T := TX13) (N := 22) hx hb hts iwd_X13_begin_X13 hown hK hP h0 (Wd_ob kg_1 sg_1 (by decide)) rfl 1 (by decide) (hts _ md_X13_begin_4) (fun _ h9 => h9) (fl_at (t := 0) rfl) dX13_begin_97 ?_
      refine lv_iconst (v := 2) hx hb dX13_begin_100 (by decide) ?_
      refine lv_iload_n hx hb dX13_begin_101 rfl (lv_at hl 0 rfl) ?_
      refine lv_iload_n hx hb dX13_begin_102 rfl (lv_at hl 1 rfl) ?_
      refine lv_isub hx hb dX13_begin_103 ?_
      obtain ⟨g_105, hf⟩ := grd_some hf
      obtain ⟨kg_105, sg_105⟩ := okO_at g_105
      obtain ⟨z_103, r_104, hfc, hf⟩ := cal_some hf
      have hFc := de_free hD hS hA
      refine va_calll (va_runV (As := [.int (z_26.1 h0 1), .int 2, .int (p_25 - r_15)]) (rest := [.int p_25, .ref (a k_95)]) ⟨hx, hb, hml, hown, hts⟩ (de_X16_listed l dC dI cy a sh n H.size F z_26 k_102 (z_26.1 h0 1) 2 (p_25 - r_15) hfc) (cwV 3 hts gX13_begin_X16_listed rfl rfl rfl (by decide +kernel) ⟨Nat.le_of_ble_eq_true rfl, Nat.le_of_ble_eq_true rfl⟩) ⟨fun a U g mk q => by obtain ⟨q0, q1, qP, qK, qD, qN⟩ := q; exact ⟨q0, q1, qP, va_K.moved (u := U) (U := U.calling g mk a) (Vm.Alike.refl U.vm) qK, qD, qN.same rfl⟩, va_recv hK hP (ci := 16) (q0 := k_102) rfl (Wd_ob kg_105 sg_105 (by decide)), fun U hU hW => ⟨rfl, by rw [hU], by rw [hU]; exact hP, va_K.moved hW.alike hK, hD.weaken (fun _ _ _ _ => trivial), hN.warm hW⟩⟩ rfl rfl hl.1 rfl (lv_room (Nat.le_of_ble_eq_true rfl)) dX13_begin_104 ⟨Nat.le_of_ble_eq_true rfl, Nat.le_of_ble_eq_true rfl⟩) hS (fun q _ h => hFc q h) hFc (fun rr u t H_106 locs ht hvm hw hB hz1 hk1 hS2 => ?_)
      rw [hw]
      clear hw
      obtain ⟨hP1, -, hD1⟩ := hB
      rw [ht] at hP1
      replace hD := hD1.weaken (fun _ _ _ h => hFc _ h)
      replace hP := hP1
      replace hS := hS2
      clear hP1 hD1 hS2 hFc hfc hz1 hk1 hvm ht
      exact B107 (z_103, r_104) ls H_106 locs ⟨lv_sub hl [0, 1, 2] rfl, hP, hD, hS⟩ hf
    · skip
      rw [if_neg c_101] at hf
      refine lv_aload_n hx hb dX13_begin_76 rfl (lv_at hl 2 rfl) ?_
      obtain ⟨k_107, ek_107, hf⟩ := lnk_some hf
      refine va_get (D := (dC, dI)) (ci := 13) (v := .ref (a k_107)) (C := RX13) (T := TX13) (N := 22) hx hb hts iwd_X13_begin_X13 hown hK hP h0 (Wd_ob kg_1 sg_1 (by decide)) rfl 0 (by decide) (hts _ md_X13_begin_3) (fun _ h9 => h9) (fl_q rfl ek_107) dX13_begin_77 ?_
      refine lv_aload_n hx hb dX13_begin_80 rfl (lv_at hl 2 rfl) ?_
      refine va_get (D := (dC, dI)) (ci := 13) (v := .int (z_26.1 h0 1)) (C := RX13) (T := TX13) (N := 22) hx hb hts iwd_X13_begin_X13 hown hK hP h0 (Wd_ob kg_1 sg_1 (by decide)) rfl 1 (by decide) (hts _ md_X13_begin_4) (fun _ h9 => h9) (fl_at (t := 0) rfl) dX13_begin_81 ?_
      refine lv_iconst (v := 0) hx hb dX13_begin_84 (by decide) ?_
      refine lv_iload_n hx hb dX13_begin_85 rfl (lv_at hl 0 rfl) ?_
      obtain ⟨g_110, hf⟩ := grd_some hf
      obtain ⟨kg_110, sg_110⟩ := okO_at g_110
      obtain ⟨z_108, r_109, hfc, hf⟩ := cal_some hf
      have hFc := de_free hD hS hA
      refine va_calll (va_runV (As := [.int (z_26.1 h0 1), .int 0, .int p_25]) (rest := [.int p_25, .ref (a k_95)]) ⟨hx, hb, hml, hown, hts⟩ (de_X16_listed l dC dI cy a sh n H.size F z_26 k_107 (z_26.1 h0 1) 0 p_25 hfc) (cwV 3 hts gX13_begin_X16_listed rfl rfl rfl (by decide +kernel) ⟨Nat.le_of_ble_eq_true rfl, Nat.le_of_ble_eq_true rfl⟩) ⟨fun a U g mk q => by obtain ⟨q0, q1, qP, qK, qD, qN⟩ := q; exact ⟨q0, q1, qP, va_K.moved (u := U) (U := U.calling g mk a) (Vm.Alike.refl U.vm) qK, qD, qN.same rfl⟩, va_recv hK hP (ci := 16) (q0 := k_107) rfl (Wd_ob kg_110 sg_110 (by decide)), fun U hU hW => ⟨rfl, by rw [hU], by rw [hU]; exact hP, va_K.moved hW.alike hK, hD.weaken (fun _ _ _ _ => trivial), hN.warm hW⟩⟩ rfl rfl hl.1 rfl (lv_room (Nat.le_of_ble_eq_true rfl)) dX13_begin_86 ⟨Nat.le_of_ble_eq_true rfl, Nat.le_of_ble_eq_true rfl⟩) hS (fun q _ h => hFc q h) hFc (fun rr u t H_111 locs ht hvm hw hB hz1 hk1 hS2 => ?_)
      rw [hw]
      clear hw
      obtain ⟨hP1, -, hD1⟩ := hB
      rw [ht] at hP1
      replace hD := hD1.weaken (fun _ _ _ h => hFc _ h)
      replace hP := hP1
      replace hS := hS2
      clear hP1 hD1 hS2 hFc hfc hz1 hk1 hvm ht
      refine lv_goto (tgt := 107) hx hb dX13_begin_89 (by decide) ?_
      exact B107 (z_108, r_109) ls H_111 locs ⟨lv_sub hl [0, 1, 2] rfl, hP, hD, hS⟩ hf

theorem md_X18_root_1 : (.fieldLink RX18 531 "ResourceLedgerModel" "roots" "LResourceLedgerModel$Roots;" : Cond) ∈ wsX18_root := List.mem_of_getElem? (i := 1) rfl
theorem iwd_X18_root_X18 : ∀ w ∈ wsX180, w ∈ wsX18_root := fun _ h => List.mem_cons_of_mem _ (List.mem_append_left _ (List.mem_append_left _ (List.mem_append_left _ (List.mem_append_right _ h))))
theorem md_X18_root_2 : (.fieldLink RX18 94 "ResourceLedgerModel" "digester" "LResourceLedgerModel$Digester;" : Cond) ∈ wsX18_root := List.mem_of_getElem? (i := 2) rfl
theorem md_X18_root_3 : (.fieldLink RX18 1 "ResourceLedgerModel" "accounts" "I" : Cond) ∈ wsX18_root := List.mem_of_getElem? (i := 3) rfl
theorem md_X18_root_9 : (.fieldLink RX18 7 "ResourceLedgerModel" "modules" "I" : Cond) ∈ wsX18_root := List.mem_of_getElem? (i := 9) rfl
theorem md_X18_root_11 : (.fieldLink RX18 10 "ResourceLedgerModel" "resources" "I" : Cond) ∈ wsX18_root := List.mem_of_getElem? (i := 11) rfl
theorem md_X18_root_12 : (.fieldLink RX18 27 "ResourceLedgerModel" "owners" "[J" : Cond) ∈ wsX18_root := List.mem_of_getElem? (i := 12) rfl
theorem md_X18_root_13 : (.fieldLink RX18 30 "ResourceLedgerModel" "kindsOf" "[I" : Cond) ∈ wsX18_root := List.mem_of_getElem? (i := 13) rfl
theorem md_X18_root_5 : (.fieldLink RX18 602 "ResourceLedgerModel" "key" "[J" : Cond) ∈ wsX18_root := List.mem_of_getElem? (i := 5) rfl
theorem md_X18_root_8 : (.fieldLink RX18 605 "ResourceLedgerModel" "value" "[J" : Cond) ∈ wsX18_root := List.mem_of_getElem? (i := 8) rfl
theorem md_X18_root_10 : (.fieldLink RX18 17 "ResourceLedgerModel" "units" "[LResourceLedgerModel$Unit;" : Cond) ∈ wsX18_root := List.mem_of_getElem? (i := 10) rfl
theorem iwd_X18_root_X16 : ∀ w ∈ wsX160, w ∈ wsX18_root := fun _ h => List.mem_cons_of_mem _ (List.mem_append_left _ (List.mem_append_left _ (List.mem_append_right _ h)))
theorem md_X18_root_4 : (.fieldLink RX18 13 "ResourceLedgerModel" "addresses" "[J" : Cond) ∈ wsX18_root := List.mem_of_getElem? (i := 4) rfl
theorem md_X18_root_6 : (.fieldLink RX18 303 "ResourceLedgerModel" "balances" "[J" : Cond) ∈ wsX18_root := List.mem_of_getElem? (i := 6) rfl
theorem md_X18_root_7 : (.fieldLink RX18 519 "ResourceLedgerModel" "sequences" "[J" : Cond) ∈ wsX18_root := List.mem_of_getElem? (i := 7) rfl
set_option maxHeartbeats 4000000 in
set_option maxRecDepth 100000 in
theorem de_X18_root (l : Launch) (dC : Nat → ClassId) (dI : Nat → Nat → Nat) (cy : Nat → ClassId) (a : Nat → Nat) (sh : Nat → Nat × Nat) (n sz : Nat) (F : Nat) (sk : Nat → Nat) (z : St) (h0 : Nat) (x0 : Int32) {z8 : St} {r8 : Int64} (hf : fn_X18_root F sh n z h0 x0 = some (z8, r8)) : Met l yX18_root wsX18_root ({ frames := 52, cells := 0, slots := 0, locals := 1144 }) (va_Pc [.ref (a h0), .int x0] (fun U => U.heap.size = sz ∧ va_P (dC, dI) vwCl (Wd cy a sh n z) U.heap ∧ va_K (dC, dI) vwCl (TYS cy) U ∧ va_D (fun _ => True) (Wd cy a sh n z) ∧ NK U ∧ SKs sk (a CBK) (va_A (Wd cy a sh n z) sz) U U.heap)) (va_Ql (fun (r9 : Int64) (u : Unit) => r9 = r8) (fun u t => va_P (dC, dI) vwCl (Wd cy a sh n z8) t.heap ∧ va_K (dC, dI) vwCl (TYS cy) t ∧ va_D (va_A (Wd cy a sh n z) sz) (Wd cy a sh n z8)) (va_A (Wd cy a sh n z) sz)) 0 0 (va_A (Wd cy a sh n z) sz) := by
  refine Met.ofW (cc := cX18_root) (maxL := 4) (ret := (some .long)) (by decide) rfl ?_
  intro p e s m args below meth c s₁ B hml hv
  obtain ⟨rfl, hsz, hP, hK, hD0, hN, hSK⟩ := hv
  have hx := B.exec
  have hb := B.bytes
  have hr := B.returns
  have hts := atoms_spec (ws := wsX18_root) B.pre
  have hown : s.vm.findClass RX18 = some m.cls := findClass_of_methodNamed B.named
  have hlocks := B.notSynchronized
  subst hsz
  have hD := hD0.self (sz := s.heap.size)
  clear hD0
  generalize hAe : va_A (Wd cy a sh n z) s.heap.size = A at hD hSK ⊢
  have hA : ∀ q : Nat, s.heap.size ≤ q → A q := fun q h => by rw [← hAe]; exact Or.inr h
  clear hAe
  have hS : va_S A s.heap s.heap [] := va_S.rf
  have hl := lv_entry ([.ref (a h0), .int x0]) (n := 4) (Nat.le_of_ble_eq_true rfl)
  rw [lg_entry_eq]
  generalize (lg_sl ([.ref (a h0), .int x0]) ++ List.replicate (4 - (lg_sl ([.ref (a h0), .int x0])).length) Slot.unset).toArray = ls at hl ⊢
  replace hl : lv_has ls 4 [(0, .ref (a h0)), (1, .int x0)] := hl
  unfold fn_X18_root at hf
  refine de_start hS hP (fun H locs hS hP => ?_)
  refine lv_iload_n hx hb dX18_root_0 rfl (lv_at hl 1 rfl) ?_
  refine lv_if_lt (tgt := 9) hx hb dX18_root_1 (by decide) (fun c_1 => ?_) (fun c_1 => ?_)
  · skip
    rw [if_pos c_1] at hf
    refine lv_lconst (v := 0) hx hb dX18_root_9 (by decide) ?_
    obtain ⟨h8, h9⟩ := ret_some hf
    rw [h8, h9]
    exact W.lret (v := 0) hx hb hr (fun t ht hW => ⟨⟨0, (), rfl, rfl, by rw [ht]; exact hP, va_K.moved hW.alike hK, hD⟩, hS.F ht⟩) hS.2.2 dX18_root_10
  · skip
    rw [if_neg c_1] at hf
    refine lv_iload_n hx hb dX18_root_4 rfl (lv_at hl 1 rfl) ?_
    refine lv_iconst (v := 3) hx hb dX18_root_5 (by decide) ?_
    refine lv_icmp_le (tgt := 11) hx hb dX18_root_6 (by decide) (fun c_2 => ?_) (fun c_2 => ?_)
    · skip
      rw [if_pos c_2] at hf
      refine lv_aload_n hx hb dX18_root_11 rfl (lv_at hl 0 rfl) ?_
      obtain ⟨g_3, hf⟩ := grd_some hf
      obtain ⟨kg_3, sg_3⟩ := okO_at g_3
      obtain ⟨k_4, ek_4, hf⟩ := lnk_some hf
      refine va_get (D := (dC, dI)) (ci := 18) (v := .ref (a k_4)) (C := RX18) (T := TX18) (N := 78) hx hb hts iwd_X18_root_X18 hown hK hP h0 (Wd_ob kg_3 sg_3 (by decide)) rfl 19 (by decide) (hts _ md_X18_root_1) (fun _ h9 => h9) (fl_q rfl ek_4) dX18_root_12 ?_
      obtain ⟨g_6, hf⟩ := grd_some hf
      obtain ⟨kg_6, sg_6⟩ := okO_at g_6
      obtain ⟨z_5, _u, hfc, hf⟩ := cal_some hf
      have hFc := de_free hD hS hA
      refine va_callv (va_runV (As := []) (rest := []) ⟨hx, hb, hml, hown, hts⟩ (de_X14_begin l dC dI cy a sh n H.size F z k_4 hfc) (cwV 0 hts gX18_root_X14_begin rfl rfl rfl (by decide +kernel) ⟨Nat.le_of_ble_eq_true rfl, Nat.le_of_ble_eq_true rfl⟩) ⟨fun a U g mk q => by obtain ⟨q0, q1, qP, qK, qD, qN⟩ := q; exact ⟨q0, q1, qP, va_K.moved (u := U) (U := U.calling g mk a) (Vm.Alike.refl U.vm) qK, qD, qN.same rfl⟩, va_recv hK hP (ci := 14) (q0 := k_4) rfl (Wd_ob kg_6 sg_6 (by decide)), fun U hU hW => ⟨rfl, by rw [hU], by rw [hU]; exact hP, va_K.moved hW.alike hK, hD.weaken (fun _ _ _ _ => trivial), hN.warm hW⟩⟩ rfl rfl hl.1 rfl (lv_room (Nat.le_of_ble_eq_true rfl)) dX18_root_15 ⟨Nat.le_of_ble_eq_true rfl, Nat.le_of_ble_eq_true rfl⟩) hS (fun q _ h => hFc q h) hFc (fun u t H_7 locs ht hvm hw hB hz1 hk1 hS2 => ?_)
      obtain ⟨hP1, -, hD1⟩ := hB
      rw [ht] at hP1
      replace hD := hD1.weaken (fun _ _ _ h => hFc _ h)
      replace hP := hP1
      replace hS := hS2
      clear hP1 hD1 hS2 hFc hfc hz1 hk1 hvm ht
      refine lv_aload_n hx hb dX18_root_18 rfl (lv_at hl 0 rfl) ?_
      obtain ⟨k_8, ek_8, hf⟩ := lnk_some hf
      refine va_get (D := (dC, dI)) (ci := 18) (v := .ref (a k_8)) (C := RX18) (T := TX18) (N := 78) hx hb hts iwd_X18_root_X18 hown hK hP h0 (Wd_ob kg_3 sg_3 (by decide)) rfl 18 (by decide) (hts _ md_X18_root_2) (fun _ h9 => h9) (fl_q rfl ek_8) dX18_root_19 ?_
      obtain ⟨g_10, hf⟩ := grd_some hf
      obtain ⟨kg_10, sg_10⟩ := okO_at g_10
      obtain ⟨z_9, _u, hfc, hf⟩ := cal_some hf
      have hFc := de_free hD hS hA
      refine va_callv (va_runV (As := []) (rest := []) ⟨hx, hb, hml, hown, hts⟩ (de_X12_begin l dC dI cy a sh n H_7.size F z_5 k_8 hfc) (cwV 0 hts gX18_root_X12_begin rfl rfl rfl (by decide +kernel) ⟨Nat.le_of_ble_eq_true rfl, Nat.le_of_ble_eq_true rfl⟩) ⟨fun a U g mk q => by obtain ⟨q0, q1, qP, qK, qD, qN⟩ := q; exact ⟨q0, q1, qP, va_K.moved (u := U) (U := U.calling g mk a) (Vm.Alike.refl U.vm) qK, qD, qN.same rfl⟩, va_recv hK hP (ci := 12) (q0 := k_8) rfl (Wd_ob kg_10 sg_10 (by decide)), fun U hU hW => ⟨rfl, by rw [hU], by rw [hU]; exact hP, va_K.moved hW.alike hK, hD.weaken (fun _ _ _ _ => trivial), hN.warm hW⟩⟩ rfl rfl hl.1 rfl (lv_room (Nat.le_of_ble_eq_true rfl)) dX18_root_22 ⟨Nat.le_of_ble_eq_true rfl, Nat.le_of_ble_eq_true rfl⟩) hS (fun q _ h => hFc q h) hFc (fun u t H_11 locs ht hvm hw hB hz1 hk1 hS2 => ?_)
      obtain ⟨hP1, -, hD1⟩ := hB
      rw [ht] at hP1
      replace hD := hD1.weaken (fun _ _ _ h => hFc _ h)
      replace hP := hP1
      replace hS := hS2
      clear hP1 hD1 hS2 hFc hfc hz1 hk1 hvm ht
      refine lv_iconst (v := 0) hx hb dX18_root_25 (by decide) ?_
      refine lv_istore_n (lv' := [(2, .int 0), (0, .ref (a h0)), (1, .int x0)]) hx hb dX18_root_26 rfl hl (by decide) rfl (fun ls hl2 => ?_)
      replace hl := hl2
      clear hl2
      have hl0 : lv_has ls 4 [(2, .int 0), (0, .ref (a h0)), (1, .int x0)] := lv_sub hl [0, 1, 2] rfl
      refine de_loop (h := 27) (fun (x : St × Int32) ls H locs => lv_has ls 4 [(2, .int x.2), (0, .ref (a h0)), (1, .int x0)] ∧ va_P (dC, dI) vwCl (Wd cy a sh n x.1) H ∧ va_D A (Wd cy a sh n x.1) ∧ va_S A s.heap H locs) (fun f x => fn_X18_root_L27 F sh n h0 x0 f x.1 x.2) (z8, r8) ?_ (fun _ => rfl) F (z_9, 0) ls H_11 locs ⟨hl0, hP, hD, hS⟩ hf
      intro f_14 x ls H locs ih27 hI hf
      obtain ⟨z_13, p_12⟩ := x
      obtain ⟨hl2, hP2, hD2, hS2⟩ := hI
      replace hl : lv_has ls 4 [(2, .int p_12), (0, .ref (a h0)), (1, .int x0)] := hl2
      replace hP := hP2
      replace hD := hD2
      replace hS := hS2
      clear hl2 hP2 hD2 hS2 hl0
      replace hf := fn_X18_root_L27_s hf
      refine lv_iload_n hx hb dX18_root_27 rfl (lv_at hl 0 rfl) ?_
      refine lv_aload_n hx hb dX18_root_28 rfl (lv_at hl 1 rfl) ?_
      refine va_get (D := (dC, dI)) (ci := 18) (v := .int (z_13.1 h0 3)) (C := RX18) (T := TX18) (N := 78) hx hb hts iwd_X18_root_X18 hown hK hP h0 (Wd_ob kg_3 sg_3 (by decide)) rfl 3 (by decide) (hts _ md_X18_root_3) (fun _ h9 => h9) (fl_at (t := 0) rfl) dX18_root_29 ?_
      refine lv_icmp_ge (tgt := 133) hx hb dX18_root_32 (by decide) (fun c_15 => ?_) (fun c_15 => ?_)
      · skip
        rw [if_pos c_15] at hf
        refine lv_iconst (v := 1) hx hb dX18_root_133 (by decide) ?_
        refine lv_istore_n (lv' := [(2, .int 1), (0, .ref (a h0)), (1, .int x0)]) hx hb dX18_root_134 rfl hl (by decide) rfl (fun ls hl2 => ?_)
        replace hl := hl2
        clear hl2
        have hl0 : lv_has ls 4 [(2, .int 1), (0, .ref (a h0)), (1, .int x0)] := lv_sub hl [0, 1, 2] rfl
        refine de_loop (h := 135) (fun (x : St × Int32) ls H locs => lv_has ls 4 [(2, .int x.2), (0, .ref (a h0)), (1, .int x0)] ∧ va_P (dC, dI) vwCl (Wd cy a sh n x.1) H ∧ va_D A (Wd cy a sh n x.1) ∧ va_S A s.heap H locs) (fun f x => fn_X18_root_L135 F sh n h0 x0 f x.1 x.2) (z8, r8) ?_ (fun _ => rfl) F (z_13, 1) ls H locs ⟨hl0, hP, hD, hS⟩ hf
        intro f_18 x ls H locs ih135 hI hf
        obtain ⟨z_17, p_16⟩ := x
        obtain ⟨hl2, hP2, hD2, hS2⟩ := hI
        replace hl : lv_has ls 4 [(2, .int p_16), (0, .ref (a h0)), (1, .int x0)] := hl2
        replace hP := hP2
        replace hD := hD2
        replace hS := hS2
        clear hl2 hP2 hD2 hS2 hl0
        replace hf := fn_X18_root_L135_s hf
        refine lv_iload_n hx hb dX18_root_135 rfl (lv_at hl 0 rfl) ?_
        refine lv_aload_n hx hb dX18_root_136 rfl (lv_at hl 1 rfl) ?_
        refine va_get (D := (dC, dI)) (ci := 18) (v := .int (z_17.1 h0 5)) (C := RX18) (T := TX18) (N := 78) hx hb hts iwd_X18_root_X18 hown hK hP h0 (Wd_ob kg_3 sg_3 (by decide)) rfl 5 (by decide) (hts _ md_X18_root_9) (fun _ h9 => h9) (fl_at (t := 0) rfl) dX18_root_137 ?_
        refine lv_icmp_gt (tgt := 256) hx hb dX18_root_140 (by decide) (fun c_19 => ?_) (fun c_19 => ?_)
        · skip
          rw [if_pos c_19] at hf
          refine lv_iconst (v := 0) hx hb dX18_root_256 (by decide) ?_
          refine lv_istore_n (lv' := [(2, .int 0), (0, .ref (a h0)), (1, .int x0)]) hx hb dX18_root_257 rfl hl (by decide) rfl (fun ls hl2 => ?_)
          replace hl := hl2
          clear hl2
          have hl0 : lv_has ls 4 [(2, .int 0), (0, .ref (a h0)), (1, .int x0)] := lv_sub hl [0, 1, 2] rfl
          refine de_loop (h := 258) (fun (x : St × Int32) ls H locs => lv_has ls 4 [(2, .int x.2), (0, .ref (a h0)), (1, .int x0)] ∧ va_P (dC, dI) vwCl (Wd cy a sh n x.1) H ∧ va_D A (Wd cy a sh n x.1) ∧ va_S A s.heap H locs) (fun f x => fn_X18_root_L258 F sh n h0 x0 f x.1 x.2) (z8, r8) ?_ (fun _ => rfl) F (z_17, 0) ls H locs ⟨hl0, hP, hD, hS⟩ hf
          intro f_22 x ls H locs ih258 hI hf
          obtain ⟨z_21, p_20⟩ := x
          obtain ⟨hl2, hP2, hD2, hS2⟩ := hI
          replace hl : lv_has ls 4 [(2, .int p_20), (0, .ref (a h0)), (1, .int x0)] := hl2
          replace hP := hP2
          replace hD := hD2
          replace hS := hS2
          clear hl2 hP2 hD2 hS2 hl0
          replace hf := fn_X18_root_L258_s hf
          refine lv_iload_n hx hb dX18_root_258 rfl (lv_at hl 0 rfl) ?_
          refine lv_aload_n hx hb dX18_root_259 rfl (lv_at hl 1 rfl) ?_
          refine va_get (D := (dC, dI)) (ci := 18) (v := .int (z_21.1 h0 9)) (C := RX18) (T := TX18) (N := 78) hx hb hts iwd_X18_root_X18 hown hK hP h0 (Wd_ob kg_3 sg_3 (by decide)) rfl 9 (by decide) (hts _ md_X18_root_11) (fun _ h9 => h9) (fl_at (t := 0) rfl) dX18_root_260 ?_
          refine lv_icmp_ge (tgt := 359) hx hb dX18_root_263 (by decide) (fun c_23 => ?_) (fun c_23 => ?_)
          · skip
            rw [if_pos c_23] at hf
            refine lv_aload_n hx hb dX18_root_359 rfl (lv_at hl 1 rfl) ?_
            obtain ⟨k_24, ek_24, hf⟩ := lnk_some hf
            refine va_get (D := (dC, dI)) (ci := 18) (v := .ref (a k_24)) (C := RX18) (T := TX18) (N := 78) hx hb hts iwd_X18_root_X18 hown hK hP h0 (Wd_ob kg_3 sg_3 (by decide)) rfl 19 (by decide) (hts _ md_X18_root_1) (fun _ h9 => h9) (fl_q rfl ek_24) dX18_root_360 ?_
            obtain ⟨g_26, hf⟩ := grd_some hf
            obtain ⟨kg_26, sg_26⟩ := okO_at g_26
            obtain ⟨z_25, _u, hfc, hf⟩ := cal_some hf
            have hFc := de_free hD hS hA
            refine va_callv (va_runV (As := []) (rest := []) ⟨hx, hb, hml, hown, hts⟩ (de_X14_all l dC dI cy a sh n H.size F sk z_21 k_24 hfc) (cwV 0 hts gX18_root_X14_all rfl rfl rfl (by decide +kernel) ⟨Nat.le_of_ble_eq_true rfl, Nat.le_of_ble_eq_true rfl⟩) ⟨fun a U g mk q => by obtain ⟨q0, q1, qP, qK, qD, qN, qS⟩ := q; exact ⟨q0, q1, qP, va_K.moved (u := U) (U := U.calling g mk a) (Vm.Alike.refl U.vm) qK, qD, qN.same rfl, SKs.moved (u := U) (U := U.calling g mk a) (Vm.Alike.refl U.vm) qS⟩, va_recv hK hP (ci := 14) (q0 := k_24) rfl (Wd_ob kg_26 sg_26 (by decide)), fun U hU hW => ⟨rfl, by rw [hU], by rw [hU]; exact hP, va_K.moved hW.alike hK, hD.weaken (fun _ _ _ _ => trivial), hN.warm hW, by rw [hU]; exact ((hSK.kept hS.2.1).narrow hFc).moved hW.alike⟩⟩ rfl rfl hl.1 rfl (lv_room (Nat.le_of_ble_eq_true rfl)) dX18_root_363 ⟨Nat.le_of_ble_eq_true rfl, Nat.le_of_ble_eq_true rfl⟩) hS (fun q _ h => hFc q h) hFc (fun u t H_27 locs ht hvm hw hB hz1 hk1 hS2 => ?_)
            obtain ⟨hP1, -, hD1⟩ := hB
            rw [ht] at hP1
            replace hD := hD1.weaken (fun _ _ _ h => hFc _ h)
            replace hP := hP1
            replace hS := hS2
            clear hP1 hD1 hS2 hFc hfc hz1 hk1 hvm ht
            refine lv_aload_n hx hb dX18_root_366 rfl (lv_at hl 1 rfl) ?_
            obtain ⟨k_28, ek_28, hf⟩ := lnk_some hf
            refine va_get (D := (dC, dI)) (ci := 18) (v := .ref (a k_28)) (C := RX18) (T := TX18) (N := 78) hx hb hts iwd_X18_root_X18 hown hK hP h0 (Wd_ob kg_3 sg_3 (by decide)) rfl 19 (by decide) (hts _ md_X18_root_1) (fun _ h9 => h9) (fl_q rfl ek_28) dX18_root_367 ?_
            refine lv_iload_n hx hb dX18_root_370 rfl (lv_at hl 2 rfl) ?_
            obtain ⟨g_31, hf⟩ := grd_some hf
            obtain ⟨kg_31, sg_31⟩ := okO_at g_31
            obtain ⟨z_29, r_30, hfc, hf⟩ := cal_some hf
            have hFc := de_free hD hS hA
            refine va_calll (va_runV (As := [.int x0]) (rest := []) ⟨hx, hb, hml, hown, hts⟩ (de_X14_get l dC dI cy a sh n H_27.size F z_25 k_28 x0 hfc) (cwV 1 hts gX18_root_X14_get rfl rfl rfl (by decide +kernel) ⟨Nat.le_of_ble_eq_true rfl, Nat.le_of_ble_eq_true rfl⟩) ⟨fun a U g mk q => by obtain ⟨q0, q1, qP, qK, qD, qN⟩ := q; exact ⟨q0, q1, qP, va_K.moved (u := U) (U := U.calling g mk a) (Vm.Alike.refl U.vm) qK, qD, qN.same rfl⟩, va_recv hK hP (ci := 14) (q0 := k_28) rfl (Wd_ob kg_31 sg_31 (by decide)), fun U hU hW => ⟨rfl, by rw [hU], by rw [hU]; exact hP, va_K.moved hW.alike hK, hD.weaken (fun _ _ _ _ => trivial), hN.warm hW⟩⟩ rfl rfl hl.1 rfl (lv_room (Nat.le_of_ble_eq_true rfl)) dX18_root_371 ⟨Nat.le_of_ble_eq_true rfl, Nat.le_of_ble_eq_true rfl⟩) hS (fun q _ h => hFc q h) hFc (fun rr u t H_32 locs ht hvm hw hB hz1 hk1 hS2 => ?_)
            rw [hw]
            clear hw
            obtain ⟨hP1, -, hD1⟩ := hB
            rw [ht] at hP1
            replace hD := hD1.weaken (fun _ _ _ h => hFc _ h)
            replace hP := hP1
            replace hS := hS2
            clear hP1 hD1 hS2 hFc hfc hz1 hk1 hvm ht
            obtain ⟨h8, h9⟩ := ret_some hf
            rw [h8, h9]
            exact W.lret (v := r_30) hx hb hr (fun t ht hW => ⟨⟨r_30, (), rfl, rfl, by rw [ht]; exact hP, va_K.moved hW.alike hK, hD⟩, hS.F ht⟩) hS.2.2 dX18_root_374
          · skip
            rw [if_neg c_23] at hf
            refine lv_aload_n hx hb dX18_root_266 rfl (lv_at hl 1 rfl) ?_
            obtain ⟨k_33, ek_33, hf⟩ := lnk_some hf
            refine va_get (D := (dC, dI)) (ci := 18) (v := .ref (a k_33)) (C := RX18) (T := TX18) (N := 78) hx hb hts iwd_X18_root_X18 hown hK hP h0 (Wd_ob kg_3 sg_3 (by decide)) rfl 18 (by decide) (hts _ md_X18_root_2) (fun _ h9 => h9) (fl_q rfl ek_33) dX18_root_267 ?_
            refine lv_iconst (v := 3) hx hb dX18_root_270 (by decide) ?_
            obtain ⟨g_35, hf⟩ := grd_some hf
            obtain ⟨kg_35, sg_35⟩ := okO_at g_35
            obtain ⟨z_34, _u, hfc, hf⟩ := cal_some hf
            have hFc := de_free hD hS hA
            refine va_callv (va_runV (As := [.int 3]) (rest := []) ⟨hx, hb, hml, hown, hts⟩ (de_X12_add l dC dI cy a sh n H.size F z_21 k_33 3 hfc) (cwV 1 hts gX18_root_X12_add rfl rfl rfl (by decide +kernel) ⟨Nat.le_of_ble_eq_true rfl, Nat.le_of_ble_eq_true rfl⟩) ⟨fun a U g mk q => by obtain ⟨q0, q1, qP, qK, qD, qN⟩ := q; exact ⟨q0, q1, qP, va_K.moved (u := U) (U := U.calling g mk a) (Vm.Alike.refl U.vm) qK, qD, qN.same rfl⟩, va_recv hK hP (ci := 12) (q0 := k_33) rfl (Wd_ob kg_35 sg_35 (by decide)), fun U hU hW => ⟨rfl, by rw [hU], by rw [hU]; exact hP, va_K.moved hW.alike hK, hD.weaken (fun _ _ _ _ => trivial), hN.warm hW⟩⟩ rfl rfl hl.1 rfl (lv_room (Nat.le_of_ble_eq_true rfl)) dX18_root_271 ⟨Nat.le_of_ble_eq_true rfl, Nat.le_of_ble_eq_true rfl⟩) hS (fun q _ h => hFc q h) hFc (fun u t H_36 locs ht hvm hw hB hz1 hk1 hS2 => ?_)
            obtain ⟨hP1, -, hD1⟩ := hB
            rw [ht] at hP1
            replace hD := hD1.weaken (fun _ _ _ h => hFc _ h)
            replace hP := hP1
            replace hS := hS2
            clear hP1 hD1 hS2 hFc hfc hz1 hk1 hvm ht
            refine lv_aload_n hx hb dX18_root_274 rfl (lv_at hl 1 rfl) ?_
            obtain ⟨k_37, ek_37, hf⟩ := lnk_some hf
            refine va_get (D := (dC, dI)) (ci := 18) (v := .ref (a k_37)) (C := RX18) (T := TX18) (N := 78) hx hb hts iwd_X18_root_X18 hown hK hP h0 (Wd_ob kg_3 sg_3 (by decide)) rfl 18 (by decide) (hts _ md_X18_root_2) (fun _ h9 => h9) (fl_q rfl ek_37) dX18_root_275 ?_
            refine lv_aload_n hx hb dX18_root_278 rfl (lv_at hl 1 rfl) ?_
            obtain ⟨k_38, ek_38, hf⟩ := lnk_some hf
            refine va_get (D := (dC, dI)) (ci := 18) (v := .ref (a k_38)) (C := RX18) (T := TX18) (N := 78) hx hb hts iwd_X18_root_X18 hown hK hP h0 (Wd_ob kg_3 sg_3 (by decide)) rfl 7 (by decide) (hts _ md_X18_root_12) (fun _ h9 => h9) (fl_q rfl ek_38) dX18_root_279 ?_
            refine lv_iload_n hx hb dX18_root_282 rfl (lv_at hl 0 rfl) ?_
            obtain ⟨g_39, hf⟩ := grd_some hf
            obtain ⟨kg_39, sg_39, ig_39⟩ := okA_at g_39
            refine va_lald hx hb hK hP k_38 2 (Wd_al kg_39 sg_39) rfl ig_39 dX18_root_283 ?_
            refine lv_bipush (v := 8) hx hb dX18_root_284 (by decide) ?_
            obtain ⟨g_41, hf⟩ := grd_some hf
            obtain ⟨kg_41, sg_41⟩ := okO_at g_41
            obtain ⟨z_40, _u, hfc, hf⟩ := cal_some hf
            have hFc := de_free hD hS hA
            refine va_callv (va_runV (As := [.long (z_34.2.1 k_38 p_20.toNatClampNeg), .int 8]) (rest := []) ⟨hx, hb, hml, hown, hts⟩ (de_X12_addNumber l dC dI cy a sh n H_36.size F z_34 k_37 (z_34.2.1 k_38 p_20.toNatClampNeg) 8 hfc) (cwV 2 hts gX18_root_X12_addNumber rfl rfl rfl (by decide +kernel) ⟨Nat.le_of_ble_eq_true rfl, Nat.le_of_ble_eq_true rfl⟩) ⟨fun a U g mk q => by obtain ⟨q0, q1, qP, qK, qD, qN⟩ := q; exact ⟨q0, q1, qP, va_K.moved (u := U) (U := U.calling g mk a) (Vm.Alike.refl U.vm) qK, qD, qN.same rfl⟩, va_recv hK hP (ci := 12) (q0 := k_37) rfl (Wd_ob kg_41 sg_41 (by decide)), fun U hU hW => ⟨rfl, by rw [hU], by rw [hU]; exact hP, va_K.moved hW.alike hK, hD.weaken (fun _ _ _ _ => trivial), hN.warm hW⟩⟩ rfl rfl hl.1 rfl (lv_room (Nat.le_of_ble_eq_true rfl)) dX18_root_286 ⟨Nat.le_of_ble_eq_true rfl, Nat.le_of_ble_eq_true rfl⟩) hS (fun q _ h => hFc q h) hFc (fun u t H_42 locs ht hvm hw hB hz1 hk1 hS2 => ?_)
            obtain ⟨hP1, -, hD1⟩ := hB
            rw [ht] at hP1
            replace hD := hD1.weaken (fun _ _ _ h => hFc _ h)
            replace hP := hP1
            replace hS := hS2
            clear hP1 hD1 hS2 hFc hfc hz1 hk1 hvm ht
            refine lv_aload_n hx hb dX18_root_289 rfl (lv_at hl 1 rfl) ?_
            obtain ⟨k_43, ek_43, hf⟩ := lnk_some hf
            refine va_get (D := (dC, dI)) (ci := 18) (v := .ref (a k_43)) (C := RX18) (T := TX18) (N := 78) hx hb hts iwd_X18_root_X18 hown hK hP h0 (Wd_ob kg_3 sg_3 (by decide)) rfl 18 (by decide) (hts _ md_X18_root_2) (fun _ h9 => h9) (fl_q rfl ek_43) dX18_root_290 ?_
            refine lv_aload_n hx hb dX18_root_293 rfl (lv_at hl 1 rfl) ?_
            obtain ⟨k_44, ek_44, hf⟩ := lnk_some hf
            refine va_get (D := (dC, dI)) (ci := 18) (v := .ref (a k_44)) (C := RX18) (T := TX18) (N := 78) hx hb hts iwd_X18_root_X18 hown hK hP h0 (Wd_ob kg_3 sg_3 (by decide)) rfl 8 (by decide) (hts _ md_X18_root_13) (fun _ h9 => h9) (fl_q rfl ek_44) dX18_root_294 ?_
            refine lv_iload_n hx hb dX18_root_297 rfl (lv_at hl 0 rfl) ?_
            obtain ⟨g_45, hf⟩ := grd_some hf
            obtain ⟨kg_45, sg_45, ig_45⟩ := okA_at g_45
            refine va_iald hx hb hK hP k_44 1 (Wd_ai kg_45 sg_45) rfl ig_45 dX18_root_298 ?_
            refine lv_i2l (v := ((z_40.1 k_44 p_20.toNatClampNeg) : Int32).toInt64) hx hb dX18_root_299 rfl ?_
            refine lv_iconst (v := 3) hx hb dX18_root_300 (by decide) ?_
            obtain ⟨g_47, hf⟩ := grd_some hf
            obtain ⟨kg_47, sg_47⟩ := okO_at g_47
            obtain ⟨z_46, _u, hfc, hf⟩ := cal_some hf
            have hFc := de_free hD hS hA
            refine va_callv (va_runV (As := [.long (((z_40.1 k_44 p_20.toNatClampNeg) : Int32).toInt64), .int 3]) (rest := []) ⟨hx, hb, hml, hown, hts⟩ (de_X12_addNumber l dC dI cy a sh n H_42.size F z_40 k_43 (((z_40.1 k_44 p_20.toNatClampNeg) : Int32).toInt64) 3 hfc) (cwV 2 hts gX18_root_X12_addNumber rfl rfl rfl (by decide +kernel) ⟨Nat.le_of_ble_eq_true rfl, Nat.le_of_ble_eq_true rfl⟩) ⟨fun a U g mk q => by obtain ⟨q0, q1, qP, qK, qD, qN⟩ := q; exact ⟨q0, q1, qP, va_K.moved (u := U) (U := U.calling g mk a) (Vm.Alike.refl U.vm) qK, qD, qN.same rfl⟩, va_recv hK hP (ci := 12) (q0 := k_43) rfl (Wd_ob kg_47 sg_47 (by decide)), fun U hU hW => ⟨rfl, by rw [hU], by rw [hU]; exact hP, va_K.moved hW.alike hK, hD.weaken (fun _ _ _ _ => trivial), hN.warm hW⟩⟩ rfl rfl hl.1 rfl (lv_room (Nat.le_of_ble_eq_true rfl)) dX18_root_301 ⟨Nat.le_of_ble_eq_true rfl, Nat.le_of_ble_eq_true rfl⟩) hS (fun q _ h => hFc q h) hFc (fun u t H_48 locs ht hvm hw hB hz1 hk1 hS2 => ?_)
            obtain ⟨hP1, -, hD1⟩ := hB
            rw [ht] at hP1
            replace hD := hD1.weaken (fun _ _ _ h => hFc _ h)
            replace hP := hP1
            replace hS := hS2
            clear hP1 hD1 hS2 hFc hfc hz1 hk1 hvm ht
            refine lv_aload_n hx hb dX18_root_304 rfl (lv_at hl 1 rfl) ?_
            refine lv_aload_n hx hb dX18_root_305 rfl (lv_at hl 1 rfl) ?_
            obtain ⟨k_49, ek_49, hf⟩ := lnk_some hf
            refine va_get (D := (dC, dI)) (ci := 18) (v := .ref (a k_49)) (C := RX18) (T := TX18) (N := 78) hx hb hts iwd_X18_root_X18 hown hK hP h0 (Wd_ob kg_3 sg_3 (by decide)) rfl 76 (by decide) (hts _ md_X18_root_5) (fun _ h9 => h9) (fl_q rfl ek_49) dX18_root_306 ?_
            obtain ⟨z_50, _u, hfc, hf⟩ := cal_some hf
            have hFc := de_free hD hS hA
            refine va_callv (va_runV (As := [.ref (a k_49)]) (rest := []) ⟨hx, hb, hml, hown, hts⟩ (de_X18_keepFour l dC dI cy a sh n H_48.size F sk z_46 h0 k_49 hfc) (cwV 1 hts gX18_root_X18_keepFour rfl rfl rfl (by decide +kernel) ⟨Nat.le_of_ble_eq_true rfl, Nat.le_of_ble_eq_true rfl⟩) ⟨fun a U g mk q => by obtain ⟨q0, q1, qP, qK, qD, qN, qS⟩ := q; exact ⟨q0, q1, qP, va_K.moved (u := U) (U := U.calling g mk a) (Vm.Alike.refl U.vm) qK, qD, qN.same rfl, SKs.moved (u := U) (U := U.calling g mk a) (Vm.Alike.refl U.vm) qS⟩, va_recv hK hP (ci := 18) (q0 := h0) rfl (Wd_ob kg_3 sg_3 (by decide)), fun U hU hW => ⟨rfl, by rw [hU], by rw [hU]; exact hP, va_K.moved hW.alike hK, hD.weaken (fun _ _ _ _ => trivial), hN.warm hW, by rw [hU]; exact ((hSK.kept hS.2.1).narrow hFc).moved hW.alike⟩⟩ rfl rfl hl.1 rfl (lv_room (Nat.le_of_ble_eq_true rfl)) dX18_root_309 ⟨Nat.le_of_ble_eq_true rfl, Nat.le_of_ble_eq_true rfl⟩) hS (fun q _ h => hFc q h) hFc (fun u t H_51 locs ht hvm hw hB hz1 hk1 hS2 => ?_)
            obtain ⟨hP1, -, hD1⟩ := hB
            rw [ht] at hP1
            replace hD := hD1.weaken (fun _ _ _ h => hFc _ h)
            replace hP := hP1
            replace hS := hS2
            clear hP1 hD1 hS2 hFc hfc hz1 hk1 hvm ht
            refine lv_aload_n hx hb dX18_root_312 rfl (lv_at hl 1 rfl) ?_
            refine lv_iload_n hx hb dX18_root_313 rfl (lv_at hl 0 rfl) ?_
            obtain ⟨z_52, _u, hfc, hf⟩ := cal_some hf
            have hFc := de_free hD hS hA
            refine va_callv (va_runV (As := [.int p_20]) (rest := []) ⟨hx, hb, hml, hown, hts⟩ (de_X18_addBytes l dC dI cy a sh n H_51.size F z_50 h0 p_20 hfc) (cwV 1 hts gX18_root_X18_addBytes rfl rfl rfl (by decide +kernel) ⟨Nat.le_of_ble_eq_true rfl, Nat.le_of_ble_eq_true rfl⟩) ⟨fun a U g mk q => by obtain ⟨q0, q1, qP, qK, qD, qN⟩ := q; exact ⟨q0, q1, qP, va_K.moved (u := U) (U := U.calling g mk a) (Vm.Alike.refl U.vm) qK, qD, qN.same rfl⟩, va_recv hK hP (ci := 18) (q0 := h0) rfl (Wd_ob kg_3 sg_3 (by decide)), fun U hU hW => ⟨rfl, by rw [hU], by rw [hU]; exact hP, va_K.moved hW.alike hK, hD.weaken (fun _ _ _ _ => trivial), hN.warm hW⟩⟩ rfl rfl hl.1 rfl (lv_room (Nat.le_of_ble_eq_true rfl)) dX18_root_314 ⟨Nat.le_of_ble_eq_true rfl, Nat.le_of_ble_eq_true rfl⟩) hS (fun q _ h => hFc q h) hFc (fun u t H_53 locs ht hvm hw hB hz1 hk1 hS2 => ?_)
            obtain ⟨hP1, -, hD1⟩ := hB
            rw [ht] at hP1
            replace hD := hD1.weaken (fun _ _ _ h => hFc _ h)
            replace hP := hP1
            replace hS := hS2
            clear hP1 hD1 hS2 hFc hfc hz1 hk1 hvm ht
            refine lv_aload_n hx hb dX18_root_317 rfl (lv_at hl 1 rfl) ?_
            refine lv_aload_n hx hb dX18_root_318 rfl (lv_at hl 1 rfl) ?_
            obtain ⟨k_54, ek_54, hf⟩ := lnk_some hf
            refine va_get (D := (dC, dI)) (ci := 18) (v := .ref (a k_54)) (C := RX18) (T := TX18) (N := 78) hx hb hts iwd_X18_root_X18 hown hK hP h0 (Wd_ob kg_3 sg_3 (by decide)) rfl 77 (by decide) (hts _ md_X18_root_8) (fun _ h9 => h9) (fl_q rfl ek_54) dX18_root_319 ?_
            obtain ⟨z_55, _u, hfc, hf⟩ := cal_some hf
            have hFc := de_free hD hS hA
            refine va_callv (va_runV (As := [.ref (a k_54)]) (rest := []) ⟨hx, hb, hml, hown, hts⟩ (de_X18_keepFour l dC dI cy a sh n H_53.size F sk z_52 h0 k_54 hfc) (cwV 1 hts gX18_root_X18_keepFour rfl rfl rfl (by decide +kernel) ⟨Nat.le_of_ble_eq_true rfl, Nat.le_of_ble_eq_true rfl⟩) ⟨fun a U g mk q => by obtain ⟨q0, q1, qP, qK, qD, qN, qS⟩ := q; exact ⟨q0, q1, qP, va_K.moved (u := U) (U := U.calling g mk a) (Vm.Alike.refl U.vm) qK, qD, qN.same rfl, SKs.moved (u := U) (U := U.calling g mk a) (Vm.Alike.refl U.vm) qS⟩, va_recv hK hP (ci := 18) (q0 := h0) rfl (Wd_ob kg_3 sg_3 (by decide)), fun U hU hW => ⟨rfl, by rw [hU], by rw [hU]; exact hP, va_K.moved hW.alike hK, hD.weaken (fun _ _ _ _ => trivial), hN.warm hW, by rw [hU]; exact ((hSK.kept hS.2.1).narrow hFc).moved hW.alike⟩⟩ rfl rfl hl.1 rfl (lv_room (Nat.le_of_ble_eq_true rfl)) dX18_root_322 ⟨Nat.le_of_ble_eq_true rfl, Nat.le_of_ble_eq_true rfl⟩) hS (fun q _ h => hFc q h) hFc (fun u t H_56 locs ht hvm hw hB hz1 hk1 hS2 => ?_)
            obtain ⟨hP1, -, hD1⟩ := hB
            rw [ht] at hP1
            replace hD := hD1.weaken (fun _ _ _ h => hFc _ h)
            replace hP := hP1
            replace hS := hS2
            clear hP1 hD1 hS2 hFc hfc hz1 hk1 hvm ht
            refine lv_aload_n hx hb dX18_root_325 rfl (lv_at hl 1 rfl) ?_
            obtain ⟨k_57, ek_57, hf⟩ := lnk_some hf
            refine va_get (D := (dC, dI)) (ci := 18) (v := .ref (a k_57)) (C := RX18) (T := TX18) (N := 78) hx hb hts iwd_X18_root_X18 hown hK hP h0 (Wd_ob kg_3 sg_3 (by decide)) rfl 19 (by decide) (hts _ md_X18_root_1) (fun _ h9 => h9) (fl_q rfl ek_57) dX18_root_326 ?_
            refine lv_aload_n hx hb dX18_root_329 rfl (lv_at hl 1 rfl) ?_
            obtain ⟨k_58, ek_58, hf⟩ := lnk_some hf
            refine va_get (D := (dC, dI)) (ci := 18) (v := .ref (a k_58)) (C := RX18) (T := TX18) (N := 78) hx hb hts iwd_X18_root_X18 hown hK hP h0 (Wd_ob kg_3 sg_3 (by decide)) rfl 76 (by decide) (hts _ md_X18_root_5) (fun _ h9 => h9) (fl_q rfl ek_58) dX18_root_330 ?_
            refine lv_aload_n hx hb dX18_root_333 rfl (lv_at hl 1 rfl) ?_
            obtain ⟨k_59, ek_59, hf⟩ := lnk_some hf
            refine va_get (D := (dC, dI)) (ci := 18) (v := .ref (a k_59)) (C := RX18) (T := TX18) (N := 78) hx hb hts iwd_X18_root_X18 hown hK hP h0 (Wd_ob kg_3 sg_3 (by decide)) rfl 77 (by decide) (hts _ md_X18_root_8) (fun _ h9 => h9) (fl_q rfl ek_59) dX18_root_334 ?_
            refine lv_iconst (v := 3) hx hb dX18_root_337 (by decide) ?_
            refine lv_aload_n hx hb dX18_root_338 rfl (lv_at hl 1 rfl) ?_
            obtain ⟨k_60, ek_60, hf⟩ := lnk_some hf
            refine va_get (D := (dC, dI)) (ci := 18) (v := .ref (a k_60)) (C := RX18) (T := TX18) (N := 78) hx hb hts iwd_X18_root_X18 hown hK hP h0 (Wd_ob kg_3 sg_3 (by decide)) rfl 7 (by decide) (hts _ md_X18_root_12) (fun _ h9 => h9) (fl_q rfl ek_60) dX18_root_339 ?_
            refine lv_iload_n hx hb dX18_root_342 rfl (lv_at hl 0 rfl) ?_
            obtain ⟨g_61, hf⟩ := grd_some hf
            obtain ⟨kg_61, sg_61, ig_61⟩ := okA_at g_61
            refine va_lald hx hb hK hP k_60 2 (Wd_al kg_61 sg_61) rfl ig_61 dX18_root_343 ?_
            refine lv_aload_n hx hb dX18_root_344 rfl (lv_at hl 1 rfl) ?_
            obtain ⟨k_62, ek_62, hf⟩ := lnk_some hf
            refine va_get (D := (dC, dI)) (ci := 18) (v := .ref (a k_62)) (C := RX18) (T := TX18) (N := 78) hx hb hts iwd_X18_root_X18 hown hK hP h0 (Wd_ob kg_3 sg_3 (by decide)) rfl 8 (by decide) (hts _ md_X18_root_13) (fun _ h9 => h9) (fl_q rfl ek_62) dX18_root_345 ?_
            refine lv_iload_n hx hb dX18_root_348 rfl (lv_at hl 0 rfl) ?_
            obtain ⟨g_63, hf⟩ := grd_some hf
            obtain ⟨kg_63, sg_63, ig_63⟩ := okA_at g_63
            refine va_iald hx hb hK hP k_62 1 (Wd_ai kg_63 sg_63) rfl ig_63 dX18_root_349 ?_
            obtain ⟨g_65, hf⟩ := grd_some hf
            obtain ⟨kg_65, sg_65⟩ := okO_at g_65
            obtain ⟨z_64, _u, hfc, hf⟩ := cal_some hf
            have hFc := de_free hD hS hA
            refine va_callv (va_runV (As := [.ref (a k_58), .ref (a k_59), .int 3, .long (z_55.2.1 k_60 p_20.toNatClampNeg), .int (z_55.1 k_62 p_20.toNatClampNeg)]) (rest := []) ⟨hx, hb, hml, hown, hts⟩ (de_X14_put l dC dI cy a sh n H_56.size F z_55 k_57 k_58 k_59 3 (z_55.2.1 k_60 p_20.toNatClampNeg) (z_55.1 k_62 p_20.toNatClampNeg) hfc) (cwV 5 hts gX18_root_X14_put rfl rfl rfl (by decide +kernel) ⟨Nat.le_of_ble_eq_true rfl, Nat.le_of_ble_eq_true rfl⟩) ⟨fun a U g mk q => by obtain ⟨q0, q1, qP, qK, qD, qN⟩ := q; exact ⟨q0, q1, qP, va_K.moved (u := U) (U := U.calling g mk a) (Vm.Alike.refl U.vm) qK, qD, qN.same rfl⟩, va_recv hK hP (ci := 14) (q0 := k_57) rfl (Wd_ob kg_65 sg_65 (by decide)), fun U hU hW => ⟨rfl, by rw [hU], by rw [hU]; exact hP, va_K.moved hW.alike hK, hD.weaken (fun _ _ _ _ => trivial), hN.warm hW⟩⟩ rfl rfl hl.1 rfl (lv_room (Nat.le_of_ble_eq_true rfl)) dX18_root_350 ⟨Nat.le_of_ble_eq_true rfl, Nat.le_of_ble_eq_true rfl⟩) hS (fun q _ h => hFc q h) hFc (fun u t H_66 locs ht hvm hw hB hz1 hk1 hS2 => ?_)
            obtain ⟨hP1, -, hD1⟩ := hB
            rw [ht] at hP1
            replace hD := hD1.weaken (fun _ _ _ h => hFc _ h)
            replace hP := hP1
            replace hS := hS2
            clear hP1 hD1 hS2 hFc hfc hz1 hk1 hvm ht
            refine lv_iinc (v := (p_20 + 1)) (lv' := [(2, .int (p_20 + 1)), (0, .ref (a h0)), (1, .int x0)]) hx hb dX18_root_353 hl (k := 0) rfl rfl (by decide) rfl (fun ls hl2 => ?_)
            replace hl := hl2
            clear hl2
            refine lv_goto (tgt := 258) hx hb dX18_root_356 (by decide) ?_
            exact ih258 (z_64, (p_20 + 1)) ls H_66 locs ⟨lv_sub hl [0, 1, 2] rfl, hP, hD, hS⟩ hf
        · skip
          rw [if_neg c_19] at hf
          refine lv_aload_n hx hb dX18_root_143 rfl (lv_at hl 1 rfl) ?_
          obtain ⟨k_67, ek_67, hf⟩ := lnk_some hf
          refine va_get (D := (dC, dI)) (ci := 18) (v := .ref (a k_67)) (C := RX18) (T := TX18) (N := 78) hx hb hts iwd_X18_root_X18 hown hK hP h0 (Wd_ob kg_3 sg_3 (by decide)) rfl 18 (by decide) (hts _ md_X18_root_2) (fun _ h9 => h9) (fl_q rfl ek_67) dX18_root_144 ?_
          refine lv_iconst (v := 2) hx hb dX18_root_147 (by decide) ?_
          obtain ⟨g_69, hf⟩ := grd_some hf
          obtain ⟨kg_69, sg_69⟩ := okO_at g_69
          obtain ⟨z_68, _u, hfc, hf⟩ := cal_some hf
          have hFc := de_free hD hS hA
          refine va_callv (va_runV (As := [.int 2]) (rest := []) ⟨hx, hb, hml, hown, hts⟩ (de_X12_add l dC dI cy a sh n H.size F z_17 k_67 2 hfc) (cwV 1 hts gX18_root_X12_add rfl rfl rfl (by decide +kernel) ⟨Nat.le_of_ble_eq_true rfl, Nat.le_of_ble_eq_true rfl⟩) ⟨fun a U g mk q => by obtain ⟨q0, q1, qP, qK, qD, qN⟩ := q; exact ⟨q0, q1, qP, va_K.moved (u := U) (U := U.calling g mk a) (Vm.Alike.refl U.vm) qK, qD, qN.same rfl⟩, va_recv hK hP (ci := 12) (q0 := k_67) rfl (Wd_ob kg_69 sg_69 (by decide)), fun U hU hW => ⟨rfl, by rw [hU], by rw [hU]; exact hP, va_K.moved hW.alike hK, hD.weaken (fun _ _ _ _ => trivial), hN.warm hW⟩⟩ rfl rfl hl.1 rfl (lv_room (Nat.le_of_ble_eq_true rfl)) dX18_root_148 ⟨Nat.le_of_ble_eq_true rfl, Nat.le_of_ble_eq_true rfl⟩) hS (fun q _ h => hFc q h) hFc (fun u t H_70 locs ht hvm hw hB hz1 hk1 hS2 => ?_)
          obtain ⟨hP1, -, hD1⟩ := hB
          rw [ht] at hP1
          replace hD := hD1.weaken (fun _ _ _ h => hFc _ h)
          replace hP := hP1
          replace hS := hS2
          clear hP1 hD1 hS2 hFc hfc hz1 hk1 hvm ht
          refine lv_aload_n hx hb dX18_root_151 rfl (lv_at hl 1 rfl) ?_
          obtain ⟨k_71, ek_71, hf⟩ := lnk_some hf
          refine va_get (D := (dC, dI)) (ci := 18) (v := .ref (a k_71)) (C := RX18) (T := TX18) (N := 78) hx hb hts iwd_X18_root_X18 hown hK hP h0 (Wd_ob kg_3 sg_3 (by decide)) rfl 18 (by decide) (hts _ md_X18_root_2) (fun _ h9 => h9) (fl_q rfl ek_71) dX18_root_152 ?_
          refine lv_aload_n hx hb dX18_root_155 rfl (lv_at hl 1 rfl) ?_
          obtain ⟨k_72, ek_72, hf⟩ := lnk_some hf
          refine va_get (D := (dC, dI)) (ci := 18) (v := .ref (a k_72)) (C := RX18) (T := TX18) (N := 78) hx hb hts iwd_X18_root_X18 hown hK hP h0 (Wd_ob kg_3 sg_3 (by decide)) rfl 4 (by decide) (hts _ md_X18_root_10) (fun _ h9 => h9) (fl_q rfl ek_72) dX18_root_156 ?_
          refine lv_iload_n hx hb dX18_root_159 rfl (lv_at hl 0 rfl) ?_
          obtain ⟨g_73, hf⟩ := grd_some hf
          obtain ⟨kg_73, sg_73, ig_73⟩ := okA_at g_73
          obtain ⟨k_74, ek_74, hf⟩ := lnk_some hf
          refine va_aldq (C := RX16) hx hb hK hP k_72 6 (Wd_aq kg_73 sg_73 (by decide)) rfl ig_73 dX18_root_160 ?_
          refine W.eq (g2 := F0 m 161 ls [.ref (a k_74), .ref (a k_71)]) (by rw [ek_74]; rfl) ?_
          obtain ⟨g_77, hf⟩ := grd_some hf
          obtain ⟨kg_77, sg_77⟩ := okO_at g_77
          obtain ⟨z_75, r_76, hfc, hf⟩ := cal_some hf
          have hFc := de_free hD hS hA
          refine va_calli (va_runV (As := []) (rest := [.ref (a k_71)]) ⟨hx, hb, hml, hown, hts⟩ (de_X16_number l dC dI cy a sh n H_70.size F z_68 k_74 hfc) (cwV 0 hts gX18_root_X16_number rfl rfl rfl (by decide +kernel) ⟨Nat.le_of_ble_eq_true rfl, Nat.le_of_ble_eq_true rfl⟩) ⟨fun a U g mk q => by obtain ⟨q0, q1, qP, qK, qD, qN⟩ := q; exact ⟨q0, q1, qP, va_K.moved (u := U) (U := U.calling g mk a) (Vm.Alike.refl U.vm) qK, qD, qN.same rfl⟩, va_recv hK hP (ci := 16) (q0 := k_74) rfl (Wd_ob kg_77 sg_77 (by decide)), fun U hU hW => ⟨rfl, by rw [hU], by rw [hU]; exact hP, va_K.moved hW.alike hK, hD.weaken (fun _ _ _ _ => trivial), hN.warm hW⟩⟩ rfl rfl hl.1 rfl (lv_room (Nat.le_of_ble_eq_true rfl)) dX18_root_161 ⟨Nat.le_of_ble_eq_true rfl, Nat.le_of_ble_eq_true rfl⟩) hS (fun q _ h => hFc q h) hFc (fun rr u t H_78 locs ht hvm hw hB hz1 hk1 hS2 => ?_)
          rw [hw]
          clear hw
          obtain ⟨hP1, -, hD1⟩ := hB
          rw [ht] at hP1
          replace hD := hD1.weaken (fun _ _ _ h => hFc _ h)
          replace hP := hP1
          replace hS := hS2
          clear hP1 hD1 hS2 hFc hfc hz1 hk1 hvm ht
          refine lv_i2l (v := (r_76 : Int32).toInt64) hx hb dX18_root_164 rfl ?_
          refine lv_iconst (v := 2) hx hb dX18_root_165 (by decide) ?_
          obtain ⟨g_80, hf⟩ := grd_some hf
          obtain ⟨kg_80, sg_80⟩ := okO_at g_80
          obtain ⟨z_79, _u, hfc, hf⟩ := cal_some hf
          have hFc := de_free hD hS hA
          refine va_callv (va_runV (As := [.long ((r_76 : Int32).toInt64), .int 2]) (rest := []) ⟨hx, hb, hml, hown, hts⟩ (de_X12_addNumber l dC dI cy a sh n H_78.size F z_75 k_71 ((r_76 : Int32).toInt64) 2 hfc) (cwV 2 hts gX18_root_X12_addNumber rfl rfl rfl (by decide +kernel) ⟨Nat.le_of_ble_eq_true rfl, Nat.le_of_ble_eq_true rfl⟩) ⟨fun a U g mk q => by obtain ⟨q0, q1, qP, qK, qD, qN⟩ := q; exact ⟨q0, q1, qP, va_K.moved (u := U) (U := U.calling g mk a) (Vm.Alike.refl U.vm) qK, qD, qN.same rfl⟩, va_recv hK hP (ci := 12) (q0 := k_71) rfl (Wd_ob kg_80 sg_80 (by decide)), fun U hU hW => ⟨rfl, by rw [hU], by rw [hU]; exact hP, va_K.moved hW.alike hK, hD.weaken (fun _ _ _ _ => trivial), hN.warm hW⟩⟩ rfl rfl hl.1 rfl (lv_room (Nat.le_of_ble_eq_true rfl)) dX18_root_166 ⟨Nat.le_of_ble_eq_true rfl, Nat.le_of_ble_eq_true rfl⟩) hS (fun q _ h => hFc q h) hFc (fun u t H_81 locs ht hvm hw hB hz1 hk1 hS2 => ?_)
          obtain ⟨hP1, -, hD1⟩ := hB
          rw [ht] at hP1
          replace hD := hD1.weaken (fun _ _ _ h => hFc _ h)
          replace hP := hP1
          replace hS := hS2
          clear hP1 hD1 hS2 hFc hfc hz1 hk1 hvm ht
          refine lv_aload_n hx hb dX18_root_169 rfl (lv_at hl 1 rfl) ?_
          refine lv_aload_n hx hb dX18_root_170 rfl (lv_at hl 1 rfl) ?_
          obtain ⟨k_82, ek_82, hf⟩ := lnk_some hf
          refine va_get (D := (dC, dI)) (ci := 18) (v := .ref (a k_82)) (C := RX18) (T := TX18) (N := 78) hx hb hts iwd_X18_root_X18 hown hK hP h0 (Wd_ob kg_3 sg_3 (by decide)) rfl 76 (by decide) (hts _ md_X18_root_5) (fun _ h9 => h9) (fl_q rfl ek_82) dX18_root_171 ?_
          obtain ⟨z_83, _u, hfc, hf⟩ := cal_some hf
          have hFc := de_free hD hS hA
          refine va_callv (va_runV (As := [.ref (a k_82)]) (rest := []) ⟨hx, hb, hml, hown, hts⟩ (de_X18_keepFour l dC dI cy a sh n H_81.size F sk z_79 h0 k_82 hfc) (cwV 1 hts gX18_root_X18_keepFour rfl rfl rfl (by decide +kernel) ⟨Nat.le_of_ble_eq_true rfl, Nat.le_of_ble_eq_true rfl⟩) ⟨fun a U g mk q => by obtain ⟨q0, q1, qP, qK, qD, qN, qS⟩ := q; exact ⟨q0, q1, qP, va_K.moved (u := U) (U := U.calling g mk a) (Vm.Alike.refl U.vm) qK, qD, qN.same rfl, SKs.moved (u := U) (U := U.calling g mk a) (Vm.Alike.refl U.vm) qS⟩, va_recv hK hP (ci := 18) (q0 := h0) rfl (Wd_ob kg_3 sg_3 (by decide)), fun U hU hW => ⟨rfl, by rw [hU], by rw [hU]; exact hP, va_K.moved hW.alike hK, hD.weaken (fun _ _ _ _ => trivial), hN.warm hW, by rw [hU]; exact ((hSK.kept hS.2.1).narrow hFc).moved hW.alike⟩⟩ rfl rfl hl.1 rfl (lv_room (Nat.le_of_ble_eq_true rfl)) dX18_root_174 ⟨Nat.le_of_ble_eq_true rfl, Nat.le_of_ble_eq_true rfl⟩) hS (fun q _ h => hFc q h) hFc (fun u t H_84 locs ht hvm hw hB hz1 hk1 hS2 => ?_)
          obtain ⟨hP1, -, hD1⟩ := hB
          rw [ht] at hP1
          replace hD := hD1.weaken (fun _ _ _ h => hFc _ h)
          replace hP := hP1
          replace hS := hS2
          clear hP1 hD1 hS2 hFc hfc hz1 hk1 hvm ht
          refine lv_iconst (v := 0) hx hb dX18_root_177 (by decide) ?_
          refine lv_istore_n (lv' := [(3, .int 0), (2, .int p_16), (0, .ref (a h0)), (1, .int x0)]) hx hb dX18_root_178 rfl hl (by decide) rfl (fun ls hl2 => ?_)
          replace hl := hl2
          clear hl2
          have hl0 : lv_has ls 4 [(3, .int 0), (2, .int p_16), (0, .ref (a h0)), (1, .int x0)] := lv_sub hl [0, 1, 2, 3] rfl
          refine de_loop (h := 179) (fun (x : St × Int32) ls H locs => lv_has ls 4 [(3, .int x.2), (2, .int p_16), (0, .ref (a h0)), (1, .int x0)] ∧ va_P (dC, dI) vwCl (Wd cy a sh n x.1) H ∧ va_D A (Wd cy a sh n x.1) ∧ va_S A s.heap H locs) (fun f x => fn_X18_root_L179 F sh n h0 p_16 (fun z9 q2 => fn_X18_root_L135 F sh n h0 x0 f_18 z9 q2) f x.1 x.2) (z8, r8) ?_ (fun _ => rfl) F (z_83, 0) ls H_84 locs ⟨hl0, hP, hD, hS⟩ hf
          intro f_87 x ls H locs ih179 hI hf
          obtain ⟨z_86, p_85⟩ := x
          obtain ⟨hl2, hP2, hD2, hS2⟩ := hI
          replace hl : lv_has ls 4 [(3, .int p_85), (2, .int p_16), (0, .ref (a h0)), (1, .int x0)] := hl2
          replace hP := hP2
          replace hD := hD2
          replace hS := hS2
          clear hl2 hP2 hD2 hS2 hl0
          replace hf := fn_X18_root_L179_s hf
          refine lv_iload_n hx hb dX18_root_179 rfl (lv_at hl 0 rfl) ?_
          refine lv_aload_n hx hb dX18_root_180 rfl (lv_at hl 2 rfl) ?_
          obtain ⟨k_88, ek_88, hf⟩ := lnk_some hf
          refine va_get (D := (dC, dI)) (ci := 18) (v := .ref (a k_88)) (C := RX18) (T := TX18) (N := 78) hx hb hts iwd_X18_root_X18 hown hK hP h0 (Wd_ob kg_3 sg_3 (by decide)) rfl 4 (by decide) (hts _ md_X18_root_10) (fun _ h9 => h9) (fl_q rfl ek_88) dX18_root_181 ?_
          refine lv_iload_n hx hb dX18_root_184 rfl (lv_at hl 1 rfl) ?_
          obtain ⟨g_89, hf⟩ := grd_some hf
          obtain ⟨kg_89, sg_89, ig_89⟩ := okA_at g_89
          obtain ⟨k_90, ek_90, hf⟩ := lnk_some hf
          refine va_aldq (C := RX16) hx hb hK hP k_88 6 (Wd_aq kg_89 sg_89 (by decide)) rfl ig_89 dX18_root_185 ?_
          refine W.eq (g2 := F0 m 186 ls [.ref (a k_90), .int p_85]) (by rw [ek_90]; rfl) ?_
          obtain ⟨g_91, hf⟩ := grd_some hf
          obtain ⟨kg_91, sg_91⟩ := okO_at g_91
          refine va_getN (D := (dC, dI)) (ci := 16) (v := .int (z_86.1 k_90 1)) (C := RX16) (T := TX16) (N := 18) hx hb hts iwd_X18_root_X16 hown hK hP k_90 (Wd_ob kg_91 sg_91 (by decide)) rfl 1 (by decide) (va_Nw.use rfl (NK_f_X18_706 hN)) (fun _ h9 => h9) (fl_at (t := 0) rfl) dX18_root_186 ?_
          refine lv_icmp_ge (tgt := 216) hx hb dX18_root_189 (by decide) (fun c_92 => ?_) (fun c_92 => ?_)
          · skip
            rw [if_pos c_92] at hf
            refine lv_aload_n hx hb dX18_root_216 rfl (lv_at hl 2 rfl) ?_
            refine lv_aload_n hx hb dX18_root_217 rfl (lv_at hl 2 rfl) ?_
            obtain ⟨k_93, ek_93, hf⟩ := lnk_some hf
            refine va_get (D := (dC, dI)) (ci := 18) (v := .ref (a k_93)) (C := RX18) (T := TX18) (N := 78) hx hb hts iwd_X18_root_X18 hown hK hP h0 (Wd_ob kg_3 sg_3 (by decide)) rfl 77 (by decide) (hts _ md_X18_root_8) (fun _ h9 => h9) (fl_q rfl ek_93) dX18_root_218 ?_
            obtain ⟨z_94, _u, hfc, hf⟩ := cal_some hf
            have hFc := de_free hD hS hA
            refine va_callv (va_runV (As := [.ref (a k_93)]) (rest := []) ⟨hx, hb, hml, hown, hts⟩ (de_X18_keepFour l dC dI cy a sh n H.size F sk z_86 h0 k_93 hfc) (cwV 1 hts gX18_root_X18_keepFour rfl rfl rfl (by decide +kernel) ⟨Nat.le_of_ble_eq_true rfl, Nat.le_of_ble_eq_true rfl⟩) ⟨fun a U g mk q => by obtain ⟨q0, q1, qP, qK, qD, qN, qS⟩ := q; exact ⟨q0, q1, qP, va_K.moved (u := U) (U := U.calling g mk a) (Vm.Alike.refl U.vm) qK, qD, qN.same rfl, SKs.moved (u := U) (U := U.calling g mk a) (Vm.Alike.refl U.vm) qS⟩, va_recv hK hP (ci := 18) (q0 := h0) rfl (Wd_ob kg_3 sg_3 (by decide)), fun U hU hW => ⟨rfl, by rw [hU], by rw [hU]; exact hP, va_K.moved hW.alike hK, hD.weaken (fun _ _ _ _ => trivial), hN.warm hW, by rw [hU]; exact ((hSK.kept hS.2.1).narrow hFc).moved hW.alike⟩⟩ rfl rfl hl.1 rfl (lv_room (Nat.le_of_ble_eq_true rfl)) dX18_root_221 ⟨Nat.le_of_ble_eq_true rfl, Nat.le_of_ble_eq_true rfl⟩) hS (fun q _ h => hFc q h) hFc (fun u t H_95 locs ht hvm hw hB hz1 hk1 hS2 => ?_)
            obtain ⟨hP1, -, hD1⟩ := hB
            rw [ht] at hP1
            replace hD := hD1.weaken (fun _ _ _ h => hFc _ h)
            replace hP := hP1
            replace hS := hS2
            clear hP1 hD1 hS2 hFc hfc hz1 hk1 hvm ht
            refine lv_aload_n hx hb dX18_root_224 rfl (lv_at hl 2 rfl) ?_
            obtain ⟨k_96, ek_96, hf⟩ := lnk_some hf
            refine va_get (D := (dC, dI)) (ci := 18) (v := .ref (a k_96)) (C := RX18) (T := TX18) (N := 78) hx hb hts iwd_X18_root_X18 hown hK hP h0 (Wd_ob kg_3 sg_3 (by decide)) rfl 19 (by decide) (hts _ md_X18_root_1) (fun _ h9 => h9) (fl_q rfl ek_96) dX18_root_225 ?_
            refine lv_aload_n hx hb dX18_root_228 rfl (lv_at hl 2 rfl) ?_
            obtain ⟨k_97, ek_97, hf⟩ := lnk_some hf
            refine va_get (D := (dC, dI)) (ci := 18) (v := .ref (a k_97)) (C := RX18) (T := TX18) (N := 78) hx hb hts iwd_X18_root_X18 hown hK hP h0 (Wd_ob kg_3 sg_3 (by decide)) rfl 76 (by decide) (hts _ md_X18_root_5) (fun _ h9 => h9) (fl_q rfl ek_97) dX18_root_229 ?_
            refine lv_aload_n hx hb dX18_root_232 rfl (lv_at hl 2 rfl) ?_
            obtain ⟨k_98, ek_98, hf⟩ := lnk_some hf
            refine va_get (D := (dC, dI)) (ci := 18) (v := .ref (a k_98)) (C := RX18) (T := TX18) (N := 78) hx hb hts iwd_X18_root_X18 hown hK hP h0 (Wd_ob kg_3 sg_3 (by decide)) rfl 77 (by decide) (hts _ md_X18_root_8) (fun _ h9 => h9) (fl_q rfl ek_98) dX18_root_233 ?_
            refine lv_iconst (v := 2) hx hb dX18_root_236 (by decide) ?_
            refine lv_lconst (v := 0) hx hb dX18_root_237 (by decide) ?_
            refine lv_aload_n hx hb dX18_root_238 rfl (lv_at hl 2 rfl) ?_
            obtain ⟨k_99, ek_99, hf⟩ := lnk_some hf
            refine va_get (D := (dC, dI)) (ci := 18) (v := .ref (a k_99)) (C := RX18) (T := TX18) (N := 78) hx hb hts iwd_X18_root_X18 hown hK hP h0 (Wd_ob kg_3 sg_3 (by decide)) rfl 4 (by decide) (hts _ md_X18_root_10) (fun _ h9 => h9) (fl_q rfl ek_99) dX18_root_239 ?_
            refine lv_iload_n hx hb dX18_root_242 rfl (lv_at hl 1 rfl) ?_
            obtain ⟨g_100, hf⟩ := grd_some hf
            obtain ⟨kg_100, sg_100, ig_100⟩ := okA_at g_100
            obtain ⟨k_101, ek_101, hf⟩ := lnk_some hf
            refine va_aldq (C := RX16) hx hb hK hP k_99 6 (Wd_aq kg_100 sg_100 (by decide)) rfl ig_100 dX18_root_243 ?_
            refine W.eq (g2 := F0 m 244 ls [.ref (a k_101), .long 0, .int 2, .ref (a k_98), .ref (a k_97), .ref (a k_96)]) (by rw [ek_101]; rfl) ?_
            obtain ⟨g_104, hf⟩ := grd_some hf
            obtain ⟨kg_104, sg_104⟩ := okO_at g_104
            obtain ⟨z_102, r_103, hfc, hf⟩ := cal_some hf
            have hFc := de_free hD hS hA
            refine va_calli (va_runV (As := []) (rest := [.long 0, .int 2, .ref (a k_98), .ref (a k_97), .ref (a k_96)]) ⟨hx, hb, hml, hown, hts⟩ (de_X16_number l dC dI cy a sh n H_95.size F z_94 k_101 hfc) (cwV 0 hts gX18_root_X16_number rfl rfl rfl (by decide +kernel) ⟨Nat.le_of_ble_eq_true rfl, Nat.le_of_ble_eq_true rfl⟩) ⟨fun a U g mk q => by obtain ⟨q0, q1, qP, qK, qD, qN⟩ := q; exact ⟨q0, q1, qP, va_K.moved (u := U) (U := U.calling g mk a) (Vm.Alike.refl U.vm) qK, qD, qN.same rfl⟩, va_recv hK hP (ci := 16) (q0 := k_101) rfl (Wd_ob kg_104 sg_104 (by decide)), fun U hU hW => ⟨rfl, by rw [hU], by rw [hU]; exact hP, va_K.moved hW.alike hK, hD.weaken (fun _ _ _ _ => trivial), hN.warm hW⟩⟩ rfl rfl hl.1 rfl (lv_room (Nat.le_of_ble_eq_true rfl)) dX18_root_244 ⟨Nat.le_of_ble_eq_true rfl, Nat.le_of_ble_eq_true rfl⟩) hS (fun q _ h => hFc q h) hFc (fun rr u t H_105 locs ht hvm hw hB hz1 hk1 hS2 => ?_)
            rw [hw]
            clear hw
            obtain ⟨hP1, -, hD1⟩ := hB
            rw [ht] at hP1
            replace hD := hD1.weaken (fun _ _ _ h => hFc _ h)
            replace hP := hP1
            replace hS := hS2
            clear hP1 hD1 hS2 hFc hfc hz1 hk1 hvm ht
            obtain ⟨g_107, hf⟩ := grd_some hf
            obtain ⟨kg_107, sg_107⟩ := okO_at g_107
            obtain ⟨z_106, _u, hfc, hf⟩ := cal_some hf
            have hFc := de_free hD hS hA
            refine va_callv (va_runV (As := [.ref (a k_97), .ref (a k_98), .int 2, .long 0, .int r_103]) (rest := []) ⟨hx, hb, hml, hown, hts⟩ (de_X14_put l dC dI cy a sh n H_105.size F z_102 k_96 k_97 k_98 2 0 r_103 hfc) (cwV 5 hts gX18_root_X14_put rfl rfl rfl (by decide +kernel) ⟨Nat.le_of_ble_eq_true rfl, Nat.le_of_ble_eq_true rfl⟩) ⟨fun a U g mk q => by obtain ⟨q0, q1, qP, qK, qD, qN⟩ := q; exact ⟨q0, q1, qP, va_K.moved (u := U) (U := U.calling g mk a) (Vm.Alike.refl U.vm) qK, qD, qN.same rfl⟩, va_recv hK hP (ci := 14) (q0 := k_96) rfl (Wd_ob kg_107 sg_107 (by decide)), fun U hU hW => ⟨rfl, by rw [hU], by rw [hU]; exact hP, va_K.moved hW.alike hK, hD.weaken (fun _ _ _ _ => trivial), hN.warm hW⟩⟩ rfl rfl hl.1 rfl (lv_room (Nat.le_of_ble_eq_true rfl)) dX18_root_247 ⟨Nat.le_of_ble_eq_true rfl, Nat.le_of_ble_eq_true rfl⟩) hS (fun q _ h => hFc q h) hFc (fun u t H_108 locs ht hvm hw hB hz1 hk1 hS2 => ?_)
            obtain ⟨hP1, -, hD1⟩ := hB
            rw [ht] at hP1
            replace hD := hD1.weaken (fun _ _ _ h => hFc _ h)
            replace hP := hP1
            replace hS := hS2
            clear hP1 hD1 hS2 hFc hfc hz1 hk1 hvm ht
            refine lv_iinc (v := (p_16 + 1)) (lv' := [(2, .int (p_16 + 1)), (3, .int p_85), (0, .ref (a h0)), (1, .int x0)]) hx hb dX18_root_250 hl (k := 1) rfl rfl (by decide) rfl (fun ls hl2 => ?_)
            replace hl := hl2
            clear hl2
            refine lv_goto (tgt := 135) hx hb dX18_root_253 (by decide) ?_
            exact ih135 (z_106, (p_16 + 1)) ls H_108 locs ⟨lv_sub hl [0, 2, 3] rfl, hP, hD, hS⟩ hf
          · skip
            rw [if_neg c_92] at hf
            refine lv_aload_n hx hb dX18_root_192 rfl (lv_at hl 2 rfl) ?_
            obtain ⟨k_109, ek_109, hf⟩ := lnk_some hf
            refine va_get (D := (dC, dI)) (ci := 18) (v := .ref (a k_109)) (C := RX18) (T := TX18) (N := 78) hx hb hts iwd_X18_root_X18 hown hK hP h0 (Wd_ob kg_3 sg_3 (by decide)) rfl 18 (by decide) (hts _ md_X18_root_2) (fun _ h9 => h9) (fl_q rfl ek_109) dX18_root_193 ?_
            refine lv_aload_n hx hb dX18_root_196 rfl (lv_at hl 2 rfl) ?_
            obtain ⟨k_110, ek_110, hf⟩ := lnk_some hf
            refine va_get (D := (dC, dI)) (ci := 18) (v := .ref (a k_110)) (C := RX18) (T := TX18) (N := 78) hx hb hts iwd_X18_root_X18 hown hK hP h0 (Wd_ob kg_3 sg_3 (by decide)) rfl 4 (by decide) (hts _ md_X18_root_10) (fun _ h9 => h9) (fl_q rfl ek_110) dX18_root_197 ?_
            refine lv_iload_n hx hb dX18_root_200 rfl (lv_at hl 1 rfl) ?_
            obtain ⟨g_111, hf⟩ := grd_some hf
            obtain ⟨kg_111, sg_111, ig_111⟩ := okA_at g_111
            obtain ⟨k_112, ek_112, hf⟩ := lnk_some hf
            refine va_aldq (C := RX16) hx hb hK hP k_110 6 (Wd_aq kg_111 sg_111 (by decide)) rfl ig_111 dX18_root_201 ?_
            refine W.eq (g2 := F0 m 202 ls [.ref (a k_112), .ref (a k_109)]) (by rw [ek_112]; rfl) ?_
            obtain ⟨g_113, hf⟩ := grd_some hf
            obtain ⟨kg_113, sg_113⟩ := okO_at g_113
            obtain ⟨k_114, ek_114, hf⟩ := lnk_some hf
            refine va_getN (D := (dC, dI)) (ci := 16) (v := .ref (a k_114)) (C := RX16) (T := TX16) (N := 18) hx hb hts iwd_X18_root_X16 hown hK hP k_112 (Wd_ob kg_113 sg_113 (by decide)) rfl 0 (by decide) (va_Nw.use rfl (NK_f_X18_709 hN)) (fun _ h9 => h9) (fl_q rfl ek_114) dX18_root_202 ?_
            refine lv_iload_n hx hb dX18_root_205 rfl (lv_at hl 0 rfl) ?_
            obtain ⟨g_115, hf⟩ := grd_some hf
            obtain ⟨kg_115, sg_115, ig_115⟩ := okA_at g_115
            refine va_bald hx hb hK hP k_114 0 (Wd_ab kg_115 sg_115) rfl ig_115 dX18_root_206 ?_
            obtain ⟨g_117, hf⟩ := grd_some hf
            obtain ⟨kg_117, sg_117⟩ := okO_at g_117
            obtain ⟨z_116, _u, hfc, hf⟩ := cal_some hf
            have hFc := de_free hD hS hA
            refine va_callv (va_runV (As := [.int (z_86.1 k_114 p_85.toNatClampNeg)]) (rest := []) ⟨hx, hb, hml, hown, hts⟩ (de_X12_add l dC dI cy a sh n H.size F z_86 k_109 (z_86.1 k_114 p_85.toNatClampNeg) hfc) (cwV 1 hts gX18_root_X12_add rfl rfl rfl (by decide +kernel) ⟨Nat.le_of_ble_eq_true rfl, Nat.le_of_ble_eq_true rfl⟩) ⟨fun a U g mk q => by obtain ⟨q0, q1, qP, qK, qD, qN⟩ := q; exact ⟨q0, q1, qP, va_K.moved (u := U) (U := U.calling g mk a) (Vm.Alike.refl U.vm) qK, qD, qN.same rfl⟩, va_recv hK hP (ci := 12) (q0 := k_109) rfl (Wd_ob kg_117 sg_117 (by decide)), fun U hU hW => ⟨rfl, by rw [hU], by rw [hU]; exact hP, va_K.moved hW.alike hK, hD.weaken (fun _ _ _ _ => trivial), hN.warm hW⟩⟩ rfl rfl hl.1 rfl (lv_room (Nat.le_of_ble_eq_true rfl)) dX18_root_207 ⟨Nat.le_of_ble_eq_true rfl, Nat.le_of_ble_eq_true rfl⟩) hS (fun q _ h => hFc q h) hFc (fun u t H_118 locs ht hvm hw hB hz1 hk1 hS2 => ?_)
            obtain ⟨hP1, -, hD1⟩ := hB
            rw [ht] at hP1
            replace hD := hD1.weaken (fun _ _ _ h => hFc _ h)
            replace hP := hP1
            replace hS := hS2
            clear hP1 hD1 hS2 hFc hfc hz1 hk1 hvm ht
            refine lv_iinc (v := (p_85 + 1)) (lv' := [(3, .int (p_85 + 1)), (2, .int p_16), (0, .ref (a h0)), (1, .int x0)]) hx hb dX18_root_210 hl (k := 0) rfl rfl (by decide) rfl (fun ls hl2 => ?_)
            replace hl := hl2
            clear hl2
            refine lv_goto (tgt := 179) hx hb dX18_root_213 (by decide) ?_
            exact ih179 (z_116, (p_85 + 1)) ls H_118 locs ⟨lv_sub hl [0, 1, 2, 3] rfl, hP, hD, hS⟩ hf
      · skip
        rw [if_neg c_15] at hf
        refine lv_aload_n hx hb dX18_root_35 rfl (lv_at hl 1 rfl) ?_
        obtain ⟨k_119, ek_119, hf⟩ := lnk_some hf
        refine va_get (D := (dC, dI)) (ci := 18) (v := .ref (a k_119)) (C := RX18) (T := TX18) (N := 78) hx hb hts iwd_X18_root_X18 hown hK hP h0 (Wd_ob kg_3 sg_3 (by decide)) rfl 18 (by decide) (hts _ md_X18_root_2) (fun _ h9 => h9) (fl_q rfl ek_119) dX18_root_36 ?_
        refine lv_iconst (v := 1) hx hb dX18_root_39 (by decide) ?_
        obtain ⟨g_121, hf⟩ := grd_some hf
        obtain ⟨kg_121, sg_121⟩ := okO_at g_121
        obtain ⟨z_120, _u, hfc, hf⟩ := cal_some hf
        have hFc := de_free hD hS hA
        refine va_callv (va_runV (As := [.int 1]) (rest := []) ⟨hx, hb, hml, hown, hts⟩ (de_X12_add l dC dI cy a sh n H.size F z_13 k_119 1 hfc) (cwV 1 hts gX18_root_X12_add rfl rfl rfl (by decide +kernel) ⟨Nat.le_of_ble_eq_true rfl, Nat.le_of_ble_eq_true rfl⟩) ⟨fun a U g mk q => by obtain ⟨q0, q1, qP, qK, qD, qN⟩ := q; exact ⟨q0, q1, qP, va_K.moved (u := U) (U := U.calling g mk a) (Vm.Alike.refl U.vm) qK, qD, qN.same rfl⟩, va_recv hK hP (ci := 12) (q0 := k_119) rfl (Wd_ob kg_121 sg_121 (by decide)), fun U hU hW => ⟨rfl, by rw [hU], by rw [hU]; exact hP, va_K.moved hW.alike hK, hD.weaken (fun _ _ _ _ => trivial), hN.warm hW⟩⟩ rfl rfl hl.1 rfl (lv_room (Nat.le_of_ble_eq_true rfl)) dX18_root_40 ⟨Nat.le_of_ble_eq_true rfl, Nat.le_of_ble_eq_true rfl⟩) hS (fun q _ h => hFc q h) hFc (fun u t H_122 locs ht hvm hw hB hz1 hk1 hS2 => ?_)
        obtain ⟨hP1, -, hD1⟩ := hB
        rw [ht] at hP1
        replace hD := hD1.weaken (fun _ _ _ h => hFc _ h)
        replace hP := hP1
        replace hS := hS2
        clear hP1 hD1 hS2 hFc hfc hz1 hk1 hvm ht
        refine lv_aload_n hx hb dX18_root_43 rfl (lv_at hl 1 rfl) ?_
        obtain ⟨k_123, ek_123, hf⟩ := lnk_some hf
        refine va_get (D := (dC, dI)) (ci := 18) (v := .ref (a k_123)) (C := RX18) (T := TX18) (N := 78) hx hb hts iwd_X18_root_X18 hown hK hP h0 (Wd_ob kg_3 sg_3 (by decide)) rfl 18 (by decide) (hts _ md_X18_root_2) (fun _ h9 => h9) (fl_q rfl ek_123) dX18_root_44 ?_
        refine lv_aload_n hx hb dX18_root_47 rfl (lv_at hl 1 rfl) ?_
        obtain ⟨k_124, ek_124, hf⟩ := lnk_some hf
        refine va_get (D := (dC, dI)) (ci := 18) (v := .ref (a k_124)) (C := RX18) (T := TX18) (N := 78) hx hb hts iwd_X18_root_X18 hown hK hP h0 (Wd_ob kg_3 sg_3 (by decide)) rfl 0 (by decide) (hts _ md_X18_root_4) (fun _ h9 => h9) (fl_q rfl ek_124) dX18_root_48 ?_
        refine lv_iload_n hx hb dX18_root_51 rfl (lv_at hl 0 rfl) ?_
        obtain ⟨g_125, hf⟩ := grd_some hf
        obtain ⟨kg_125, sg_125, ig_125⟩ := okA_at g_125
        refine va_lald hx hb hK hP k_124 2 (Wd_al kg_125 sg_125) rfl ig_125 dX18_root_52 ?_
        refine lv_bipush (v := 8) hx hb dX18_root_53 (by decide) ?_
        obtain ⟨g_127, hf⟩ := grd_some hf
        obtain ⟨kg_127, sg_127⟩ := okO_at g_127
        obtain ⟨z_126, _u, hfc, hf⟩ := cal_some hf
        have hFc := de_free hD hS hA
        refine va_callv (va_runV (As := [.long (z_120.2.1 k_124 p_12.toNatClampNeg), .int 8]) (rest := []) ⟨hx, hb, hml, hown, hts⟩ (de_X12_addNumber l dC dI cy a sh n H_122.size F z_120 k_123 (z_120.2.1 k_124 p_12.toNatClampNeg) 8 hfc) (cwV 2 hts gX18_root_X12_addNumber rfl rfl rfl (by decide +kernel) ⟨Nat.le_of_ble_eq_true rfl, Nat.le_of_ble_eq_true rfl⟩) ⟨fun a U g mk q => by obtain ⟨q0, q1, qP, qK, qD, qN⟩ := q; exact ⟨q0, q1, qP, va_K.moved (u := U) (U := U.calling g mk a) (Vm.Alike.refl U.vm) qK, qD, qN.same rfl⟩, va_recv hK hP (ci := 12) (q0 := k_123) rfl (Wd_ob kg_127 sg_127 (by decide)), fun U hU hW => ⟨rfl, by rw [hU], by rw [hU]; exact hP, va_K.moved hW.alike hK, hD.weaken (fun _ _ _ _ => trivial), hN.warm hW⟩⟩ rfl rfl hl.1 rfl (lv_room (Nat.le_of_ble_eq_true rfl)) dX18_root_55 ⟨Nat.le_of_ble_eq_true rfl, Nat.le_of_ble_eq_true rfl⟩) hS (fun q _ h => hFc q h) hFc (fun u t H_128 locs ht hvm hw hB hz1 hk1 hS2 => ?_)
        obtain ⟨hP1, -, hD1⟩ := hB
        rw [ht] at hP1
        replace hD := hD1.weaken (fun _ _ _ h => hFc _ h)
        replace hP := hP1
        replace hS := hS2
        clear hP1 hD1 hS2 hFc hfc hz1 hk1 hvm ht
        refine lv_aload_n hx hb dX18_root_58 rfl (lv_at hl 1 rfl) ?_
        refine lv_aload_n hx hb dX18_root_59 rfl (lv_at hl 1 rfl) ?_
        obtain ⟨k_129, ek_129, hf⟩ := lnk_some hf
        refine va_get (D := (dC, dI)) (ci := 18) (v := .ref (a k_129)) (C := RX18) (T := TX18) (N := 78) hx hb hts iwd_X18_root_X18 hown hK hP h0 (Wd_ob kg_3 sg_3 (by decide)) rfl 76 (by decide) (hts _ md_X18_root_5) (fun _ h9 => h9) (fl_q rfl ek_129) dX18_root_60 ?_
        obtain ⟨z_130, _u, hfc, hf⟩ := cal_some hf
        have hFc := de_free hD hS hA
        refine va_callv (va_runV (As := [.ref (a k_129)]) (rest := []) ⟨hx, hb, hml, hown, hts⟩ (de_X18_keepFour l dC dI cy a sh n H_128.size F sk z_126 h0 k_129 hfc) (cwV 1 hts gX18_root_X18_keepFour rfl rfl rfl (by decide +kernel) ⟨Nat.le_of_ble_eq_true rfl, Nat.le_of_ble_eq_true rfl⟩) ⟨fun a U g mk q => by obtain ⟨q0, q1, qP, qK, qD, qN, qS⟩ := q; exact ⟨q0, q1, qP, va_K.moved (u := U) (U := U.calling g mk a) (Vm.Alike.refl U.vm) qK, qD, qN.same rfl, SKs.moved (u := U) (U := U.calling g mk a) (Vm.Alike.refl U.vm) qS⟩, va_recv hK hP (ci := 18) (q0 := h0) rfl (Wd_ob kg_3 sg_3 (by decide)), fun U hU hW => ⟨rfl, by rw [hU], by rw [hU]; exact hP, va_K.moved hW.alike hK, hD.weaken (fun _ _ _ _ => trivial), hN.warm hW, by rw [hU]; exact ((hSK.kept hS.2.1).narrow hFc).moved hW.alike⟩⟩ rfl rfl hl.1 rfl (lv_room (Nat.le_of_ble_eq_true rfl)) dX18_root_63 ⟨Nat.le_of_ble_eq_true rfl, Nat.le_of_ble_eq_true rfl⟩) hS (fun q _ h => hFc q h) hFc (fun u t H_131 locs ht hvm hw hB hz1 hk1 hS2 => ?_)
        obtain ⟨hP1, -, hD1⟩ := hB
        rw [ht] at hP1
        replace hD := hD1.weaken (fun _ _ _ h => hFc _ h)
        replace hP := hP1
        replace hS := hS2
        clear hP1 hD1 hS2 hFc hfc hz1 hk1 hvm ht
        refine lv_aload_n hx hb dX18_root_66 rfl (lv_at hl 1 rfl) ?_
        obtain ⟨k_132, ek_132, hf⟩ := lnk_some hf
        refine va_get (D := (dC, dI)) (ci := 18) (v := .ref (a k_132)) (C := RX18) (T := TX18) (N := 78) hx hb hts iwd_X18_root_X18 hown hK hP h0 (Wd_ob kg_3 sg_3 (by decide)) rfl 18 (by decide) (hts _ md_X18_root_2) (fun _ h9 => h9) (fl_q rfl ek_132) dX18_root_67 ?_
        refine lv_aload_n hx hb dX18_root_70 rfl (lv_at hl 1 rfl) ?_
        obtain ⟨k_133, ek_133, hf⟩ := lnk_some hf
        refine va_get (D := (dC, dI)) (ci := 18) (v := .ref (a k_133)) (C := RX18) (T := TX18) (N := 78) hx hb hts iwd_X18_root_X18 hown hK hP h0 (Wd_ob kg_3 sg_3 (by decide)) rfl 1 (by decide) (hts _ md_X18_root_6) (fun _ h9 => h9) (fl_q rfl ek_133) dX18_root_71 ?_
        refine lv_iload_n hx hb dX18_root_74 rfl (lv_at hl 0 rfl) ?_
        obtain ⟨g_134, hf⟩ := grd_some hf
        obtain ⟨kg_134, sg_134, ig_134⟩ := okA_at g_134
        refine va_lald hx hb hK hP k_133 2 (Wd_al kg_134 sg_134) rfl ig_134 dX18_root_75 ?_
        refine lv_bipush (v := 8) hx hb dX18_root_76 (by decide) ?_
        obtain ⟨g_136, hf⟩ := grd_some hf
        obtain ⟨kg_136, sg_136⟩ := okO_at g_136
        obtain ⟨z_135, _u, hfc, hf⟩ := cal_some hf
        have hFc := de_free hD hS hA
        refine va_callv (va_runV (As := [.long (z_130.2.1 k_133 p_12.toNatClampNeg), .int 8]) (rest := []) ⟨hx, hb, hml, hown, hts⟩ (de_X12_addNumber l dC dI cy a sh n H_131.size F z_130 k_132 (z_130.2.1 k_133 p_12.toNatClampNeg) 8 hfc) (cwV 2 hts gX18_root_X12_addNumber rfl rfl rfl (by decide +kernel) ⟨Nat.le_of_ble_eq_true rfl, Nat.le_of_ble_eq_true rfl⟩) ⟨fun a U g mk q => by obtain ⟨q0, q1, qP, qK, qD, qN⟩ := q; exact ⟨q0, q1, qP, va_K.moved (u := U) (U := U.calling g mk a) (Vm.Alike.refl U.vm) qK, qD, qN.same rfl⟩, va_recv hK hP (ci := 12) (q0 := k_132) rfl (Wd_ob kg_136 sg_136 (by decide)), fun U hU hW => ⟨rfl, by rw [hU], by rw [hU]; exact hP, va_K.moved hW.alike hK, hD.weaken (fun _ _ _ _ => trivial), hN.warm hW⟩⟩ rfl rfl hl.1 rfl (lv_room (Nat.le_of_ble_eq_true rfl)) dX18_root_78 ⟨Nat.le_of_ble_eq_true rfl, Nat.le_of_ble_eq_true rfl⟩) hS (fun q _ h => hFc q h) hFc (fun u t H_137 locs ht hvm hw hB hz1 hk1 hS2 => ?_)
        obtain ⟨hP1, -, hD1⟩ := hB
        rw [ht] at hP1
        replace hD := hD1.weaken (fun _ _ _ h => hFc _ h)
        replace hP := hP1
        replace hS := hS2
        clear hP1 hD1 hS2 hFc hfc hz1 hk1 hvm ht
        refine lv_aload_n hx hb dX18_root_81 rfl (lv_at hl 1 rfl) ?_
        obtain ⟨k_138, ek_138, hf⟩ := lnk_some hf
        refine va_get (D := (dC, dI)) (ci := 18) (v := .ref (a k_138)) (C := RX18) (T := TX18) (N := 78) hx hb hts iwd_X18_root_X18 hown hK hP h0 (Wd_ob kg_3 sg_3 (by decide)) rfl 18 (by decide) (hts _ md_X18_root_2) (fun _ h9 => h9) (fl_q rfl ek_138) dX18_root_82 ?_
        refine lv_aload_n hx hb dX18_root_85 rfl (lv_at hl 1 rfl) ?_
        obtain ⟨k_139, ek_139, hf⟩ := lnk_some hf
        refine va_get (D := (dC, dI)) (ci := 18) (v := .ref (a k_139)) (C := RX18) (T := TX18) (N := 78) hx hb hts iwd_X18_root_X18 hown hK hP h0 (Wd_ob kg_3 sg_3 (by decide)) rfl 2 (by decide) (hts _ md_X18_root_7) (fun _ h9 => h9) (fl_q rfl ek_139) dX18_root_86 ?_
        refine lv_iload_n hx hb dX18_root_89 rfl (lv_at hl 0 rfl) ?_
        obtain ⟨g_140, hf⟩ := grd_some hf
        obtain ⟨kg_140, sg_140, ig_140⟩ := okA_at g_140
        refine va_lald hx hb hK hP k_139 2 (Wd_al kg_140 sg_140) rfl ig_140 dX18_root_90 ?_
        refine lv_bipush (v := 8) hx hb dX18_root_91 (by decide) ?_
        obtain ⟨g_142, hf⟩ := grd_some hf
        obtain ⟨kg_142, sg_142⟩ := okO_at g_142
        obtain ⟨z_141, _u, hfc, hf⟩ := cal_some hf
        have hFc := de_free hD hS hA
        refine va_callv (va_runV (As := [.long (z_135.2.1 k_139 p_12.toNatClampNeg), .int 8]) (rest := []) ⟨hx, hb, hml, hown, hts⟩ (de_X12_addNumber l dC dI cy a sh n H_137.size F z_135 k_138 (z_135.2.1 k_139 p_12.toNatClampNeg) 8 hfc) (cwV 2 hts gX18_root_X12_addNumber rfl rfl rfl (by decide +kernel) ⟨Nat.le_of_ble_eq_true rfl, Nat.le_of_ble_eq_true rfl⟩) ⟨fun a U g mk q => by obtain ⟨q0, q1, qP, qK, qD, qN⟩ := q; exact ⟨q0, q1, qP, va_K.moved (u := U) (U := U.calling g mk a) (Vm.Alike.refl U.vm) qK, qD, qN.same rfl⟩, va_recv hK hP (ci := 12) (q0 := k_138) rfl (Wd_ob kg_142 sg_142 (by decide)), fun U hU hW => ⟨rfl, by rw [hU], by rw [hU]; exact hP, va_K.moved hW.alike hK, hD.weaken (fun _ _ _ _ => trivial), hN.warm hW⟩⟩ rfl rfl hl.1 rfl (lv_room (Nat.le_of_ble_eq_true rfl)) dX18_root_93 ⟨Nat.le_of_ble_eq_true rfl, Nat.le_of_ble_eq_true rfl⟩) hS (fun q _ h => hFc q h) hFc (fun u t H_143 locs ht hvm hw hB hz1 hk1 hS2 => ?_)
        obtain ⟨hP1, -, hD1⟩ := hB
        rw [ht] at hP1
        replace hD := hD1.weaken (fun _ _ _ h => hFc _ h)
        replace hP := hP1
        replace hS := hS2
        clear hP1 hD1 hS2 hFc hfc hz1 hk1 hvm ht
        refine lv_aload_n hx hb dX18_root_96 rfl (lv_at hl 1 rfl) ?_
        refine lv_aload_n hx hb dX18_root_97 rfl (lv_at hl 1 rfl) ?_
        obtain ⟨k_144, ek_144, hf⟩ := lnk_some hf
        refine va_get (D := (dC, dI)) (ci := 18) (v := .ref (a k_144)) (C := RX18) (T := TX18) (N := 78) hx hb hts iwd_X18_root_X18 hown hK hP h0 (Wd_ob kg_3 sg_3 (by decide)) rfl 77 (by decide) (hts _ md_X18_root_8) (fun _ h9 => h9) (fl_q rfl ek_144) dX18_root_98 ?_
        obtain ⟨z_145, _u, hfc, hf⟩ := cal_some hf
        have hFc := de_free hD hS hA
        refine va_callv (va_runV (As := [.ref (a k_144)]) (rest := []) ⟨hx, hb, hml, hown, hts⟩ (de_X18_keepFour l dC dI cy a sh n H_143.size F sk z_141 h0 k_144 hfc) (cwV 1 hts gX18_root_X18_keepFour rfl rfl rfl (by decide +kernel) ⟨Nat.le_of_ble_eq_true rfl, Nat.le_of_ble_eq_true rfl⟩) ⟨fun a U g mk q => by obtain ⟨q0, q1, qP, qK, qD, qN, qS⟩ := q; exact ⟨q0, q1, qP, va_K.moved (u := U) (U := U.calling g mk a) (Vm.Alike.refl U.vm) qK, qD, qN.same rfl, SKs.moved (u := U) (U := U.calling g mk a) (Vm.Alike.refl U.vm) qS⟩, va_recv hK hP (ci := 18) (q0 := h0) rfl (Wd_ob kg_3 sg_3 (by decide)), fun U hU hW => ⟨rfl, by rw [hU], by rw [hU]; exact hP, va_K.moved hW.alike hK, hD.weaken (fun _ _ _ _ => trivial), hN.warm hW, by rw [hU]; exact ((hSK.kept hS.2.1).narrow hFc).moved hW.alike⟩⟩ rfl rfl hl.1 rfl (lv_room (Nat.le_of_ble_eq_true rfl)) dX18_root_101 ⟨Nat.le_of_ble_eq_true rfl, Nat.le_of_ble_eq_true rfl⟩) hS (fun q _ h => hFc q h) hFc (fun u t H_146 locs ht hvm hw hB hz1 hk1 hS2 => ?_)
        obtain ⟨hP1, -, hD1⟩ := hB
        rw [ht] at hP1
        replace hD := hD1.weaken (fun _ _ _ h => hFc _ h)
        replace hP := hP1
        replace hS := hS2
        clear hP1 hD1 hS2 hFc hfc hz1 hk1 hvm ht
        refine lv_aload_n hx hb dX18_root_104 rfl (lv_at hl 1 rfl) ?_
        obtain ⟨k_147, ek_147, hf⟩ := lnk_some hf
        refine va_get (D := (dC, dI)) (ci := 18) (v := .ref (a k_147)) (C := RX18) (T := TX18) (N := 78) hx hb hts iwd_X18_root_X18 hown hK hP h0 (Wd_ob kg_3 sg_3 (by decide)) rfl 19 (by decide) (hts _ md_X18_root_1) (fun _ h9 => h9) (fl_q rfl ek_147) dX18_root_105 ?_
        refine lv_aload_n hx hb dX18_root_108 rfl (lv_at hl 1 rfl) ?_
        obtain ⟨k_148, ek_148, hf⟩ := lnk_some hf
        refine va_get (D := (dC, dI)) (ci := 18) (v := .ref (a k_148)) (C := RX18) (T := TX18) (N := 78) hx hb hts iwd_X18_root_X18 hown hK hP h0 (Wd_ob kg_3 sg_3 (by decide)) rfl 76 (by decide) (hts _ md_X18_root_5) (fun _ h9 => h9) (fl_q rfl ek_148) dX18_root_109 ?_
        refine lv_aload_n hx hb dX18_root_112 rfl (lv_at hl 1 rfl) ?_
        obtain ⟨k_149, ek_149, hf⟩ := lnk_some hf
        refine va_get (D := (dC, dI)) (ci := 18) (v := .ref (a k_149)) (C := RX18) (T := TX18) (N := 78) hx hb hts iwd_X18_root_X18 hown hK hP h0 (Wd_ob kg_3 sg_3 (by decide)) rfl 77 (by decide) (hts _ md_X18_root_8) (fun _ h9 => h9) (fl_q rfl ek_149) dX18_root_113 ?_
        refine lv_iconst (v := 1) hx hb dX18_root_116 (by decide) ?_
        refine lv_aload_n hx hb dX18_root_117 rfl (lv_at hl 1 rfl) ?_
        obtain ⟨k_150, ek_150, hf⟩ := lnk_some hf
        refine va_get (D := (dC, dI)) (ci := 18) (v := .ref (a k_150)) (C := RX18) (T := TX18) (N := 78) hx hb hts iwd_X18_root_X18 hown hK hP h0 (Wd_ob kg_3 sg_3 (by decide)) rfl 0 (by decide) (hts _ md_X18_root_4) (fun _ h9 => h9) (fl_q rfl ek_150) dX18_root_118 ?_
        refine lv_iload_n hx hb dX18_root_121 rfl (lv_at hl 0 rfl) ?_
        obtain ⟨g_151, hf⟩ := grd_some hf
        obtain ⟨kg_151, sg_151, ig_151⟩ := okA_at g_151
        refine va_lald hx hb hK hP k_150 2 (Wd_al kg_151 sg_151) rfl ig_151 dX18_root_122 ?_
        refine lv_iconst (v := 0) hx hb dX18_root_123 (by decide) ?_
        obtain ⟨g_153, hf⟩ := grd_some hf
        obtain ⟨kg_153, sg_153⟩ := okO_at g_153
        obtain ⟨z_152, _u, hfc, hf⟩ := cal_some hf
        have hFc := de_free hD hS hA
        refine va_callv (va_runV (As := [.ref (a k_148), .ref (a k_149), .int 1, .long (z_145.2.1 k_150 p_12.toNatClampNeg), .int 0]) (rest := []) ⟨hx, hb, hml, hown, hts⟩ (de_X14_put l dC dI cy a sh n H_146.size F z_145 k_147 k_148 k_149 1 (z_145.2.1 k_150 p_12.toNatClampNeg) 0 hfc) (cwV 5 hts gX18_root_X14_put rfl rfl rfl (by decide +kernel) ⟨Nat.le_of_ble_eq_true rfl, Nat.le_of_ble_eq_true rfl⟩) ⟨fun a U g mk q => by obtain ⟨q0, q1, qP, qK, qD, qN⟩ := q; exact ⟨q0, q1, qP, va_K.moved (u := U) (U := U.calling g mk a) (Vm.Alike.refl U.vm) qK, qD, qN.same rfl⟩, va_recv hK hP (ci := 14) (q0 := k_147) rfl (Wd_ob kg_153 sg_153 (by decide)), fun U hU hW => ⟨rfl, by rw [hU], by rw [hU]; exact hP, va_K.moved hW.alike hK, hD.weaken (fun _ _ _ _ => trivial), hN.warm hW⟩⟩ rfl rfl hl.1 rfl (lv_room (Nat.le_of_ble_eq_true rfl)) dX18_root_124 ⟨Nat.le_of_ble_eq_true rfl, Nat.le_of_ble_eq_true rfl⟩) hS (fun q _ h => hFc q h) hFc (fun u t H_154 locs ht hvm hw hB hz1 hk1 hS2 => ?_)
        obtain ⟨hP1, -, hD1⟩ := hB
        rw [ht] at hP1
        replace hD := hD1.weaken (fun _ _ _ h => hFc _ h)
        replace hP := hP1
        replace hS := hS2
        clear hP1 hD1 hS2 hFc hfc hz1 hk1 hvm ht
        refine lv_iinc (v := (p_12 + 1)) (lv' := [(2, .int (p_12 + 1)), (0, .ref (a h0)), (1, .int x0)]) hx hb dX18_root_127 hl (k := 0) rfl rfl (by decide) rfl (fun ls hl2 => ?_)
        replace hl := hl2
        clear hl2
        refine lv_goto (tgt := 27) hx hb dX18_root_130 (by decide) ?_
        exact ih27 (z_152, (p_12 + 1)) ls H_154 locs ⟨lv_sub hl [0, 1, 2] rfl, hP, hD, hS⟩ hf
    · skip
      rw [if_neg c_2] at hf
      refine lv_lconst (v := 0) hx hb dX18_root_9 (by decide) ?_
      obtain ⟨h8, h9⟩ := ret_some hf
      rw [h8, h9]
      exact W.lret (v := 0) hx hb hr (fun t ht hW => ⟨⟨0, (), rfl, rfl, by rw [ht]; exact hP, va_K.moved hW.alike hK, hD⟩, hS.F ht⟩) hS.2.2 dX18_root_10

theorem md_X13_call_1 : (.fieldLink RX13 72 "ResourceLedgerModel$Looker" "unit" "LResourceLedgerModel$Unit;" : Cond) ∈ wsX13_call := List.mem_of_getElem? (i := 1) rfl
theorem iwd_X13_call_X13 : ∀ w ∈ wsX130, w ∈ wsX13_call := fun _ h => List.mem_cons_of_mem _ (List.mem_append_left _ (List.mem_append_right _ h))
theorem md_X13_call_2 : (.fieldLink RX13 92 "ResourceLedgerModel$Looker" "height" "I" : Cond) ∈ wsX13_call := List.mem_of_getElem? (i := 2) rfl
theorem md_X13_call_3 : (.fieldLink RX13 48 "ResourceLedgerModel$Looker" "fault" "I" : Cond) ∈ wsX13_call := List.mem_of_getElem? (i := 3) rfl
theorem md_X13_call_5 : (.fieldLink RX13 33 "ResourceLedgerModel$Looker" "origins" "[J" : Cond) ∈ wsX13_call := List.mem_of_getElem? (i := 5) rfl
theorem md_X13_call_6 : (.fieldLink RX13 30 "ResourceLedgerModel$Looker" "types" "[J" : Cond) ∈ wsX13_call := List.mem_of_getElem? (i := 6) rfl
theorem md_X13_call_4 : (.fieldLink RX13 176 "ResourceLedgerModel$Looker" "now" "I" : Cond) ∈ wsX13_call := List.mem_of_getElem? (i := 4) rfl
set_option maxHeartbeats 4000000 in
set_option maxRecDepth 100000 in
theorem de_X13_call (l : Launch) (dC : Nat → ClassId) (dI : Nat → Nat → Nat) (cy : Nat → ClassId) (a : Nat → Nat) (sh : Nat → Nat × Nat) (n sz : Nat) (F : Nat) (z : St) (h0 : Nat) (x0 : Int32) {z8 : St} {r8 : Unit} (hf : fn_X13_call F sh n z h0 x0 = some (z8, r8)) : Met l yX13_call wsX13_call ({ frames := 6, cells := 0, slots := 0, locals := 139 }) (va_Pc [.ref (a h0), .int x0] (fun U => U.heap.size = sz ∧ va_P (dC, dI) vwCl (Wd cy a sh n z) U.heap ∧ va_K (dC, dI) vwCl (TYS cy) U ∧ va_D (fun _ => True) (Wd cy a sh n z) ∧ NK U)) (va_Qv (fun u : Unit => True) (fun u t => va_P (dC, dI) vwCl (Wd cy a sh n z8) t.heap ∧ va_K (dC, dI) vwCl (TYS cy) t ∧ va_D (va_A (Wd cy a sh n z) sz) (Wd cy a sh n z8)) (va_A (Wd cy a sh n z) sz)) 0 0 (va_A (Wd cy a sh n z) sz) := by
  refine Met.ofW (cc := cX13_call) (maxL := 13) (ret := none) (by decide) rfl ?_
  intro p e s m args below meth c s₁ B hml hv
  obtain ⟨rfl, hsz, hP, hK, hD0, hN⟩ := hv
  have hx := B.exec
  have hb := B.bytes
  have hr := B.returns
  have hts := atoms_spec (ws := wsX13_call) B.pre
  have hown : s.vm.findClass RX13 = some m.cls := findClass_of_methodNamed B.named
  have hlocks := B.notSynchronized
  subst hsz
  have hD := hD0.self (sz := s.heap.size)
  clear hD0
  generalize hAe : va_A (Wd cy a sh n z) s.heap.size = A at hD ⊢
  have hA : ∀ q : Nat, s.heap.size ≤ q → A q := fun q h => by rw [← hAe]; exact Or.inr h
  clear hAe
  have hS : va_S A s.heap s.heap [] := va_S.rf
  have hl := lv_entry ([.ref (a h0), .int x0]) (n := 13) (Nat.le_of_ble_eq_true rfl)
  rw [lg_entry_eq]
  generalize (lg_sl ([.ref (a h0), .int x0]) ++ List.replicate (13 - (lg_sl ([.ref (a h0), .int x0])).length) Slot.unset).toArray = ls at hl ⊢
  replace hl : lv_has ls 13 [(0, .ref (a h0)), (1, .int x0)] := hl
  unfold fn_X13_call at hf
  refine de_start hS hP (fun H locs hS hP => ?_)
  refine lv_aload_n hx hb dX13_call_0 rfl (lv_at hl 0 rfl) ?_
  obtain ⟨g_1, hf⟩ := grd_some hf
  obtain ⟨kg_1, sg_1⟩ := okO_at g_1
  obtain ⟨k_2, ek_2, hf⟩ := lnk_some hf
  refine va_get (D := (dC, dI)) (ci := 13) (v := .ref (a k_2)) (C := RX13) (T := TX13) (N := 22) hx hb hts iwd_X13_call_X13 hown hK hP h0 (Wd_ob kg_1 sg_1 (by decide)) rfl 0 (by decide) (hts _ md_X13_call_1) (fun _ h9 => h9) (fl_q rfl ek_2) dX13_call_1 ?_
  refine lv_iload_n hx hb dX13_call_4 rfl (lv_at hl 1 rfl) ?_
  refine lv_iconst (v := 0) hx hb dX13_call_5 (by decide) ?_
  obtain ⟨g_5, hf⟩ := grd_some hf
  obtain ⟨kg_5, sg_5⟩ := okO_at g_5
  obtain ⟨z_3, r_4, hfc, hf⟩ := cal_some hf
  have hFc := de_free hD hS hA
  refine va_calli (va_runV (As := [.int x0, .int 0]) (rest := []) ⟨hx, hb, hml, hown, hts⟩ (de_X16_many l dC dI cy a sh n H.size F z k_2 x0 0 hfc) (cwV 2 hts gX13_call_X16_many rfl rfl rfl (by decide +kernel) ⟨Nat.le_of_ble_eq_true rfl, Nat.le_of_ble_eq_true rfl⟩) ⟨fun a U g mk q => by obtain ⟨q0, q1, qP, qK, qD, qN⟩ := q; exact ⟨q0, q1, qP, va_K.moved (u := U) (U := U.calling g mk a) (Vm.Alike.refl U.vm) qK, qD, qN.same rfl⟩, va_recv hK hP (ci := 16) (q0 := k_2) rfl (Wd_ob kg_5 sg_5 (by decide)), fun U hU hW => ⟨rfl, by rw [hU], by rw [hU]; exact hP, va_K.moved hW.alike hK, hD.weaken (fun _ _ _ _ => trivial), hN.warm hW⟩⟩ rfl rfl hl.1 rfl (lv_room (Nat.le_of_ble_eq_true rfl)) dX13_call_6 ⟨Nat.le_of_ble_eq_true rfl, Nat.le_of_ble_eq_true rfl⟩) hS (fun q _ h => hFc q h) hFc (fun rr u t H_6 locs ht hvm hw hB hz1 hk1 hS2 => ?_)
  rw [hw]
  clear hw
  obtain ⟨hP1, -, hD1⟩ := hB
  rw [ht] at hP1
  replace hD := hD1.weaken (fun _ _ _ h => hFc _ h)
  replace hP := hP1
  replace hS := hS2
  clear hP1 hD1 hS2 hFc hfc hz1 hk1 hvm ht
  refine lv_istore_n (lv' := [(2, .int r_4), (0, .ref (a h0)), (1, .int x0)]) hx hb dX13_call_9 rfl hl (by decide) rfl (fun ls hl2 => ?_)
  replace hl := hl2
  clear hl2
  refine lv_aload_n hx hb dX13_call_10 rfl (lv_at hl 1 rfl) ?_
  refine va_get (D := (dC, dI)) (ci := 13) (v := .int (z_3.1 h0 14)) (C := RX13) (T := TX13) (N := 22) hx hb hts iwd_X13_call_X13 hown hK hP h0 (Wd_ob kg_1 sg_1 (by decide)) rfl 14 (by decide) (hts _ md_X13_call_2) (fun _ h9 => h9) (fl_at (t := 0) rfl) dX13_call_11 ?_
  refine lv_iload_n hx hb dX13_call_14 rfl (lv_at hl 0 rfl) ?_
  refine lv_isub hx hb dX13_call_15 ?_
  refine lv_topi (fun v_7 ev_7 => ?_)
  replace hf := lt_at ev_7 hf
  clear ev_7
  refine lv_istore_n (lv' := [(3, .int v_7), (2, .int r_4), (0, .ref (a h0)), (1, .int x0)]) hx hb dX13_call_16 rfl hl (by decide) rfl (fun ls hl2 => ?_)
  replace hl := hl2
  clear hl2
  refine lv_iload_n hx hb dX13_call_17 rfl (lv_at hl 1 rfl) ?_
  refine lv_iconst (v := 1) hx hb dX13_call_18 (by decide) ?_
  refine lv_isub hx hb dX13_call_19 ?_
  refine lv_topi (fun v_8 ev_8 => ?_)
  replace hf := lt_at ev_8 hf
  clear ev_8
  refine lv_istore (lv' := [(4, .int v_8), (3, .int v_7), (2, .int r_4), (0, .ref (a h0)), (1, .int x0)]) hx hb dX13_call_20 hl (by decide) rfl (fun ls hl2 => ?_)
  replace hl := hl2
  clear hl2
  have hl0 : lv_has ls 13 [(4, .int v_8), (3, .int v_7), (2, .int r_4), (0, .ref (a h0)), (1, .int x0)] := lv_sub hl [0, 1, 2, 3, 4] rfl
  refine de_loop (h := 22) (fun (x : St × Int32) ls H locs => lv_has ls 13 [(4, .int x.2), (3, .int v_7), (2, .int r_4), (0, .ref (a h0)), (1, .int x0)] ∧ va_P (dC, dI) vwCl (Wd cy a sh n x.1) H ∧ va_D A (Wd cy a sh n x.1) ∧ va_S A s.heap H locs) (fun f x => fn_X13_call_L22 F sh n h0 x0 r_4 v_7 f x.1 x.2) (z8, r8) ?_ (fun _ => rfl) F (z_3, v_8) ls H_6 locs ⟨hl0, hP, hD, hS⟩ hf
  intro f_11 x ls H locs ih22 hI hf
  obtain ⟨z_10, p_9⟩ := x
  obtain ⟨hl2, hP2, hD2, hS2⟩ := hI
  replace hl : lv_has ls 13 [(4, .int p_9), (3, .int v_7), (2, .int r_4), (0, .ref (a h0)), (1, .int x0)] := hl2
  replace hP := hP2
  replace hD := hD2
  replace hS := hS2
  clear hl2 hP2 hD2 hS2 hl0
  replace hf := fn_X13_call_L22_s hf
  refine lv_iload hx hb dX13_call_22 (lv_at hl 0 rfl) ?_
  refine lv_if_lt (tgt := 48) hx hb dX13_call_24 (by decide) (fun c_12 => ?_) (fun c_12 => ?_)
  · skip
    rw [if_pos c_12] at hf
    refine lv_aload_n hx hb dX13_call_48 rfl (lv_at hl 3 rfl) ?_
    refine va_get (D := (dC, dI)) (ci := 13) (v := .int (z_10.1 h0 18)) (C := RX13) (T := TX13) (N := 22) hx hb hts iwd_X13_call_X13 hown hK hP h0 (Wd_ob kg_1 sg_1 (by decide)) rfl 18 (by decide) (hts _ md_X13_call_3) (fun _ h9 => h9) (fl_at (t := 0) rfl) dX13_call_49 ?_
    refine lv_if_eq (tgt := 56) hx hb dX13_call_52 (by decide) (fun c_13 => ?_) (fun c_13 => ?_)
    · skip
      rw [if_pos c_13] at hf
      refine lv_aload_n hx hb dX13_call_56 rfl (lv_at hl 3 rfl) ?_
      obtain ⟨k_14, ek_14, hf⟩ := lnk_some hf
      refine va_get (D := (dC, dI)) (ci := 13) (v := .ref (a k_14)) (C := RX13) (T := TX13) (N := 22) hx hb hts iwd_X13_call_X13 hown hK hP h0 (Wd_ob kg_1 sg_1 (by decide)) rfl 0 (by decide) (hts _ md_X13_call_1) (fun _ h9 => h9) (fl_q rfl ek_14) dX13_call_57 ?_
      refine lv_iload_n hx hb dX13_call_60 rfl (lv_at hl 4 rfl) ?_
      obtain ⟨g_17, hf⟩ := grd_some hf
      obtain ⟨kg_17, sg_17⟩ := okO_at g_17
      obtain ⟨z_15, r_16, hfc, hf⟩ := cal_some hf
      have hFc := de_free hD hS hA
      refine va_calli (va_runV (As := [.int x0]) (rest := []) ⟨hx, hb, hml, hown, hts⟩ (de_X16_flags l dC dI cy a sh n H.size F z_10 k_14 x0 hfc) (cwV 1 hts gX13_call_X16_flags rfl rfl rfl (by decide +kernel) ⟨Nat.le_of_ble_eq_true rfl, Nat.le_of_ble_eq_true rfl⟩) ⟨fun a U g mk q => by obtain ⟨q0, q1, qP, qK, qD, qN⟩ := q; exact ⟨q0, q1, qP, va_K.moved (u := U) (U := U.calling g mk a) (Vm.Alike.refl U.vm) qK, qD, qN.same rfl⟩, va_recv hK hP (ci := 16) (q0 := k_14) rfl (Wd_ob kg_17 sg_17 (by decide)), fun U hU hW => ⟨rfl, by rw [hU], by rw [hU]; exact hP, va_K.moved hW.alike hK, hD.weaken (fun _ _ _ _ => trivial), hN.warm hW⟩⟩ rfl rfl hl.1 rfl (lv_room (Nat.le_of_ble_eq_true rfl)) dX13_call_61 ⟨Nat.le_of_ble_eq_true rfl, Nat.le_of_ble_eq_true rfl⟩) hS (fun q _ h => hFc q h) hFc (fun rr u t H_18 locs ht hvm hw hB hz1 hk1 hS2 => ?_)
      rw [hw]
      clear hw
      obtain ⟨hP1, -, hD1⟩ := hB
      rw [ht] at hP1
      replace hD := hD1.weaken (fun _ _ _ h => hFc _ h)
      replace hP := hP1
      replace hS := hS2
      clear hP1 hD1 hS2 hFc hfc hz1 hk1 hvm ht
      refine lv_iconst (v := 4) hx hb dX13_call_64 (by decide) ?_
      refine lv_iand hx hb dX13_call_65 ?_
      refine de_cut (h := 74) (fun (x : St × Int32) => [.int x.2]) (fun x ls H locs => lv_has ls 13 [(3, .int v_7), (2, .int r_4), (0, .ref (a h0)), (1, .int x0)] ∧ va_P (dC, dI) vwCl (Wd cy a sh n x.1) H ∧ va_D A (Wd cy a sh n x.1) ∧ va_S A s.heap H locs) (fun x => fn_X13_call_B74 F sh n h0 r_4 x0 v_7 x.1 x.2) (z8, r8) ?_ (fun B74 => ?_)
      · intro x ls H locs hI hf
        obtain ⟨z_20, p_19⟩ := x
        obtain ⟨hl2, hP2, hD2, hS2⟩ := hI
        replace hl : lv_has ls 13 [(3, .int v_7), (2, .int r_4), (0, .ref (a h0)), (1, .int x0)] := hl2
        replace hP := hP2
        replace hD := hD2
        replace hS := hS2
        clear hl2 hP2 hD2 hS2
        replace hf := fn_X13_call_B74_s hf
        refine W.eq (g2 := F0 m 74 ls [.int p_19]) rfl ?_
        refine lv_istore (lv' := [(4, .int p_19), (3, .int v_7), (2, .int r_4), (0, .ref (a h0)), (1, .int x0)]) hx hb dX13_call_74 hl (by decide) rfl (fun ls hl2 => ?_)
        replace hl := hl2
        clear hl2
        refine lv_aload_n hx hb dX13_call_76 rfl (lv_at hl 3 rfl) ?_
        refine lv_iload hx hb dX13_call_77 (lv_at hl 0 rfl) ?_
        refine de_cut (h := 103) (fun (x : St × Int32) => [.int x.2, .ref (a h0)]) (fun x ls H locs => lv_has ls 13 [(4, .int p_19), (3, .int v_7), (2, .int r_4), (0, .ref (a h0)), (1, .int x0)] ∧ va_P (dC, dI) vwCl (Wd cy a sh n x.1) H ∧ va_D A (Wd cy a sh n x.1) ∧ va_S A s.heap H locs) (fun x => fn_X13_call_B103 F sh n h0 r_4 p_19 x0 v_7 x.1 x.2) (z8, r8) ?_ (fun B103 => ?_)
        · intro x ls H locs hI hf
          obtain ⟨z_22, p_21⟩ := x
          obtain ⟨hl2, hP2, hD2, hS2⟩ := hI
          replace hl : lv_has ls 13 [(4, .int p_19), (3, .int v_7), (2, .int r_4), (0, .ref (a h0)), (1, .int x0)] := hl2
          replace hP := hP2
          replace hD := hD2
          replace hS := hS2
          clear hl2 hP2 hD2 hS2
          replace hf := fn_X13_call_B103_s hf
          refine W.eq (g2 := F0 m 103 ls [.int p_21, .ref (a h0)]) rfl ?_
          refine lv_bipush (v := 15) hx hb dX13_call_103 (by decide) ?_
          obtain ⟨z_23, _u, hfc, hf⟩ := cal_some hf
          have hFc := de_free hD hS hA
          refine va_callv (va_runV (As := [.int p_21, .int 15]) (rest := []) ⟨hx, hb, hml, hown, hts⟩ (de_X13_need l dC dI cy a sh n H.size F z_22 h0 p_21 15 hfc) (cwV 2 hts gX13_call_X13_need rfl rfl rfl (by decide +kernel) ⟨Nat.le_of_ble_eq_true rfl, Nat.le_of_ble_eq_true rfl⟩) ⟨fun a U g mk q => by obtain ⟨q0, q1, qP, qK, qD, qN⟩ := q; exact ⟨q0, q1, qP, va_K.moved (u := U) (U := U.calling g mk a) (Vm.Alike.refl U.vm) qK, qD, qN.same rfl⟩, va_recv hK hP (ci := 13) (q0 := h0) rfl (Wd_ob kg_1 sg_1 (by decide)), fun U hU hW => ⟨rfl, by rw [hU], by rw [hU]; exact hP, va_K.moved hW.alike hK, hD.weaken (fun _ _ _ _ => trivial), hN.warm hW⟩⟩ rfl rfl hl.1 rfl (lv_room (Nat.le_of_ble_eq_true rfl)) dX13_call_105 ⟨Nat.le_of_ble_eq_true rfl, Nat.le_of_ble_eq_true rfl⟩) hS (fun q _ h => hFc q h) hFc (fun u t H_24 locs ht hvm hw hB hz1 hk1 hS2 => ?_)
          obtain ⟨hP1, -, hD1⟩ := hB
          rw [ht] at hP1
          replace hD := hD1.weaken (fun _ _ _ h => hFc _ h)
          replace hP := hP1
          replace hS := hS2
          clear hP1 hD1 hS2 hFc hfc hz1 hk1 hvm ht
          refine lv_lconst (v := 0) hx hb dX13_call_108 (by decide) ?_
          refine lv_lstore (lv' := [(5, .long 0), (4, .int p_19), (3, .int v_7), (2, .int r_4), (0, .ref (a h0)), (1, .int x0)]) hx hb dX13_call_109 hl (by decide) rfl (fun ls hl2 => ?_)
          replace hl := hl2
          clear hl2
          refine lv_lconst (v := 0) hx hb dX13_call_111 (by decide) ?_
          refine lv_lstore (lv' := [(7, .long 0), (5, .long 0), (4, .int p_19), (3, .int v_7), (2, .int r_4), (0, .ref (a h0)), (1, .int x0)]) hx hb dX13_call_112 hl (by decide) rfl (fun ls hl2 => ?_)
          replace hl := hl2
          clear hl2
          refine lv_iconst (v := 0) hx hb dX13_call_114 (by decide) ?_
          refine lv_istore (lv' := [(9, .int 0), (7, .long 0), (5, .long 0), (4, .int p_19), (3, .int v_7), (2, .int r_4), (0, .ref (a h0)), (1, .int x0)]) hx hb dX13_call_115 hl (by decide) rfl (fun ls hl2 => ?_)
          replace hl := hl2
          clear hl2
          have hl0 : lv_has ls 13 [(9, .int 0), (7, .long 0), (5, .long 0), (4, .int p_19), (3, .int v_7), (2, .int r_4), (0, .ref (a h0)), (1, .int x0)] := lv_sub hl [0, 1, 2, 3, 4, 5, 6, 7] rfl
          refine de_loop (h := 117) (fun (x : St × Int64 × Int64 × Int32) ls H locs => lv_has ls 13 [(9, .int x.2.2.2), (7, .long x.2.2.1), (5, .long x.2.1), (4, .int p_19), (3, .int v_7), (2, .int r_4), (0, .ref (a h0)), (1, .int x0)] ∧ va_P (dC, dI) vwCl (Wd cy a sh n x.1) H ∧ va_D A (Wd cy a sh n x.1) ∧ va_S A s.heap H locs) (fun f x => fn_X13_call_L117 F sh n r_4 p_19 h0 x0 v_7 f x.1 x.2.1 x.2.2.1 x.2.2.2) (z8, r8) ?_ (fun _ => rfl) F (z_23, 0, 0, 0) ls H_24 locs ⟨hl0, hP, hD, hS⟩ hf
          intro f_29 x ls H locs ih117 hI hf
          obtain ⟨z_28, p_25, p_26, p_27⟩ := x
          obtain ⟨hl2, hP2, hD2, hS2⟩ := hI
          replace hl : lv_has ls 13 [(9, .int p_27), (7, .long p_26), (5, .long p_25), (4, .int p_19), (3, .int v_7), (2, .int r_4), (0, .ref (a h0)), (1, .int x0)] := hl2
          replace hP := hP2
          replace hD := hD2
          replace hS := hS2
          clear hl2 hP2 hD2 hS2 hl0
          replace hf := fn_X13_call_L117_s hf
          refine lv_iload hx hb dX13_call_117 (lv_at hl 0 rfl) ?_
          refine lv_iload_n hx hb dX13_call_119 rfl (lv_at hl 5 rfl) ?_
          refine lv_icmp_ge (tgt := 251) hx hb dX13_call_120 (by decide) (fun c_30 => ?_) (fun c_30 => ?_)
          · skip
            rw [if_pos c_30] at hf
            refine lv_lload hx hb dX13_call_251 (lv_at hl 2 rfl) ?_
            refine lv_bipush (v := 48) hx hb dX13_call_253 (by decide) ?_
            refine lv_lushr (v := ((p_25 : Int64).toUInt64 >>> ((48 : Int32).toInt64.toUInt64 &&& Int64.toUInt64 63)).toInt64) hx hb dX13_call_255 rfl ?_
            refine lv_lconst (v := 0) hx hb dX13_call_256 (by decide) ?_
            refine W.lcmp hx hb dX13_call_257 ?_
            refine de_cut (h := 266) (fun (x : St × Int32) => [.int x.2]) (fun x ls H locs => lv_has ls 13 [(7, .long p_26), (5, .long p_25), (4, .int p_19), (0, .ref (a h0)), (1, .int x0)] ∧ va_P (dC, dI) vwCl (Wd cy a sh n x.1) H ∧ va_D A (Wd cy a sh n x.1) ∧ va_S A s.heap H locs) (fun x => fn_X13_call_B266 F sh n p_19 h0 x0 p_25 p_26 x.1 x.2) (z8, r8) ?_ (fun B266 => ?_)
            · intro x ls H locs hI hf
              obtain ⟨z_32, p_31⟩ := x
              obtain ⟨hl2, hP2, hD2, hS2⟩ := hI
              replace hl : lv_has ls 13 [(7, .long p_26), (5, .long p_25), (4, .int p_19), (0, .ref (a h0)), (1, .int x0)] := hl2
              replace hP := hP2
              replace hD := hD2
              replace hS := hS2
              clear hl2 hP2 hD2 hS2
              replace hf := fn_X13_call_B266_s hf
              refine W.eq (g2 := F0 m 266 ls [.int p_31]) rfl ?_
              refine lv_istore (lv' := [(9, .int p_31), (7, .long p_26), (5, .long p_25), (4, .int p_19), (0, .ref (a h0)), (1, .int x0)]) hx hb dX13_call_266 hl (by decide) rfl (fun ls hl2 => ?_)
              replace hl := hl2
              clear hl2
              refine lv_bipush (v := 48) hx hb dX13_call_268 (by decide) ?_
              refine lv_istore (lv' := [(10, .int 48), (9, .int p_31), (7, .long p_26), (5, .long p_25), (4, .int p_19), (0, .ref (a h0)), (1, .int x0)]) hx hb dX13_call_270 hl (by decide) rfl (fun ls hl2 => ?_)
              replace hl := hl2
              clear hl2
              have hl0 : lv_has ls 13 [(10, .int 48), (9, .int p_31), (7, .long p_26), (5, .long p_25), (4, .int p_19), (0, .ref (a h0)), (1, .int x0)] := lv_sub hl [0, 1, 2, 3, 4, 5, 6] rfl
              refine de_loop (h := 272) (fun (x : St × Int32 × Int32) ls H locs => lv_has ls 13 [(10, .int x.2.2), (9, .int x.2.1), (7, .long p_26), (5, .long p_25), (4, .int p_19), (0, .ref (a h0)), (1, .int x0)] ∧ va_P (dC, dI) vwCl (Wd cy a sh n x.1) H ∧ va_D A (Wd cy a sh n x.1) ∧ va_S A s.heap H locs) (fun f x => fn_X13_call_L272 F sh n p_19 h0 x0 p_25 p_26 f x.1 x.2.1 x.2.2) (z8, r8) ?_ (fun _ => rfl) F (z_32, p_31, 48) ls H locs ⟨hl0, hP, hD, hS⟩ hf
              intro f_36 x ls H locs ih272 hI hf
              obtain ⟨z_35, p_33, p_34⟩ := x
              obtain ⟨hl2, hP2, hD2, hS2⟩ := hI
              replace hl : lv_has ls 13 [(10, .int p_34), (9, .int p_33), (7, .long p_26), (5, .long p_25), (4, .int p_19), (0, .ref (a h0)), (1, .int x0)] := hl2
              replace hP := hP2
              replace hD := hD2
              replace hS := hS2
              clear hl2 hP2 hD2 hS2 hl0
              replace hf := fn_X13_call_L272_s hf
              refine lv_iload hx hb dX13_call_272 (lv_at hl 0 rfl) ?_
              refine lv_bipush (v := 63) hx hb dX13_call_274 (by decide) ?_
              refine lv_icmp_ge (tgt := 307) hx hb dX13_call_276 (by decide) (fun c_37 => ?_) (fun c_37 => ?_)
              · skip
                rw [if_pos c_37] at hf
                refine lv_aload_n hx hb dX13_call_307 rfl (lv_at hl 5 rfl) ?_
                refine lv_iload hx hb dX13_call_308 (lv_at hl 4 rfl) ?_
                refine de_cut (h := 323) (fun (x : St × Int32) => [.int x.2, .ref (a h0)]) (fun x ls H locs => lv_has ls 13 [(7, .long p_26), (5, .long p_25), (0, .ref (a h0)), (1, .int x0)] ∧ va_P (dC, dI) vwCl (Wd cy a sh n x.1) H ∧ va_D A (Wd cy a sh n x.1) ∧ va_S A s.heap H locs) (fun x => fn_X13_call_B323 F sh n h0 x0 p_25 p_26 x.1 x.2) (z8, r8) ?_ (fun B323 => ?_)
                · intro x ls H locs hI hf
                  obtain ⟨z_39, p_38⟩ := x
                  obtain ⟨hl2, hP2, hD2, hS2⟩ := hI
                  replace hl : lv_has ls 13 [(7, .long p_26), (5, .long p_25), (0, .ref (a h0)), (1, .int x0)] := hl2
                  replace hP := hP2
                  replace hD := hD2
                  replace hS := hS2
                  clear hl2 hP2 hD2 hS2
                  replace hf := fn_X13_call_B323_s hf
                  refine W.eq (g2 := F0 m 323 ls [.int p_38, .ref (a h0)]) rfl ?_
                  refine lv_bipush (v := 6) hx hb dX13_call_323 (by decide) ?_
                  obtain ⟨z_40, _u, hfc, hf⟩ := cal_some hf
                  have hFc := de_free hD hS hA
                  refine va_callv (va_runV (As := [.int p_38, .int 6]) (rest := []) ⟨hx, hb, hml, hown, hts⟩ (de_X13_need l dC dI cy a sh n H.size F z_39 h0 p_38 6 hfc) (cwV 2 hts gX13_call_X13_need rfl rfl rfl (by decide +kernel) ⟨Nat.le_of_ble_eq_true rfl, Nat.le_of_ble_eq_true rfl⟩) ⟨fun a U g mk q => by obtain ⟨q0, q1, qP, qK, qD, qN⟩ := q; exact ⟨q0, q1, qP, va_K.moved (u := U) (U := U.calling g mk a) (Vm.Alike.refl U.vm) qK, qD, qN.same rfl⟩, va_recv hK hP (ci := 13) (q0 := h0) rfl (Wd_ob kg_1 sg_1 (by decide)), fun U hU hW => ⟨rfl, by rw [hU], by rw [hU]; exact hP, va_K.moved hW.alike hK, hD.weaken (fun _ _ _ _ => trivial), hN.warm hW⟩⟩ rfl rfl hl.1 rfl (lv_room (Nat.le_of_ble_eq_true rfl)) dX13_call_325 ⟨Nat.le_of_ble_eq_true rfl, Nat.le_of_ble_eq_true rfl⟩) hS (fun q _ h => hFc q h) hFc (fun u t H_41 locs ht hvm hw hB hz1 hk1 hS2 => ?_)
                  obtain ⟨hP1, -, hD1⟩ := hB
                  rw [ht] at hP1
                  replace hD := hD1.weaken (fun _ _ _ h => hFc _ h)
                  replace hP := hP1
                  replace hS := hS2
                  clear hP1 hD1 hS2 hFc hfc hz1 hk1 hvm ht
                  refine lv_iconst (v := 0) hx hb dX13_call_328 (by decide) ?_
                  refine lv_istore (lv' := [(10, .int 0), (7, .long p_26), (5, .long p_25), (0, .ref (a h0)), (1, .int x0)]) hx hb dX13_call_329 hl (by decide) rfl (fun ls hl2 => ?_)
                  replace hl := hl2
                  clear hl2
                  have hl0 : lv_has ls 13 [(10, .int 0), (7, .long p_26), (5, .long p_25), (0, .ref (a h0)), (1, .int x0)] := lv_sub hl [0, 1, 2, 3, 4] rfl
                  refine de_loop (h := 331) (fun (x : St × Int32) ls H locs => lv_has ls 13 [(10, .int x.2), (7, .long p_26), (5, .long p_25), (0, .ref (a h0)), (1, .int x0)] ∧ va_P (dC, dI) vwCl (Wd cy a sh n x.1) H ∧ va_D A (Wd cy a sh n x.1) ∧ va_S A s.heap H locs) (fun f x => fn_X13_call_L331 F sh n h0 x0 p_25 p_26 f x.1 x.2) (z8, r8) ?_ (fun _ => rfl) F (z_40, 0) ls H_41 locs ⟨hl0, hP, hD, hS⟩ hf
                  intro f_44 x ls H locs ih331 hI hf
                  obtain ⟨z_43, p_42⟩ := x
                  obtain ⟨hl2, hP2, hD2, hS2⟩ := hI
                  replace hl : lv_has ls 13 [(10, .int p_42), (7, .long p_26), (5, .long p_25), (0, .ref (a h0)), (1, .int x0)] := hl2
                  replace hP := hP2
                  replace hD := hD2
                  replace hS := hS2
                  clear hl2 hP2 hD2 hS2 hl0
                  replace hf := fn_X13_call_L331_s hf
                  refine lv_iload hx hb dX13_call_331 (lv_at hl 0 rfl) ?_
                  refine lv_aload_n hx hb dX13_call_333 rfl (lv_at hl 3 rfl) ?_
                  obtain ⟨k_45, ek_45, hf⟩ := lnk_some hf
                  refine va_get (D := (dC, dI)) (ci := 13) (v := .ref (a k_45)) (C := RX13) (T := TX13) (N := 22) hx hb hts iwd_X13_call_X13 hown hK hP h0 (Wd_ob kg_1 sg_1 (by decide)) rfl 0 (by decide) (hts _ md_X13_call_1) (fun _ h9 => h9) (fl_q rfl ek_45) dX13_call_334 ?_
                  refine lv_iload_n hx hb dX13_call_337 rfl (lv_at hl 4 rfl) ?_
                  refine lv_iconst (v := 1) hx hb dX13_call_338 (by decide) ?_
                  obtain ⟨g_48, hf⟩ := grd_some hf
                  obtain ⟨kg_48, sg_48⟩ := okO_at g_48
                  obtain ⟨z_46, r_47, hfc, hf⟩ := cal_some hf
                  have hFc := de_free hD hS hA
                  refine va_calli (va_runV (As := [.int x0, .int 1]) (rest := [.int p_42]) ⟨hx, hb, hml, hown, hts⟩ (de_X16_many l dC dI cy a sh n H.size F z_43 k_45 x0 1 hfc) (cwV 2 hts gX13_call_X16_many rfl rfl rfl (by decide +kernel) ⟨Nat.le_of_ble_eq_true rfl, Nat.le_of_ble_eq_true rfl⟩) ⟨fun a U g mk q => by obtain ⟨q0, q1, qP, qK, qD, qN⟩ := q; exact ⟨q0, q1, qP, va_K.moved (u := U) (U := U.calling g mk a) (Vm.Alike.refl U.vm) qK, qD, qN.same rfl⟩, va_recv hK hP (ci := 16) (q0 := k_45) rfl (Wd_ob kg_48 sg_48 (by decide)), fun U hU hW => ⟨rfl, by rw [hU], by rw [hU]; exact hP, va_K.moved hW.alike hK, hD.weaken (fun _ _ _ _ => trivial), hN.warm hW⟩⟩ rfl rfl hl.1 rfl (lv_room (Nat.le_of_ble_eq_true rfl)) dX13_call_339 ⟨Nat.le_of_ble_eq_true rfl, Nat.le_of_ble_eq_true rfl⟩) hS (fun q _ h => hFc q h) hFc (fun rr u t H_49 locs ht hvm hw hB hz1 hk1 hS2 => ?_)
                  rw [hw]
                  clear hw
                  obtain ⟨hP1, -, hD1⟩ := hB
                  rw [ht] at hP1
                  replace hD := hD1.weaken (fun _ _ _ h => hFc _ h)
                  replace hP := hP1
                  replace hS := hS2
                  clear hP1 hD1 hS2 hFc hfc hz1 hk1 hvm ht
                  refine lv_icmp_ge (tgt := 386) hx hb dX13_call_342 (by decide) (fun c_50 => ?_) (fun c_50 => ?_)
                  · skip
                    rw [if_pos c_50] at hf
                    obtain ⟨h8, h9⟩ := ret_some hf
                    rw [h8]
                    exact W.vret hx hb hr (fun t ht hW => ⟨⟨(), rfl, trivial, by rw [ht]; exact hP, va_K.moved hW.alike hK, hD⟩, hS.F ht⟩) hS.2.2 dX13_call_386
                  · skip
                    rw [if_neg c_50] at hf
                    refine lv_aload_n hx hb dX13_call_345 rfl (lv_at hl 3 rfl) ?_
                    obtain ⟨k_51, ek_51, hf⟩ := lnk_some hf
                    refine va_get (D := (dC, dI)) (ci := 13) (v := .ref (a k_51)) (C := RX13) (T := TX13) (N := 22) hx hb hts iwd_X13_call_X13 hown hK hP h0 (Wd_ob kg_1 sg_1 (by decide)) rfl 0 (by decide) (hts _ md_X13_call_1) (fun _ h9 => h9) (fl_q rfl ek_51) dX13_call_346 ?_
                    refine lv_iload_n hx hb dX13_call_349 rfl (lv_at hl 4 rfl) ?_
                    refine lv_iconst (v := 1) hx hb dX13_call_350 (by decide) ?_
                    refine lv_iload hx hb dX13_call_351 (lv_at hl 0 rfl) ?_
                    obtain ⟨g_54, hf⟩ := grd_some hf
                    obtain ⟨kg_54, sg_54⟩ := okO_at g_54
                    obtain ⟨z_52, r_53, hfc, hf⟩ := cal_some hf
                    have hFc := de_free hD hS hA
                    refine va_calll (va_runV (As := [.int x0, .int 1, .int p_42]) (rest := []) ⟨hx, hb, hml, hown, hts⟩ (de_X16_listed l dC dI cy a sh n H_49.size F z_46 k_51 x0 1 p_42 hfc) (cwV 3 hts gX13_call_X16_listed rfl rfl rfl (by decide +kernel) ⟨Nat.le_of_ble_eq_true rfl, Nat.le_of_ble_eq_true rfl⟩) ⟨fun a U g mk q => by obtain ⟨q0, q1, qP, qK, qD, qN⟩ := q; exact ⟨q0, q1, qP, va_K.moved (u := U) (U := U.calling g mk a) (Vm.Alike.refl U.vm) qK, qD, qN.same rfl⟩, va_recv hK hP (ci := 16) (q0 := k_51) rfl (Wd_ob kg_54 sg_54 (by decide)), fun U hU hW => ⟨rfl, by rw [hU], by rw [hU]; exact hP, va_K.moved hW.alike hK, hD.weaken (fun _ _ _ _ => trivial), hN.warm hW⟩⟩ rfl rfl hl.1 rfl (lv_room (Nat.le_of_ble_eq_true rfl)) dX13_call_353 ⟨Nat.le_of_ble_eq_true rfl, Nat.le_of_ble_eq_true rfl⟩) hS (fun q _ h => hFc q h) hFc (fun rr u t H_55 locs ht hvm hw hB hz1 hk1 hS2 => ?_)
                    rw [hw]
                    clear hw
                    obtain ⟨hP1, -, hD1⟩ := hB
                    rw [ht] at hP1
                    replace hD := hD1.weaken (fun _ _ _ h => hFc _ h)
                    replace hP := hP1
                    replace hS := hS2
                    clear hP1 hD1 hS2 hFc hfc hz1 hk1 hvm ht
                    refine lv_lstore (lv' := [(11, .long r_53), (10, .int p_42), (7, .long p_26), (5, .long p_25), (0, .ref (a h0)), (1, .int x0)]) hx hb dX13_call_356 hl (by decide) rfl (fun ls hl2 => ?_)
                    replace hl := hl2
                    clear hl2
                    refine lv_aload_n hx hb dX13_call_358 rfl (lv_at hl 4 rfl) ?_
                    refine lv_lload hx hb dX13_call_359 (lv_at hl 0 rfl) ?_
                    refine lv_lload hx hb dX13_call_361 (lv_at hl 0 rfl) ?_
                    obtain ⟨z_56, r_57, hfc, hf⟩ := cal_some hf
                    have hFc := de_free hD hS hA
                    refine va_calli (va_runS (As := [.long r_53]) (rest := [.long r_53, .ref (a h0)]) ⟨hx, hb, hml, hown, hts⟩ (de_X13_writes l dC dI cy a sh n H_55.size F z_52 r_53 hfc) (va_cwS 1 hts gX13_call_X13_writes rfl rfl rfl (by decide +kernel) ⟨Nat.le_of_ble_eq_true rfl, Nat.le_of_ble_eq_true rfl⟩) ⟨fun a U g mk q => by obtain ⟨q0, q1, qP, qK, qD, qN⟩ := q; exact ⟨q0, q1, qP, va_K.moved (u := U) (U := U.calling g mk a) (Vm.Alike.refl U.vm) qK, qD, qN.same rfl⟩, fun U hU hW => ⟨rfl, by rw [hU], by rw [hU]; exact hP, va_K.moved hW.alike hK, hD.weaken (fun _ _ _ _ => trivial), hN.warm hW⟩⟩ rfl rfl hl.1 rfl (lv_room (Nat.le_of_ble_eq_true rfl)) dX13_call_363 ⟨Nat.le_of_ble_eq_true rfl, Nat.le_of_ble_eq_true rfl⟩) hS (fun q _ h => hFc q h) hFc (fun rr u t H_58 locs ht hvm hw hB hz1 hk1 hS2 => ?_)
                    rw [hw]
                    clear hw
                    obtain ⟨hP1, -, hD1⟩ := hB
                    rw [ht] at hP1
                    replace hD := hD1.weaken (fun _ _ _ h => hFc _ h)
                    replace hP := hP1
                    replace hS := hS2
                    clear hP1 hD1 hS2 hFc hfc hz1 hk1 hvm ht
                    refine de_cut (h := 376) (fun (x : St × Int64) => [.long x.2, .long r_53, .ref (a h0)]) (fun x ls H locs => lv_has ls 13 [(10, .int p_42), (7, .long p_26), (5, .long p_25), (0, .ref (a h0)), (1, .int x0)] ∧ va_P (dC, dI) vwCl (Wd cy a sh n x.1) H ∧ va_D A (Wd cy a sh n x.1) ∧ va_S A s.heap H locs) (fun x => fn_X13_call_B376 F sh n h0 r_53 p_42 (fun z9 q10 => fn_X13_call_L331 F sh n h0 x0 p_25 p_26 f_44 z9 q10) x.1 x.2) (z8, r8) ?_ (fun B376 => ?_)
                    · intro x ls H locs hI hf
                      obtain ⟨z_60, p_59⟩ := x
                      obtain ⟨hl2, hP2, hD2, hS2⟩ := hI
                      replace hl : lv_has ls 13 [(10, .int p_42), (7, .long p_26), (5, .long p_25), (0, .ref (a h0)), (1, .int x0)] := hl2
                      replace hP := hP2
                      replace hD := hD2
                      replace hS := hS2
                      clear hl2 hP2 hD2 hS2
                      replace hf := fn_X13_call_B376_s hf
                      refine W.eq (g2 := F0 m 376 ls [.long p_59, .long r_53, .ref (a h0)]) rfl ?_
                      refine lv_iconst (v := 1) hx hb dX13_call_376 (by decide) ?_
                      obtain ⟨z_61, _u, hfc, hf⟩ := cal_some hf
                      have hFc := de_free hD hS hA
                      refine va_callv (va_runV (As := [.long r_53, .long p_59, .int 1]) (rest := []) ⟨hx, hb, hml, hown, hts⟩ (de_X13_push l dC dI cy a sh n H.size F z_60 h0 r_53 p_59 1 hfc) (cwV 3 hts gX13_call_X13_push rfl rfl rfl (by decide +kernel) ⟨Nat.le_of_ble_eq_true rfl, Nat.le_of_ble_eq_true rfl⟩) ⟨fun a U g mk q => by obtain ⟨q0, q1, qP, qK, qD, qN⟩ := q; exact ⟨q0, q1, qP, va_K.moved (u := U) (U := U.calling g mk a) (Vm.Alike.refl U.vm) qK, qD, qN.same rfl⟩, va_recv hK hP (ci := 13) (q0 := h0) rfl (Wd_ob kg_1 sg_1 (by decide)), fun U hU hW => ⟨rfl, by rw [hU], by rw [hU]; exact hP, va_K.moved hW.alike hK, hD.weaken (fun _ _ _ _ => trivial), hN.warm hW⟩⟩ rfl rfl hl.1 rfl (lv_room (Nat.le_of_ble_eq_true rfl)) dX13_call_377 ⟨Nat.le_of_ble_eq_true rfl, Nat.le_of_ble_eq_true rfl⟩) hS (fun q _ h => hFc q h) hFc (fun u t H_62 locs ht hvm hw hB hz1 hk1 hS2 => ?_)
                      obtain ⟨hP1, -, hD1⟩ := hB
                      rw [ht] at hP1
                      replace hD := hD1.weaken (fun _ _ _ h => hFc _ h)
                      replace hP := hP1
                      replace hS := hS2
                      clear hP1 hD1 hS2 hFc hfc hz1 hk1 hvm ht
                      refine lv_iinc (v := (p_42 + 1)) (lv' := [(10, .int (p_42 + 1)), (7, .long p_26), (5, .long p_25), (0, .ref (a h0)), (1, .int x0)]) hx hb dX13_call_380 hl (k := 0) rfl rfl (by decide) rfl (fun ls hl2 => ?_)
                      replace hl := hl2
                      clear hl2
                      refine lv_goto (tgt := 331) hx hb dX13_call_383 (by decide) ?_
                      exact ih331 (z_61, (p_42 + 1)) ls H_62 locs ⟨lv_sub hl [0, 1, 2, 3, 4] rfl, hP, hD, hS⟩ hf
                    refine lv_if_eq (tgt := 374) hx hb dX13_call_366 (by decide) (fun c_63 => ?_) (fun c_63 => ?_)
                    · skip
                      rw [if_pos c_63] at hf
                      refine lv_lload hx hb dX13_call_374 (lv_at hl 3 rfl) ?_
                      exact B376 (z_56, p_25) ls H_58 locs ⟨lv_sub hl [1, 2, 3, 4, 5] rfl, hP, hD, hS⟩ hf
                    · skip
                      rw [if_neg c_63] at hf
                      refine lv_lload hx hb dX13_call_369 (lv_at hl 2 rfl) ?_
                      refine lv_goto (tgt := 376) hx hb dX13_call_371 (by decide) ?_
                      exact B376 (z_56, p_26) ls H_58 locs ⟨lv_sub hl [1, 2, 3, 4, 5] rfl, hP, hD, hS⟩ hf
                refine de_cut (h := 318) (fun (x : St) => [.ref (a h0)]) (fun x ls H locs => lv_has ls 13 [(7, .long p_26), (5, .long p_25), (0, .ref (a h0)), (1, .int x0)] ∧ va_P (dC, dI) vwCl (Wd cy a sh n x) H ∧ va_D A (Wd cy a sh n x) ∧ va_S A s.heap H locs) (fun x => fn_X13_call_B318 F sh n h0 x0 p_25 p_26 x) (z8, r8) ?_ (fun B318 => ?_)
                · intro x ls H locs hI hf
                  obtain ⟨z_64, ez⟩ : ∃ w, w = x := ⟨_, rfl⟩
                  subst ez
                  obtain ⟨hl2, hP2, hD2, hS2⟩ := hI
                  replace hl : lv_has ls 13 [(7, .long p_26), (5, .long p_25), (0, .ref (a h0)), (1, .int x0)] := hl2
                  replace hP := hP2
                  replace hD := hD2
                  replace hS := hS2
                  clear hl2 hP2 hD2 hS2
                  replace hf := fn_X13_call_B318_s hf
                  refine W.eq (g2 := F0 m 318 ls [.ref (a h0)]) rfl ?_
                  refine lv_iconst (v := 1) hx hb dX13_call_318 (by decide) ?_
                  refine lv_goto (tgt := 323) hx hb dX13_call_319 (by decide) ?_
                  exact B323 (z_64, 1) ls H locs ⟨lv_sub hl [0, 1, 2, 3] rfl, hP, hD, hS⟩ hf
                refine lv_if_eq (tgt := 318) hx hb dX13_call_310 (by decide) (fun c_65 => ?_) (fun c_65 => ?_)
                · skip
                  rw [if_pos c_65] at hf
                  exact B318 (z_35) ls H locs ⟨lv_sub hl [2, 3, 5, 6] rfl, hP, hD, hS⟩ hf
                · skip
                  rw [if_neg c_65] at hf
                  refine lv_iload hx hb dX13_call_313 (lv_at hl 1 rfl) ?_
                  refine lv_if_ne (tgt := 322) hx hb dX13_call_315 (by decide) (fun c_66 => ?_) (fun c_66 => ?_)
                  · skip
                    rw [if_neg c_66] at hf
                    refine lv_iconst (v := 0) hx hb dX13_call_322 (by decide) ?_
                    exact B323 (z_35, 0) ls H locs ⟨lv_sub hl [2, 3, 5, 6] rfl, hP, hD, hS⟩ hf
                  · skip
                    rw [if_pos c_66] at hf
                    exact B318 (z_35) ls H locs ⟨lv_sub hl [2, 3, 5, 6] rfl, hP, hD, hS⟩ hf
              · skip
                rw [if_neg c_37] at hf
                refine lv_iload hx hb dX13_call_279 (lv_at hl 1 rfl) ?_
                refine de_cut (h := 299) (fun (x : St × Int32) => [.int x.2]) (fun x ls H locs => lv_has ls 13 [(10, .int p_34), (7, .long p_26), (5, .long p_25), (4, .int p_19), (0, .ref (a h0)), (1, .int x0)] ∧ va_P (dC, dI) vwCl (Wd cy a sh n x.1) H ∧ va_D A (Wd cy a sh n x.1) ∧ va_S A s.heap H locs) (fun x => fn_X13_call_B299 F sh n p_34 (fun z9 q9 q10 => fn_X13_call_L272 F sh n p_19 h0 x0 p_25 p_26 f_36 z9 q9 q10) x.1 x.2) (z8, r8) ?_ (fun B299 => ?_)
                · intro x ls H locs hI hf
                  obtain ⟨z_68, p_67⟩ := x
                  obtain ⟨hl2, hP2, hD2, hS2⟩ := hI
                  replace hl : lv_has ls 13 [(10, .int p_34), (7, .long p_26), (5, .long p_25), (4, .int p_19), (0, .ref (a h0)), (1, .int x0)] := hl2
                  replace hP := hP2
                  replace hD := hD2
                  replace hS := hS2
                  clear hl2 hP2 hD2 hS2
                  replace hf := fn_X13_call_B299_s hf
                  refine W.eq (g2 := F0 m 299 ls [.int p_67]) rfl ?_
                  refine lv_istore (lv' := [(9, .int p_67), (10, .int p_34), (7, .long p_26), (5, .long p_25), (4, .int p_19), (0, .ref (a h0)), (1, .int x0)]) hx hb dX13_call_299 hl (by decide) rfl (fun ls hl2 => ?_)
                  replace hl := hl2
                  clear hl2
                  refine lv_iinc (v := (p_34 + 1)) (lv' := [(10, .int (p_34 + 1)), (9, .int p_67), (7, .long p_26), (5, .long p_25), (4, .int p_19), (0, .ref (a h0)), (1, .int x0)]) hx hb dX13_call_301 hl (k := 1) rfl rfl (by decide) rfl (fun ls hl2 => ?_)
                  replace hl := hl2
                  clear hl2
                  refine lv_goto (tgt := 272) hx hb dX13_call_304 (by decide) ?_
                  exact ih272 (z_68, p_67, (p_34 + 1)) ls H locs ⟨lv_sub hl [0, 1, 2, 3, 4, 5, 6] rfl, hP, hD, hS⟩ hf
                refine de_cut (h := 294) (fun (x : St) => []) (fun x ls H locs => lv_has ls 13 [(10, .int p_34), (7, .long p_26), (5, .long p_25), (4, .int p_19), (0, .ref (a h0)), (1, .int x0)] ∧ va_P (dC, dI) vwCl (Wd cy a sh n x) H ∧ va_D A (Wd cy a sh n x) ∧ va_S A s.heap H locs) (fun x => fn_X13_call_B294 F sh n p_34 (fun z9 q9 q10 => fn_X13_call_L272 F sh n p_19 h0 x0 p_25 p_26 f_36 z9 q9 q10) x) (z8, r8) ?_ (fun B294 => ?_)
                · intro x ls H locs hI hf
                  obtain ⟨z_69, ez⟩ : ∃ w, w = x := ⟨_, rfl⟩
                  subst ez
                  obtain ⟨hl2, hP2, hD2, hS2⟩ := hI
                  replace hl : lv_has ls 13 [(10, .int p_34), (7, .long p_26), (5, .long p_25), (4, .int p_19), (0, .ref (a h0)), (1, .int x0)] := hl2
                  replace hP := hP2
                  replace hD := hD2
                  replace hS := hS2
                  clear hl2 hP2 hD2 hS2
                  replace hf := fn_X13_call_B294_s hf
                  refine W.eq (g2 := F0 m 294 ls []) rfl ?_
                  refine lv_iconst (v := 1) hx hb dX13_call_294 (by decide) ?_
                  refine lv_goto (tgt := 299) hx hb dX13_call_295 (by decide) ?_
                  exact B299 (z_69, 1) ls H locs ⟨lv_sub hl [0, 1, 2, 3, 4, 5] rfl, hP, hD, hS⟩ hf
                refine lv_if_ne (tgt := 294) hx hb dX13_call_281 (by decide) (fun c_70 => ?_) (fun c_70 => ?_)
                · skip
                  rw [if_neg c_70] at hf
                  exact B294 (z_35) ls H locs ⟨lv_sub hl [0, 2, 3, 4, 5, 6] rfl, hP, hD, hS⟩ hf
                · skip
                  rw [if_pos c_70] at hf
                  refine lv_aload_n hx hb dX13_call_284 rfl (lv_at hl 5 rfl) ?_
                  refine lv_iload hx hb dX13_call_285 (lv_at hl 0 rfl) ?_
                  refine lv_iconst (v := 0) hx hb dX13_call_287 (by decide) ?_
                  obtain ⟨z_71, r_72, hfc, hf⟩ := cal_some hf
                  have hFc := de_free hD hS hA
                  refine va_calli (va_runV (As := [.int p_34, .int 0]) (rest := []) ⟨hx, hb, hml, hown, hts⟩ (de_X13_isPointed l dC dI cy a sh n H.size F z_35 h0 p_34 0 hfc) (cwV 2 hts gX13_call_X13_isPointed rfl rfl rfl (by decide +kernel) ⟨Nat.le_of_ble_eq_true rfl, Nat.le_of_ble_eq_true rfl⟩) ⟨fun a U g mk q => by obtain ⟨q0, q1, qP, qK, qD, qN⟩ := q; exact ⟨q0, q1, qP, va_K.moved (u := U) (U := U.calling g mk a) (Vm.Alike.refl U.vm) qK, qD, qN.same rfl⟩, va_recv hK hP (ci := 13) (q0 := h0) rfl (Wd_ob kg_1 sg_1 (by decide)), fun U hU hW => ⟨rfl, by rw [hU], by rw [hU]; exact hP, va_K.moved hW.alike hK, hD.weaken (fun _ _ _ _ => trivial), hN.warm hW⟩⟩ rfl rfl hl.1 rfl (lv_room (Nat.le_of_ble_eq_true rfl)) dX13_call_288 ⟨Nat.le_of_ble_eq_true rfl, Nat.le_of_ble_eq_true rfl⟩) hS (fun q _ h => hFc q h) hFc (fun rr u t H_73 locs ht hvm hw hB hz1 hk1 hS2 => ?_)
                  rw [hw]
                  clear hw
                  obtain ⟨hP1, -, hD1⟩ := hB
                  rw [ht] at hP1
                  replace hD := hD1.weaken (fun _ _ _ h => hFc _ h)
                  replace hP := hP1
                  replace hS := hS2
                  clear hP1 hD1 hS2 hFc hfc hz1 hk1 hvm ht
                  refine lv_if_eq (tgt := 298) hx hb dX13_call_291 (by decide) (fun c_74 => ?_) (fun c_74 => ?_)
                  · skip
                    rw [if_pos c_74] at hf
                    refine lv_iconst (v := 0) hx hb dX13_call_298 (by decide) ?_
                    exact B299 (z_71, 0) ls H_73 locs ⟨lv_sub hl [0, 2, 3, 4, 5, 6] rfl, hP, hD, hS⟩ hf
                  · skip
                    rw [if_neg c_74] at hf
                    exact B294 (z_71) ls H_73 locs ⟨lv_sub hl [0, 2, 3, 4, 5, 6] rfl, hP, hD, hS⟩ hf
            refine lv_if_eq (tgt := 265) hx hb dX13_call_258 (by decide) (fun c_75 => ?_) (fun c_75 => ?_)
            · skip
              rw [lg_cmp_eq] at c_75
              rw [if_pos c_75] at hf
              refine lv_iconst (v := 0) hx hb dX13_call_265 (by decide) ?_
              exact B266 (z_28, 0) ls H locs ⟨lv_sub hl [1, 2, 3, 6, 7] rfl, hP, hD, hS⟩ hf
            · skip
              rw [lg_cmp_eq] at c_75
              rw [if_neg c_75] at hf
              refine lv_iconst (v := 1) hx hb dX13_call_261 (by decide) ?_
              refine lv_goto (tgt := 266) hx hb dX13_call_262 (by decide) ?_
              exact B266 (z_28, 1) ls H locs ⟨lv_sub hl [1, 2, 3, 6, 7] rfl, hP, hD, hS⟩ hf
          · skip
            rw [if_neg c_30] at hf
            refine lv_lload hx hb dX13_call_123 (lv_at hl 2 rfl) ?_
            refine lv_aload_n hx hb dX13_call_125 rfl (lv_at hl 6 rfl) ?_
            obtain ⟨k_76, ek_76, hf⟩ := lnk_some hf
            refine va_get (D := (dC, dI)) (ci := 13) (v := .ref (a k_76)) (C := RX13) (T := TX13) (N := 22) hx hb hts iwd_X13_call_X13 hown hK hP h0 (Wd_ob kg_1 sg_1 (by decide)) rfl 12 (by decide) (hts _ md_X13_call_5) (fun _ h9 => h9) (fl_q rfl ek_76) dX13_call_126 ?_
            refine lv_iload_n hx hb dX13_call_129 rfl (lv_at hl 4 rfl) ?_
            refine lv_iload hx hb dX13_call_130 (lv_at hl 0 rfl) ?_
            refine lv_iadd hx hb dX13_call_132 ?_
            obtain ⟨g_77, hf⟩ := grd_some hf
            obtain ⟨kg_77, sg_77, ig_77⟩ := okA_at g_77
            refine va_lald hx hb hK hP k_76 2 (Wd_al kg_77 sg_77) rfl ig_77 dX13_call_133 ?_
            refine lv_lor hx hb dX13_call_134 ?_
            refine lv_topl (fun v_78 ev_78 => ?_)
            replace hf := lt_at ev_78 hf
            clear ev_78
            refine lv_lstore (lv' := [(5, .long v_78), (9, .int p_27), (7, .long p_26), (4, .int p_19), (3, .int v_7), (2, .int r_4), (0, .ref (a h0)), (1, .int x0)]) hx hb dX13_call_135 hl (by decide) rfl (fun ls hl2 => ?_)
            replace hl := hl2
            clear hl2
            refine lv_aload_n hx hb dX13_call_137 rfl (lv_at hl 6 rfl) ?_
            obtain ⟨k_79, ek_79, hf⟩ := lnk_some hf
            refine va_get (D := (dC, dI)) (ci := 13) (v := .ref (a k_79)) (C := RX13) (T := TX13) (N := 22) hx hb hts iwd_X13_call_X13 hown hK hP h0 (Wd_ob kg_1 sg_1 (by decide)) rfl 11 (by decide) (hts _ md_X13_call_6) (fun _ h9 => h9) (fl_q rfl ek_79) dX13_call_138 ?_
            refine lv_iload_n hx hb dX13_call_141 rfl (lv_at hl 4 rfl) ?_
            refine lv_iload hx hb dX13_call_142 (lv_at hl 1 rfl) ?_
            refine lv_iadd hx hb dX13_call_144 ?_
            obtain ⟨g_80, hf⟩ := grd_some hf
            obtain ⟨kg_80, sg_80, ig_80⟩ := okA_at g_80
            refine va_lald hx hb hK hP k_79 2 (Wd_al kg_80 sg_80) rfl ig_80 dX13_call_145 ?_
            obtain ⟨z_81, r_82, hfc, hf⟩ := cal_some hf
            have hFc := de_free hD hS hA
            refine va_calli (va_runS (As := [.long (z_28.2.1 k_79 (v_7 + p_27).toNatClampNeg)]) (rest := []) ⟨hx, hb, hml, hown, hts⟩ (de_X13_writes l dC dI cy a sh n H.size F z_28 (z_28.2.1 k_79 (v_7 + p_27).toNatClampNeg) hfc) (va_cwS 1 hts gX13_call_X13_writes rfl rfl rfl (by decide +kernel) ⟨Nat.le_of_ble_eq_true rfl, Nat.le_of_ble_eq_true rfl⟩) ⟨fun a U g mk q => by obtain ⟨q0, q1, qP, qK, qD, qN⟩ := q; exact ⟨q0, q1, qP, va_K.moved (u := U) (U := U.calling g mk a) (Vm.Alike.refl U.vm) qK, qD, qN.same rfl⟩, fun U hU hW => ⟨rfl, by rw [hU], by rw [hU]; exact hP, va_K.moved hW.alike hK, hD.weaken (fun _ _ _ _ => trivial), hN.warm hW⟩⟩ rfl rfl hl.1 rfl (lv_room (Nat.le_of_ble_eq_true rfl)) dX13_call_146 ⟨Nat.le_of_ble_eq_true rfl, Nat.le_of_ble_eq_true rfl⟩) hS (fun q _ h => hFc q h) hFc (fun rr u t H_83 locs ht hvm hw hB hz1 hk1 hS2 => ?_)
            rw [hw]
            clear hw
            obtain ⟨hP1, -, hD1⟩ := hB
            rw [ht] at hP1
            replace hD := hD1.weaken (fun _ _ _ h => hFc _ h)
            replace hP := hP1
            replace hS := hS2
            clear hP1 hD1 hS2 hFc hfc hz1 hk1 hvm ht
            refine de_cut (h := 245) (fun (x : St × Int64) => []) (fun x ls H locs => lv_has ls 13 [(7, .long x.2), (5, .long v_78), (9, .int p_27), (4, .int p_19), (3, .int v_7), (2, .int r_4), (0, .ref (a h0)), (1, .int x0)] ∧ va_P (dC, dI) vwCl (Wd cy a sh n x.1) H ∧ va_D A (Wd cy a sh n x.1) ∧ va_S A s.heap H locs) (fun x => fn_X13_call_B245 F sh n v_78 p_27 (fun z9 q5 q7 q9 => fn_X13_call_L117 F sh n r_4 p_19 h0 x0 v_7 f_29 z9 q5 q7 q9) x.1 x.2) (z8, r8) ?_ (fun B245 => ?_)
            · intro x ls H locs hI hf
              obtain ⟨z_85, p_84⟩ := x
              obtain ⟨hl2, hP2, hD2, hS2⟩ := hI
              replace hl : lv_has ls 13 [(7, .long p_84), (5, .long v_78), (9, .int p_27), (4, .int p_19), (3, .int v_7), (2, .int r_4), (0, .ref (a h0)), (1, .int x0)] := hl2
              replace hP := hP2
              replace hD := hD2
              replace hS := hS2
              clear hl2 hP2 hD2 hS2
              replace hf := fn_X13_call_B245_s hf
              refine W.eq (g2 := F0 m 245 ls []) rfl ?_
              refine lv_iinc (v := (p_27 + 1)) (lv' := [(9, .int (p_27 + 1)), (7, .long p_84), (5, .long v_78), (4, .int p_19), (3, .int v_7), (2, .int r_4), (0, .ref (a h0)), (1, .int x0)]) hx hb dX13_call_245 hl (k := 2) rfl rfl (by decide) rfl (fun ls hl2 => ?_)
              replace hl := hl2
              clear hl2
              refine lv_goto (tgt := 117) hx hb dX13_call_248 (by decide) ?_
              exact ih117 (z_85, v_78, p_84, (p_27 + 1)) ls H locs ⟨lv_sub hl [0, 1, 2, 3, 4, 5, 6, 7] rfl, hP, hD, hS⟩ hf
            refine lv_if_ne (tgt := 155) hx hb dX13_call_149 (by decide) (fun c_86 => ?_) (fun c_86 => ?_)
            · skip
              rw [if_neg c_86] at hf
              refine lv_lload hx hb dX13_call_155 (lv_at hl 2 rfl) ?_
              refine lv_aload_n hx hb dX13_call_157 rfl (lv_at hl 6 rfl) ?_
              obtain ⟨k_87, ek_87, hf⟩ := lnk_some hf
              refine va_get (D := (dC, dI)) (ci := 13) (v := .ref (a k_87)) (C := RX13) (T := TX13) (N := 22) hx hb hts iwd_X13_call_X13 hown hK hP h0 (Wd_ob kg_1 sg_1 (by decide)) rfl 12 (by decide) (hts _ md_X13_call_5) (fun _ h9 => h9) (fl_q rfl ek_87) dX13_call_158 ?_
              refine lv_iload_n hx hb dX13_call_161 rfl (lv_at hl 4 rfl) ?_
              refine lv_iload hx hb dX13_call_162 (lv_at hl 1 rfl) ?_
              refine lv_iadd hx hb dX13_call_164 ?_
              obtain ⟨g_88, hf⟩ := grd_some hf
              obtain ⟨kg_88, sg_88, ig_88⟩ := okA_at g_88
              refine va_lald hx hb hK hP k_87 2 (Wd_al kg_88 sg_88) rfl ig_88 dX13_call_165 ?_
              refine lv_lor hx hb dX13_call_166 ?_
              refine lv_topl (fun v_89 ev_89 => ?_)
              replace hf := lt_at ev_89 hf
              clear ev_89
              refine lv_lstore (lv' := [(7, .long v_89), (5, .long v_78), (9, .int p_27), (4, .int p_19), (3, .int v_7), (2, .int r_4), (0, .ref (a h0)), (1, .int x0)]) hx hb dX13_call_167 hl (by decide) rfl (fun ls hl2 => ?_)
              replace hl := hl2
              clear hl2
              refine lv_aload_n hx hb dX13_call_169 rfl (lv_at hl 6 rfl) ?_
              refine lv_aload_n hx hb dX13_call_170 rfl (lv_at hl 6 rfl) ?_
              refine lv_aload_n hx hb dX13_call_171 rfl (lv_at hl 6 rfl) ?_
              obtain ⟨k_90, ek_90, hf⟩ := lnk_some hf
              refine va_get (D := (dC, dI)) (ci := 13) (v := .ref (a k_90)) (C := RX13) (T := TX13) (N := 22) hx hb hts iwd_X13_call_X13 hown hK hP h0 (Wd_ob kg_1 sg_1 (by decide)) rfl 12 (by decide) (hts _ md_X13_call_5) (fun _ h9 => h9) (fl_q rfl ek_90) dX13_call_172 ?_
              refine lv_iload_n hx hb dX13_call_175 rfl (lv_at hl 4 rfl) ?_
              refine lv_iload hx hb dX13_call_176 (lv_at hl 2 rfl) ?_
              refine lv_iadd hx hb dX13_call_178 ?_
              obtain ⟨g_91, hf⟩ := grd_some hf
              obtain ⟨kg_91, sg_91, ig_91⟩ := okA_at g_91
              refine va_lald hx hb hK hP k_90 2 (Wd_al kg_91 sg_91) rfl ig_91 dX13_call_179 ?_
              obtain ⟨z_92, r_93, hfc, hf⟩ := cal_some hf
              have hFc := de_free hD hS hA
              refine va_calli (va_runV (As := [.long (z_81.2.1 k_90 (v_7 + p_27).toNatClampNeg)]) (rest := [.ref (a h0)]) ⟨hx, hb, hml, hown, hts⟩ (de_X13_isSole l dC dI cy a sh n H_83.size F z_81 h0 (z_81.2.1 k_90 (v_7 + p_27).toNatClampNeg) hfc) (cwV 1 hts gX13_call_X13_isSole rfl rfl rfl (by decide +kernel) ⟨Nat.le_of_ble_eq_true rfl, Nat.le_of_ble_eq_true rfl⟩) ⟨fun a U g mk q => by obtain ⟨q0, q1, qP, qK, qD, qN⟩ := q; exact ⟨q0, q1, qP, va_K.moved (u := U) (U := U.calling g mk a) (Vm.Alike.refl U.vm) qK, qD, qN.same rfl⟩, va_recv hK hP (ci := 13) (q0 := h0) rfl (Wd_ob kg_1 sg_1 (by decide)), fun U hU hW => ⟨rfl, by rw [hU], by rw [hU]; exact hP, va_K.moved hW.alike hK, hD.weaken (fun _ _ _ _ => trivial), hN.warm hW⟩⟩ rfl rfl hl.1 rfl (lv_room (Nat.le_of_ble_eq_true rfl)) dX13_call_180 ⟨Nat.le_of_ble_eq_true rfl, Nat.le_of_ble_eq_true rfl⟩) hS (fun q _ h => hFc q h) hFc (fun rr u t H_94 locs ht hvm hw hB hz1 hk1 hS2 => ?_)
              rw [hw]
              clear hw
              obtain ⟨hP1, -, hD1⟩ := hB
              rw [ht] at hP1
              replace hD := hD1.weaken (fun _ _ _ h => hFc _ h)
              replace hP := hP1
              replace hS := hS2
              clear hP1 hD1 hS2 hFc hfc hz1 hk1 hvm ht
              refine lv_bipush (v := 6) hx hb dX13_call_183 (by decide) ?_
              obtain ⟨z_95, _u, hfc, hf⟩ := cal_some hf
              have hFc := de_free hD hS hA
              refine va_callv (va_runV (As := [.int r_93, .int 6]) (rest := []) ⟨hx, hb, hml, hown, hts⟩ (de_X13_need l dC dI cy a sh n H_94.size F z_92 h0 r_93 6 hfc) (cwV 2 hts gX13_call_X13_need rfl rfl rfl (by decide +kernel) ⟨Nat.le_of_ble_eq_true rfl, Nat.le_of_ble_eq_true rfl⟩) ⟨fun a U g mk q => by obtain ⟨q0, q1, qP, qK, qD, qN⟩ := q; exact ⟨q0, q1, qP, va_K.moved (u := U) (U := U.calling g mk a) (Vm.Alike.refl U.vm) qK, qD, qN.same rfl⟩, va_recv hK hP (ci := 13) (q0 := h0) rfl (Wd_ob kg_1 sg_1 (by decide)), fun U hU hW => ⟨rfl, by rw [hU], by rw [hU]; exact hP, va_K.moved hW.alike hK, hD.weaken (fun _ _ _ _ => trivial), hN.warm hW⟩⟩ rfl rfl hl.1 rfl (lv_room (Nat.le_of_ble_eq_true rfl)) dX13_call_185 ⟨Nat.le_of_ble_eq_true rfl, Nat.le_of_ble_eq_true rfl⟩) hS (fun q _ h => hFc q h) hFc (fun u t H_96 locs ht hvm hw hB hz1 hk1 hS2 => ?_)
              obtain ⟨hP1, -, hD1⟩ := hB
              rw [ht] at hP1
              replace hD := hD1.weaken (fun _ _ _ h => hFc _ h)
              replace hP := hP1
              replace hS := hS2
              clear hP1 hD1 hS2 hFc hfc hz1 hk1 hvm ht
              refine lv_iconst (v := 0) hx hb dX13_call_188 (by decide) ?_
              refine lv_istore (lv' := [(10, .int 0), (7, .long v_89), (5, .long v_78), (9, .int p_27), (4, .int p_19), (3, .int v_7), (2, .int r_4), (0, .ref (a h0)), (1, .int x0)]) hx hb dX13_call_189 hl (by decide) rfl (fun ls hl2 => ?_)
              replace hl := hl2
              clear hl2
              have hl0 : lv_has ls 13 [(10, .int 0), (7, .long v_89), (5, .long v_78), (9, .int p_27), (4, .int p_19), (3, .int v_7), (2, .int r_4), (0, .ref (a h0)), (1, .int x0)] := lv_sub hl [0, 1, 2, 3, 4, 5, 6, 7, 8] rfl
              refine de_loop (h := 191) (fun (x : St × Int32) ls H locs => lv_has ls 13 [(10, .int x.2), (7, .long v_89), (5, .long v_78), (9, .int p_27), (4, .int p_19), (3, .int v_7), (2, .int r_4), (0, .ref (a h0)), (1, .int x0)] ∧ va_P (dC, dI) vwCl (Wd cy a sh n x.1) H ∧ va_D A (Wd cy a sh n x.1) ∧ va_S A s.heap H locs) (fun f x => fn_X13_call_L191 F sh n r_4 v_78 p_27 v_89 h0 v_7 (fun z9 q5 q7 q9 => fn_X13_call_L117 F sh n r_4 p_19 h0 x0 v_7 f_29 z9 q5 q7 q9) f x.1 x.2) (z8, r8) ?_ (fun _ => rfl) F (z_95, 0) ls H_96 locs ⟨hl0, hP, hD, hS⟩ hf
              intro f_99 x ls H locs ih191 hI hf
              obtain ⟨z_98, p_97⟩ := x
              obtain ⟨hl2, hP2, hD2, hS2⟩ := hI
              replace hl : lv_has ls 13 [(10, .int p_97), (7, .long v_89), (5, .long v_78), (9, .int p_27), (4, .int p_19), (3, .int v_7), (2, .int r_4), (0, .ref (a h0)), (1, .int x0)] := hl2
              replace hP := hP2
              replace hD := hD2
              replace hS := hS2
              clear hl2 hP2 hD2 hS2 hl0
              replace hf := fn_X13_call_L191_s hf
              refine lv_iload hx hb dX13_call_191 (lv_at hl 0 rfl) ?_
              refine lv_iload_n hx hb dX13_call_193 rfl (lv_at hl 6 rfl) ?_
              refine lv_icmp_ge (tgt := 245) hx hb dX13_call_194 (by decide) (fun c_100 => ?_) (fun c_100 => ?_)
              · skip
                rw [if_pos c_100] at hf
                exact B245 (z_98, v_89) ls H locs ⟨lv_sub hl [1, 2, 3, 4, 5, 6, 7, 8] rfl, hP, hD, hS⟩ hf
              · skip
                rw [if_neg c_100] at hf
                refine lv_aload_n hx hb dX13_call_197 rfl (lv_at hl 7 rfl) ?_
                refine lv_iload hx hb dX13_call_198 (lv_at hl 0 rfl) ?_
                refine lv_iload hx hb dX13_call_200 (lv_at hl 3 rfl) ?_
                refine de_cut (h := 234) (fun (x : St × Int32) => [.int x.2, .ref (a h0)]) (fun x ls H locs => lv_has ls 13 [(10, .int p_97), (7, .long v_89), (5, .long v_78), (9, .int p_27), (4, .int p_19), (3, .int v_7), (2, .int r_4), (0, .ref (a h0)), (1, .int x0)] ∧ va_P (dC, dI) vwCl (Wd cy a sh n x.1) H ∧ va_D A (Wd cy a sh n x.1) ∧ va_S A s.heap H locs) (fun x => fn_X13_call_B234 F sh n h0 p_97 (fun z9 q10 => fn_X13_call_L191 F sh n r_4 v_78 p_27 v_89 h0 v_7 (fun z9 q5 q7 q9 => fn_X13_call_L117 F sh n r_4 p_19 h0 x0 v_7 f_29 z9 q5 q7 q9) f_99 z9 q10) x.1 x.2) (z8, r8) ?_ (fun B234 => ?_)
                · intro x ls H locs hI hf
                  obtain ⟨z_102, p_101⟩ := x
                  obtain ⟨hl2, hP2, hD2, hS2⟩ := hI
                  replace hl : lv_has ls 13 [(10, .int p_97), (7, .long v_89), (5, .long v_78), (9, .int p_27), (4, .int p_19), (3, .int v_7), (2, .int r_4), (0, .ref (a h0)), (1, .int x0)] := hl2
                  replace hP := hP2
                  replace hD := hD2
                  replace hS := hS2
                  clear hl2 hP2 hD2 hS2
                  replace hf := fn_X13_call_B234_s hf
                  refine W.eq (g2 := F0 m 234 ls [.int p_101, .ref (a h0)]) rfl ?_
                  refine lv_bipush (v := 6) hx hb dX13_call_234 (by decide) ?_
                  obtain ⟨z_103, _u, hfc, hf⟩ := cal_some hf
                  have hFc := de_free hD hS hA
                  refine va_callv (va_runV (As := [.int p_101, .int 6]) (rest := []) ⟨hx, hb, hml, hown, hts⟩ (de_X13_need l dC dI cy a sh n H.size F z_102 h0 p_101 6 hfc) (cwV 2 hts gX13_call_X13_need rfl rfl rfl (by decide +kernel) ⟨Nat.le_of_ble_eq_true rfl, Nat.le_of_ble_eq_true rfl⟩) ⟨fun a U g mk q => by obtain ⟨q0, q1, qP, qK, qD, qN⟩ := q; exact ⟨q0, q1, qP, va_K.moved (u := U) (U := U.calling g mk a) (Vm.Alike.refl U.vm) qK, qD, qN.same rfl⟩, va_recv hK hP (ci := 13) (q0 := h0) rfl (Wd_ob kg_1 sg_1 (by decide)), fun U hU hW => ⟨rfl, by rw [hU], by rw [hU]; exact hP, va_K.moved hW.alike hK, hD.weaken (fun _ _ _ _ => trivial), hN.warm hW⟩⟩ rfl rfl hl.1 rfl (lv_room (Nat.le_of_ble_eq_true rfl)) dX13_call_236 ⟨Nat.le_of_ble_eq_true rfl, Nat.le_of_ble_eq_true rfl⟩) hS (fun q _ h => hFc q h) hFc (fun u t H_104 locs ht hvm hw hB hz1 hk1 hS2 => ?_)
                  obtain ⟨hP1, -, hD1⟩ := hB
                  rw [ht] at hP1
                  replace hD := hD1.weaken (fun _ _ _ h => hFc _ h)
                  replace hP := hP1
                  replace hS := hS2
                  clear hP1 hD1 hS2 hFc hfc hz1 hk1 hvm ht
                  refine lv_iinc (v := (p_97 + 1)) (lv' := [(10, .int (p_97 + 1)), (7, .long v_89), (5, .long v_78), (9, .int p_27), (4, .int p_19), (3, .int v_7), (2, .int r_4), (0, .ref (a h0)), (1, .int x0)]) hx hb dX13_call_239 hl (k := 0) rfl rfl (by decide) rfl (fun ls hl2 => ?_)
                  replace hl := hl2
                  clear hl2
                  refine lv_goto (tgt := 191) hx hb dX13_call_242 (by decide) ?_
                  exact ih191 (z_103, (p_97 + 1)) ls H_104 locs ⟨lv_sub hl [0, 1, 2, 3, 4, 5, 6, 7, 8] rfl, hP, hD, hS⟩ hf
                refine de_cut (h := 229) (fun (x : St) => [.ref (a h0)]) (fun x ls H locs => lv_has ls 13 [(10, .int p_97), (7, .long v_89), (5, .long v_78), (9, .int p_27), (4, .int p_19), (3, .int v_7), (2, .int r_4), (0, .ref (a h0)), (1, .int x0)] ∧ va_P (dC, dI) vwCl (Wd cy a sh n x) H ∧ va_D A (Wd cy a sh n x) ∧ va_S A s.heap H locs) (fun x => fn_X13_call_B229 F sh n h0 p_97 (fun z9 q10 => fn_X13_call_L191 F sh n r_4 v_78 p_27 v_89 h0 v_7 (fun z9 q5 q7 q9 => fn_X13_call_L117 F sh n r_4 p_19 h0 x0 v_7 f_29 z9 q5 q7 q9) f_99 z9 q10) x) (z8, r8) ?_ (fun B229 => ?_)
                · intro x ls H locs hI hf
                  obtain ⟨z_105, ez⟩ : ∃ w, w = x := ⟨_, rfl⟩
                  subst ez
                  obtain ⟨hl2, hP2, hD2, hS2⟩ := hI
                  replace hl : lv_has ls 13 [(10, .int p_97), (7, .long v_89), (5, .long v_78), (9, .int p_27), (4, .int p_19), (3, .int v_7), (2, .int r_4), (0, .ref (a h0)), (1, .int x0)] := hl2
                  replace hP := hP2
                  replace hD := hD2
                  replace hS := hS2
                  clear hl2 hP2 hD2 hS2
                  replace hf := fn_X13_call_B229_s hf
                  refine W.eq (g2 := F0 m 229 ls [.ref (a h0)]) rfl ?_
                  refine lv_iconst (v := 1) hx hb dX13_call_229 (by decide) ?_
                  refine lv_goto (tgt := 234) hx hb dX13_call_230 (by decide) ?_
                  exact B234 (z_105, 1) ls H locs ⟨lv_sub hl [0, 1, 2, 3, 4, 5, 6, 7, 8] rfl, hP, hD, hS⟩ hf
                refine lv_icmp_eq (tgt := 229) hx hb dX13_call_202 (by decide) (fun c_106 => ?_) (fun c_106 => ?_)
                · skip
                  rw [if_pos c_106] at hf
                  exact B229 (z_98) ls H locs ⟨lv_sub hl [0, 1, 2, 3, 4, 5, 6, 7, 8] rfl, hP, hD, hS⟩ hf
                · skip
                  rw [if_neg c_106] at hf
                  refine lv_aload_n hx hb dX13_call_205 rfl (lv_at hl 7 rfl) ?_
                  obtain ⟨k_107, ek_107, hf⟩ := lnk_some hf
                  refine va_get (D := (dC, dI)) (ci := 13) (v := .ref (a k_107)) (C := RX13) (T := TX13) (N := 22) hx hb hts iwd_X13_call_X13 hown hK hP h0 (Wd_ob kg_1 sg_1 (by decide)) rfl 12 (by decide) (hts _ md_X13_call_5) (fun _ h9 => h9) (fl_q rfl ek_107) dX13_call_206 ?_
                  refine lv_iload_n hx hb dX13_call_209 rfl (lv_at hl 5 rfl) ?_
                  refine lv_iload hx hb dX13_call_210 (lv_at hl 0 rfl) ?_
                  refine lv_iadd hx hb dX13_call_212 ?_
                  obtain ⟨g_108, hf⟩ := grd_some hf
                  obtain ⟨kg_108, sg_108, ig_108⟩ := okA_at g_108
                  refine va_lald hx hb hK hP k_107 2 (Wd_al kg_108 sg_108) rfl ig_108 dX13_call_213 ?_
                  refine lv_aload_n hx hb dX13_call_214 rfl (lv_at hl 7 rfl) ?_
                  obtain ⟨k_109, ek_109, hf⟩ := lnk_some hf
                  refine va_get (D := (dC, dI)) (ci := 13) (v := .ref (a k_109)) (C := RX13) (T := TX13) (N := 22) hx hb hts iwd_X13_call_X13 hown hK hP h0 (Wd_ob kg_1 sg_1 (by decide)) rfl 12 (by decide) (hts _ md_X13_call_5) (fun _ h9 => h9) (fl_q rfl ek_109) dX13_call_215 ?_
                  refine lv_iload_n hx hb dX13_call_218 rfl (lv_at hl 5 rfl) ?_
                  refine lv_iload hx hb dX13_call_219 (lv_at hl 3 rfl) ?_
                  refine lv_iadd hx hb dX13_call_221 ?_
                  obtain ⟨g_110, hf⟩ := grd_some hf
                  obtain ⟨kg_110, sg_110, ig_110⟩ := okA_at g_110
                  refine va_lald hx hb hK hP k_109 2 (Wd_al kg_110 sg_110) rfl ig_110 dX13_call_222 ?_
                  refine lv_land hx hb dX13_call_223 ?_
                  refine lv_lconst (v := 0) hx hb dX13_call_224 (by decide) ?_
                  refine W.lcmp hx hb dX13_call_225 ?_
                  refine lv_if_ne (tgt := 233) hx hb dX13_call_226 (by decide) (fun c_111 => ?_) (fun c_111 => ?_)
                  · skip
                    rw [lg_cmp_eq] at c_111
                    rw [if_neg c_111] at hf
                    refine lv_iconst (v := 0) hx hb dX13_call_233 (by decide) ?_
                    exact B234 (z_98, 0) ls H locs ⟨lv_sub hl [0, 1, 2, 3, 4, 5, 6, 7, 8] rfl, hP, hD, hS⟩ hf
                  · skip
                    rw [lg_cmp_eq] at c_111
                    rw [if_pos c_111] at hf
                    exact B229 (z_98) ls H locs ⟨lv_sub hl [0, 1, 2, 3, 4, 5, 6, 7, 8] rfl, hP, hD, hS⟩ hf
            · skip
              rw [if_pos c_86] at hf
              refine lv_goto (tgt := 245) hx hb dX13_call_152 (by decide) ?_
              exact B245 (z_81, p_26) ls H_83 locs ⟨lv_sub hl [2, 0, 1, 3, 4, 5, 6, 7] rfl, hP, hD, hS⟩ hf
        refine de_cut (h := 98) (fun (x : St) => [.ref (a h0)]) (fun x ls H locs => lv_has ls 13 [(4, .int p_19), (3, .int v_7), (2, .int r_4), (0, .ref (a h0)), (1, .int x0)] ∧ va_P (dC, dI) vwCl (Wd cy a sh n x) H ∧ va_D A (Wd cy a sh n x) ∧ va_S A s.heap H locs) (fun x => fn_X13_call_B98 F sh n h0 r_4 p_19 x0 v_7 x) (z8, r8) ?_ (fun B98 => ?_)
        · intro x ls H locs hI hf
          obtain ⟨z_112, ez⟩ : ∃ w, w = x := ⟨_, rfl⟩
          subst ez
          obtain ⟨hl2, hP2, hD2, hS2⟩ := hI
          replace hl : lv_has ls 13 [(4, .int p_19), (3, .int v_7), (2, .int r_4), (0, .ref (a h0)), (1, .int x0)] := hl2
          replace hP := hP2
          replace hD := hD2
          replace hS := hS2
          clear hl2 hP2 hD2 hS2
          replace hf := fn_X13_call_B98_s hf
          refine W.eq (g2 := F0 m 98 ls [.ref (a h0)]) rfl ?_
          refine lv_iconst (v := 1) hx hb dX13_call_98 (by decide) ?_
          refine lv_goto (tgt := 103) hx hb dX13_call_99 (by decide) ?_
          exact B103 (z_112, 1) ls H locs ⟨lv_sub hl [0, 1, 2, 3, 4] rfl, hP, hD, hS⟩ hf
        refine lv_if_eq (tgt := 98) hx hb dX13_call_79 (by decide) (fun c_113 => ?_) (fun c_113 => ?_)
        · skip
          rw [if_pos c_113] at hf
          exact B98 (z_20) ls H locs ⟨lv_sub hl [0, 1, 2, 3, 4] rfl, hP, hD, hS⟩ hf
        · skip
          rw [if_neg c_113] at hf
          refine lv_aload_n hx hb dX13_call_82 rfl (lv_at hl 3 rfl) ?_
          obtain ⟨k_114, ek_114, hf⟩ := lnk_some hf
          refine va_get (D := (dC, dI)) (ci := 13) (v := .ref (a k_114)) (C := RX13) (T := TX13) (N := 22) hx hb hts iwd_X13_call_X13 hown hK hP h0 (Wd_ob kg_1 sg_1 (by decide)) rfl 0 (by decide) (hts _ md_X13_call_1) (fun _ h9 => h9) (fl_q rfl ek_114) dX13_call_83 ?_
          refine lv_aload_n hx hb dX13_call_86 rfl (lv_at hl 3 rfl) ?_
          refine va_get (D := (dC, dI)) (ci := 13) (v := .int (z_20.1 h0 1)) (C := RX13) (T := TX13) (N := 22) hx hb hts iwd_X13_call_X13 hown hK hP h0 (Wd_ob kg_1 sg_1 (by decide)) rfl 1 (by decide) (hts _ md_X13_call_4) (fun _ h9 => h9) (fl_at (t := 0) rfl) dX13_call_87 ?_
          obtain ⟨g_117, hf⟩ := grd_some hf
          obtain ⟨kg_117, sg_117⟩ := okO_at g_117
          obtain ⟨z_115, r_116, hfc, hf⟩ := cal_some hf
          have hFc := de_free hD hS hA
          refine va_calli (va_runV (As := [.int (z_20.1 h0 1)]) (rest := [.ref (a h0)]) ⟨hx, hb, hml, hown, hts⟩ (de_X16_flags l dC dI cy a sh n H.size F z_20 k_114 (z_20.1 h0 1) hfc) (cwV 1 hts gX13_call_X16_flags rfl rfl rfl (by decide +kernel) ⟨Nat.le_of_ble_eq_true rfl, Nat.le_of_ble_eq_true rfl⟩) ⟨fun a U g mk q => by obtain ⟨q0, q1, qP, qK, qD, qN⟩ := q; exact ⟨q0, q1, qP, va_K.moved (u := U) (U := U.calling g mk a) (Vm.Alike.refl U.vm) qK, qD, qN.same rfl⟩, va_recv hK hP (ci := 16) (q0 := k_114) rfl (Wd_ob kg_117 sg_117 (by decide)), fun U hU hW => ⟨rfl, by rw [hU], by rw [hU]; exact hP, va_K.moved hW.alike hK, hD.weaken (fun _ _ _ _ => trivial), hN.warm hW⟩⟩ rfl rfl hl.1 rfl (lv_room (Nat.le_of_ble_eq_true rfl)) dX13_call_90 ⟨Nat.le_of_ble_eq_true rfl, Nat.le_of_ble_eq_true rfl⟩) hS (fun q _ h => hFc q h) hFc (fun rr u t H_118 locs ht hvm hw hB hz1 hk1 hS2 => ?_)
          rw [hw]
          clear hw
          obtain ⟨hP1, -, hD1⟩ := hB
          rw [ht] at hP1
          replace hD := hD1.weaken (fun _ _ _ h => hFc _ h)
          replace hP := hP1
          replace hS := hS2
          clear hP1 hD1 hS2 hFc hfc hz1 hk1 hvm ht
          refine lv_iconst (v := 4) hx hb dX13_call_93 (by decide) ?_
          refine lv_iand hx hb dX13_call_94 ?_
          refine lv_if_eq (tgt := 102) hx hb dX13_call_95 (by decide) (fun c_119 => ?_) (fun c_119 => ?_)
          · skip
            rw [if_pos c_119] at hf
            refine lv_iconst (v := 0) hx hb dX13_call_102 (by decide) ?_
            exact B103 (z_115, 0) ls H_118 locs ⟨lv_sub hl [0, 1, 2, 3, 4] rfl, hP, hD, hS⟩ hf
          · skip
            rw [if_neg c_119] at hf
            exact B98 (z_115) ls H_118 locs ⟨lv_sub hl [0, 1, 2, 3, 4] rfl, hP, hD, hS⟩ hf
      refine lv_if_eq (tgt := 73) hx hb dX13_call_66 (by decide) (fun c_120 => ?_) (fun c_120 => ?_)
      · skip
        rw [if_pos c_120] at hf
        refine lv_iconst (v := 0) hx hb dX13_call_73 (by decide) ?_
        exact B74 (z_15, 0) ls H_18 locs ⟨lv_sub hl [1, 2, 3, 4] rfl, hP, hD, hS⟩ hf
      · skip
        rw [if_neg c_120] at hf
        refine lv_iconst (v := 1) hx hb dX13_call_69 (by decide) ?_
        refine lv_goto (tgt := 74) hx hb dX13_call_70 (by decide) ?_
        exact B74 (z_15, 1) ls H_18 locs ⟨lv_sub hl [1, 2, 3, 4] rfl, hP, hD, hS⟩ hf
    · skip
      rw [if_neg c_13] at hf
      obtain ⟨h8, h9⟩ := ret_some hf
      rw [h8]
      exact W.vret hx hb hr (fun t ht hW => ⟨⟨(), rfl, trivial, by rw [ht]; exact hP, va_K.moved hW.alike hK, hD⟩, hS.F ht⟩) hS.2.2 dX13_call_55
  · skip
    rw [if_neg c_12] at hf
    refine lv_aload_n hx hb dX13_call_27 rfl (lv_at hl 3 rfl) ?_
    refine lv_aload_n hx hb dX13_call_28 rfl (lv_at hl 3 rfl) ?_
    obtain ⟨k_121, ek_121, hf⟩ := lnk_some hf
    refine va_get (D := (dC, dI)) (ci := 13) (v := .ref (a k_121)) (C := RX13) (T := TX13) (N := 22) hx hb hts iwd_X13_call_X13 hown hK hP h0 (Wd_ob kg_1 sg_1 (by decide)) rfl 0 (by decide) (hts _ md_X13_call_1) (fun _ h9 => h9) (fl_q rfl ek_121) dX13_call_29 ?_
    refine lv_iload_n hx hb dX13_call_32 rfl (lv_at hl 4 rfl) ?_
    refine lv_iconst (v := 0) hx hb dX13_call_33 (by decide) ?_
    refine lv_iload hx hb dX13_call_34 (lv_at hl 0 rfl) ?_
    obtain ⟨g_124, hf⟩ := grd_some hf
    obtain ⟨kg_124, sg_124⟩ := okO_at g_124
    obtain ⟨z_122, r_123, hfc, hf⟩ := cal_some hf
    have hFc := de_free hD hS hA
    refine va_calll (va_runV (As := [.int x0, .int 0, .int p_9]) (rest := [.ref (a h0)]) ⟨hx, hb, hml, hown, hts⟩ (de_X16_listed l dC dI cy a sh n H.size F z_10 k_121 x0 0 p_9 hfc) (cwV 3 hts gX13_call_X16_listed rfl rfl rfl (by decide +kernel) ⟨Nat.le_of_ble_eq_true rfl, Nat.le_of_ble_eq_true rfl⟩) ⟨fun a U g mk q => by obtain ⟨q0, q1, qP, qK, qD, qN⟩ := q; exact ⟨q0, q1, qP, va_K.moved (u := U) (U := U.calling g mk a) (Vm.Alike.refl U.vm) qK, qD, qN.same rfl⟩, va_recv hK hP (ci := 16) (q0 := k_121) rfl (Wd_ob kg_124 sg_124 (by decide)), fun U hU hW => ⟨rfl, by rw [hU], by rw [hU]; exact hP, va_K.moved hW.alike hK, hD.weaken (fun _ _ _ _ => trivial), hN.warm hW⟩⟩ rfl rfl hl.1 rfl (lv_room (Nat.le_of_ble_eq_true rfl)) dX13_call_36 ⟨Nat.le_of_ble_eq_true rfl, Nat.le_of_ble_eq_true rfl⟩) hS (fun q _ h => hFc q h) hFc (fun rr u t H_125 locs ht hvm hw hB hz1 hk1 hS2 => ?_)
    rw [hw]
    clear hw
    obtain ⟨hP1, -, hD1⟩ := hB
    rw [ht] at hP1
    replace hD := hD1.weaken (fun _ _ _ h => hFc _ h)
    replace hP := hP1
    replace hS := hS2
    clear hP1 hD1 hS2 hFc hfc hz1 hk1 hvm ht
    obtain ⟨z_126, _u, hfc, hf⟩ := cal_some hf
    have hFc := de_free hD hS hA
    refine va_callv (va_runV (As := [.long r_123]) (rest := []) ⟨hx, hb, hml, hown, hts⟩ (de_X13_take_ l dC dI cy a sh n H_125.size F z_122 h0 r_123 hfc) (cwV 1 hts gX13_call_X13_take_ rfl rfl rfl (by decide +kernel) ⟨Nat.le_of_ble_eq_true rfl, Nat.le_of_ble_eq_true rfl⟩) ⟨fun a U g mk q => by obtain ⟨q0, q1, qP, qK, qD, qN⟩ := q; exact ⟨q0, q1, qP, va_K.moved (u := U) (U := U.calling g mk a) (Vm.Alike.refl U.vm) qK, qD, qN.same rfl⟩, va_recv hK hP (ci := 13) (q0 := h0) rfl (Wd_ob kg_1 sg_1 (by decide)), fun U hU hW => ⟨rfl, by rw [hU], by rw [hU]; exact hP, va_K.moved hW.alike hK, hD.weaken (fun _ _ _ _ => trivial), hN.warm hW⟩⟩ rfl rfl hl.1 rfl (lv_room (Nat.le_of_ble_eq_true rfl)) dX13_call_39 ⟨Nat.le_of_ble_eq_true rfl, Nat.le_of_ble_eq_true rfl⟩) hS (fun q _ h => hFc q h) hFc (fun u t H_127 locs ht hvm hw hB hz1 hk1 hS2 => ?_)
    obtain ⟨hP1, -, hD1⟩ := hB
    rw [ht] at hP1
    replace hD := hD1.weaken (fun _ _ _ h => hFc _ h)
    replace hP := hP1
    replace hS := hS2
    clear hP1 hD1 hS2 hFc hfc hz1 hk1 hvm ht
    refine lv_iinc (v := (p_9 + (-1))) (lv' := [(4, .int (p_9 + (-1))), (3, .int v_7), (2, .int r_4), (0, .ref (a h0)), (1, .int x0)]) hx hb dX13_call_42 hl (k := 0) rfl rfl (by decide) rfl (fun ls hl2 => ?_)
    replace hl := hl2
    clear hl2
    refine lv_goto (tgt := 22) hx hb dX13_call_45 (by decide) ?_
    exact ih22 (z_126, (p_9 + (-1))) ls H_127 locs ⟨lv_sub hl [0, 1, 2, 3, 4] rfl, hP, hD, hS⟩ hf

theorem md_X16_overAll_1 : (.fieldLink RX16 92 "ResourceLedgerModel$Unit" "structures" "I" : Cond) ∈ wsX16_overAll := List.mem_of_getElem? (i := 1) rfl
theorem iwd_X16_overAll_X16 : ∀ w ∈ wsX160, w ∈ wsX16_overAll := fun _ h => List.mem_cons_of_mem _ (List.mem_append_right _ h)
theorem md_X16_overAll_4 : (.fieldLink RX16 95 "ResourceLedgerModel$Unit" "foreigns" "I" : Cond) ∈ wsX16_overAll := List.mem_of_getElem? (i := 4) rfl
theorem md_X16_overAll_5 : (.fieldLink RX16 98 "ResourceLedgerModel$Unit" "callees" "I" : Cond) ∈ wsX16_overAll := List.mem_of_getElem? (i := 5) rfl
theorem md_X16_overAll_7 : (.fieldLink RX16 101 "ResourceLedgerModel$Unit" "elements" "I" : Cond) ∈ wsX16_overAll := List.mem_of_getElem? (i := 7) rfl
theorem md_X16_overAll_9 : (.fieldLink RX16 104 "ResourceLedgerModel$Unit" "functions" "I" : Cond) ∈ wsX16_overAll := List.mem_of_getElem? (i := 9) rfl
theorem md_X16_overAll_3 : (.fieldLink RX16 50 "ResourceLedgerModel$Unit" "at" "I" : Cond) ∈ wsX16_overAll := List.mem_of_getElem? (i := 3) rfl
theorem md_X16_overAll_10 : (.fieldLink RX16 43 "ResourceLedgerModel$Unit" "length" "I" : Cond) ∈ wsX16_overAll := List.mem_of_getElem? (i := 10) rfl
theorem md_X16_overAll_8 : (.fieldLink RX16 20 "ResourceLedgerModel$Unit" "elementAt" "[I" : Cond) ∈ wsX16_overAll := List.mem_of_getElem? (i := 8) rfl
theorem md_X16_overAll_6 : (.fieldLink RX16 17 "ResourceLedgerModel$Unit" "calleeAt" "[I" : Cond) ∈ wsX16_overAll := List.mem_of_getElem? (i := 6) rfl
theorem md_X16_overAll_2 : (.fieldLink RX16 13 "ResourceLedgerModel$Unit" "structureAt" "[I" : Cond) ∈ wsX16_overAll := List.mem_of_getElem? (i := 2) rfl
set_option maxHeartbeats 4000000 in
set_option maxRecDepth 100000 in
theorem de_X16_overAll (l : Launch) (dC : Nat → ClassId) (dI : Nat → Nat → Nat) (cy : Nat → ClassId) (a : Nat → Nat) (sh : Nat → Nat × Nat) (n sz : Nat) (F : Nat) (z : St) (h0 : Nat) {z8 : St} {r8 : Unit} (hf : fn_X16_overAll F sh n z h0 = some (z8, r8)) : Met l yX16_overAll wsX16_overAll ({ frames := 6, cells := 0, slots := 0, locals := 137 }) (va_Pc [.ref (a h0)] (fun U => U.heap.size = sz ∧ va_P (dC, dI) vwCl (Wd cy a sh n z) U.heap ∧ va_K (dC, dI) vwCl (TYS cy) U ∧ va_D (fun _ => True) (Wd cy a sh n z) ∧ NK U)) (va_Qv (fun u : Unit => True) (fun u t => va_P (dC, dI) vwCl (Wd cy a sh n z8) t.heap ∧ va_K (dC, dI) vwCl (TYS cy) t ∧ va_D (va_A (Wd cy a sh n z) sz) (Wd cy a sh n z8)) (va_A (Wd cy a sh n z) sz)) 0 0 (va_A (Wd cy a sh n z) sz) := by
  refine Met.ofW (cc := cX16_overAll) (maxL := 4) (ret := none) (by decide) rfl ?_
  intro p e s m args below meth c s₁ B hml hv
  obtain ⟨rfl, hsz, hP, hK, hD0, hN⟩ := hv
  have hx := B.exec
  have hb := B.bytes
  have hr := B.returns
  have hts := atoms_spec (ws := wsX16_overAll) B.pre
  have hown : s.vm.findClass RX16 = some m.cls := findClass_of_methodNamed B.named
  have hlocks := B.notSynchronized
  subst hsz
  have hD := hD0.self (sz := s.heap.size)
  clear hD0
  generalize hAe : va_A (Wd cy a sh n z) s.heap.size = A at hD ⊢
  have hA : ∀ q : Nat, s.heap.size ≤ q → A q := fun q h => by rw [← hAe]; exact Or.inr h
  clear hAe
  have hS : va_S A s.heap s.heap [] := va_S.rf
  have hl := lv_entry ([.ref (a h0)]) (n := 4) (Nat.le_of_ble_eq_true rfl)
  rw [lg_entry_eq]
  generalize (lg_sl ([.ref (a h0)]) ++ List.replicate (4 - (lg_sl ([.ref (a h0)])).length) Slot.unset).toArray = ls at hl ⊢
  replace hl : lv_has ls 4 [(0, .ref (a h0))] := hl
  unfold fn_X16_overAll at hf
  refine de_start hS hP (fun H locs hS hP => ?_)
  refine lv_iconst (v := 0) hx hb dX16_overAll_0 (by decide) ?_
  refine lv_istore_n (lv' := [(1, .int 0), (0, .ref (a h0))]) hx hb dX16_overAll_1 rfl hl (by decide) rfl (fun ls hl2 => ?_)
  replace hl := hl2
  clear hl2
  have hl0 : lv_has ls 4 [(1, .int 0), (0, .ref (a h0))] := lv_sub hl [0, 1] rfl
  refine de_loop (h := 2) (fun (x : St × Int32) ls H locs => lv_has ls 4 [(1, .int x.2), (0, .ref (a h0))] ∧ va_P (dC, dI) vwCl (Wd cy a sh n x.1) H ∧ va_D A (Wd cy a sh n x.1) ∧ va_S A s.heap H locs) (fun f x => fn_X16_overAll_L2 F sh n h0 f x.1 x.2) (z8, r8) ?_ (fun _ => rfl) F (z, 0) ls H locs ⟨hl0, hP, hD, hS⟩ hf
  intro f_3 x ls H locs ih2 hI hf
  obtain ⟨z_2, p_1⟩ := x
  obtain ⟨hl2, hP2, hD2, hS2⟩ := hI
  replace hl : lv_has ls 4 [(1, .int p_1), (0, .ref (a h0))] := hl2
  replace hP := hP2
  replace hD := hD2
  replace hS := hS2
  clear hl2 hP2 hD2 hS2 hl0
  replace hf := fn_X16_overAll_L2_s hf
  refine lv_iload_n hx hb dX16_overAll_2 rfl (lv_at hl 0 rfl) ?_
  refine lv_iconst (v := 4) hx hb dX16_overAll_3 (by decide) ?_
  refine de_cut (h := 80) (fun (x : St) => []) (fun x ls H locs => lv_has ls 4 [(0, .ref (a h0))] ∧ va_P (dC, dI) vwCl (Wd cy a sh n x) H ∧ va_D A (Wd cy a sh n x) ∧ va_S A s.heap H locs) (fun x => fn_X16_overAll_B80 F sh n h0 x) (z8, r8) ?_ (fun B80 => ?_)
  · intro x ls H locs hI hf
    obtain ⟨z_4, ez⟩ : ∃ w, w = x := ⟨_, rfl⟩
    subst ez
    obtain ⟨hl2, hP2, hD2, hS2⟩ := hI
    replace hl : lv_has ls 4 [(0, .ref (a h0))] := hl2
    replace hP := hP2
    replace hD := hD2
    replace hS := hS2
    clear hl2 hP2 hD2 hS2
    replace hf := fn_X16_overAll_B80_s hf
    refine W.eq (g2 := F0 m 80 ls []) rfl ?_
    refine lv_aload_n hx hb dX16_overAll_80 rfl (lv_at hl 0 rfl) ?_
    obtain ⟨g_7, hf⟩ := grd_some hf
    obtain ⟨kg_7, sg_7⟩ := okO_at g_7
    obtain ⟨z_5, r_6, hfc, hf⟩ := cal_some hf
    have hFc := de_free hD hS hA
    refine va_calli (va_runV (As := []) (rest := []) ⟨hx, hb, hml, hown, hts⟩ (de_X16_isGood l dC dI cy a sh n H.size F z_4 h0 hfc) (cwV 0 hts gX16_overAll_X16_isGood rfl rfl rfl (by decide +kernel) ⟨Nat.le_of_ble_eq_true rfl, Nat.le_of_ble_eq_true rfl⟩) ⟨fun a U g mk q => by obtain ⟨q0, q1, qP, qK, qD, qN⟩ := q; exact ⟨q0, q1, qP, va_K.moved (u := U) (U := U.calling g mk a) (Vm.Alike.refl U.vm) qK, qD, qN.same rfl⟩, va_recv hK hP (ci := 16) (q0 := h0) rfl (Wd_ob kg_7 sg_7 (by decide)), fun U hU hW => ⟨rfl, by rw [hU], by rw [hU]; exact hP, va_K.moved hW.alike hK, hD.weaken (fun _ _ _ _ => trivial), hN.warm hW⟩⟩ rfl rfl hl.1 rfl (lv_room (Nat.le_of_ble_eq_true rfl)) dX16_overAll_81 ⟨Nat.le_of_ble_eq_true rfl, Nat.le_of_ble_eq_true rfl⟩) hS (fun q _ h => hFc q h) hFc (fun rr u t H_8 locs ht hvm hw hB hz1 hk1 hS2 => ?_)
    rw [hw]
    clear hw
    obtain ⟨hP1, -, hD1⟩ := hB
    rw [ht] at hP1
    replace hD := hD1.weaken (fun _ _ _ h => hFc _ h)
    replace hP := hP1
    replace hS := hS2
    clear hP1 hD1 hS2 hFc hfc hz1 hk1 hvm ht
    refine de_cut (h := 93) (fun (x : St) => []) (fun x ls H locs => lv_has ls 4 [(0, .ref (a h0))] ∧ va_P (dC, dI) vwCl (Wd cy a sh n x) H ∧ va_D A (Wd cy a sh n x) ∧ va_S A s.heap H locs) (fun x => fn_X16_overAll_B93 F sh n h0 x) (z8, r8) ?_ (fun B93 => ?_)
    · intro x ls H locs hI hf
      obtain ⟨z_9, ez⟩ : ∃ w, w = x := ⟨_, rfl⟩
      subst ez
      obtain ⟨hl2, hP2, hD2, hS2⟩ := hI
      replace hl : lv_has ls 4 [(0, .ref (a h0))] := hl2
      replace hP := hP2
      replace hD := hD2
      replace hS := hS2
      clear hl2 hP2 hD2 hS2
      replace hf := fn_X16_overAll_B93_s hf
      refine W.eq (g2 := F0 m 93 ls []) rfl ?_
      refine lv_aload_n hx hb dX16_overAll_93 rfl (lv_at hl 0 rfl) ?_
      refine lv_aload_n hx hb dX16_overAll_94 rfl (lv_at hl 0 rfl) ?_
      obtain ⟨z_10, r_11, hfc, hf⟩ := cal_some hf
      have hFc := de_free hD hS hA
      refine va_calli (va_runV (As := []) (rest := [.ref (a h0)]) ⟨hx, hb, hml, hown, hts⟩ (de_X16_isGood l dC dI cy a sh n H.size F z_9 h0 hfc) (cwV 0 hts gX16_overAll_X16_isGood rfl rfl rfl (by decide +kernel) ⟨Nat.le_of_ble_eq_true rfl, Nat.le_of_ble_eq_true rfl⟩) ⟨fun a U g mk q => by obtain ⟨q0, q1, qP, qK, qD, qN⟩ := q; exact ⟨q0, q1, qP, va_K.moved (u := U) (U := U.calling g mk a) (Vm.Alike.refl U.vm) qK, qD, qN.same rfl⟩, va_recv hK hP (ci := 16) (q0 := h0) rfl (Wd_ob kg_7 sg_7 (by decide)), fun U hU hW => ⟨rfl, by rw [hU], by rw [hU]; exact hP, va_K.moved hW.alike hK, hD.weaken (fun _ _ _ _ => trivial), hN.warm hW⟩⟩ rfl rfl hl.1 rfl (lv_room (Nat.le_of_ble_eq_true rfl)) dX16_overAll_95 ⟨Nat.le_of_ble_eq_true rfl, Nat.le_of_ble_eq_true rfl⟩) hS (fun q _ h => hFc q h) hFc (fun rr u t H_12 locs ht hvm hw hB hz1 hk1 hS2 => ?_)
      rw [hw]
      clear hw
      obtain ⟨hP1, -, hD1⟩ := hB
      rw [ht] at hP1
      replace hD := hD1.weaken (fun _ _ _ h => hFc _ h)
      replace hP := hP1
      replace hS := hS2
      clear hP1 hD1 hS2 hFc hfc hz1 hk1 hvm ht
      refine de_cut (h := 112) (fun (x : St × Int32) => [.int x.2, .ref (a h0)]) (fun x ls H locs => lv_has ls 4 [(0, .ref (a h0))] ∧ va_P (dC, dI) vwCl (Wd cy a sh n x.1) H ∧ va_D A (Wd cy a sh n x.1) ∧ va_S A s.heap H locs) (fun x => fn_X16_overAll_B112 F sh n h0 x.1 x.2) (z8, r8) ?_ (fun B112 => ?_)
      · intro x ls H locs hI hf
        obtain ⟨z_14, p_13⟩ := x
        obtain ⟨hl2, hP2, hD2, hS2⟩ := hI
        replace hl : lv_has ls 4 [(0, .ref (a h0))] := hl2
        replace hP := hP2
        replace hD := hD2
        replace hS := hS2
        clear hl2 hP2 hD2 hS2
        replace hf := fn_X16_overAll_B112_s hf
        refine W.eq (g2 := F0 m 112 ls [.int p_13, .ref (a h0)]) rfl ?_
        refine va_put (D := (dC, dI)) (ci := 16) (v := .int p_13) (ty := .int) (C := RX16) (T := TX16) (N := 18) hx hb hts iwd_X16_overAll_X16 tyX16 tyX16_ok nmX16 hown hK hP hD hS h0 (Wd_ob kg_7 sg_7 (by decide)) rfl 5 (by decide) (hts _ md_X16_overAll_1) (fun _ h9 => h9) rfl (by decide +kernel) rfl rfl (by rw [fl_len]; decide) dX16_overAll_112 (fun H_15 locs hP2 hD2 hS2 => ?_)
        rw [Wd_si sg_7 (by decide) rfl] at hP2 hD2
        obtain ⟨z_16, ez_16⟩ : ∃ w, w = si z_14 h0 5 p_13 := ⟨_, rfl⟩
        rw [← ez_16] at hP2 hD2
        replace hf := lt_at ez_16 hf
        clear ez_16
        replace hP := hP2
        replace hD := hD2
        replace hS := hS2
        clear hP2 hD2 hS2
        refine lv_iconst (v := 0) hx hb dX16_overAll_115 (by decide) ?_
        refine lv_istore_n (lv' := [(1, .int 0), (0, .ref (a h0))]) hx hb dX16_overAll_116 rfl hl (by decide) rfl (fun ls hl2 => ?_)
        replace hl := hl2
        clear hl2
        have hl0 : lv_has ls 4 [(1, .int 0), (0, .ref (a h0))] := lv_sub hl [0, 1] rfl
        refine de_loop (h := 117) (fun (x : St × Int32) ls H locs => lv_has ls 4 [(1, .int x.2), (0, .ref (a h0))] ∧ va_P (dC, dI) vwCl (Wd cy a sh n x.1) H ∧ va_D A (Wd cy a sh n x.1) ∧ va_S A s.heap H locs) (fun f x => fn_X16_overAll_L117 F sh n h0 f x.1 x.2) (z8, r8) ?_ (fun _ => rfl) F (z_16, 0) ls H_15 locs ⟨hl0, hP, hD, hS⟩ hf
        intro f_19 x ls H locs ih117 hI hf
        obtain ⟨z_18, p_17⟩ := x
        obtain ⟨hl2, hP2, hD2, hS2⟩ := hI
        replace hl : lv_has ls 4 [(1, .int p_17), (0, .ref (a h0))] := hl2
        replace hP := hP2
        replace hD := hD2
        replace hS := hS2
        clear hl2 hP2 hD2 hS2 hl0
        replace hf := fn_X16_overAll_L117_s hf
        refine lv_iload_n hx hb dX16_overAll_117 rfl (lv_at hl 0 rfl) ?_
        refine lv_aload_n hx hb dX16_overAll_118 rfl (lv_at hl 1 rfl) ?_
        refine va_get (D := (dC, dI)) (ci := 16) (v := .int (z_18.1 h0 5)) (C := RX16) (T := TX16) (N := 18) hx hb hts iwd_X16_overAll_X16 hown hK hP h0 (Wd_ob kg_7 sg_7 (by decide)) rfl 5 (by decide) (hts _ md_X16_overAll_1) (fun _ h9 => h9) (fl_at (t := 0) rfl) dX16_overAll_119 ?_
        refine de_cut (h := 200) (fun (x : St) => []) (fun x ls H locs => lv_has ls 4 [(0, .ref (a h0))] ∧ va_P (dC, dI) vwCl (Wd cy a sh n x) H ∧ va_D A (Wd cy a sh n x) ∧ va_S A s.heap H locs) (fun x => fn_X16_overAll_B200 F sh n h0 x) (z8, r8) ?_ (fun B200 => ?_)
        · intro x ls H locs hI hf
          obtain ⟨z_20, ez⟩ : ∃ w, w = x := ⟨_, rfl⟩
          subst ez
          obtain ⟨hl2, hP2, hD2, hS2⟩ := hI
          replace hl : lv_has ls 4 [(0, .ref (a h0))] := hl2
          replace hP := hP2
          replace hD := hD2
          replace hS := hS2
          clear hl2 hP2 hD2 hS2
          replace hf := fn_X16_overAll_B200_s hf
          refine W.eq (g2 := F0 m 200 ls []) rfl ?_
          refine lv_aload_n hx hb dX16_overAll_200 rfl (lv_at hl 0 rfl) ?_
          refine lv_aload_n hx hb dX16_overAll_201 rfl (lv_at hl 0 rfl) ?_
          obtain ⟨z_21, r_22, hfc, hf⟩ := cal_some hf
          have hFc := de_free hD hS hA
          refine va_calli (va_runV (As := []) (rest := [.ref (a h0)]) ⟨hx, hb, hml, hown, hts⟩ (de_X16_isGood l dC dI cy a sh n H.size F z_20 h0 hfc) (cwV 0 hts gX16_overAll_X16_isGood rfl rfl rfl (by decide +kernel) ⟨Nat.le_of_ble_eq_true rfl, Nat.le_of_ble_eq_true rfl⟩) ⟨fun a U g mk q => by obtain ⟨q0, q1, qP, qK, qD, qN⟩ := q; exact ⟨q0, q1, qP, va_K.moved (u := U) (U := U.calling g mk a) (Vm.Alike.refl U.vm) qK, qD, qN.same rfl⟩, va_recv hK hP (ci := 16) (q0 := h0) rfl (Wd_ob kg_7 sg_7 (by decide)), fun U hU hW => ⟨rfl, by rw [hU], by rw [hU]; exact hP, va_K.moved hW.alike hK, hD.weaken (fun _ _ _ _ => trivial), hN.warm hW⟩⟩ rfl rfl hl.1 rfl (lv_room (Nat.le_of_ble_eq_true rfl)) dX16_overAll_202 ⟨Nat.le_of_ble_eq_true rfl, Nat.le_of_ble_eq_true rfl⟩) hS (fun q _ h => hFc q h) hFc (fun rr u t H_23 locs ht hvm hw hB hz1 hk1 hS2 => ?_)
          rw [hw]
          clear hw
          obtain ⟨hP1, -, hD1⟩ := hB
          rw [ht] at hP1
          replace hD := hD1.weaken (fun _ _ _ h => hFc _ h)
          replace hP := hP1
          replace hS := hS2
          clear hP1 hD1 hS2 hFc hfc hz1 hk1 hvm ht
          refine de_cut (h := 219) (fun (x : St × Int32) => [.int x.2, .ref (a h0)]) (fun x ls H locs => lv_has ls 4 [(0, .ref (a h0))] ∧ va_P (dC, dI) vwCl (Wd cy a sh n x.1) H ∧ va_D A (Wd cy a sh n x.1) ∧ va_S A s.heap H locs) (fun x => fn_X16_overAll_B219 F sh n h0 x.1 x.2) (z8, r8) ?_ (fun B219 => ?_)
          · intro x ls H locs hI hf
            obtain ⟨z_25, p_24⟩ := x
            obtain ⟨hl2, hP2, hD2, hS2⟩ := hI
            replace hl : lv_has ls 4 [(0, .ref (a h0))] := hl2
            replace hP := hP2
            replace hD := hD2
            replace hS := hS2
            clear hl2 hP2 hD2 hS2
            replace hf := fn_X16_overAll_B219_s hf
            refine W.eq (g2 := F0 m 219 ls [.int p_24, .ref (a h0)]) rfl ?_
            refine va_put (D := (dC, dI)) (ci := 16) (v := .int p_24) (ty := .int) (C := RX16) (T := TX16) (N := 18) hx hb hts iwd_X16_overAll_X16 tyX16 tyX16_ok nmX16 hown hK hP hD hS h0 (Wd_ob kg_7 sg_7 (by decide)) rfl 6 (by decide) (hts _ md_X16_overAll_4) (fun _ h9 => h9) rfl (by decide +kernel) rfl rfl (by rw [fl_len]; decide) dX16_overAll_219 (fun H_26 locs hP2 hD2 hS2 => ?_)
            rw [Wd_si sg_7 (by decide) rfl] at hP2 hD2
            obtain ⟨z_27, ez_27⟩ : ∃ w, w = si z_25 h0 6 p_24 := ⟨_, rfl⟩
            rw [← ez_27] at hP2 hD2
            replace hf := lt_at ez_27 hf
            clear ez_27
            replace hP := hP2
            replace hD := hD2
            replace hS := hS2
            clear hP2 hD2 hS2
            refine lv_iconst (v := 0) hx hb dX16_overAll_222 (by decide) ?_
            refine lv_istore_n (lv' := [(1, .int 0), (0, .ref (a h0))]) hx hb dX16_overAll_223 rfl hl (by decide) rfl (fun ls hl2 => ?_)
            replace hl := hl2
            clear hl2
            have hl0 : lv_has ls 4 [(1, .int 0), (0, .ref (a h0))] := lv_sub hl [0, 1] rfl
            refine de_loop (h := 224) (fun (x : St × Int32) ls H locs => lv_has ls 4 [(1, .int x.2), (0, .ref (a h0))] ∧ va_P (dC, dI) vwCl (Wd cy a sh n x.1) H ∧ va_D A (Wd cy a sh n x.1) ∧ va_S A s.heap H locs) (fun f x => fn_X16_overAll_L224 F sh n h0 f x.1 x.2) (z8, r8) ?_ (fun _ => rfl) F (z_27, 0) ls H_26 locs ⟨hl0, hP, hD, hS⟩ hf
            intro f_30 x ls H locs ih224 hI hf
            obtain ⟨z_29, p_28⟩ := x
            obtain ⟨hl2, hP2, hD2, hS2⟩ := hI
            replace hl : lv_has ls 4 [(1, .int p_28), (0, .ref (a h0))] := hl2
            replace hP := hP2
            replace hD := hD2
            replace hS := hS2
            clear hl2 hP2 hD2 hS2 hl0
            replace hf := fn_X16_overAll_L224_s hf
            refine lv_iload_n hx hb dX16_overAll_224 rfl (lv_at hl 0 rfl) ?_
            refine lv_aload_n hx hb dX16_overAll_225 rfl (lv_at hl 1 rfl) ?_
            refine va_get (D := (dC, dI)) (ci := 16) (v := .int (z_29.1 h0 6)) (C := RX16) (T := TX16) (N := 18) hx hb hts iwd_X16_overAll_X16 hown hK hP h0 (Wd_ob kg_7 sg_7 (by decide)) rfl 6 (by decide) (hts _ md_X16_overAll_4) (fun _ h9 => h9) (fl_at (t := 0) rfl) dX16_overAll_226 ?_
            refine de_cut (h := 281) (fun (x : St) => []) (fun x ls H locs => lv_has ls 4 [(0, .ref (a h0))] ∧ va_P (dC, dI) vwCl (Wd cy a sh n x) H ∧ va_D A (Wd cy a sh n x) ∧ va_S A s.heap H locs) (fun x => fn_X16_overAll_B281 F sh n h0 x) (z8, r8) ?_ (fun B281 => ?_)
            · intro x ls H locs hI hf
              obtain ⟨z_31, ez⟩ : ∃ w, w = x := ⟨_, rfl⟩
              subst ez
              obtain ⟨hl2, hP2, hD2, hS2⟩ := hI
              replace hl : lv_has ls 4 [(0, .ref (a h0))] := hl2
              replace hP := hP2
              replace hD := hD2
              replace hS := hS2
              clear hl2 hP2 hD2 hS2
              replace hf := fn_X16_overAll_B281_s hf
              refine W.eq (g2 := F0 m 281 ls []) rfl ?_
              refine lv_aload_n hx hb dX16_overAll_281 rfl (lv_at hl 0 rfl) ?_
              refine lv_aload_n hx hb dX16_overAll_282 rfl (lv_at hl 0 rfl) ?_
              obtain ⟨z_32, r_33, hfc, hf⟩ := cal_some hf
              have hFc := de_free hD hS hA
              refine va_calli (va_runV (As := []) (rest := [.ref (a h0)]) ⟨hx, hb, hml, hown, hts⟩ (de_X16_isGood l dC dI cy a sh n H.size F z_31 h0 hfc) (cwV 0 hts gX16_overAll_X16_isGood rfl rfl rfl (by decide +kernel) ⟨Nat.le_of_ble_eq_true rfl, Nat.le_of_ble_eq_true rfl⟩) ⟨fun a U g mk q => by obtain ⟨q0, q1, qP, qK, qD, qN⟩ := q; exact ⟨q0, q1, qP, va_K.moved (u := U) (U := U.calling g mk a) (Vm.Alike.refl U.vm) qK, qD, qN.same rfl⟩, va_recv hK hP (ci := 16) (q0 := h0) rfl (Wd_ob kg_7 sg_7 (by decide)), fun U hU hW => ⟨rfl, by rw [hU], by rw [hU]; exact hP, va_K.moved hW.alike hK, hD.weaken (fun _ _ _ _ => trivial), hN.warm hW⟩⟩ rfl rfl hl.1 rfl (lv_room (Nat.le_of_ble_eq_true rfl)) dX16_overAll_283 ⟨Nat.le_of_ble_eq_true rfl, Nat.le_of_ble_eq_true rfl⟩) hS (fun q _ h => hFc q h) hFc (fun rr u t H_34 locs ht hvm hw hB hz1 hk1 hS2 => ?_)
              rw [hw]
              clear hw
              obtain ⟨hP1, -, hD1⟩ := hB
              rw [ht] at hP1
              replace hD := hD1.weaken (fun _ _ _ h => hFc _ h)
              replace hP := hP1
              replace hS := hS2
              clear hP1 hD1 hS2 hFc hfc hz1 hk1 hvm ht
              refine de_cut (h := 300) (fun (x : St × Int32) => [.int x.2, .ref (a h0)]) (fun x ls H locs => lv_has ls 4 [(0, .ref (a h0))] ∧ va_P (dC, dI) vwCl (Wd cy a sh n x.1) H ∧ va_D A (Wd cy a sh n x.1) ∧ va_S A s.heap H locs) (fun x => fn_X16_overAll_B300 F sh n h0 x.1 x.2) (z8, r8) ?_ (fun B300 => ?_)
              · intro x ls H locs hI hf
                obtain ⟨z_36, p_35⟩ := x
                obtain ⟨hl2, hP2, hD2, hS2⟩ := hI
                replace hl : lv_has ls 4 [(0, .ref (a h0))] := hl2
                replace hP := hP2
                replace hD := hD2
                replace hS := hS2
                clear hl2 hP2 hD2 hS2
                replace hf := fn_X16_overAll_B300_s hf
                refine W.eq (g2 := F0 m 300 ls [.int p_35, .ref (a h0)]) rfl ?_
                refine va_put (D := (dC, dI)) (ci := 16) (v := .int p_35) (ty := .int) (C := RX16) (T := TX16) (N := 18) hx hb hts iwd_X16_overAll_X16 tyX16 tyX16_ok nmX16 hown hK hP hD hS h0 (Wd_ob kg_7 sg_7 (by decide)) rfl 7 (by decide) (hts _ md_X16_overAll_5) (fun _ h9 => h9) rfl (by decide +kernel) rfl rfl (by rw [fl_len]; decide) dX16_overAll_300 (fun H_37 locs hP2 hD2 hS2 => ?_)
                rw [Wd_si sg_7 (by decide) rfl] at hP2 hD2
                obtain ⟨z_38, ez_38⟩ : ∃ w, w = si z_36 h0 7 p_35 := ⟨_, rfl⟩
                rw [← ez_38] at hP2 hD2
                replace hf := lt_at ez_38 hf
                clear ez_38
                replace hP := hP2
                replace hD := hD2
                replace hS := hS2
                clear hP2 hD2 hS2
                refine lv_iconst (v := 0) hx hb dX16_overAll_303 (by decide) ?_
                refine lv_istore_n (lv' := [(1, .int 0), (0, .ref (a h0))]) hx hb dX16_overAll_304 rfl hl (by decide) rfl (fun ls hl2 => ?_)
                replace hl := hl2
                clear hl2
                have hl0 : lv_has ls 4 [(1, .int 0), (0, .ref (a h0))] := lv_sub hl [0, 1] rfl
                refine de_loop (h := 305) (fun (x : St × Int32) ls H locs => lv_has ls 4 [(1, .int x.2), (0, .ref (a h0))] ∧ va_P (dC, dI) vwCl (Wd cy a sh n x.1) H ∧ va_D A (Wd cy a sh n x.1) ∧ va_S A s.heap H locs) (fun f x => fn_X16_overAll_L305 F sh n h0 f x.1 x.2) (z8, r8) ?_ (fun _ => rfl) F (z_38, 0) ls H_37 locs ⟨hl0, hP, hD, hS⟩ hf
                intro f_41 x ls H locs ih305 hI hf
                obtain ⟨z_40, p_39⟩ := x
                obtain ⟨hl2, hP2, hD2, hS2⟩ := hI
                replace hl : lv_has ls 4 [(1, .int p_39), (0, .ref (a h0))] := hl2
                replace hP := hP2
                replace hD := hD2
                replace hS := hS2
                clear hl2 hP2 hD2 hS2 hl0
                replace hf := fn_X16_overAll_L305_s hf
                refine lv_iload_n hx hb dX16_overAll_305 rfl (lv_at hl 0 rfl) ?_
                refine lv_aload_n hx hb dX16_overAll_306 rfl (lv_at hl 1 rfl) ?_
                refine va_get (D := (dC, dI)) (ci := 16) (v := .int (z_40.1 h0 7)) (C := RX16) (T := TX16) (N := 18) hx hb hts iwd_X16_overAll_X16 hown hK hP h0 (Wd_ob kg_7 sg_7 (by decide)) rfl 7 (by decide) (hts _ md_X16_overAll_5) (fun _ h9 => h9) (fl_at (t := 0) rfl) dX16_overAll_307 ?_
                refine de_cut (h := 385) (fun (x : St) => []) (fun x ls H locs => lv_has ls 4 [(0, .ref (a h0))] ∧ va_P (dC, dI) vwCl (Wd cy a sh n x) H ∧ va_D A (Wd cy a sh n x) ∧ va_S A s.heap H locs) (fun x => fn_X16_overAll_B385 F sh n h0 x) (z8, r8) ?_ (fun B385 => ?_)
                · intro x ls H locs hI hf
                  obtain ⟨z_42, ez⟩ : ∃ w, w = x := ⟨_, rfl⟩
                  subst ez
                  obtain ⟨hl2, hP2, hD2, hS2⟩ := hI
                  replace hl : lv_has ls 4 [(0, .ref (a h0))] := hl2
                  replace hP := hP2
                  replace hD := hD2
                  replace hS := hS2
                  clear hl2 hP2 hD2 hS2
                  replace hf := fn_X16_overAll_B385_s hf
                  refine W.eq (g2 := F0 m 385 ls []) rfl ?_
                  refine lv_aload_n hx hb dX16_overAll_385 rfl (lv_at hl 0 rfl) ?_
                  refine lv_aload_n hx hb dX16_overAll_386 rfl (lv_at hl 0 rfl) ?_
                  obtain ⟨z_43, r_44, hfc, hf⟩ := cal_some hf
                  have hFc := de_free hD hS hA
                  refine va_calli (va_runV (As := []) (rest := [.ref (a h0)]) ⟨hx, hb, hml, hown, hts⟩ (de_X16_isGood l dC dI cy a sh n H.size F z_42 h0 hfc) (cwV 0 hts gX16_overAll_X16_isGood rfl rfl rfl (by decide +kernel) ⟨Nat.le_of_ble_eq_true rfl, Nat.le_of_ble_eq_true rfl⟩) ⟨fun a U g mk q => by obtain ⟨q0, q1, qP, qK, qD, qN⟩ := q; exact ⟨q0, q1, qP, va_K.moved (u := U) (U := U.calling g mk a) (Vm.Alike.refl U.vm) qK, qD, qN.same rfl⟩, va_recv hK hP (ci := 16) (q0 := h0) rfl (Wd_ob kg_7 sg_7 (by decide)), fun U hU hW => ⟨rfl, by rw [hU], by rw [hU]; exact hP, va_K.moved hW.alike hK, hD.weaken (fun _ _ _ _ => trivial), hN.warm hW⟩⟩ rfl rfl hl.1 rfl (lv_room (Nat.le_of_ble_eq_true rfl)) dX16_overAll_387 ⟨Nat.le_of_ble_eq_true rfl, Nat.le_of_ble_eq_true rfl⟩) hS (fun q _ h => hFc q h) hFc (fun rr u t H_45 locs ht hvm hw hB hz1 hk1 hS2 => ?_)
                  rw [hw]
                  clear hw
                  obtain ⟨hP1, -, hD1⟩ := hB
                  rw [ht] at hP1
                  replace hD := hD1.weaken (fun _ _ _ h => hFc _ h)
                  replace hP := hP1
                  replace hS := hS2
                  clear hP1 hD1 hS2 hFc hfc hz1 hk1 hvm ht
                  refine de_cut (h := 404) (fun (x : St × Int32) => [.int x.2, .ref (a h0)]) (fun x ls H locs => lv_has ls 4 [(0, .ref (a h0))] ∧ va_P (dC, dI) vwCl (Wd cy a sh n x.1) H ∧ va_D A (Wd cy a sh n x.1) ∧ va_S A s.heap H locs) (fun x => fn_X16_overAll_B404 F sh n h0 x.1 x.2) (z8, r8) ?_ (fun B404 => ?_)
                  · intro x ls H locs hI hf
                    obtain ⟨z_47, p_46⟩ := x
                    obtain ⟨hl2, hP2, hD2, hS2⟩ := hI
                    replace hl : lv_has ls 4 [(0, .ref (a h0))] := hl2
                    replace hP := hP2
                    replace hD := hD2
                    replace hS := hS2
                    clear hl2 hP2 hD2 hS2
                    replace hf := fn_X16_overAll_B404_s hf
                    refine W.eq (g2 := F0 m 404 ls [.int p_46, .ref (a h0)]) rfl ?_
                    refine va_put (D := (dC, dI)) (ci := 16) (v := .int p_46) (ty := .int) (C := RX16) (T := TX16) (N := 18) hx hb hts iwd_X16_overAll_X16 tyX16 tyX16_ok nmX16 hown hK hP hD hS h0 (Wd_ob kg_7 sg_7 (by decide)) rfl 8 (by decide) (hts _ md_X16_overAll_7) (fun _ h9 => h9) rfl (by decide +kernel) rfl rfl (by rw [fl_len]; decide) dX16_overAll_404 (fun H_48 locs hP2 hD2 hS2 => ?_)
                    rw [Wd_si sg_7 (by decide) rfl] at hP2 hD2
                    obtain ⟨z_49, ez_49⟩ : ∃ w, w = si z_47 h0 8 p_46 := ⟨_, rfl⟩
                    rw [← ez_49] at hP2 hD2
                    replace hf := lt_at ez_49 hf
                    clear ez_49
                    replace hP := hP2
                    replace hD := hD2
                    replace hS := hS2
                    clear hP2 hD2 hS2
                    refine lv_iconst (v := 0) hx hb dX16_overAll_407 (by decide) ?_
                    refine lv_istore_n (lv' := [(1, .int 0), (0, .ref (a h0))]) hx hb dX16_overAll_408 rfl hl (by decide) rfl (fun ls hl2 => ?_)
                    replace hl := hl2
                    clear hl2
                    have hl0 : lv_has ls 4 [(1, .int 0), (0, .ref (a h0))] := lv_sub hl [0, 1] rfl
                    refine de_loop (h := 409) (fun (x : St × Int32) ls H locs => lv_has ls 4 [(1, .int x.2), (0, .ref (a h0))] ∧ va_P (dC, dI) vwCl (Wd cy a sh n x.1) H ∧ va_D A (Wd cy a sh n x.1) ∧ va_S A s.heap H locs) (fun f x => fn_X16_overAll_L409 F sh n h0 f x.1 x.2) (z8, r8) ?_ (fun _ => rfl) F (z_49, 0) ls H_48 locs ⟨hl0, hP, hD, hS⟩ hf
                    intro f_52 x ls H locs ih409 hI hf
                    obtain ⟨z_51, p_50⟩ := x
                    obtain ⟨hl2, hP2, hD2, hS2⟩ := hI
                    replace hl : lv_has ls 4 [(1, .int p_50), (0, .ref (a h0))] := hl2
                    replace hP := hP2
                    replace hD := hD2
                    replace hS := hS2
                    clear hl2 hP2 hD2 hS2 hl0
                    replace hf := fn_X16_overAll_L409_s hf
                    refine lv_iload_n hx hb dX16_overAll_409 rfl (lv_at hl 0 rfl) ?_
                    refine lv_aload_n hx hb dX16_overAll_410 rfl (lv_at hl 1 rfl) ?_
                    refine va_get (D := (dC, dI)) (ci := 16) (v := .int (z_51.1 h0 8)) (C := RX16) (T := TX16) (N := 18) hx hb hts iwd_X16_overAll_X16 hown hK hP h0 (Wd_ob kg_7 sg_7 (by decide)) rfl 8 (by decide) (hts _ md_X16_overAll_7) (fun _ h9 => h9) (fl_at (t := 0) rfl) dX16_overAll_411 ?_
                    refine de_cut (h := 445) (fun (x : St) => []) (fun x ls H locs => lv_has ls 4 [(0, .ref (a h0))] ∧ va_P (dC, dI) vwCl (Wd cy a sh n x) H ∧ va_D A (Wd cy a sh n x) ∧ va_S A s.heap H locs) (fun x => fn_X16_overAll_B445 F sh n h0 x) (z8, r8) ?_ (fun B445 => ?_)
                    · intro x ls H locs hI hf
                      obtain ⟨z_53, ez⟩ : ∃ w, w = x := ⟨_, rfl⟩
                      subst ez
                      obtain ⟨hl2, hP2, hD2, hS2⟩ := hI
                      replace hl : lv_has ls 4 [(0, .ref (a h0))] := hl2
                      replace hP := hP2
                      replace hD := hD2
                      replace hS := hS2
                      clear hl2 hP2 hD2 hS2
                      replace hf := fn_X16_overAll_B445_s hf
                      refine W.eq (g2 := F0 m 445 ls []) rfl ?_
                      refine lv_aload_n hx hb dX16_overAll_445 rfl (lv_at hl 0 rfl) ?_
                      refine lv_aload_n hx hb dX16_overAll_446 rfl (lv_at hl 0 rfl) ?_
                      obtain ⟨z_54, r_55, hfc, hf⟩ := cal_some hf
                      have hFc := de_free hD hS hA
                      refine va_calli (va_runV (As := []) (rest := [.ref (a h0)]) ⟨hx, hb, hml, hown, hts⟩ (de_X16_isGood l dC dI cy a sh n H.size F z_53 h0 hfc) (cwV 0 hts gX16_overAll_X16_isGood rfl rfl rfl (by decide +kernel) ⟨Nat.le_of_ble_eq_true rfl, Nat.le_of_ble_eq_true rfl⟩) ⟨fun a U g mk q => by obtain ⟨q0, q1, qP, qK, qD, qN⟩ := q; exact ⟨q0, q1, qP, va_K.moved (u := U) (U := U.calling g mk a) (Vm.Alike.refl U.vm) qK, qD, qN.same rfl⟩, va_recv hK hP (ci := 16) (q0 := h0) rfl (Wd_ob kg_7 sg_7 (by decide)), fun U hU hW => ⟨rfl, by rw [hU], by rw [hU]; exact hP, va_K.moved hW.alike hK, hD.weaken (fun _ _ _ _ => trivial), hN.warm hW⟩⟩ rfl rfl hl.1 rfl (lv_room (Nat.le_of_ble_eq_true rfl)) dX16_overAll_447 ⟨Nat.le_of_ble_eq_true rfl, Nat.le_of_ble_eq_true rfl⟩) hS (fun q _ h => hFc q h) hFc (fun rr u t H_56 locs ht hvm hw hB hz1 hk1 hS2 => ?_)
                      rw [hw]
                      clear hw
                      obtain ⟨hP1, -, hD1⟩ := hB
                      rw [ht] at hP1
                      replace hD := hD1.weaken (fun _ _ _ h => hFc _ h)
                      replace hP := hP1
                      replace hS := hS2
                      clear hP1 hD1 hS2 hFc hfc hz1 hk1 hvm ht
                      refine de_cut (h := 464) (fun (x : St × Int32) => [.int x.2, .ref (a h0)]) (fun x ls H locs => lv_has ls 4 [(0, .ref (a h0))] ∧ va_P (dC, dI) vwCl (Wd cy a sh n x.1) H ∧ va_D A (Wd cy a sh n x.1) ∧ va_S A s.heap H locs) (fun x => fn_X16_overAll_B464 F sh n h0 x.1 x.2) (z8, r8) ?_ (fun B464 => ?_)
                      · intro x ls H locs hI hf
                        obtain ⟨z_58, p_57⟩ := x
                        obtain ⟨hl2, hP2, hD2, hS2⟩ := hI
                        replace hl : lv_has ls 4 [(0, .ref (a h0))] := hl2
                        replace hP := hP2
                        replace hD := hD2
                        replace hS := hS2
                        clear hl2 hP2 hD2 hS2
                        replace hf := fn_X16_overAll_B464_s hf
                        refine W.eq (g2 := F0 m 464 ls [.int p_57, .ref (a h0)]) rfl ?_
                        refine va_put (D := (dC, dI)) (ci := 16) (v := .int p_57) (ty := .int) (C := RX16) (T := TX16) (N := 18) hx hb hts iwd_X16_overAll_X16 tyX16 tyX16_ok nmX16 hown hK hP hD hS h0 (Wd_ob kg_7 sg_7 (by decide)) rfl 9 (by decide) (hts _ md_X16_overAll_9) (fun _ h9 => h9) rfl (by decide +kernel) rfl rfl (by rw [fl_len]; decide) dX16_overAll_464 (fun H_59 locs hP2 hD2 hS2 => ?_)
                        rw [Wd_si sg_7 (by decide) rfl] at hP2 hD2
                        obtain ⟨z_60, ez_60⟩ : ∃ w, w = si z_58 h0 9 p_57 := ⟨_, rfl⟩
                        rw [← ez_60] at hP2 hD2
                        replace hf := lt_at ez_60 hf
                        clear ez_60
                        replace hP := hP2
                        replace hD := hD2
                        replace hS := hS2
                        clear hP2 hD2 hS2
                        refine lv_iconst (v := 0) hx hb dX16_overAll_467 (by decide) ?_
                        refine lv_istore_n (lv' := [(1, .int 0), (0, .ref (a h0))]) hx hb dX16_overAll_468 rfl hl (by decide) rfl (fun ls hl2 => ?_)
                        replace hl := hl2
                        clear hl2
                        have hl0 : lv_has ls 4 [(1, .int 0), (0, .ref (a h0))] := lv_sub hl [0, 1] rfl
                        refine de_loop (h := 469) (fun (x : St × Int32) ls H locs => lv_has ls 4 [(1, .int x.2), (0, .ref (a h0))] ∧ va_P (dC, dI) vwCl (Wd cy a sh n x.1) H ∧ va_D A (Wd cy a sh n x.1) ∧ va_S A s.heap H locs) (fun f x => fn_X16_overAll_L469 F sh n h0 f x.1 x.2) (z8, r8) ?_ (fun _ => rfl) F (z_60, 0) ls H_59 locs ⟨hl0, hP, hD, hS⟩ hf
                        intro f_63 x ls H locs ih469 hI hf
                        obtain ⟨z_62, p_61⟩ := x
                        obtain ⟨hl2, hP2, hD2, hS2⟩ := hI
                        replace hl : lv_has ls 4 [(1, .int p_61), (0, .ref (a h0))] := hl2
                        replace hP := hP2
                        replace hD := hD2
                        replace hS := hS2
                        clear hl2 hP2 hD2 hS2 hl0
                        replace hf := fn_X16_overAll_L469_s hf
                        refine lv_iload_n hx hb dX16_overAll_469 rfl (lv_at hl 0 rfl) ?_
                        refine lv_aload_n hx hb dX16_overAll_470 rfl (lv_at hl 1 rfl) ?_
                        refine va_get (D := (dC, dI)) (ci := 16) (v := .int (z_62.1 h0 9)) (C := RX16) (T := TX16) (N := 18) hx hb hts iwd_X16_overAll_X16 hown hK hP h0 (Wd_ob kg_7 sg_7 (by decide)) rfl 9 (by decide) (hts _ md_X16_overAll_9) (fun _ h9 => h9) (fl_at (t := 0) rfl) dX16_overAll_471 ?_
                        refine de_cut (h := 495) (fun (x : St) => []) (fun x ls H locs => lv_has ls 4 [(0, .ref (a h0))] ∧ va_P (dC, dI) vwCl (Wd cy a sh n x) H ∧ va_D A (Wd cy a sh n x) ∧ va_S A s.heap H locs) (fun x => fn_X16_overAll_B495 F sh n h0 x) (z8, r8) ?_ (fun B495 => ?_)
                        · intro x ls H locs hI hf
                          obtain ⟨z_64, ez⟩ : ∃ w, w = x := ⟨_, rfl⟩
                          subst ez
                          obtain ⟨hl2, hP2, hD2, hS2⟩ := hI
                          replace hl : lv_has ls 4 [(0, .ref (a h0))] := hl2
                          replace hP := hP2
                          replace hD := hD2
                          replace hS := hS2
                          clear hl2 hP2 hD2 hS2
                          replace hf := fn_X16_overAll_B495_s hf
                          refine W.eq (g2 := F0 m 495 ls []) rfl ?_
                          refine lv_aload_n hx hb dX16_overAll_495 rfl (lv_at hl 0 rfl) ?_
                          obtain ⟨z_65, r_66, hfc, hf⟩ := cal_some hf
                          have hFc := de_free hD hS hA
                          refine va_calli (va_runV (As := []) (rest := []) ⟨hx, hb, hml, hown, hts⟩ (de_X16_isGood l dC dI cy a sh n H.size F z_64 h0 hfc) (cwV 0 hts gX16_overAll_X16_isGood rfl rfl rfl (by decide +kernel) ⟨Nat.le_of_ble_eq_true rfl, Nat.le_of_ble_eq_true rfl⟩) ⟨fun a U g mk q => by obtain ⟨q0, q1, qP, qK, qD, qN⟩ := q; exact ⟨q0, q1, qP, va_K.moved (u := U) (U := U.calling g mk a) (Vm.Alike.refl U.vm) qK, qD, qN.same rfl⟩, va_recv hK hP (ci := 16) (q0 := h0) rfl (Wd_ob kg_7 sg_7 (by decide)), fun U hU hW => ⟨rfl, by rw [hU], by rw [hU]; exact hP, va_K.moved hW.alike hK, hD.weaken (fun _ _ _ _ => trivial), hN.warm hW⟩⟩ rfl rfl hl.1 rfl (lv_room (Nat.le_of_ble_eq_true rfl)) dX16_overAll_496 ⟨Nat.le_of_ble_eq_true rfl, Nat.le_of_ble_eq_true rfl⟩) hS (fun q _ h => hFc q h) hFc (fun rr u t H_67 locs ht hvm hw hB hz1 hk1 hS2 => ?_)
                          rw [hw]
                          clear hw
                          obtain ⟨hP1, -, hD1⟩ := hB
                          rw [ht] at hP1
                          replace hD := hD1.weaken (fun _ _ _ h => hFc _ h)
                          replace hP := hP1
                          replace hS := hS2
                          clear hP1 hD1 hS2 hFc hfc hz1 hk1 hvm ht
                          refine lv_if_eq (tgt := 523) hx hb dX16_overAll_499 (by decide) (fun c_68 => ?_) (fun c_68 => ?_)
                          · skip
                            rw [if_pos c_68] at hf
                            obtain ⟨h8, h9⟩ := ret_some hf
                            rw [h8]
                            exact W.vret hx hb hr (fun t ht hW => ⟨⟨(), rfl, trivial, by rw [ht]; exact hP, va_K.moved hW.alike hK, hD⟩, hS.F ht⟩) hS.2.2 dX16_overAll_523
                          · skip
                            rw [if_neg c_68] at hf
                            refine lv_aload_n hx hb dX16_overAll_502 rfl (lv_at hl 0 rfl) ?_
                            refine va_get (D := (dC, dI)) (ci := 16) (v := .int (z_65.1 h0 2)) (C := RX16) (T := TX16) (N := 18) hx hb hts iwd_X16_overAll_X16 hown hK hP h0 (Wd_ob kg_7 sg_7 (by decide)) rfl 2 (by decide) (hts _ md_X16_overAll_3) (fun _ h9 => h9) (fl_at (t := 0) rfl) dX16_overAll_503 ?_
                            refine lv_aload_n hx hb dX16_overAll_506 rfl (lv_at hl 0 rfl) ?_
                            refine va_get (D := (dC, dI)) (ci := 16) (v := .int (z_65.1 h0 1)) (C := RX16) (T := TX16) (N := 18) hx hb hts iwd_X16_overAll_X16 hown hK hP h0 (Wd_ob kg_7 sg_7 (by decide)) rfl 1 (by decide) (hts _ md_X16_overAll_10) (fun _ h9 => h9) (fl_at (t := 0) rfl) dX16_overAll_507 ?_
                            refine lv_icmp_ge (tgt := 523) hx hb dX16_overAll_510 (by decide) (fun c_69 => ?_) (fun c_69 => ?_)
                            · skip
                              rw [if_pos c_69] at hf
                              obtain ⟨h8, h9⟩ := ret_some hf
                              rw [h8]
                              exact W.vret hx hb hr (fun t ht hW => ⟨⟨(), rfl, trivial, by rw [ht]; exact hP, va_K.moved hW.alike hK, hD⟩, hS.F ht⟩) hS.2.2 dX16_overAll_523
                            · skip
                              rw [if_neg c_69] at hf
                              refine lv_aload_n hx hb dX16_overAll_513 rfl (lv_at hl 0 rfl) ?_
                              refine lv_bipush (v := 6) hx hb dX16_overAll_514 (by decide) ?_
                              refine lv_aload_n hx hb dX16_overAll_516 rfl (lv_at hl 0 rfl) ?_
                              refine va_get (D := (dC, dI)) (ci := 16) (v := .int (z_65.1 h0 2)) (C := RX16) (T := TX16) (N := 18) hx hb hts iwd_X16_overAll_X16 hown hK hP h0 (Wd_ob kg_7 sg_7 (by decide)) rfl 2 (by decide) (hts _ md_X16_overAll_3) (fun _ h9 => h9) (fl_at (t := 0) rfl) dX16_overAll_517 ?_
                              obtain ⟨z_70, _u, hfc, hf⟩ := cal_some hf
                              have hFc := de_free hD hS hA
                              refine va_callv (va_runV (As := [.int 6, .int (z_65.1 h0 2)]) (rest := []) ⟨hx, hb, hml, hown, hts⟩ (de_X16_fail l dC dI cy a sh n H_67.size F z_65 h0 6 (z_65.1 h0 2) hfc) (cwV 2 hts gX16_overAll_X16_fail rfl rfl rfl (by decide +kernel) ⟨Nat.le_of_ble_eq_true rfl, Nat.le_of_ble_eq_true rfl⟩) ⟨fun a U g mk q => by obtain ⟨q0, q1, qP, qK, qD, qN⟩ := q; exact ⟨q0, q1, qP, va_K.moved (u := U) (U := U.calling g mk a) (Vm.Alike.refl U.vm) qK, qD, qN.same rfl⟩, va_recv hK hP (ci := 16) (q0 := h0) rfl (Wd_ob kg_7 sg_7 (by decide)), fun U hU hW => ⟨rfl, by rw [hU], by rw [hU]; exact hP, va_K.moved hW.alike hK, hD.weaken (fun _ _ _ _ => trivial), hN.warm hW⟩⟩ rfl rfl hl.1 rfl (lv_room (Nat.le_of_ble_eq_true rfl)) dX16_overAll_520 ⟨Nat.le_of_ble_eq_true rfl, Nat.le_of_ble_eq_true rfl⟩) hS (fun q _ h => hFc q h) hFc (fun u t H_71 locs ht hvm hw hB hz1 hk1 hS2 => ?_)
                              obtain ⟨hP1, -, hD1⟩ := hB
                              rw [ht] at hP1
                              replace hD := hD1.weaken (fun _ _ _ h => hFc _ h)
                              replace hP := hP1
                              replace hS := hS2
                              clear hP1 hD1 hS2 hFc hfc hz1 hk1 hvm ht
                              obtain ⟨h8, h9⟩ := ret_some hf
                              rw [h8]
                              exact W.vret hx hb hr (fun t ht hW => ⟨⟨(), rfl, trivial, by rw [ht]; exact hP, va_K.moved hW.alike hK, hD⟩, hS.F ht⟩) hS.2.2 dX16_overAll_523
                        refine lv_icmp_ge (tgt := 495) hx hb dX16_overAll_474 (by decide) (fun c_72 => ?_) (fun c_72 => ?_)
                        · skip
                          rw [if_pos c_72] at hf
                          exact B495 (z_62) ls H locs ⟨lv_sub hl [1] rfl, hP, hD, hS⟩ hf
                        · skip
                          rw [if_neg c_72] at hf
                          refine lv_aload_n hx hb dX16_overAll_477 rfl (lv_at hl 1 rfl) ?_
                          obtain ⟨z_73, r_74, hfc, hf⟩ := cal_some hf
                          have hFc := de_free hD hS hA
                          refine va_calli (va_runV (As := []) (rest := []) ⟨hx, hb, hml, hown, hts⟩ (de_X16_isGood l dC dI cy a sh n H.size F z_62 h0 hfc) (cwV 0 hts gX16_overAll_X16_isGood rfl rfl rfl (by decide +kernel) ⟨Nat.le_of_ble_eq_true rfl, Nat.le_of_ble_eq_true rfl⟩) ⟨fun a U g mk q => by obtain ⟨q0, q1, qP, qK, qD, qN⟩ := q; exact ⟨q0, q1, qP, va_K.moved (u := U) (U := U.calling g mk a) (Vm.Alike.refl U.vm) qK, qD, qN.same rfl⟩, va_recv hK hP (ci := 16) (q0 := h0) rfl (Wd_ob kg_7 sg_7 (by decide)), fun U hU hW => ⟨rfl, by rw [hU], by rw [hU]; exact hP, va_K.moved hW.alike hK, hD.weaken (fun _ _ _ _ => trivial), hN.warm hW⟩⟩ rfl rfl hl.1 rfl (lv_room (Nat.le_of_ble_eq_true rfl)) dX16_overAll_478 ⟨Nat.le_of_ble_eq_true rfl, Nat.le_of_ble_eq_true rfl⟩) hS (fun q _ h => hFc q h) hFc (fun rr u t H_75 locs ht hvm hw hB hz1 hk1 hS2 => ?_)
                          rw [hw]
                          clear hw
                          obtain ⟨hP1, -, hD1⟩ := hB
                          rw [ht] at hP1
                          replace hD := hD1.weaken (fun _ _ _ h => hFc _ h)
                          replace hP := hP1
                          replace hS := hS2
                          clear hP1 hD1 hS2 hFc hfc hz1 hk1 hvm ht
                          refine lv_if_eq (tgt := 495) hx hb dX16_overAll_481 (by decide) (fun c_76 => ?_) (fun c_76 => ?_)
                          · skip
                            rw [if_pos c_76] at hf
                            exact B495 (z_73) ls H_75 locs ⟨lv_sub hl [1] rfl, hP, hD, hS⟩ hf
                          · skip
                            rw [if_neg c_76] at hf
                            refine lv_aload_n hx hb dX16_overAll_484 rfl (lv_at hl 1 rfl) ?_
                            refine lv_iload_n hx hb dX16_overAll_485 rfl (lv_at hl 0 rfl) ?_
                            obtain ⟨z_77, _u, hfc, hf⟩ := cal_some hf
                            have hFc := de_free hD hS hA
                            refine va_callv (va_runV (As := [.int p_61]) (rest := []) ⟨hx, hb, hml, hown, hts⟩ (de_X16_overFunction l dC dI cy a sh n H_75.size F z_73 h0 p_61 hfc) (cwV 1 hts gX16_overAll_X16_overFunction rfl rfl rfl (by decide +kernel) ⟨Nat.le_of_ble_eq_true rfl, Nat.le_of_ble_eq_true rfl⟩) ⟨fun a U g mk q => by obtain ⟨q0, q1, qP, qK, qD, qN⟩ := q; exact ⟨q0, q1, qP, va_K.moved (u := U) (U := U.calling g mk a) (Vm.Alike.refl U.vm) qK, qD, qN.same rfl⟩, va_recv hK hP (ci := 16) (q0 := h0) rfl (Wd_ob kg_7 sg_7 (by decide)), fun U hU hW => ⟨rfl, by rw [hU], by rw [hU]; exact hP, va_K.moved hW.alike hK, hD.weaken (fun _ _ _ _ => trivial), hN.warm hW⟩⟩ rfl rfl hl.1 rfl (lv_room (Nat.le_of_ble_eq_true rfl)) dX16_overAll_486 ⟨Nat.le_of_ble_eq_true rfl, Nat.le_of_ble_eq_true rfl⟩) hS (fun q _ h => hFc q h) hFc (fun u t H_78 locs ht hvm hw hB hz1 hk1 hS2 => ?_)
                            obtain ⟨hP1, -, hD1⟩ := hB
                            rw [ht] at hP1
                            replace hD := hD1.weaken (fun _ _ _ h => hFc _ h)
                            replace hP := hP1
                            replace hS := hS2
                            clear hP1 hD1 hS2 hFc hfc hz1 hk1 hvm ht
                            refine lv_iinc (v := (p_61 + 1)) (lv' := [(1, .int (p_61 + 1)), (0, .ref (a h0))]) hx hb dX16_overAll_489 hl (k := 0) rfl rfl (by decide) rfl (fun ls hl2 => ?_)
                            replace hl := hl2
                            clear hl2
                            refine lv_goto (tgt := 469) hx hb dX16_overAll_492 (by decide) ?_
                            exact ih469 (z_77, (p_61 + 1)) ls H_78 locs ⟨lv_sub hl [0, 1] rfl, hP, hD, hS⟩ hf
                      refine lv_if_eq (tgt := 463) hx hb dX16_overAll_450 (by decide) (fun c_79 => ?_) (fun c_79 => ?_)
                      · skip
                        rw [if_pos c_79] at hf
                        refine lv_iconst (v := 0) hx hb dX16_overAll_463 (by decide) ?_
                        exact B464 (z_54, 0) ls H_56 locs ⟨lv_sub hl [0] rfl, hP, hD, hS⟩ hf
                      · skip
                        rw [if_neg c_79] at hf
                        refine lv_aload_n hx hb dX16_overAll_453 rfl (lv_at hl 0 rfl) ?_
                        refine lv_iconst (v := 0) hx hb dX16_overAll_454 (by decide) ?_
                        refine lv_bipush (v := 64) hx hb dX16_overAll_455 (by decide) ?_
                        obtain ⟨z_80, r_81, hfc, hf⟩ := cal_some hf
                        have hFc := de_free hD hS hA
                        refine va_calli (va_runV (As := [.int 0, .int 64]) (rest := [.ref (a h0)]) ⟨hx, hb, hml, hown, hts⟩ (de_X16_count l dC dI cy a sh n H_56.size F z_54 h0 0 64 hfc) (cwV 2 hts gX16_overAll_X16_count rfl rfl rfl (by decide +kernel) ⟨Nat.le_of_ble_eq_true rfl, Nat.le_of_ble_eq_true rfl⟩) ⟨fun a U g mk q => by obtain ⟨q0, q1, qP, qK, qD, qN⟩ := q; exact ⟨q0, q1, qP, va_K.moved (u := U) (U := U.calling g mk a) (Vm.Alike.refl U.vm) qK, qD, qN.same rfl⟩, va_recv hK hP (ci := 16) (q0 := h0) rfl (Wd_ob kg_7 sg_7 (by decide)), fun U hU hW => ⟨rfl, by rw [hU], by rw [hU]; exact hP, va_K.moved hW.alike hK, hD.weaken (fun _ _ _ _ => trivial), hN.warm hW⟩⟩ rfl rfl hl.1 rfl (lv_room (Nat.le_of_ble_eq_true rfl)) dX16_overAll_457 ⟨Nat.le_of_ble_eq_true rfl, Nat.le_of_ble_eq_true rfl⟩) hS (fun q _ h => hFc q h) hFc (fun rr u t H_82 locs ht hvm hw hB hz1 hk1 hS2 => ?_)
                        rw [hw]
                        clear hw
                        obtain ⟨hP1, -, hD1⟩ := hB
                        rw [ht] at hP1
                        replace hD := hD1.weaken (fun _ _ _ h => hFc _ h)
                        replace hP := hP1
                        replace hS := hS2
                        clear hP1 hD1 hS2 hFc hfc hz1 hk1 hvm ht
                        refine lv_goto (tgt := 464) hx hb dX16_overAll_460 (by decide) ?_
                        exact B464 (z_80, r_81) ls H_82 locs ⟨lv_sub hl [0] rfl, hP, hD, hS⟩ hf
                    refine lv_icmp_ge (tgt := 445) hx hb dX16_overAll_414 (by decide) (fun c_83 => ?_) (fun c_83 => ?_)
                    · skip
                      rw [if_pos c_83] at hf
                      exact B445 (z_51) ls H locs ⟨lv_sub hl [1] rfl, hP, hD, hS⟩ hf
                    · skip
                      rw [if_neg c_83] at hf
                      refine lv_aload_n hx hb dX16_overAll_417 rfl (lv_at hl 1 rfl) ?_
                      obtain ⟨z_84, r_85, hfc, hf⟩ := cal_some hf
                      have hFc := de_free hD hS hA
                      refine va_calli (va_runV (As := []) (rest := []) ⟨hx, hb, hml, hown, hts⟩ (de_X16_isGood l dC dI cy a sh n H.size F z_51 h0 hfc) (cwV 0 hts gX16_overAll_X16_isGood rfl rfl rfl (by decide +kernel) ⟨Nat.le_of_ble_eq_true rfl, Nat.le_of_ble_eq_true rfl⟩) ⟨fun a U g mk q => by obtain ⟨q0, q1, qP, qK, qD, qN⟩ := q; exact ⟨q0, q1, qP, va_K.moved (u := U) (U := U.calling g mk a) (Vm.Alike.refl U.vm) qK, qD, qN.same rfl⟩, va_recv hK hP (ci := 16) (q0 := h0) rfl (Wd_ob kg_7 sg_7 (by decide)), fun U hU hW => ⟨rfl, by rw [hU], by rw [hU]; exact hP, va_K.moved hW.alike hK, hD.weaken (fun _ _ _ _ => trivial), hN.warm hW⟩⟩ rfl rfl hl.1 rfl (lv_room (Nat.le_of_ble_eq_true rfl)) dX16_overAll_418 ⟨Nat.le_of_ble_eq_true rfl, Nat.le_of_ble_eq_true rfl⟩) hS (fun q _ h => hFc q h) hFc (fun rr u t H_86 locs ht hvm hw hB hz1 hk1 hS2 => ?_)
                      rw [hw]
                      clear hw
                      obtain ⟨hP1, -, hD1⟩ := hB
                      rw [ht] at hP1
                      replace hD := hD1.weaken (fun _ _ _ h => hFc _ h)
                      replace hP := hP1
                      replace hS := hS2
                      clear hP1 hD1 hS2 hFc hfc hz1 hk1 hvm ht
                      refine lv_if_eq (tgt := 445) hx hb dX16_overAll_421 (by decide) (fun c_87 => ?_) (fun c_87 => ?_)
                      · skip
                        rw [if_pos c_87] at hf
                        exact B445 (z_84) ls H_86 locs ⟨lv_sub hl [1] rfl, hP, hD, hS⟩ hf
                      · skip
                        rw [if_neg c_87] at hf
                        refine lv_aload_n hx hb dX16_overAll_424 rfl (lv_at hl 1 rfl) ?_
                        obtain ⟨k_88, ek_88, hf⟩ := lnk_some hf
                        refine va_get (D := (dC, dI)) (ci := 16) (v := .ref (a k_88)) (C := RX16) (T := TX16) (N := 18) hx hb hts iwd_X16_overAll_X16 hown hK hP h0 (Wd_ob kg_7 sg_7 (by decide)) rfl 13 (by decide) (hts _ md_X16_overAll_8) (fun _ h9 => h9) (fl_q rfl ek_88) dX16_overAll_425 ?_
                        refine lv_iload_n hx hb dX16_overAll_428 rfl (lv_at hl 0 rfl) ?_
                        refine lv_aload_n hx hb dX16_overAll_429 rfl (lv_at hl 1 rfl) ?_
                        refine va_get (D := (dC, dI)) (ci := 16) (v := .int (z_84.1 h0 2)) (C := RX16) (T := TX16) (N := 18) hx hb hts iwd_X16_overAll_X16 hown hK hP h0 (Wd_ob kg_7 sg_7 (by decide)) rfl 2 (by decide) (hts _ md_X16_overAll_3) (fun _ h9 => h9) (fl_at (t := 0) rfl) dX16_overAll_430 ?_
                        obtain ⟨g_89, hf⟩ := grd_some hf
                        obtain ⟨kg_89, sg_89, ig_89⟩ := okA_at g_89
                        refine va_iast hx hb hK hP hD hS k_88 1 (Wd_ai kg_89 sg_89) rfl ig_89 dX16_overAll_433 (fun H_90 locs hP2 hD2 hS2 => ?_)
                        rw [Wd_ti sg_89] at hP2 hD2
                        obtain ⟨z_91, ez_91⟩ : ∃ w, w = si z_84 k_88 p_50.toNatClampNeg (z_84.1 h0 2) := ⟨_, rfl⟩
                        rw [← ez_91] at hP2 hD2
                        replace hf := lt_at ez_91 hf
                        clear ez_91
                        replace hP := hP2
                        replace hD := hD2
                        replace hS := hS2
                        clear hP2 hD2 hS2
                        refine lv_aload_n hx hb dX16_overAll_434 rfl (lv_at hl 1 rfl) ?_
                        refine lv_iconst (v := 0) hx hb dX16_overAll_435 (by decide) ?_
                        obtain ⟨z_92, _u, hfc, hf⟩ := cal_some hf
                        have hFc := de_free hD hS hA
                        refine va_callv (va_runV (As := [.int 0]) (rest := []) ⟨hx, hb, hml, hown, hts⟩ (de_X16_overType l dC dI cy a sh n H_90.size F z_91 h0 0 hfc) (cwV 1 hts gX16_overAll_X16_overType rfl rfl rfl (by decide +kernel) ⟨Nat.le_of_ble_eq_true rfl, Nat.le_of_ble_eq_true rfl⟩) ⟨fun a U g mk q => by obtain ⟨q0, q1, qP, qK, qD, qN⟩ := q; exact ⟨q0, q1, qP, va_K.moved (u := U) (U := U.calling g mk a) (Vm.Alike.refl U.vm) qK, qD, qN.same rfl⟩, va_recv hK hP (ci := 16) (q0 := h0) rfl (Wd_ob kg_7 sg_7 (by decide)), fun U hU hW => ⟨rfl, by rw [hU], by rw [hU]; exact hP, va_K.moved hW.alike hK, hD.weaken (fun _ _ _ _ => trivial), hN.warm hW⟩⟩ rfl rfl hl.1 rfl (lv_room (Nat.le_of_ble_eq_true rfl)) dX16_overAll_436 ⟨Nat.le_of_ble_eq_true rfl, Nat.le_of_ble_eq_true rfl⟩) hS (fun q _ h => hFc q h) hFc (fun u t H_93 locs ht hvm hw hB hz1 hk1 hS2 => ?_)
                        obtain ⟨hP1, -, hD1⟩ := hB
                        rw [ht] at hP1
                        replace hD := hD1.weaken (fun _ _ _ h => hFc _ h)
                        replace hP := hP1
                        replace hS := hS2
                        clear hP1 hD1 hS2 hFc hfc hz1 hk1 hvm ht
                        refine lv_iinc (v := (p_50 + 1)) (lv' := [(1, .int (p_50 + 1)), (0, .ref (a h0))]) hx hb dX16_overAll_439 hl (k := 0) rfl rfl (by decide) rfl (fun ls hl2 => ?_)
                        replace hl := hl2
                        clear hl2
                        refine lv_goto (tgt := 409) hx hb dX16_overAll_442 (by decide) ?_
                        exact ih409 (z_92, (p_50 + 1)) ls H_93 locs ⟨lv_sub hl [0, 1] rfl, hP, hD, hS⟩ hf
                  refine lv_if_eq (tgt := 403) hx hb dX16_overAll_390 (by decide) (fun c_94 => ?_) (fun c_94 => ?_)
                  · skip
                    rw [if_pos c_94] at hf
                    refine lv_iconst (v := 0) hx hb dX16_overAll_403 (by decide) ?_
                    exact B404 (z_43, 0) ls H_45 locs ⟨lv_sub hl [0] rfl, hP, hD, hS⟩ hf
                  · skip
                    rw [if_neg c_94] at hf
                    refine lv_aload_n hx hb dX16_overAll_393 rfl (lv_at hl 0 rfl) ?_
                    refine lv_iconst (v := 0) hx hb dX16_overAll_394 (by decide) ?_
                    refine lv_bipush (v := 32) hx hb dX16_overAll_395 (by decide) ?_
                    obtain ⟨z_95, r_96, hfc, hf⟩ := cal_some hf
                    have hFc := de_free hD hS hA
                    refine va_calli (va_runV (As := [.int 0, .int 32]) (rest := [.ref (a h0)]) ⟨hx, hb, hml, hown, hts⟩ (de_X16_count l dC dI cy a sh n H_45.size F z_43 h0 0 32 hfc) (cwV 2 hts gX16_overAll_X16_count rfl rfl rfl (by decide +kernel) ⟨Nat.le_of_ble_eq_true rfl, Nat.le_of_ble_eq_true rfl⟩) ⟨fun a U g mk q => by obtain ⟨q0, q1, qP, qK, qD, qN⟩ := q; exact ⟨q0, q1, qP, va_K.moved (u := U) (U := U.calling g mk a) (Vm.Alike.refl U.vm) qK, qD, qN.same rfl⟩, va_recv hK hP (ci := 16) (q0 := h0) rfl (Wd_ob kg_7 sg_7 (by decide)), fun U hU hW => ⟨rfl, by rw [hU], by rw [hU]; exact hP, va_K.moved hW.alike hK, hD.weaken (fun _ _ _ _ => trivial), hN.warm hW⟩⟩ rfl rfl hl.1 rfl (lv_room (Nat.le_of_ble_eq_true rfl)) dX16_overAll_397 ⟨Nat.le_of_ble_eq_true rfl, Nat.le_of_ble_eq_true rfl⟩) hS (fun q _ h => hFc q h) hFc (fun rr u t H_97 locs ht hvm hw hB hz1 hk1 hS2 => ?_)
                    rw [hw]
                    clear hw
                    obtain ⟨hP1, -, hD1⟩ := hB
                    rw [ht] at hP1
                    replace hD := hD1.weaken (fun _ _ _ h => hFc _ h)
                    replace hP := hP1
                    replace hS := hS2
                    clear hP1 hD1 hS2 hFc hfc hz1 hk1 hvm ht
                    refine lv_goto (tgt := 404) hx hb dX16_overAll_400 (by decide) ?_
                    exact B404 (z_95, r_96) ls H_97 locs ⟨lv_sub hl [0] rfl, hP, hD, hS⟩ hf
                refine lv_icmp_ge (tgt := 385) hx hb dX16_overAll_310 (by decide) (fun c_98 => ?_) (fun c_98 => ?_)
                · skip
                  rw [if_pos c_98] at hf
                  exact B385 (z_40) ls H locs ⟨lv_sub hl [1] rfl, hP, hD, hS⟩ hf
                · skip
                  rw [if_neg c_98] at hf
                  refine lv_aload_n hx hb dX16_overAll_313 rfl (lv_at hl 1 rfl) ?_
                  obtain ⟨z_99, r_100, hfc, hf⟩ := cal_some hf
                  have hFc := de_free hD hS hA
                  refine va_calli (va_runV (As := []) (rest := []) ⟨hx, hb, hml, hown, hts⟩ (de_X16_isGood l dC dI cy a sh n H.size F z_40 h0 hfc) (cwV 0 hts gX16_overAll_X16_isGood rfl rfl rfl (by decide +kernel) ⟨Nat.le_of_ble_eq_true rfl, Nat.le_of_ble_eq_true rfl⟩) ⟨fun a U g mk q => by obtain ⟨q0, q1, qP, qK, qD, qN⟩ := q; exact ⟨q0, q1, qP, va_K.moved (u := U) (U := U.calling g mk a) (Vm.Alike.refl U.vm) qK, qD, qN.same rfl⟩, va_recv hK hP (ci := 16) (q0 := h0) rfl (Wd_ob kg_7 sg_7 (by decide)), fun U hU hW => ⟨rfl, by rw [hU], by rw [hU]; exact hP, va_K.moved hW.alike hK, hD.weaken (fun _ _ _ _ => trivial), hN.warm hW⟩⟩ rfl rfl hl.1 rfl (lv_room (Nat.le_of_ble_eq_true rfl)) dX16_overAll_314 ⟨Nat.le_of_ble_eq_true rfl, Nat.le_of_ble_eq_true rfl⟩) hS (fun q _ h => hFc q h) hFc (fun rr u t H_101 locs ht hvm hw hB hz1 hk1 hS2 => ?_)
                  rw [hw]
                  clear hw
                  obtain ⟨hP1, -, hD1⟩ := hB
                  rw [ht] at hP1
                  replace hD := hD1.weaken (fun _ _ _ h => hFc _ h)
                  replace hP := hP1
                  replace hS := hS2
                  clear hP1 hD1 hS2 hFc hfc hz1 hk1 hvm ht
                  refine lv_if_eq (tgt := 385) hx hb dX16_overAll_317 (by decide) (fun c_102 => ?_) (fun c_102 => ?_)
                  · skip
                    rw [if_pos c_102] at hf
                    exact B385 (z_99) ls H_101 locs ⟨lv_sub hl [1] rfl, hP, hD, hS⟩ hf
                  · skip
                    rw [if_neg c_102] at hf
                    refine lv_aload_n hx hb dX16_overAll_320 rfl (lv_at hl 1 rfl) ?_
                    obtain ⟨k_103, ek_103, hf⟩ := lnk_some hf
                    refine va_get (D := (dC, dI)) (ci := 16) (v := .ref (a k_103)) (C := RX16) (T := TX16) (N := 18) hx hb hts iwd_X16_overAll_X16 hown hK hP h0 (Wd_ob kg_7 sg_7 (by decide)) rfl 12 (by decide) (hts _ md_X16_overAll_6) (fun _ h9 => h9) (fl_q rfl ek_103) dX16_overAll_321 ?_
                    refine lv_iload_n hx hb dX16_overAll_324 rfl (lv_at hl 0 rfl) ?_
                    refine lv_aload_n hx hb dX16_overAll_325 rfl (lv_at hl 1 rfl) ?_
                    refine va_get (D := (dC, dI)) (ci := 16) (v := .int (z_99.1 h0 2)) (C := RX16) (T := TX16) (N := 18) hx hb hts iwd_X16_overAll_X16 hown hK hP h0 (Wd_ob kg_7 sg_7 (by decide)) rfl 2 (by decide) (hts _ md_X16_overAll_3) (fun _ h9 => h9) (fl_at (t := 0) rfl) dX16_overAll_326 ?_
                    obtain ⟨g_104, hf⟩ := grd_some hf
                    obtain ⟨kg_104, sg_104, ig_104⟩ := okA_at g_104
                    refine va_iast hx hb hK hP hD hS k_103 1 (Wd_ai kg_104 sg_104) rfl ig_104 dX16_overAll_329 (fun H_105 locs hP2 hD2 hS2 => ?_)
                    rw [Wd_ti sg_104] at hP2 hD2
                    obtain ⟨z_106, ez_106⟩ : ∃ w, w = si z_99 k_103 p_39.toNatClampNeg (z_99.1 h0 2) := ⟨_, rfl⟩
                    rw [← ez_106] at hP2 hD2
                    replace hf := lt_at ez_106 hf
                    clear ez_106
                    replace hP := hP2
                    replace hD := hD2
                    replace hS := hS2
                    clear hP2 hD2 hS2
                    refine lv_aload_n hx hb dX16_overAll_330 rfl (lv_at hl 1 rfl) ?_
                    refine lv_iconst (v := 3) hx hb dX16_overAll_331 (by decide) ?_
                    obtain ⟨z_107, r_108, hfc, hf⟩ := cal_some hf
                    have hFc := de_free hD hS hA
                    refine va_calli (va_runV (As := [.int 3]) (rest := []) ⟨hx, hb, hml, hown, hts⟩ (de_X16_over l dC dI cy a sh n H_105.size F z_106 h0 3 hfc) (cwV 1 hts gX16_overAll_X16_over rfl rfl rfl (by decide +kernel) ⟨Nat.le_of_ble_eq_true rfl, Nat.le_of_ble_eq_true rfl⟩) ⟨fun a U g mk q => by obtain ⟨q0, q1, qP, qK, qD, qN⟩ := q; exact ⟨q0, q1, qP, va_K.moved (u := U) (U := U.calling g mk a) (Vm.Alike.refl U.vm) qK, qD, qN.same rfl⟩, va_recv hK hP (ci := 16) (q0 := h0) rfl (Wd_ob kg_7 sg_7 (by decide)), fun U hU hW => ⟨rfl, by rw [hU], by rw [hU]; exact hP, va_K.moved hW.alike hK, hD.weaken (fun _ _ _ _ => trivial), hN.warm hW⟩⟩ rfl rfl hl.1 rfl (lv_room (Nat.le_of_ble_eq_true rfl)) dX16_overAll_332 ⟨Nat.le_of_ble_eq_true rfl, Nat.le_of_ble_eq_true rfl⟩) hS (fun q _ h => hFc q h) hFc (fun rr u t H_109 locs ht hvm hw hB hz1 hk1 hS2 => ?_)
                    rw [hw]
                    clear hw
                    obtain ⟨hP1, -, hD1⟩ := hB
                    rw [ht] at hP1
                    replace hD := hD1.weaken (fun _ _ _ h => hFc _ h)
                    replace hP := hP1
                    replace hS := hS2
                    clear hP1 hD1 hS2 hFc hfc hz1 hk1 hvm ht
                    refine lv_pop hx hb dX16_overAll_335 rfl ?_
                    refine lv_aload_n hx hb dX16_overAll_336 rfl (lv_at hl 1 rfl) ?_
                    obtain ⟨z_110, r_111, hfc, hf⟩ := cal_some hf
                    have hFc := de_free hD hS hA
                    refine va_calli (va_runV (As := []) (rest := []) ⟨hx, hb, hml, hown, hts⟩ (de_X16_isGood l dC dI cy a sh n H_109.size F z_107 h0 hfc) (cwV 0 hts gX16_overAll_X16_isGood rfl rfl rfl (by decide +kernel) ⟨Nat.le_of_ble_eq_true rfl, Nat.le_of_ble_eq_true rfl⟩) ⟨fun a U g mk q => by obtain ⟨q0, q1, qP, qK, qD, qN⟩ := q; exact ⟨q0, q1, qP, va_K.moved (u := U) (U := U.calling g mk a) (Vm.Alike.refl U.vm) qK, qD, qN.same rfl⟩, va_recv hK hP (ci := 16) (q0 := h0) rfl (Wd_ob kg_7 sg_7 (by decide)), fun U hU hW => ⟨rfl, by rw [hU], by rw [hU]; exact hP, va_K.moved hW.alike hK, hD.weaken (fun _ _ _ _ => trivial), hN.warm hW⟩⟩ rfl rfl hl.1 rfl (lv_room (Nat.le_of_ble_eq_true rfl)) dX16_overAll_337 ⟨Nat.le_of_ble_eq_true rfl, Nat.le_of_ble_eq_true rfl⟩) hS (fun q _ h => hFc q h) hFc (fun rr u t H_112 locs ht hvm hw hB hz1 hk1 hS2 => ?_)
                    rw [hw]
                    clear hw
                    obtain ⟨hP1, -, hD1⟩ := hB
                    rw [ht] at hP1
                    replace hD := hD1.weaken (fun _ _ _ h => hFc _ h)
                    replace hP := hP1
                    replace hS := hS2
                    clear hP1 hD1 hS2 hFc hfc hz1 hk1 hvm ht
                    refine de_cut (h := 351) (fun (x : St) => []) (fun x ls H locs => lv_has ls 4 [(1, .int p_39), (0, .ref (a h0))] ∧ va_P (dC, dI) vwCl (Wd cy a sh n x) H ∧ va_D A (Wd cy a sh n x) ∧ va_S A s.heap H locs) (fun x => fn_X16_overAll_B351 F sh n h0 p_39 (fun z9 q1 => fn_X16_overAll_L305 F sh n h0 f_41 z9 q1) x) (z8, r8) ?_ (fun B351 => ?_)
                    · intro x ls H locs hI hf
                      obtain ⟨z_113, ez⟩ : ∃ w, w = x := ⟨_, rfl⟩
                      subst ez
                      obtain ⟨hl2, hP2, hD2, hS2⟩ := hI
                      replace hl : lv_has ls 4 [(1, .int p_39), (0, .ref (a h0))] := hl2
                      replace hP := hP2
                      replace hD := hD2
                      replace hS := hS2
                      clear hl2 hP2 hD2 hS2
                      replace hf := fn_X16_overAll_B351_s hf
                      refine W.eq (g2 := F0 m 351 ls []) rfl ?_
                      refine lv_aload_n hx hb dX16_overAll_351 rfl (lv_at hl 1 rfl) ?_
                      obtain ⟨z_114, r_115, hfc, hf⟩ := cal_some hf
                      have hFc := de_free hD hS hA
                      refine va_calli (va_runV (As := []) (rest := []) ⟨hx, hb, hml, hown, hts⟩ (de_X16_isGood l dC dI cy a sh n H.size F z_113 h0 hfc) (cwV 0 hts gX16_overAll_X16_isGood rfl rfl rfl (by decide +kernel) ⟨Nat.le_of_ble_eq_true rfl, Nat.le_of_ble_eq_true rfl⟩) ⟨fun a U g mk q => by obtain ⟨q0, q1, qP, qK, qD, qN⟩ := q; exact ⟨q0, q1, qP, va_K.moved (u := U) (U := U.calling g mk a) (Vm.Alike.refl U.vm) qK, qD, qN.same rfl⟩, va_recv hK hP (ci := 16) (q0 := h0) rfl (Wd_ob kg_7 sg_7 (by decide)), fun U hU hW => ⟨rfl, by rw [hU], by rw [hU]; exact hP, va_K.moved hW.alike hK, hD.weaken (fun _ _ _ _ => trivial), hN.warm hW⟩⟩ rfl rfl hl.1 rfl (lv_room (Nat.le_of_ble_eq_true rfl)) dX16_overAll_352 ⟨Nat.le_of_ble_eq_true rfl, Nat.le_of_ble_eq_true rfl⟩) hS (fun q _ h => hFc q h) hFc (fun rr u t H_116 locs ht hvm hw hB hz1 hk1 hS2 => ?_)
                      rw [hw]
                      clear hw
                      obtain ⟨hP1, -, hD1⟩ := hB
                      rw [ht] at hP1
                      replace hD := hD1.weaken (fun _ _ _ h => hFc _ h)
                      replace hP := hP1
                      replace hS := hS2
                      clear hP1 hD1 hS2 hFc hfc hz1 hk1 hvm ht
                      refine de_cut (h := 365) (fun (x : St) => []) (fun x ls H locs => lv_has ls 4 [(1, .int p_39), (0, .ref (a h0))] ∧ va_P (dC, dI) vwCl (Wd cy a sh n x) H ∧ va_D A (Wd cy a sh n x) ∧ va_S A s.heap H locs) (fun x => fn_X16_overAll_B365 F sh n h0 p_39 (fun z9 q1 => fn_X16_overAll_L305 F sh n h0 f_41 z9 q1) x) (z8, r8) ?_ (fun B365 => ?_)
                      · intro x ls H locs hI hf
                        obtain ⟨z_117, ez⟩ : ∃ w, w = x := ⟨_, rfl⟩
                        subst ez
                        obtain ⟨hl2, hP2, hD2, hS2⟩ := hI
                        replace hl : lv_has ls 4 [(1, .int p_39), (0, .ref (a h0))] := hl2
                        replace hP := hP2
                        replace hD := hD2
                        replace hS := hS2
                        clear hl2 hP2 hD2 hS2
                        replace hf := fn_X16_overAll_B365_s hf
                        refine W.eq (g2 := F0 m 365 ls []) rfl ?_
                        refine lv_aload_n hx hb dX16_overAll_365 rfl (lv_at hl 1 rfl) ?_
                        obtain ⟨z_118, r_119, hfc, hf⟩ := cal_some hf
                        have hFc := de_free hD hS hA
                        refine va_calli (va_runV (As := []) (rest := []) ⟨hx, hb, hml, hown, hts⟩ (de_X16_isGood l dC dI cy a sh n H.size F z_117 h0 hfc) (cwV 0 hts gX16_overAll_X16_isGood rfl rfl rfl (by decide +kernel) ⟨Nat.le_of_ble_eq_true rfl, Nat.le_of_ble_eq_true rfl⟩) ⟨fun a U g mk q => by obtain ⟨q0, q1, qP, qK, qD, qN⟩ := q; exact ⟨q0, q1, qP, va_K.moved (u := U) (U := U.calling g mk a) (Vm.Alike.refl U.vm) qK, qD, qN.same rfl⟩, va_recv hK hP (ci := 16) (q0 := h0) rfl (Wd_ob kg_7 sg_7 (by decide)), fun U hU hW => ⟨rfl, by rw [hU], by rw [hU]; exact hP, va_K.moved hW.alike hK, hD.weaken (fun _ _ _ _ => trivial), hN.warm hW⟩⟩ rfl rfl hl.1 rfl (lv_room (Nat.le_of_ble_eq_true rfl)) dX16_overAll_366 ⟨Nat.le_of_ble_eq_true rfl, Nat.le_of_ble_eq_true rfl⟩) hS (fun q _ h => hFc q h) hFc (fun rr u t H_120 locs ht hvm hw hB hz1 hk1 hS2 => ?_)
                        rw [hw]
                        clear hw
                        obtain ⟨hP1, -, hD1⟩ := hB
                        rw [ht] at hP1
                        replace hD := hD1.weaken (fun _ _ _ h => hFc _ h)
                        replace hP := hP1
                        replace hS := hS2
                        clear hP1 hD1 hS2 hFc hfc hz1 hk1 hvm ht
                        refine de_cut (h := 379) (fun (x : St) => []) (fun x ls H locs => lv_has ls 4 [(1, .int p_39), (0, .ref (a h0))] ∧ va_P (dC, dI) vwCl (Wd cy a sh n x) H ∧ va_D A (Wd cy a sh n x) ∧ va_S A s.heap H locs) (fun x => fn_X16_overAll_B379 F sh n p_39 (fun z9 q1 => fn_X16_overAll_L305 F sh n h0 f_41 z9 q1) x) (z8, r8) ?_ (fun B379 => ?_)
                        · intro x ls H locs hI hf
                          obtain ⟨z_121, ez⟩ : ∃ w, w = x := ⟨_, rfl⟩
                          subst ez
                          obtain ⟨hl2, hP2, hD2, hS2⟩ := hI
                          replace hl : lv_has ls 4 [(1, .int p_39), (0, .ref (a h0))] := hl2
                          replace hP := hP2
                          replace hD := hD2
                          replace hS := hS2
                          clear hl2 hP2 hD2 hS2
                          replace hf := fn_X16_overAll_B379_s hf
                          refine W.eq (g2 := F0 m 379 ls []) rfl ?_
                          refine lv_iinc (v := (p_39 + 1)) (lv' := [(1, .int (p_39 + 1)), (0, .ref (a h0))]) hx hb dX16_overAll_379 hl (k := 0) rfl rfl (by decide) rfl (fun ls hl2 => ?_)
                          replace hl := hl2
                          clear hl2
                          refine lv_goto (tgt := 305) hx hb dX16_overAll_382 (by decide) ?_
                          exact ih305 (z_121, (p_39 + 1)) ls H locs ⟨lv_sub hl [0, 1] rfl, hP, hD, hS⟩ hf
                        refine lv_if_eq (tgt := 379) hx hb dX16_overAll_369 (by decide) (fun c_122 => ?_) (fun c_122 => ?_)
                        · skip
                          rw [if_pos c_122] at hf
                          exact B379 (z_118) ls H_120 locs ⟨lv_sub hl [0, 1] rfl, hP, hD, hS⟩ hf
                        · skip
                          rw [if_neg c_122] at hf
                          refine lv_aload_n hx hb dX16_overAll_372 rfl (lv_at hl 1 rfl) ?_
                          refine lv_bipush (v := 8) hx hb dX16_overAll_373 (by decide) ?_
                          refine lv_iconst (v := 1) hx hb dX16_overAll_375 (by decide) ?_
                          obtain ⟨z_123, _u, hfc, hf⟩ := cal_some hf
                          have hFc := de_free hD hS hA
                          refine va_callv (va_runV (As := [.int 8, .int 1]) (rest := []) ⟨hx, hb, hml, hown, hts⟩ (de_X16_overList l dC dI cy a sh n H_120.size F z_118 h0 8 1 hfc) (cwV 2 hts gX16_overAll_X16_overList rfl rfl rfl (by decide +kernel) ⟨Nat.le_of_ble_eq_true rfl, Nat.le_of_ble_eq_true rfl⟩) ⟨fun a U g mk q => by obtain ⟨q0, q1, qP, qK, qD, qN⟩ := q; exact ⟨q0, q1, qP, va_K.moved (u := U) (U := U.calling g mk a) (Vm.Alike.refl U.vm) qK, qD, qN.same rfl⟩, va_recv hK hP (ci := 16) (q0 := h0) rfl (Wd_ob kg_7 sg_7 (by decide)), fun U hU hW => ⟨rfl, by rw [hU], by rw [hU]; exact hP, va_K.moved hW.alike hK, hD.weaken (fun _ _ _ _ => trivial), hN.warm hW⟩⟩ rfl rfl hl.1 rfl (lv_room (Nat.le_of_ble_eq_true rfl)) dX16_overAll_376 ⟨Nat.le_of_ble_eq_true rfl, Nat.le_of_ble_eq_true rfl⟩) hS (fun q _ h => hFc q h) hFc (fun u t H_124 locs ht hvm hw hB hz1 hk1 hS2 => ?_)
                          obtain ⟨hP1, -, hD1⟩ := hB
                          rw [ht] at hP1
                          replace hD := hD1.weaken (fun _ _ _ h => hFc _ h)
                          replace hP := hP1
                          replace hS := hS2
                          clear hP1 hD1 hS2 hFc hfc hz1 hk1 hvm ht
                          exact B379 (z_123) ls H_124 locs ⟨lv_sub hl [0, 1] rfl, hP, hD, hS⟩ hf
                      refine lv_if_eq (tgt := 365) hx hb dX16_overAll_355 (by decide) (fun c_125 => ?_) (fun c_125 => ?_)
                      · skip
                        rw [if_pos c_125] at hf
                        exact B365 (z_114) ls H_116 locs ⟨lv_sub hl [0, 1] rfl, hP, hD, hS⟩ hf
                      · skip
                        rw [if_neg c_125] at hf
                        refine lv_aload_n hx hb dX16_overAll_358 rfl (lv_at hl 1 rfl) ?_
                        refine lv_bipush (v := 8) hx hb dX16_overAll_359 (by decide) ?_
                        refine lv_iconst (v := 1) hx hb dX16_overAll_361 (by decide) ?_
                        obtain ⟨z_126, _u, hfc, hf⟩ := cal_some hf
                        have hFc := de_free hD hS hA
                        refine va_callv (va_runV (As := [.int 8, .int 1]) (rest := []) ⟨hx, hb, hml, hown, hts⟩ (de_X16_overList l dC dI cy a sh n H_116.size F z_114 h0 8 1 hfc) (cwV 2 hts gX16_overAll_X16_overList rfl rfl rfl (by decide +kernel) ⟨Nat.le_of_ble_eq_true rfl, Nat.le_of_ble_eq_true rfl⟩) ⟨fun a U g mk q => by obtain ⟨q0, q1, qP, qK, qD, qN⟩ := q; exact ⟨q0, q1, qP, va_K.moved (u := U) (U := U.calling g mk a) (Vm.Alike.refl U.vm) qK, qD, qN.same rfl⟩, va_recv hK hP (ci := 16) (q0 := h0) rfl (Wd_ob kg_7 sg_7 (by decide)), fun U hU hW => ⟨rfl, by rw [hU], by rw [hU]; exact hP, va_K.moved hW.alike hK, hD.weaken (fun _ _ _ _ => trivial), hN.warm hW⟩⟩ rfl rfl hl.1 rfl (lv_room (Nat.le_of_ble_eq_true rfl)) dX16_overAll_362 ⟨Nat.le_of_ble_eq_true rfl, Nat.le_of_ble_eq_true rfl⟩) hS (fun q _ h => hFc q h) hFc (fun u t H_127 locs ht hvm hw hB hz1 hk1 hS2 => ?_)
                        obtain ⟨hP1, -, hD1⟩ := hB
                        rw [ht] at hP1
                        replace hD := hD1.weaken (fun _ _ _ h => hFc _ h)
                        replace hP := hP1
                        replace hS := hS2
                        clear hP1 hD1 hS2 hFc hfc hz1 hk1 hvm ht
                        exact B365 (z_126) ls H_127 locs ⟨lv_sub hl [0, 1] rfl, hP, hD, hS⟩ hf
                    refine lv_if_eq (tgt := 351) hx hb dX16_overAll_340 (by decide) (fun c_128 => ?_) (fun c_128 => ?_)
                    · skip
                      rw [if_pos c_128] at hf
                      exact B351 (z_110) ls H_112 locs ⟨lv_sub hl [0, 1] rfl, hP, hD, hS⟩ hf
                    · skip
                      rw [if_neg c_128] at hf
                      refine lv_aload_n hx hb dX16_overAll_343 rfl (lv_at hl 1 rfl) ?_
                      refine lv_iconst (v := 0) hx hb dX16_overAll_344 (by decide) ?_
                      refine lv_bipush (v := 7) hx hb dX16_overAll_345 (by decide) ?_
                      obtain ⟨z_129, r_130, hfc, hf⟩ := cal_some hf
                      have hFc := de_free hD hS hA
                      refine va_calli (va_runV (As := [.int 0, .int 7]) (rest := []) ⟨hx, hb, hml, hown, hts⟩ (de_X16_count l dC dI cy a sh n H_112.size F z_110 h0 0 7 hfc) (cwV 2 hts gX16_overAll_X16_count rfl rfl rfl (by decide +kernel) ⟨Nat.le_of_ble_eq_true rfl, Nat.le_of_ble_eq_true rfl⟩) ⟨fun a U g mk q => by obtain ⟨q0, q1, qP, qK, qD, qN⟩ := q; exact ⟨q0, q1, qP, va_K.moved (u := U) (U := U.calling g mk a) (Vm.Alike.refl U.vm) qK, qD, qN.same rfl⟩, va_recv hK hP (ci := 16) (q0 := h0) rfl (Wd_ob kg_7 sg_7 (by decide)), fun U hU hW => ⟨rfl, by rw [hU], by rw [hU]; exact hP, va_K.moved hW.alike hK, hD.weaken (fun _ _ _ _ => trivial), hN.warm hW⟩⟩ rfl rfl hl.1 rfl (lv_room (Nat.le_of_ble_eq_true rfl)) dX16_overAll_347 ⟨Nat.le_of_ble_eq_true rfl, Nat.le_of_ble_eq_true rfl⟩) hS (fun q _ h => hFc q h) hFc (fun rr u t H_131 locs ht hvm hw hB hz1 hk1 hS2 => ?_)
                      rw [hw]
                      clear hw
                      obtain ⟨hP1, -, hD1⟩ := hB
                      rw [ht] at hP1
                      replace hD := hD1.weaken (fun _ _ _ h => hFc _ h)
                      replace hP := hP1
                      replace hS := hS2
                      clear hP1 hD1 hS2 hFc hfc hz1 hk1 hvm ht
                      refine lv_pop hx hb dX16_overAll_350 rfl ?_
                      exact B351 (z_129) ls H_131 locs ⟨lv_sub hl [0, 1] rfl, hP, hD, hS⟩ hf
              refine lv_if_eq (tgt := 299) hx hb dX16_overAll_286 (by decide) (fun c_132 => ?_) (fun c_132 => ?_)
              · skip
                rw [if_pos c_132] at hf
                refine lv_iconst (v := 0) hx hb dX16_overAll_299 (by decide) ?_
                exact B300 (z_32, 0) ls H_34 locs ⟨lv_sub hl [0] rfl, hP, hD, hS⟩ hf
              · skip
                rw [if_neg c_132] at hf
                refine lv_aload_n hx hb dX16_overAll_289 rfl (lv_at hl 0 rfl) ?_
                refine lv_iconst (v := 0) hx hb dX16_overAll_290 (by decide) ?_
                refine lv_bipush (v := 32) hx hb dX16_overAll_291 (by decide) ?_
                obtain ⟨z_133, r_134, hfc, hf⟩ := cal_some hf
                have hFc := de_free hD hS hA
                refine va_calli (va_runV (As := [.int 0, .int 32]) (rest := [.ref (a h0)]) ⟨hx, hb, hml, hown, hts⟩ (de_X16_count l dC dI cy a sh n H_34.size F z_32 h0 0 32 hfc) (cwV 2 hts gX16_overAll_X16_count rfl rfl rfl (by decide +kernel) ⟨Nat.le_of_ble_eq_true rfl, Nat.le_of_ble_eq_true rfl⟩) ⟨fun a U g mk q => by obtain ⟨q0, q1, qP, qK, qD, qN⟩ := q; exact ⟨q0, q1, qP, va_K.moved (u := U) (U := U.calling g mk a) (Vm.Alike.refl U.vm) qK, qD, qN.same rfl⟩, va_recv hK hP (ci := 16) (q0 := h0) rfl (Wd_ob kg_7 sg_7 (by decide)), fun U hU hW => ⟨rfl, by rw [hU], by rw [hU]; exact hP, va_K.moved hW.alike hK, hD.weaken (fun _ _ _ _ => trivial), hN.warm hW⟩⟩ rfl rfl hl.1 rfl (lv_room (Nat.le_of_ble_eq_true rfl)) dX16_overAll_293 ⟨Nat.le_of_ble_eq_true rfl, Nat.le_of_ble_eq_true rfl⟩) hS (fun q _ h => hFc q h) hFc (fun rr u t H_135 locs ht hvm hw hB hz1 hk1 hS2 => ?_)
                rw [hw]
                clear hw
                obtain ⟨hP1, -, hD1⟩ := hB
                rw [ht] at hP1
                replace hD := hD1.weaken (fun _ _ _ h => hFc _ h)
                replace hP := hP1
                replace hS := hS2
                clear hP1 hD1 hS2 hFc hfc hz1 hk1 hvm ht
                refine lv_goto (tgt := 300) hx hb dX16_overAll_296 (by decide) ?_
                exact B300 (z_133, r_134) ls H_135 locs ⟨lv_sub hl [0] rfl, hP, hD, hS⟩ hf
            refine lv_icmp_ge (tgt := 281) hx hb dX16_overAll_229 (by decide) (fun c_136 => ?_) (fun c_136 => ?_)
            · skip
              rw [if_pos c_136] at hf
              exact B281 (z_29) ls H locs ⟨lv_sub hl [1] rfl, hP, hD, hS⟩ hf
            · skip
              rw [if_neg c_136] at hf
              refine lv_aload_n hx hb dX16_overAll_232 rfl (lv_at hl 1 rfl) ?_
              obtain ⟨z_137, r_138, hfc, hf⟩ := cal_some hf
              have hFc := de_free hD hS hA
              refine va_calli (va_runV (As := []) (rest := []) ⟨hx, hb, hml, hown, hts⟩ (de_X16_isGood l dC dI cy a sh n H.size F z_29 h0 hfc) (cwV 0 hts gX16_overAll_X16_isGood rfl rfl rfl (by decide +kernel) ⟨Nat.le_of_ble_eq_true rfl, Nat.le_of_ble_eq_true rfl⟩) ⟨fun a U g mk q => by obtain ⟨q0, q1, qP, qK, qD, qN⟩ := q; exact ⟨q0, q1, qP, va_K.moved (u := U) (U := U.calling g mk a) (Vm.Alike.refl U.vm) qK, qD, qN.same rfl⟩, va_recv hK hP (ci := 16) (q0 := h0) rfl (Wd_ob kg_7 sg_7 (by decide)), fun U hU hW => ⟨rfl, by rw [hU], by rw [hU]; exact hP, va_K.moved hW.alike hK, hD.weaken (fun _ _ _ _ => trivial), hN.warm hW⟩⟩ rfl rfl hl.1 rfl (lv_room (Nat.le_of_ble_eq_true rfl)) dX16_overAll_233 ⟨Nat.le_of_ble_eq_true rfl, Nat.le_of_ble_eq_true rfl⟩) hS (fun q _ h => hFc q h) hFc (fun rr u t H_139 locs ht hvm hw hB hz1 hk1 hS2 => ?_)
              rw [hw]
              clear hw
              obtain ⟨hP1, -, hD1⟩ := hB
              rw [ht] at hP1
              replace hD := hD1.weaken (fun _ _ _ h => hFc _ h)
              replace hP := hP1
              replace hS := hS2
              clear hP1 hD1 hS2 hFc hfc hz1 hk1 hvm ht
              refine lv_if_eq (tgt := 281) hx hb dX16_overAll_236 (by decide) (fun c_140 => ?_) (fun c_140 => ?_)
              · skip
                rw [if_pos c_140] at hf
                exact B281 (z_137) ls H_139 locs ⟨lv_sub hl [1] rfl, hP, hD, hS⟩ hf
              · skip
                rw [if_neg c_140] at hf
                refine lv_aload_n hx hb dX16_overAll_239 rfl (lv_at hl 1 rfl) ?_
                obtain ⟨k_141, ek_141, hf⟩ := lnk_some hf
                refine va_get (D := (dC, dI)) (ci := 16) (v := .ref (a k_141)) (C := RX16) (T := TX16) (N := 18) hx hb hts iwd_X16_overAll_X16 hown hK hP h0 (Wd_ob kg_7 sg_7 (by decide)) rfl 11 (by decide) (hts _ md_X16_overAll_2) (fun _ h9 => h9) (fl_q rfl ek_141) dX16_overAll_240 ?_
                refine lv_aload_n hx hb dX16_overAll_243 rfl (lv_at hl 1 rfl) ?_
                refine va_get (D := (dC, dI)) (ci := 16) (v := .int (z_137.1 h0 5)) (C := RX16) (T := TX16) (N := 18) hx hb hts iwd_X16_overAll_X16 hown hK hP h0 (Wd_ob kg_7 sg_7 (by decide)) rfl 5 (by decide) (hts _ md_X16_overAll_1) (fun _ h9 => h9) (fl_at (t := 0) rfl) dX16_overAll_244 ?_
                refine lv_iload_n hx hb dX16_overAll_247 rfl (lv_at hl 0 rfl) ?_
                refine lv_iadd hx hb dX16_overAll_248 ?_
                refine lv_aload_n hx hb dX16_overAll_249 rfl (lv_at hl 1 rfl) ?_
                refine va_get (D := (dC, dI)) (ci := 16) (v := .int (z_137.1 h0 2)) (C := RX16) (T := TX16) (N := 18) hx hb hts iwd_X16_overAll_X16 hown hK hP h0 (Wd_ob kg_7 sg_7 (by decide)) rfl 2 (by decide) (hts _ md_X16_overAll_3) (fun _ h9 => h9) (fl_at (t := 0) rfl) dX16_overAll_250 ?_
                obtain ⟨g_142, hf⟩ := grd_some hf
                obtain ⟨kg_142, sg_142, ig_142⟩ := okA_at g_142
                refine va_iast hx hb hK hP hD hS k_141 1 (Wd_ai kg_142 sg_142) rfl ig_142 dX16_overAll_253 (fun H_143 locs hP2 hD2 hS2 => ?_)
                rw [Wd_ti sg_142] at hP2 hD2
                obtain ⟨z_144, ez_144⟩ : ∃ w, w = si z_137 k_141 ((z_137.1 h0 5) + p_28).toNatClampNeg (z_137.1 h0 2) := ⟨_, rfl⟩
                rw [← ez_144] at hP2 hD2
                replace hf := lt_at ez_144 hf
                clear ez_144
                replace hP := hP2
                replace hD := hD2
                replace hS := hS2
                clear hP2 hD2 hS2
                refine lv_aload_n hx hb dX16_overAll_254 rfl (lv_at hl 1 rfl) ?_
                refine lv_iconst (v := 3) hx hb dX16_overAll_255 (by decide) ?_
                obtain ⟨z_145, r_146, hfc, hf⟩ := cal_some hf
                have hFc := de_free hD hS hA
                refine va_calli (va_runV (As := [.int 3]) (rest := []) ⟨hx, hb, hml, hown, hts⟩ (de_X16_over l dC dI cy a sh n H_143.size F z_144 h0 3 hfc) (cwV 1 hts gX16_overAll_X16_over rfl rfl rfl (by decide +kernel) ⟨Nat.le_of_ble_eq_true rfl, Nat.le_of_ble_eq_true rfl⟩) ⟨fun a U g mk q => by obtain ⟨q0, q1, qP, qK, qD, qN⟩ := q; exact ⟨q0, q1, qP, va_K.moved (u := U) (U := U.calling g mk a) (Vm.Alike.refl U.vm) qK, qD, qN.same rfl⟩, va_recv hK hP (ci := 16) (q0 := h0) rfl (Wd_ob kg_7 sg_7 (by decide)), fun U hU hW => ⟨rfl, by rw [hU], by rw [hU]; exact hP, va_K.moved hW.alike hK, hD.weaken (fun _ _ _ _ => trivial), hN.warm hW⟩⟩ rfl rfl hl.1 rfl (lv_room (Nat.le_of_ble_eq_true rfl)) dX16_overAll_256 ⟨Nat.le_of_ble_eq_true rfl, Nat.le_of_ble_eq_true rfl⟩) hS (fun q _ h => hFc q h) hFc (fun rr u t H_147 locs ht hvm hw hB hz1 hk1 hS2 => ?_)
                rw [hw]
                clear hw
                obtain ⟨hP1, -, hD1⟩ := hB
                rw [ht] at hP1
                replace hD := hD1.weaken (fun _ _ _ h => hFc _ h)
                replace hP := hP1
                replace hS := hS2
                clear hP1 hD1 hS2 hFc hfc hz1 hk1 hvm ht
                refine lv_pop hx hb dX16_overAll_259 rfl ?_
                refine lv_aload_n hx hb dX16_overAll_260 rfl (lv_at hl 1 rfl) ?_
                obtain ⟨z_148, r_149, hfc, hf⟩ := cal_some hf
                have hFc := de_free hD hS hA
                refine va_calli (va_runV (As := []) (rest := []) ⟨hx, hb, hml, hown, hts⟩ (de_X16_isGood l dC dI cy a sh n H_147.size F z_145 h0 hfc) (cwV 0 hts gX16_overAll_X16_isGood rfl rfl rfl (by decide +kernel) ⟨Nat.le_of_ble_eq_true rfl, Nat.le_of_ble_eq_true rfl⟩) ⟨fun a U g mk q => by obtain ⟨q0, q1, qP, qK, qD, qN⟩ := q; exact ⟨q0, q1, qP, va_K.moved (u := U) (U := U.calling g mk a) (Vm.Alike.refl U.vm) qK, qD, qN.same rfl⟩, va_recv hK hP (ci := 16) (q0 := h0) rfl (Wd_ob kg_7 sg_7 (by decide)), fun U hU hW => ⟨rfl, by rw [hU], by rw [hU]; exact hP, va_K.moved hW.alike hK, hD.weaken (fun _ _ _ _ => trivial), hN.warm hW⟩⟩ rfl rfl hl.1 rfl (lv_room (Nat.le_of_ble_eq_true rfl)) dX16_overAll_261 ⟨Nat.le_of_ble_eq_true rfl, Nat.le_of_ble_eq_true rfl⟩) hS (fun q _ h => hFc q h) hFc (fun rr u t H_150 locs ht hvm hw hB hz1 hk1 hS2 => ?_)
                rw [hw]
                clear hw
                obtain ⟨hP1, -, hD1⟩ := hB
                rw [ht] at hP1
                replace hD := hD1.weaken (fun _ _ _ h => hFc _ h)
                replace hP := hP1
                replace hS := hS2
                clear hP1 hD1 hS2 hFc hfc hz1 hk1 hvm ht
                refine de_cut (h := 275) (fun (x : St) => []) (fun x ls H locs => lv_has ls 4 [(1, .int p_28), (0, .ref (a h0))] ∧ va_P (dC, dI) vwCl (Wd cy a sh n x) H ∧ va_D A (Wd cy a sh n x) ∧ va_S A s.heap H locs) (fun x => fn_X16_overAll_B275 F sh n p_28 (fun z9 q1 => fn_X16_overAll_L224 F sh n h0 f_30 z9 q1) x) (z8, r8) ?_ (fun B275 => ?_)
                · intro x ls H locs hI hf
                  obtain ⟨z_151, ez⟩ : ∃ w, w = x := ⟨_, rfl⟩
                  subst ez
                  obtain ⟨hl2, hP2, hD2, hS2⟩ := hI
                  replace hl : lv_has ls 4 [(1, .int p_28), (0, .ref (a h0))] := hl2
                  replace hP := hP2
                  replace hD := hD2
                  replace hS := hS2
                  clear hl2 hP2 hD2 hS2
                  replace hf := fn_X16_overAll_B275_s hf
                  refine W.eq (g2 := F0 m 275 ls []) rfl ?_
                  refine lv_iinc (v := (p_28 + 1)) (lv' := [(1, .int (p_28 + 1)), (0, .ref (a h0))]) hx hb dX16_overAll_275 hl (k := 0) rfl rfl (by decide) rfl (fun ls hl2 => ?_)
                  replace hl := hl2
                  clear hl2
                  refine lv_goto (tgt := 224) hx hb dX16_overAll_278 (by decide) ?_
                  exact ih224 (z_151, (p_28 + 1)) ls H locs ⟨lv_sub hl [0, 1] rfl, hP, hD, hS⟩ hf
                refine lv_if_eq (tgt := 275) hx hb dX16_overAll_264 (by decide) (fun c_152 => ?_) (fun c_152 => ?_)
                · skip
                  rw [if_pos c_152] at hf
                  exact B275 (z_148) ls H_150 locs ⟨lv_sub hl [0, 1] rfl, hP, hD, hS⟩ hf
                · skip
                  rw [if_neg c_152] at hf
                  refine lv_aload_n hx hb dX16_overAll_267 rfl (lv_at hl 1 rfl) ?_
                  refine lv_iconst (v := 0) hx hb dX16_overAll_268 (by decide) ?_
                  refine lv_bipush (v := 15) hx hb dX16_overAll_269 (by decide) ?_
                  obtain ⟨z_153, r_154, hfc, hf⟩ := cal_some hf
                  have hFc := de_free hD hS hA
                  refine va_calli (va_runV (As := [.int 0, .int 15]) (rest := []) ⟨hx, hb, hml, hown, hts⟩ (de_X16_count l dC dI cy a sh n H_150.size F z_148 h0 0 15 hfc) (cwV 2 hts gX16_overAll_X16_count rfl rfl rfl (by decide +kernel) ⟨Nat.le_of_ble_eq_true rfl, Nat.le_of_ble_eq_true rfl⟩) ⟨fun a U g mk q => by obtain ⟨q0, q1, qP, qK, qD, qN⟩ := q; exact ⟨q0, q1, qP, va_K.moved (u := U) (U := U.calling g mk a) (Vm.Alike.refl U.vm) qK, qD, qN.same rfl⟩, va_recv hK hP (ci := 16) (q0 := h0) rfl (Wd_ob kg_7 sg_7 (by decide)), fun U hU hW => ⟨rfl, by rw [hU], by rw [hU]; exact hP, va_K.moved hW.alike hK, hD.weaken (fun _ _ _ _ => trivial), hN.warm hW⟩⟩ rfl rfl hl.1 rfl (lv_room (Nat.le_of_ble_eq_true rfl)) dX16_overAll_271 ⟨Nat.le_of_ble_eq_true rfl, Nat.le_of_ble_eq_true rfl⟩) hS (fun q _ h => hFc q h) hFc (fun rr u t H_155 locs ht hvm hw hB hz1 hk1 hS2 => ?_)
                  rw [hw]
                  clear hw
                  obtain ⟨hP1, -, hD1⟩ := hB
                  rw [ht] at hP1
                  replace hD := hD1.weaken (fun _ _ _ h => hFc _ h)
                  replace hP := hP1
                  replace hS := hS2
                  clear hP1 hD1 hS2 hFc hfc hz1 hk1 hvm ht
                  refine lv_pop hx hb dX16_overAll_274 rfl ?_
                  exact B275 (z_153) ls H_155 locs ⟨lv_sub hl [0, 1] rfl, hP, hD, hS⟩ hf
          refine lv_if_eq (tgt := 218) hx hb dX16_overAll_205 (by decide) (fun c_156 => ?_) (fun c_156 => ?_)
          · skip
            rw [if_pos c_156] at hf
            refine lv_iconst (v := 0) hx hb dX16_overAll_218 (by decide) ?_
            exact B219 (z_21, 0) ls H_23 locs ⟨lv_sub hl [0] rfl, hP, hD, hS⟩ hf
          · skip
            rw [if_neg c_156] at hf
            refine lv_aload_n hx hb dX16_overAll_208 rfl (lv_at hl 0 rfl) ?_
            refine lv_iconst (v := 0) hx hb dX16_overAll_209 (by decide) ?_
            refine lv_bipush (v := 32) hx hb dX16_overAll_210 (by decide) ?_
            obtain ⟨z_157, r_158, hfc, hf⟩ := cal_some hf
            have hFc := de_free hD hS hA
            refine va_calli (va_runV (As := [.int 0, .int 32]) (rest := [.ref (a h0)]) ⟨hx, hb, hml, hown, hts⟩ (de_X16_count l dC dI cy a sh n H_23.size F z_21 h0 0 32 hfc) (cwV 2 hts gX16_overAll_X16_count rfl rfl rfl (by decide +kernel) ⟨Nat.le_of_ble_eq_true rfl, Nat.le_of_ble_eq_true rfl⟩) ⟨fun a U g mk q => by obtain ⟨q0, q1, qP, qK, qD, qN⟩ := q; exact ⟨q0, q1, qP, va_K.moved (u := U) (U := U.calling g mk a) (Vm.Alike.refl U.vm) qK, qD, qN.same rfl⟩, va_recv hK hP (ci := 16) (q0 := h0) rfl (Wd_ob kg_7 sg_7 (by decide)), fun U hU hW => ⟨rfl, by rw [hU], by rw [hU]; exact hP, va_K.moved hW.alike hK, hD.weaken (fun _ _ _ _ => trivial), hN.warm hW⟩⟩ rfl rfl hl.1 rfl (lv_room (Nat.le_of_ble_eq_true rfl)) dX16_overAll_212 ⟨Nat.le_of_ble_eq_true rfl, Nat.le_of_ble_eq_true rfl⟩) hS (fun q _ h => hFc q h) hFc (fun rr u t H_159 locs ht hvm hw hB hz1 hk1 hS2 => ?_)
            rw [hw]
            clear hw
            obtain ⟨hP1, -, hD1⟩ := hB
            rw [ht] at hP1
            replace hD := hD1.weaken (fun _ _ _ h => hFc _ h)
            replace hP := hP1
            replace hS := hS2
            clear hP1 hD1 hS2 hFc hfc hz1 hk1 hvm ht
            refine lv_goto (tgt := 219) hx hb dX16_overAll_215 (by decide) ?_
            exact B219 (z_157, r_158) ls H_159 locs ⟨lv_sub hl [0] rfl, hP, hD, hS⟩ hf
        refine lv_icmp_ge (tgt := 200) hx hb dX16_overAll_122 (by decide) (fun c_160 => ?_) (fun c_160 => ?_)
        · skip
          rw [if_pos c_160] at hf
          exact B200 (z_18) ls H locs ⟨lv_sub hl [1] rfl, hP, hD, hS⟩ hf
        · skip
          rw [if_neg c_160] at hf
          refine lv_aload_n hx hb dX16_overAll_125 rfl (lv_at hl 1 rfl) ?_
          obtain ⟨z_161, r_162, hfc, hf⟩ := cal_some hf
          have hFc := de_free hD hS hA
          refine va_calli (va_runV (As := []) (rest := []) ⟨hx, hb, hml, hown, hts⟩ (de_X16_isGood l dC dI cy a sh n H.size F z_18 h0 hfc) (cwV 0 hts gX16_overAll_X16_isGood rfl rfl rfl (by decide +kernel) ⟨Nat.le_of_ble_eq_true rfl, Nat.le_of_ble_eq_true rfl⟩) ⟨fun a U g mk q => by obtain ⟨q0, q1, qP, qK, qD, qN⟩ := q; exact ⟨q0, q1, qP, va_K.moved (u := U) (U := U.calling g mk a) (Vm.Alike.refl U.vm) qK, qD, qN.same rfl⟩, va_recv hK hP (ci := 16) (q0 := h0) rfl (Wd_ob kg_7 sg_7 (by decide)), fun U hU hW => ⟨rfl, by rw [hU], by rw [hU]; exact hP, va_K.moved hW.alike hK, hD.weaken (fun _ _ _ _ => trivial), hN.warm hW⟩⟩ rfl rfl hl.1 rfl (lv_room (Nat.le_of_ble_eq_true rfl)) dX16_overAll_126 ⟨Nat.le_of_ble_eq_true rfl, Nat.le_of_ble_eq_true rfl⟩) hS (fun q _ h => hFc q h) hFc (fun rr u t H_163 locs ht hvm hw hB hz1 hk1 hS2 => ?_)
          rw [hw]
          clear hw
          obtain ⟨hP1, -, hD1⟩ := hB
          rw [ht] at hP1
          replace hD := hD1.weaken (fun _ _ _ h => hFc _ h)
          replace hP := hP1
          replace hS := hS2
          clear hP1 hD1 hS2 hFc hfc hz1 hk1 hvm ht
          refine lv_if_eq (tgt := 200) hx hb dX16_overAll_129 (by decide) (fun c_164 => ?_) (fun c_164 => ?_)
          · skip
            rw [if_pos c_164] at hf
            exact B200 (z_161) ls H_163 locs ⟨lv_sub hl [1] rfl, hP, hD, hS⟩ hf
          · skip
            rw [if_neg c_164] at hf
            refine lv_aload_n hx hb dX16_overAll_132 rfl (lv_at hl 1 rfl) ?_
            obtain ⟨k_165, ek_165, hf⟩ := lnk_some hf
            refine va_get (D := (dC, dI)) (ci := 16) (v := .ref (a k_165)) (C := RX16) (T := TX16) (N := 18) hx hb hts iwd_X16_overAll_X16 hown hK hP h0 (Wd_ob kg_7 sg_7 (by decide)) rfl 11 (by decide) (hts _ md_X16_overAll_2) (fun _ h9 => h9) (fl_q rfl ek_165) dX16_overAll_133 ?_
            refine lv_iload_n hx hb dX16_overAll_136 rfl (lv_at hl 0 rfl) ?_
            refine lv_aload_n hx hb dX16_overAll_137 rfl (lv_at hl 1 rfl) ?_
            refine va_get (D := (dC, dI)) (ci := 16) (v := .int (z_161.1 h0 2)) (C := RX16) (T := TX16) (N := 18) hx hb hts iwd_X16_overAll_X16 hown hK hP h0 (Wd_ob kg_7 sg_7 (by decide)) rfl 2 (by decide) (hts _ md_X16_overAll_3) (fun _ h9 => h9) (fl_at (t := 0) rfl) dX16_overAll_138 ?_
            obtain ⟨g_166, hf⟩ := grd_some hf
            obtain ⟨kg_166, sg_166, ig_166⟩ := okA_at g_166
            refine va_iast hx hb hK hP hD hS k_165 1 (Wd_ai kg_166 sg_166) rfl ig_166 dX16_overAll_141 (fun H_167 locs hP2 hD2 hS2 => ?_)
            rw [Wd_ti sg_166] at hP2 hD2
            obtain ⟨z_168, ez_168⟩ : ∃ w, w = si z_161 k_165 p_17.toNatClampNeg (z_161.1 h0 2) := ⟨_, rfl⟩
            rw [← ez_168] at hP2 hD2
            replace hf := lt_at ez_168 hf
            clear ez_168
            replace hP := hP2
            replace hD := hD2
            replace hS := hS2
            clear hP2 hD2 hS2
            refine lv_aload_n hx hb dX16_overAll_142 rfl (lv_at hl 1 rfl) ?_
            refine lv_iconst (v := 0) hx hb dX16_overAll_143 (by decide) ?_
            refine lv_bipush (v := 15) hx hb dX16_overAll_144 (by decide) ?_
            obtain ⟨z_169, r_170, hfc, hf⟩ := cal_some hf
            have hFc := de_free hD hS hA
            refine va_calli (va_runV (As := [.int 0, .int 15]) (rest := []) ⟨hx, hb, hml, hown, hts⟩ (de_X16_count l dC dI cy a sh n H_167.size F z_168 h0 0 15 hfc) (cwV 2 hts gX16_overAll_X16_count rfl rfl rfl (by decide +kernel) ⟨Nat.le_of_ble_eq_true rfl, Nat.le_of_ble_eq_true rfl⟩) ⟨fun a U g mk q => by obtain ⟨q0, q1, qP, qK, qD, qN⟩ := q; exact ⟨q0, q1, qP, va_K.moved (u := U) (U := U.calling g mk a) (Vm.Alike.refl U.vm) qK, qD, qN.same rfl⟩, va_recv hK hP (ci := 16) (q0 := h0) rfl (Wd_ob kg_7 sg_7 (by decide)), fun U hU hW => ⟨rfl, by rw [hU], by rw [hU]; exact hP, va_K.moved hW.alike hK, hD.weaken (fun _ _ _ _ => trivial), hN.warm hW⟩⟩ rfl rfl hl.1 rfl (lv_room (Nat.le_of_ble_eq_true rfl)) dX16_overAll_146 ⟨Nat.le_of_ble_eq_true rfl, Nat.le_of_ble_eq_true rfl⟩) hS (fun q _ h => hFc q h) hFc (fun rr u t H_171 locs ht hvm hw hB hz1 hk1 hS2 => ?_)
            rw [hw]
            clear hw
            obtain ⟨hP1, -, hD1⟩ := hB
            rw [ht] at hP1
            replace hD := hD1.weaken (fun _ _ _ h => hFc _ h)
            replace hP := hP1
            replace hS := hS2
            clear hP1 hD1 hS2 hFc hfc hz1 hk1 hvm ht
            refine lv_pop hx hb dX16_overAll_149 rfl ?_
            refine lv_aload_n hx hb dX16_overAll_150 rfl (lv_at hl 1 rfl) ?_
            obtain ⟨z_172, r_173, hfc, hf⟩ := cal_some hf
            have hFc := de_free hD hS hA
            refine va_calli (va_runV (As := []) (rest := []) ⟨hx, hb, hml, hown, hts⟩ (de_X16_isGood l dC dI cy a sh n H_171.size F z_169 h0 hfc) (cwV 0 hts gX16_overAll_X16_isGood rfl rfl rfl (by decide +kernel) ⟨Nat.le_of_ble_eq_true rfl, Nat.le_of_ble_eq_true rfl⟩) ⟨fun a U g mk q => by obtain ⟨q0, q1, qP, qK, qD, qN⟩ := q; exact ⟨q0, q1, qP, va_K.moved (u := U) (U := U.calling g mk a) (Vm.Alike.refl U.vm) qK, qD, qN.same rfl⟩, va_recv hK hP (ci := 16) (q0 := h0) rfl (Wd_ob kg_7 sg_7 (by decide)), fun U hU hW => ⟨rfl, by rw [hU], by rw [hU]; exact hP, va_K.moved hW.alike hK, hD.weaken (fun _ _ _ _ => trivial), hN.warm hW⟩⟩ rfl rfl hl.1 rfl (lv_room (Nat.le_of_ble_eq_true rfl)) dX16_overAll_151 ⟨Nat.le_of_ble_eq_true rfl, Nat.le_of_ble_eq_true rfl⟩) hS (fun q _ h => hFc q h) hFc (fun rr u t H_174 locs ht hvm hw hB hz1 hk1 hS2 => ?_)
            rw [hw]
            clear hw
            obtain ⟨hP1, -, hD1⟩ := hB
            rw [ht] at hP1
            replace hD := hD1.weaken (fun _ _ _ h => hFc _ h)
            replace hP := hP1
            replace hS := hS2
            clear hP1 hD1 hS2 hFc hfc hz1 hk1 hvm ht
            refine de_cut (h := 168) (fun (x : St × Int32) => [.int x.2]) (fun x ls H locs => lv_has ls 4 [(1, .int p_17), (0, .ref (a h0))] ∧ va_P (dC, dI) vwCl (Wd cy a sh n x.1) H ∧ va_D A (Wd cy a sh n x.1) ∧ va_S A s.heap H locs) (fun x => fn_X16_overAll_B168 F sh n p_17 h0 (fun z9 q1 => fn_X16_overAll_L117 F sh n h0 f_19 z9 q1) x.1 x.2) (z8, r8) ?_ (fun B168 => ?_)
            · intro x ls H locs hI hf
              obtain ⟨z_176, p_175⟩ := x
              obtain ⟨hl2, hP2, hD2, hS2⟩ := hI
              replace hl : lv_has ls 4 [(1, .int p_17), (0, .ref (a h0))] := hl2
              replace hP := hP2
              replace hD := hD2
              replace hS := hS2
              clear hl2 hP2 hD2 hS2
              replace hf := fn_X16_overAll_B168_s hf
              refine W.eq (g2 := F0 m 168 ls [.int p_175]) rfl ?_
              refine lv_istore_n (lv' := [(2, .int p_175), (1, .int p_17), (0, .ref (a h0))]) hx hb dX16_overAll_168 rfl hl (by decide) rfl (fun ls hl2 => ?_)
              replace hl := hl2
              clear hl2
              refine lv_iconst (v := 0) hx hb dX16_overAll_169 (by decide) ?_
              refine lv_istore_n (lv' := [(3, .int 0), (2, .int p_175), (1, .int p_17), (0, .ref (a h0))]) hx hb dX16_overAll_170 rfl hl (by decide) rfl (fun ls hl2 => ?_)
              replace hl := hl2
              clear hl2
              have hl0 : lv_has ls 4 [(3, .int 0), (2, .int p_175), (1, .int p_17), (0, .ref (a h0))] := lv_sub hl [0, 1, 2, 3] rfl
              refine de_loop (h := 171) (fun (x : St × Int32) ls H locs => lv_has ls 4 [(3, .int x.2), (2, .int p_175), (1, .int p_17), (0, .ref (a h0))] ∧ va_P (dC, dI) vwCl (Wd cy a sh n x.1) H ∧ va_D A (Wd cy a sh n x.1) ∧ va_S A s.heap H locs) (fun f x => fn_X16_overAll_L171 F sh n p_175 p_17 h0 (fun z9 q1 => fn_X16_overAll_L117 F sh n h0 f_19 z9 q1) f x.1 x.2) (z8, r8) ?_ (fun _ => rfl) F (z_176, 0) ls H locs ⟨hl0, hP, hD, hS⟩ hf
              intro f_179 x ls H locs ih171 hI hf
              obtain ⟨z_178, p_177⟩ := x
              obtain ⟨hl2, hP2, hD2, hS2⟩ := hI
              replace hl : lv_has ls 4 [(3, .int p_177), (2, .int p_175), (1, .int p_17), (0, .ref (a h0))] := hl2
              replace hP := hP2
              replace hD := hD2
              replace hS := hS2
              clear hl2 hP2 hD2 hS2 hl0
              replace hf := fn_X16_overAll_L171_s hf
              refine lv_iload_n hx hb dX16_overAll_171 rfl (lv_at hl 0 rfl) ?_
              refine lv_iload_n hx hb dX16_overAll_172 rfl (lv_at hl 1 rfl) ?_
              refine de_cut (h := 194) (fun (x : St) => []) (fun x ls H locs => lv_has ls 4 [(1, .int p_17), (0, .ref (a h0))] ∧ va_P (dC, dI) vwCl (Wd cy a sh n x) H ∧ va_D A (Wd cy a sh n x) ∧ va_S A s.heap H locs) (fun x => fn_X16_overAll_B194 F sh n p_17 (fun z9 q1 => fn_X16_overAll_L117 F sh n h0 f_19 z9 q1) x) (z8, r8) ?_ (fun B194 => ?_)
              · intro x ls H locs hI hf
                obtain ⟨z_180, ez⟩ : ∃ w, w = x := ⟨_, rfl⟩
                subst ez
                obtain ⟨hl2, hP2, hD2, hS2⟩ := hI
                replace hl : lv_has ls 4 [(1, .int p_17), (0, .ref (a h0))] := hl2
                replace hP := hP2
                replace hD := hD2
                replace hS := hS2
                clear hl2 hP2 hD2 hS2
                replace hf := fn_X16_overAll_B194_s hf
                refine W.eq (g2 := F0 m 194 ls []) rfl ?_
                refine lv_iinc (v := (p_17 + 1)) (lv' := [(1, .int (p_17 + 1)), (0, .ref (a h0))]) hx hb dX16_overAll_194 hl (k := 0) rfl rfl (by decide) rfl (fun ls hl2 => ?_)
                replace hl := hl2
                clear hl2
                refine lv_goto (tgt := 117) hx hb dX16_overAll_197 (by decide) ?_
                exact ih117 (z_180, (p_17 + 1)) ls H locs ⟨lv_sub hl [0, 1] rfl, hP, hD, hS⟩ hf
              refine lv_icmp_ge (tgt := 194) hx hb dX16_overAll_173 (by decide) (fun c_181 => ?_) (fun c_181 => ?_)
              · skip
                rw [if_pos c_181] at hf
                exact B194 (z_178) ls H locs ⟨lv_sub hl [2, 3] rfl, hP, hD, hS⟩ hf
              · skip
                rw [if_neg c_181] at hf
                refine lv_aload_n hx hb dX16_overAll_176 rfl (lv_at hl 3 rfl) ?_
                obtain ⟨z_182, r_183, hfc, hf⟩ := cal_some hf
                have hFc := de_free hD hS hA
                refine va_calli (va_runV (As := []) (rest := []) ⟨hx, hb, hml, hown, hts⟩ (de_X16_isGood l dC dI cy a sh n H.size F z_178 h0 hfc) (cwV 0 hts gX16_overAll_X16_isGood rfl rfl rfl (by decide +kernel) ⟨Nat.le_of_ble_eq_true rfl, Nat.le_of_ble_eq_true rfl⟩) ⟨fun a U g mk q => by obtain ⟨q0, q1, qP, qK, qD, qN⟩ := q; exact ⟨q0, q1, qP, va_K.moved (u := U) (U := U.calling g mk a) (Vm.Alike.refl U.vm) qK, qD, qN.same rfl⟩, va_recv hK hP (ci := 16) (q0 := h0) rfl (Wd_ob kg_7 sg_7 (by decide)), fun U hU hW => ⟨rfl, by rw [hU], by rw [hU]; exact hP, va_K.moved hW.alike hK, hD.weaken (fun _ _ _ _ => trivial), hN.warm hW⟩⟩ rfl rfl hl.1 rfl (lv_room (Nat.le_of_ble_eq_true rfl)) dX16_overAll_177 ⟨Nat.le_of_ble_eq_true rfl, Nat.le_of_ble_eq_true rfl⟩) hS (fun q _ h => hFc q h) hFc (fun rr u t H_184 locs ht hvm hw hB hz1 hk1 hS2 => ?_)
                rw [hw]
                clear hw
                obtain ⟨hP1, -, hD1⟩ := hB
                rw [ht] at hP1
                replace hD := hD1.weaken (fun _ _ _ h => hFc _ h)
                replace hP := hP1
                replace hS := hS2
                clear hP1 hD1 hS2 hFc hfc hz1 hk1 hvm ht
                refine lv_if_eq (tgt := 194) hx hb dX16_overAll_180 (by decide) (fun c_185 => ?_) (fun c_185 => ?_)
                · skip
                  rw [if_pos c_185] at hf
                  exact B194 (z_182) ls H_184 locs ⟨lv_sub hl [2, 3] rfl, hP, hD, hS⟩ hf
                · skip
                  rw [if_neg c_185] at hf
                  refine lv_aload_n hx hb dX16_overAll_183 rfl (lv_at hl 3 rfl) ?_
                  refine lv_iconst (v := 0) hx hb dX16_overAll_184 (by decide) ?_
                  obtain ⟨z_186, _u, hfc, hf⟩ := cal_some hf
                  have hFc := de_free hD hS hA
                  refine va_callv (va_runV (As := [.int 0]) (rest := []) ⟨hx, hb, hml, hown, hts⟩ (de_X16_overType l dC dI cy a sh n H_184.size F z_182 h0 0 hfc) (cwV 1 hts gX16_overAll_X16_overType rfl rfl rfl (by decide +kernel) ⟨Nat.le_of_ble_eq_true rfl, Nat.le_of_ble_eq_true rfl⟩) ⟨fun a U g mk q => by obtain ⟨q0, q1, qP, qK, qD, qN⟩ := q; exact ⟨q0, q1, qP, va_K.moved (u := U) (U := U.calling g mk a) (Vm.Alike.refl U.vm) qK, qD, qN.same rfl⟩, va_recv hK hP (ci := 16) (q0 := h0) rfl (Wd_ob kg_7 sg_7 (by decide)), fun U hU hW => ⟨rfl, by rw [hU], by rw [hU]; exact hP, va_K.moved hW.alike hK, hD.weaken (fun _ _ _ _ => trivial), hN.warm hW⟩⟩ rfl rfl hl.1 rfl (lv_room (Nat.le_of_ble_eq_true rfl)) dX16_overAll_185 ⟨Nat.le_of_ble_eq_true rfl, Nat.le_of_ble_eq_true rfl⟩) hS (fun q _ h => hFc q h) hFc (fun u t H_187 locs ht hvm hw hB hz1 hk1 hS2 => ?_)
                  obtain ⟨hP1, -, hD1⟩ := hB
                  rw [ht] at hP1
                  replace hD := hD1.weaken (fun _ _ _ h => hFc _ h)
                  replace hP := hP1
                  replace hS := hS2
                  clear hP1 hD1 hS2 hFc hfc hz1 hk1 hvm ht
                  refine lv_iinc (v := (p_177 + 1)) (lv' := [(3, .int (p_177 + 1)), (2, .int p_175), (1, .int p_17), (0, .ref (a h0))]) hx hb dX16_overAll_188 hl (k := 0) rfl rfl (by decide) rfl (fun ls hl2 => ?_)
                  replace hl := hl2
                  clear hl2
                  refine lv_goto (tgt := 171) hx hb dX16_overAll_191 (by decide) ?_
                  exact ih171 (z_186, (p_177 + 1)) ls H_187 locs ⟨lv_sub hl [0, 1, 2, 3] rfl, hP, hD, hS⟩ hf
            refine lv_if_eq (tgt := 167) hx hb dX16_overAll_154 (by decide) (fun c_188 => ?_) (fun c_188 => ?_)
            · skip
              rw [if_pos c_188] at hf
              refine lv_iconst (v := 0) hx hb dX16_overAll_167 (by decide) ?_
              exact B168 (z_172, 0) ls H_174 locs ⟨lv_sub hl [0, 1] rfl, hP, hD, hS⟩ hf
            · skip
              rw [if_neg c_188] at hf
              refine lv_aload_n hx hb dX16_overAll_157 rfl (lv_at hl 1 rfl) ?_
              refine lv_iconst (v := 1) hx hb dX16_overAll_158 (by decide) ?_
              refine lv_bipush (v := 16) hx hb dX16_overAll_159 (by decide) ?_
              obtain ⟨z_189, r_190, hfc, hf⟩ := cal_some hf
              have hFc := de_free hD hS hA
              refine va_calli (va_runV (As := [.int 1, .int 16]) (rest := []) ⟨hx, hb, hml, hown, hts⟩ (de_X16_count l dC dI cy a sh n H_174.size F z_172 h0 1 16 hfc) (cwV 2 hts gX16_overAll_X16_count rfl rfl rfl (by decide +kernel) ⟨Nat.le_of_ble_eq_true rfl, Nat.le_of_ble_eq_true rfl⟩) ⟨fun a U g mk q => by obtain ⟨q0, q1, qP, qK, qD, qN⟩ := q; exact ⟨q0, q1, qP, va_K.moved (u := U) (U := U.calling g mk a) (Vm.Alike.refl U.vm) qK, qD, qN.same rfl⟩, va_recv hK hP (ci := 16) (q0 := h0) rfl (Wd_ob kg_7 sg_7 (by decide)), fun U hU hW => ⟨rfl, by rw [hU], by rw [hU]; exact hP, va_K.moved hW.alike hK, hD.weaken (fun _ _ _ _ => trivial), hN.warm hW⟩⟩ rfl rfl hl.1 rfl (lv_room (Nat.le_of_ble_eq_true rfl)) dX16_overAll_161 ⟨Nat.le_of_ble_eq_true rfl, Nat.le_of_ble_eq_true rfl⟩) hS (fun q _ h => hFc q h) hFc (fun rr u t H_191 locs ht hvm hw hB hz1 hk1 hS2 => ?_)
              rw [hw]
              clear hw
              obtain ⟨hP1, -, hD1⟩ := hB
              rw [ht] at hP1
              replace hD := hD1.weaken (fun _ _ _ h => hFc _ h)
              replace hP := hP1
              replace hS := hS2
              clear hP1 hD1 hS2 hFc hfc hz1 hk1 hvm ht
              refine lv_goto (tgt := 168) hx hb dX16_overAll_164 (by decide) ?_
              exact B168 (z_189, r_190) ls H_191 locs ⟨lv_sub hl [0, 1] rfl, hP, hD, hS⟩ hf
      refine lv_if_eq (tgt := 111) hx hb dX16_overAll_98 (by decide) (fun c_192 => ?_) (fun c_192 => ?_)
      · skip
        rw [if_pos c_192] at hf
        refine lv_iconst (v := 0) hx hb dX16_overAll_111 (by decide) ?_
        exact B112 (z_10, 0) ls H_12 locs ⟨lv_sub hl [0] rfl, hP, hD, hS⟩ hf
      · skip
        rw [if_neg c_192] at hf
        refine lv_aload_n hx hb dX16_overAll_101 rfl (lv_at hl 0 rfl) ?_
        refine lv_iconst (v := 0) hx hb dX16_overAll_102 (by decide) ?_
        refine lv_bipush (v := 32) hx hb dX16_overAll_103 (by decide) ?_
        obtain ⟨z_193, r_194, hfc, hf⟩ := cal_some hf
        have hFc := de_free hD hS hA
        refine va_calli (va_runV (As := [.int 0, .int 32]) (rest := [.ref (a h0)]) ⟨hx, hb, hml, hown, hts⟩ (de_X16_count l dC dI cy a sh n H_12.size F z_10 h0 0 32 hfc) (cwV 2 hts gX16_overAll_X16_count rfl rfl rfl (by decide +kernel) ⟨Nat.le_of_ble_eq_true rfl, Nat.le_of_ble_eq_true rfl⟩) ⟨fun a U g mk q => by obtain ⟨q0, q1, qP, qK, qD, qN⟩ := q; exact ⟨q0, q1, qP, va_K.moved (u := U) (U := U.calling g mk a) (Vm.Alike.refl U.vm) qK, qD, qN.same rfl⟩, va_recv hK hP (ci := 16) (q0 := h0) rfl (Wd_ob kg_7 sg_7 (by decide)), fun U hU hW => ⟨rfl, by rw [hU], by rw [hU]; exact hP, va_K.moved hW.alike hK, hD.weaken (fun _ _ _ _ => trivial), hN.warm hW⟩⟩ rfl rfl hl.1 rfl (lv_room (Nat.le_of_ble_eq_true rfl)) dX16_overAll_105 ⟨Nat.le_of_ble_eq_true rfl, Nat.le_of_ble_eq_true rfl⟩) hS (fun q _ h => hFc q h) hFc (fun rr u t H_195 locs ht hvm hw hB hz1 hk1 hS2 => ?_)
        rw [hw]
        clear hw
        obtain ⟨hP1, -, hD1⟩ := hB
        rw [ht] at hP1
        replace hD := hD1.weaken (fun _ _ _ h => hFc _ h)
        replace hP := hP1
        replace hS := hS2
        clear hP1 hD1 hS2 hFc hfc hz1 hk1 hvm ht
        refine lv_goto (tgt := 112) hx hb dX16_overAll_108 (by decide) ?_
        exact B112 (z_193, r_194) ls H_195 locs ⟨lv_sub hl [0] rfl, hP, hD, hS⟩ hf
    refine lv_if_eq (tgt := 93) hx hb dX16_overAll_84 (by decide) (fun c_196 => ?_) (fun c_196 => ?_)
    · skip
      rw [if_pos c_196] at hf
      exact B93 (z_5) ls H_8 locs ⟨lv_sub hl [0] rfl, hP, hD, hS⟩ hf
    · skip
      rw [if_neg c_196] at hf
      refine lv_aload_n hx hb dX16_overAll_87 rfl (lv_at hl 0 rfl) ?_
      refine lv_iconst (v := 2) hx hb dX16_overAll_88 (by decide) ?_
      obtain ⟨z_197, r_198, hfc, hf⟩ := cal_some hf
      have hFc := de_free hD hS hA
      refine va_calli (va_runV (As := [.int 2]) (rest := []) ⟨hx, hb, hml, hown, hts⟩ (de_X16_over l dC dI cy a sh n H_8.size F z_5 h0 2 hfc) (cwV 1 hts gX16_overAll_X16_over rfl rfl rfl (by decide +kernel) ⟨Nat.le_of_ble_eq_true rfl, Nat.le_of_ble_eq_true rfl⟩) ⟨fun a U g mk q => by obtain ⟨q0, q1, qP, qK, qD, qN⟩ := q; exact ⟨q0, q1, qP, va_K.moved (u := U) (U := U.calling g mk a) (Vm.Alike.refl U.vm) qK, qD, qN.same rfl⟩, va_recv hK hP (ci := 16) (q0 := h0) rfl (Wd_ob kg_7 sg_7 (by decide)), fun U hU hW => ⟨rfl, by rw [hU], by rw [hU]; exact hP, va_K.moved hW.alike hK, hD.weaken (fun _ _ _ _ => trivial), hN.warm hW⟩⟩ rfl rfl hl.1 rfl (lv_room (Nat.le_of_ble_eq_true rfl)) dX16_overAll_89 ⟨Nat.le_of_ble_eq_true rfl, Nat.le_of_ble_eq_true rfl⟩) hS (fun q _ h => hFc q h) hFc (fun rr u t H_199 locs ht hvm hw hB hz1 hk1 hS2 => ?_)
      rw [hw]
      clear hw
      obtain ⟨hP1, -, hD1⟩ := hB
      rw [ht] at hP1
      replace hD := hD1.weaken (fun _ _ _ h => hFc _ h)
      replace hP := hP1
      replace hS := hS2
      clear hP1 hD1 hS2 hFc hfc hz1 hk1 hvm ht
      refine lv_pop hx hb dX16_overAll_92 rfl ?_
      exact B93 (z_197) ls H_199 locs ⟨lv_sub hl [0] rfl, hP, hD, hS⟩ hf
  refine lv_icmp_ge (tgt := 80) hx hb dX16_overAll_4 (by decide) (fun c_200 => ?_) (fun c_200 => ?_)
  · skip
    rw [if_pos c_200] at hf
    exact B80 (z_2) ls H locs ⟨lv_sub hl [1] rfl, hP, hD, hS⟩ hf
  · skip
    rw [if_neg c_200] at hf
    refine lv_aload_n hx hb dX16_overAll_7 rfl (lv_at hl 1 rfl) ?_
    obtain ⟨g_203, hf⟩ := grd_some hf
    obtain ⟨kg_203, sg_203⟩ := okO_at g_203
    obtain ⟨z_201, r_202, hfc, hf⟩ := cal_some hf
    have hFc := de_free hD hS hA
    refine va_calli (va_runV (As := []) (rest := []) ⟨hx, hb, hml, hown, hts⟩ (de_X16_isGood l dC dI cy a sh n H.size F z_2 h0 hfc) (cwV 0 hts gX16_overAll_X16_isGood rfl rfl rfl (by decide +kernel) ⟨Nat.le_of_ble_eq_true rfl, Nat.le_of_ble_eq_true rfl⟩) ⟨fun a U g mk q => by obtain ⟨q0, q1, qP, qK, qD, qN⟩ := q; exact ⟨q0, q1, qP, va_K.moved (u := U) (U := U.calling g mk a) (Vm.Alike.refl U.vm) qK, qD, qN.same rfl⟩, va_recv hK hP (ci := 16) (q0 := h0) rfl (Wd_ob kg_203 sg_203 (by decide)), fun U hU hW => ⟨rfl, by rw [hU], by rw [hU]; exact hP, va_K.moved hW.alike hK, hD.weaken (fun _ _ _ _ => trivial), hN.warm hW⟩⟩ rfl rfl hl.1 rfl (lv_room (Nat.le_of_ble_eq_true rfl)) dX16_overAll_8 ⟨Nat.le_of_ble_eq_true rfl, Nat.le_of_ble_eq_true rfl⟩) hS (fun q _ h => hFc q h) hFc (fun rr u t H_204 locs ht hvm hw hB hz1 hk1 hS2 => ?_)
    rw [hw]
    clear hw
    obtain ⟨hP1, -, hD1⟩ := hB
    rw [ht] at hP1
    replace hD := hD1.weaken (fun _ _ _ h => hFc _ h)
    replace hP := hP1
    replace hS := hS2
    clear hP1 hD1 hS2 hFc hfc hz1 hk1 hvm ht
    refine lv_if_eq (tgt := 80) hx hb dX16_overAll_11 (by decide) (fun c_205 => ?_) (fun c_205 => ?_)
    · skip
      rw [if_pos c_205] at hf
      exact B80 (z_201) ls H_204 locs ⟨lv_sub hl [1] rfl, hP, hD, hS⟩ hf
    · skip
      rw [if_neg c_205] at hf
      refine lv_aload_n hx hb dX16_overAll_14 rfl (lv_at hl 1 rfl) ?_
      refine lv_iconst (v := 1) hx hb dX16_overAll_15 (by decide) ?_
      obtain ⟨z_206, r_207, hfc, hf⟩ := cal_some hf
      have hFc := de_free hD hS hA
      refine va_calli (va_runV (As := [.int 1]) (rest := []) ⟨hx, hb, hml, hown, hts⟩ (de_X16_over l dC dI cy a sh n H_204.size F z_201 h0 1 hfc) (cwV 1 hts gX16_overAll_X16_over rfl rfl rfl (by decide +kernel) ⟨Nat.le_of_ble_eq_true rfl, Nat.le_of_ble_eq_true rfl⟩) ⟨fun a U g mk q => by obtain ⟨q0, q1, qP, qK, qD, qN⟩ := q; exact ⟨q0, q1, qP, va_K.moved (u := U) (U := U.calling g mk a) (Vm.Alike.refl U.vm) qK, qD, qN.same rfl⟩, va_recv hK hP (ci := 16) (q0 := h0) rfl (Wd_ob kg_203 sg_203 (by decide)), fun U hU hW => ⟨rfl, by rw [hU], by rw [hU]; exact hP, va_K.moved hW.alike hK, hD.weaken (fun _ _ _ _ => trivial), hN.warm hW⟩⟩ rfl rfl hl.1 rfl (lv_room (Nat.le_of_ble_eq_true rfl)) dX16_overAll_16 ⟨Nat.le_of_ble_eq_true rfl, Nat.le_of_ble_eq_true rfl⟩) hS (fun q _ h => hFc q h) hFc (fun rr u t H_208 locs ht hvm hw hB hz1 hk1 hS2 => ?_)
      rw [hw]
      clear hw
      obtain ⟨hP1, -, hD1⟩ := hB
      rw [ht] at hP1
      replace hD := hD1.weaken (fun _ _ _ h => hFc _ h)
      replace hP := hP1
      replace hS := hS2
      clear hP1 hD1 hS2 hFc hfc hz1 hk1 hvm ht
      refine lv_istore_n (lv' := [(2, .int r_207), (1, .int p_1), (0, .ref (a h0))]) hx hb dX16_overAll_19 rfl hl (by decide) rfl (fun ls hl2 => ?_)
      replace hl := hl2
      clear hl2
      refine lv_iload_n hx hb dX16_overAll_20 rfl (lv_at hl 1 rfl) ?_
      refine de_cut (h := 51) (fun (x : St × Int32) => [.int x.2]) (fun x ls H locs => lv_has ls 4 [(2, .int r_207), (1, .int p_1), (0, .ref (a h0))] ∧ va_P (dC, dI) vwCl (Wd cy a sh n x.1) H ∧ va_D A (Wd cy a sh n x.1) ∧ va_S A s.heap H locs) (fun x => fn_X16_overAll_B51 F sh n h0 p_1 r_207 (fun z9 q1 => fn_X16_overAll_L2 F sh n h0 f_3 z9 q1) x.1 x.2) (z8, r8) ?_ (fun B51 => ?_)
      · intro x ls H locs hI hf
        obtain ⟨z_210, p_209⟩ := x
        obtain ⟨hl2, hP2, hD2, hS2⟩ := hI
        replace hl : lv_has ls 4 [(2, .int r_207), (1, .int p_1), (0, .ref (a h0))] := hl2
        replace hP := hP2
        replace hD := hD2
        replace hS := hS2
        clear hl2 hP2 hD2 hS2
        replace hf := fn_X16_overAll_B51_s hf
        refine W.eq (g2 := F0 m 51 ls [.int p_209]) rfl ?_
        refine lv_istore_n (lv' := [(3, .int p_209), (2, .int r_207), (1, .int p_1), (0, .ref (a h0))]) hx hb dX16_overAll_51 rfl hl (by decide) rfl (fun ls hl2 => ?_)
        replace hl := hl2
        clear hl2
        refine lv_aload_n hx hb dX16_overAll_52 rfl (lv_at hl 3 rfl) ?_
        obtain ⟨z_211, r_212, hfc, hf⟩ := cal_some hf
        have hFc := de_free hD hS hA
        refine va_calli (va_runV (As := []) (rest := []) ⟨hx, hb, hml, hown, hts⟩ (de_X16_isGood l dC dI cy a sh n H.size F z_210 h0 hfc) (cwV 0 hts gX16_overAll_X16_isGood rfl rfl rfl (by decide +kernel) ⟨Nat.le_of_ble_eq_true rfl, Nat.le_of_ble_eq_true rfl⟩) ⟨fun a U g mk q => by obtain ⟨q0, q1, qP, qK, qD, qN⟩ := q; exact ⟨q0, q1, qP, va_K.moved (u := U) (U := U.calling g mk a) (Vm.Alike.refl U.vm) qK, qD, qN.same rfl⟩, va_recv hK hP (ci := 16) (q0 := h0) rfl (Wd_ob kg_203 sg_203 (by decide)), fun U hU hW => ⟨rfl, by rw [hU], by rw [hU]; exact hP, va_K.moved hW.alike hK, hD.weaken (fun _ _ _ _ => trivial), hN.warm hW⟩⟩ rfl rfl hl.1 rfl (lv_room (Nat.le_of_ble_eq_true rfl)) dX16_overAll_53 ⟨Nat.le_of_ble_eq_true rfl, Nat.le_of_ble_eq_true rfl⟩) hS (fun q _ h => hFc q h) hFc (fun rr u t H_213 locs ht hvm hw hB hz1 hk1 hS2 => ?_)
        rw [hw]
        clear hw
        obtain ⟨hP1, -, hD1⟩ := hB
        rw [ht] at hP1
        replace hD := hD1.weaken (fun _ _ _ h => hFc _ h)
        replace hP := hP1
        replace hS := hS2
        clear hP1 hD1 hS2 hFc hfc hz1 hk1 hvm ht
        refine de_cut (h := 74) (fun (x : St) => []) (fun x ls H locs => lv_has ls 4 [(1, .int p_1), (0, .ref (a h0))] ∧ va_P (dC, dI) vwCl (Wd cy a sh n x) H ∧ va_D A (Wd cy a sh n x) ∧ va_S A s.heap H locs) (fun x => fn_X16_overAll_B74 F sh n p_1 (fun z9 q1 => fn_X16_overAll_L2 F sh n h0 f_3 z9 q1) x) (z8, r8) ?_ (fun B74 => ?_)
        · intro x ls H locs hI hf
          obtain ⟨z_214, ez⟩ : ∃ w, w = x := ⟨_, rfl⟩
          subst ez
          obtain ⟨hl2, hP2, hD2, hS2⟩ := hI
          replace hl : lv_has ls 4 [(1, .int p_1), (0, .ref (a h0))] := hl2
          replace hP := hP2
          replace hD := hD2
          replace hS := hS2
          clear hl2 hP2 hD2 hS2
          replace hf := fn_X16_overAll_B74_s hf
          refine W.eq (g2 := F0 m 74 ls []) rfl ?_
          refine lv_iinc (v := (p_1 + 1)) (lv' := [(1, .int (p_1 + 1)), (0, .ref (a h0))]) hx hb dX16_overAll_74 hl (k := 0) rfl rfl (by decide) rfl (fun ls hl2 => ?_)
          replace hl := hl2
          clear hl2
          refine lv_goto (tgt := 2) hx hb dX16_overAll_77 (by decide) ?_
          exact ih2 (z_214, (p_1 + 1)) ls H locs ⟨lv_sub hl [0, 1] rfl, hP, hD, hS⟩ hf
        refine lv_if_eq (tgt := 74) hx hb dX16_overAll_56 (by decide) (fun c_215 => ?_) (fun c_215 => ?_)
        · skip
          rw [if_pos c_215] at hf
          exact B74 (z_211) ls H_213 locs ⟨lv_sub hl [2, 3] rfl, hP, hD, hS⟩ hf
        · skip
          rw [if_neg c_215] at hf
          refine lv_aload_n hx hb dX16_overAll_59 rfl (lv_at hl 3 rfl) ?_
          refine lv_iload_n hx hb dX16_overAll_60 rfl (lv_at hl 1 rfl) ?_
          obtain ⟨z_216, r_217, hfc, hf⟩ := cal_some hf
          have hFc := de_free hD hS hA
          refine va_calli (va_runV (As := [.int r_207]) (rest := []) ⟨hx, hb, hml, hown, hts⟩ (de_X16_byteAt l dC dI cy a sh n H_213.size F z_211 h0 r_207 hfc) (cwV 1 hts gX16_overAll_X16_byteAt rfl rfl rfl (by decide +kernel) ⟨Nat.le_of_ble_eq_true rfl, Nat.le_of_ble_eq_true rfl⟩) ⟨fun a U g mk q => by obtain ⟨q0, q1, qP, qK, qD, qN⟩ := q; exact ⟨q0, q1, qP, va_K.moved (u := U) (U := U.calling g mk a) (Vm.Alike.refl U.vm) qK, qD, qN.same rfl⟩, va_recv hK hP (ci := 16) (q0 := h0) rfl (Wd_ob kg_203 sg_203 (by decide)), fun U hU hW => ⟨rfl, by rw [hU], by rw [hU]; exact hP, va_K.moved hW.alike hK, hD.weaken (fun _ _ _ _ => trivial), hN.warm hW⟩⟩ rfl rfl hl.1 rfl (lv_room (Nat.le_of_ble_eq_true rfl)) dX16_overAll_61 ⟨Nat.le_of_ble_eq_true rfl, Nat.le_of_ble_eq_true rfl⟩) hS (fun q _ h => hFc q h) hFc (fun rr u t H_218 locs ht hvm hw hB hz1 hk1 hS2 => ?_)
          rw [hw]
          clear hw
          obtain ⟨hP1, -, hD1⟩ := hB
          rw [ht] at hP1
          replace hD := hD1.weaken (fun _ _ _ h => hFc _ h)
          replace hP := hP1
          replace hS := hS2
          clear hP1 hD1 hS2 hFc hfc hz1 hk1 hvm ht
          refine lv_iload_n hx hb dX16_overAll_64 rfl (lv_at hl 0 rfl) ?_
          refine lv_icmp_eq (tgt := 74) hx hb dX16_overAll_65 (by decide) (fun c_219 => ?_) (fun c_219 => ?_)
          · skip
            rw [if_pos c_219] at hf
            exact B74 (z_216) ls H_218 locs ⟨lv_sub hl [2, 3] rfl, hP, hD, hS⟩ hf
          · skip
            rw [if_neg c_219] at hf
            refine lv_aload_n hx hb dX16_overAll_68 rfl (lv_at hl 3 rfl) ?_
            refine lv_iconst (v := 1) hx hb dX16_overAll_69 (by decide) ?_
            refine lv_iload_n hx hb dX16_overAll_70 rfl (lv_at hl 1 rfl) ?_
            obtain ⟨z_220, _u, hfc, hf⟩ := cal_some hf
            have hFc := de_free hD hS hA
            refine va_callv (va_runV (As := [.int 1, .int r_207]) (rest := []) ⟨hx, hb, hml, hown, hts⟩ (de_X16_fail l dC dI cy a sh n H_218.size F z_216 h0 1 r_207 hfc) (cwV 2 hts gX16_overAll_X16_fail rfl rfl rfl (by decide +kernel) ⟨Nat.le_of_ble_eq_true rfl, Nat.le_of_ble_eq_true rfl⟩) ⟨fun a U g mk q => by obtain ⟨q0, q1, qP, qK, qD, qN⟩ := q; exact ⟨q0, q1, qP, va_K.moved (u := U) (U := U.calling g mk a) (Vm.Alike.refl U.vm) qK, qD, qN.same rfl⟩, va_recv hK hP (ci := 16) (q0 := h0) rfl (Wd_ob kg_203 sg_203 (by decide)), fun U hU hW => ⟨rfl, by rw [hU], by rw [hU]; exact hP, va_K.moved hW.alike hK, hD.weaken (fun _ _ _ _ => trivial), hN.warm hW⟩⟩ rfl rfl hl.1 rfl (lv_room (Nat.le_of_ble_eq_true rfl)) dX16_overAll_71 ⟨Nat.le_of_ble_eq_true rfl, Nat.le_of_ble_eq_true rfl⟩) hS (fun q _ h => hFc q h) hFc (fun u t H_221 locs ht hvm hw hB hz1 hk1 hS2 => ?_)
            obtain ⟨hP1, -, hD1⟩ := hB
            rw [ht] at hP1
            replace hD := hD1.weaken (fun _ _ _ h => hFc _ h)
            replace hP := hP1
            replace hS := hS2
            clear hP1 hD1 hS2 hFc hfc hz1 hk1 hvm ht
            exact B74 (z_220) ls H_221 locs ⟨lv_sub hl [2, 3] rfl, hP, hD, hS⟩ hf
      refine lv_if_ne (tgt := 29) hx hb dX16_overAll_21 (by decide) (fun c_222 => ?_) (fun c_222 => ?_)
      · skip
        rw [if_neg c_222] at hf
        refine lv_iload_n hx hb dX16_overAll_29 rfl (lv_at hl 1 rfl) ?_
        refine lv_iconst (v := 1) hx hb dX16_overAll_30 (by decide) ?_
        refine lv_icmp_ne (tgt := 39) hx hb dX16_overAll_31 (by decide) (fun c_223 => ?_) (fun c_223 => ?_)
        · skip
          rw [if_neg c_223] at hf
          refine lv_iload_n hx hb dX16_overAll_39 rfl (lv_at hl 1 rfl) ?_
          refine lv_iconst (v := 2) hx hb dX16_overAll_40 (by decide) ?_
          refine lv_icmp_ne (tgt := 49) hx hb dX16_overAll_41 (by decide) (fun c_224 => ?_) (fun c_224 => ?_)
          · skip
            rw [if_neg c_224] at hf
            refine lv_bipush (v := 49) hx hb dX16_overAll_49 (by decide) ?_
            exact B51 (z_206, 49) ls H_208 locs ⟨lv_sub hl [0, 1, 2] rfl, hP, hD, hS⟩ hf
          · skip
            rw [if_pos c_224] at hf
            refine lv_bipush (v := 77) hx hb dX16_overAll_44 (by decide) ?_
            refine lv_goto (tgt := 51) hx hb dX16_overAll_46 (by decide) ?_
            exact B51 (z_206, 77) ls H_208 locs ⟨lv_sub hl [0, 1, 2] rfl, hP, hD, hS⟩ hf
        · skip
          rw [if_pos c_223] at hf
          refine lv_bipush (v := 76) hx hb dX16_overAll_34 (by decide) ?_
          refine lv_goto (tgt := 51) hx hb dX16_overAll_36 (by decide) ?_
          exact B51 (z_206, 76) ls H_208 locs ⟨lv_sub hl [0, 1, 2] rfl, hP, hD, hS⟩ hf
      · skip
        rw [if_pos c_222] at hf
        refine lv_bipush (v := 82) hx hb dX16_overAll_24 (by decide) ?_
        refine lv_goto (tgt := 51) hx hb dX16_overAll_26 (by decide) ?_
        exact B51 (z_206, 82) ls H_208 locs ⟨lv_sub hl [0, 1, 2] rfl, hP, hD, hS⟩ hf

theorem md_X11_root_1 : (.fieldLink RX11 43 "ResourceLedger" "tree" "LResourceLedger$Tree;" : Cond) ∈ wsX11_root := List.mem_of_getElem? (i := 1) rfl
theorem iwd_X11_root_X11 : ∀ w ∈ wsX110, w ∈ wsX11_root := fun _ h => List.mem_cons_of_mem _ (List.mem_append_left _ (List.mem_append_left _ (List.mem_append_left _ (List.mem_append_left _ (List.mem_append_right _ h)))))
theorem md_X11_root_2 : (.fieldLink RX11 108 "ResourceLedger$Tree" "stale" "Z" : Cond) ∈ wsX11_root := List.mem_of_getElem? (i := 2) rfl
theorem iwd_X11_root_X9 : ∀ w ∈ wsX90, w ∈ wsX11_root := fun _ h => List.mem_cons_of_mem _ (List.mem_append_left _ (List.mem_append_left _ (List.mem_append_left _ (List.mem_append_right _ h))))
theorem md_X11_root_4 : (.fieldLink RX11 288 "ResourceLedger$Tree" "top" "[J" : Cond) ∈ wsX11_root := List.mem_of_getElem? (i := 4) rfl
theorem md_X11_root_3 : (.fieldLink RX11 22 "ResourceLedger" "state" "LResourceLedger$State;" : Cond) ∈ wsX11_root := List.mem_of_getElem? (i := 3) rfl
set_option maxHeartbeats 4000000 in
set_option maxRecDepth 100000 in
theorem de_X11_root (l : Launch) (dC : Nat → ClassId) (dI : Nat → Nat → Nat) (cy : Nat → ClassId) (a : Nat → Nat) (sh : Nat → Nat × Nat) (n sz : Nat) (F : Nat) (sk : Nat → Nat) (z : St) (h0 : Nat) (x0 : Int32) {z8 : St} {r8 : Int64} (hf : fn_X11_root F sh n z h0 x0 = some (z8, r8)) : Met l yX11_root wsX11_root ({ frames := 7, cells := 0, slots := 0, locals := 172 }) (va_Pc [.ref (a h0), .int x0] (fun U => U.heap.size = sz ∧ va_P (dC, dI) vwCl (Wd cy a sh n z) U.heap ∧ va_K (dC, dI) vwCl (TYS cy) U ∧ va_D (fun _ => True) (Wd cy a sh n z) ∧ NK U ∧ SKs sk (a CBK) (va_A (Wd cy a sh n z) sz) U U.heap)) (va_Ql (fun (r9 : Int64) (u : Unit) => r9 = r8) (fun u t => va_P (dC, dI) vwCl (Wd cy a sh n z8) t.heap ∧ va_K (dC, dI) vwCl (TYS cy) t ∧ va_D (va_A (Wd cy a sh n z) sz) (Wd cy a sh n z8)) (va_A (Wd cy a sh n z) sz)) 0 0 (va_A (Wd cy a sh n z) sz) := by
  refine Met.ofW (cc := cX11_root) (maxL := 2) (ret := (some .long)) (by decide) rfl ?_
  intro p e s m args below meth c s₁ B hml hv
  obtain ⟨rfl, hsz, hP, hK, hD0, hN, hSK⟩ := hv
  have hx := B.exec
  have hb := B.bytes
  have hr := B.returns
  have hts := atoms_spec (ws := wsX11_root) B.pre
  have hown : s.vm.findClass RX11 = some m.cls := findClass_of_methodNamed B.named
  have hlocks := B.notSynchronized
  subst hsz
  have hD := hD0.self (sz := s.heap.size)
  clear hD0
  generalize hAe : va_A (Wd cy a sh n z) s.heap.size = A at hD hSK ⊢
  have hA : ∀ q : Nat, s.heap.size ≤ q → A q := fun q h => by rw [← hAe]; exact Or.inr h
  clear hAe
  have hS : va_S A s.heap s.heap [] := va_S.rf
  have hl := lv_entry ([.ref (a h0), .int x0]) (n := 2) (Nat.le_of_ble_eq_true rfl)
  rw [lg_entry_eq]
  generalize (lg_sl ([.ref (a h0), .int x0]) ++ List.replicate (2 - (lg_sl ([.ref (a h0), .int x0])).length) Slot.unset).toArray = ls at hl ⊢
  replace hl : lv_has ls 2 [(0, .ref (a h0)), (1, .int x0)] := hl
  unfold fn_X11_root at hf
  refine de_start hS hP (fun H locs hS hP => ?_)
  refine lv_iload_n hx hb dX11_root_0 rfl (lv_at hl 1 rfl) ?_
  refine lv_if_lt (tgt := 9) hx hb dX11_root_1 (by decide) (fun c_1 => ?_) (fun c_1 => ?_)
  · skip
    rw [if_pos c_1] at hf
    refine lv_lconst (v := 0) hx hb dX11_root_9 (by decide) ?_
    obtain ⟨h8, h9⟩ := ret_some hf
    rw [h8, h9]
    exact W.lret (v := 0) hx hb hr (fun t ht hW => ⟨⟨0, (), rfl, rfl, by rw [ht]; exact hP, va_K.moved hW.alike hK, hD⟩, hS.F ht⟩) hS.2.2 dX11_root_10
  · skip
    rw [if_neg c_1] at hf
    refine lv_iload_n hx hb dX11_root_4 rfl (lv_at hl 1 rfl) ?_
    refine lv_iconst (v := 3) hx hb dX11_root_5 (by decide) ?_
    refine lv_icmp_le (tgt := 11) hx hb dX11_root_6 (by decide) (fun c_2 => ?_) (fun c_2 => ?_)
    · skip
      rw [if_pos c_2] at hf
      refine lv_aload_n hx hb dX11_root_11 rfl (lv_at hl 0 rfl) ?_
      obtain ⟨g_3, hf⟩ := grd_some hf
      obtain ⟨kg_3, sg_3⟩ := okO_at g_3
      obtain ⟨k_4, ek_4, hf⟩ := lnk_some hf
      refine va_get (D := (dC, dI)) (ci := 11) (v := .ref (a k_4)) (C := RX11) (T := TX11) (N := 13) hx hb hts iwd_X11_root_X11 hown hK hP h0 (Wd_ob kg_3 sg_3 (by decide)) rfl 10 (by decide) (hts _ md_X11_root_1) (fun _ h9 => h9) (fl_q rfl ek_4) dX11_root_12 ?_
      obtain ⟨g_5, hf⟩ := grd_some hf
      obtain ⟨kg_5, sg_5⟩ := okO_at g_5
      refine va_get (D := (dC, dI)) (ci := 9) (v := .int (z.1 k_4 1)) (C := RX9) (T := TX9) (N := 13) hx hb hts iwd_X11_root_X9 hown hK hP k_4 (Wd_ob kg_5 sg_5 (by decide)) rfl 1 (by decide) (hts _ md_X11_root_2) (fun _ h9 => h9) (fl_at (t := 0) rfl) dX11_root_15 ?_
      refine lv_if_eq (tgt := 32) hx hb dX11_root_18 (by decide) (fun c_6 => ?_) (fun c_6 => ?_)
      · skip
        rw [if_pos c_6] at hf
        refine lv_aload_n hx hb dX11_root_32 rfl (lv_at hl 0 rfl) ?_
        obtain ⟨k_7, ek_7, hf⟩ := lnk_some hf
        refine va_get (D := (dC, dI)) (ci := 11) (v := .ref (a k_7)) (C := RX11) (T := TX11) (N := 13) hx hb hts iwd_X11_root_X11 hown hK hP h0 (Wd_ob kg_3 sg_3 (by decide)) rfl 10 (by decide) (hts _ md_X11_root_1) (fun _ h9 => h9) (fl_q rfl ek_7) dX11_root_33 ?_
        obtain ⟨g_8, hf⟩ := grd_some hf
        obtain ⟨kg_8, sg_8⟩ := okO_at g_8
        obtain ⟨k_9, ek_9, hf⟩ := lnk_some hf
        refine va_get (D := (dC, dI)) (ci := 9) (v := .ref (a k_9)) (C := RX9) (T := TX9) (N := 13) hx hb hts iwd_X11_root_X9 hown hK hP k_7 (Wd_ob kg_8 sg_8 (by decide)) rfl 0 (by decide) (hts _ md_X11_root_4) (fun _ h9 => h9) (fl_q rfl ek_9) dX11_root_36 ?_
        refine lv_iload_n hx hb dX11_root_39 rfl (lv_at hl 1 rfl) ?_
        obtain ⟨g_10, hf⟩ := grd_some hf
        obtain ⟨kg_10, sg_10, ig_10⟩ := okA_at g_10
        refine va_lald hx hb hK hP k_9 2 (Wd_al kg_10 sg_10) rfl ig_10 dX11_root_40 ?_
        obtain ⟨h8, h9⟩ := ret_some hf
        rw [h8, h9]
        exact W.lret (v := (z.2.1 k_9 x0.toNatClampNeg)) hx hb hr (fun t ht hW => ⟨⟨(z.2.1 k_9 x0.toNatClampNeg), (), rfl, rfl, by rw [ht]; exact hP, va_K.moved hW.alike hK, hD⟩, hS.F ht⟩) hS.2.2 dX11_root_41
      · skip
        rw [if_neg c_6] at hf
        refine lv_aload_n hx hb dX11_root_21 rfl (lv_at hl 0 rfl) ?_
        obtain ⟨k_11, ek_11, hf⟩ := lnk_some hf
        refine va_get (D := (dC, dI)) (ci := 11) (v := .ref (a k_11)) (C := RX11) (T := TX11) (N := 13) hx hb hts iwd_X11_root_X11 hown hK hP h0 (Wd_ob kg_3 sg_3 (by decide)) rfl 10 (by decide) (hts _ md_X11_root_1) (fun _ h9 => h9) (fl_q rfl ek_11) dX11_root_22 ?_
        refine lv_aload_n hx hb dX11_root_25 rfl (lv_at hl 0 rfl) ?_
        obtain ⟨k_12, ek_12, hf⟩ := lnk_some hf
        refine va_get (D := (dC, dI)) (ci := 11) (v := .ref (a k_12)) (C := RX11) (T := TX11) (N := 13) hx hb hts iwd_X11_root_X11 hown hK hP h0 (Wd_ob kg_3 sg_3 (by decide)) rfl 6 (by decide) (hts _ md_X11_root_3) (fun _ h9 => h9) (fl_q rfl ek_12) dX11_root_26 ?_
        obtain ⟨g_14, hf⟩ := grd_some hf
        obtain ⟨kg_14, sg_14⟩ := okO_at g_14
        obtain ⟨z_13, _u, hfc, hf⟩ := cal_some hf
        have hFc := de_free hD hS hA
        refine va_callv (va_runV (As := [.ref (a k_12)]) (rest := []) ⟨hx, hb, hml, hown, hts⟩ (de_X9_rebuild l dC dI cy a sh n H.size F sk z k_11 k_12 hfc) (cwV 1 hts gX11_root_X9_rebuild rfl rfl rfl (by decide +kernel) ⟨Nat.le_of_ble_eq_true rfl, Nat.le_of_ble_eq_true rfl⟩) ⟨fun a U g mk q => by obtain ⟨q0, q1, qP, qK, qD, qN, qS⟩ := q; exact ⟨q0, q1, qP, va_K.moved (u := U) (U := U.calling g mk a) (Vm.Alike.refl U.vm) qK, qD, qN.same rfl, SKs.moved (u := U) (U := U.calling g mk a) (Vm.Alike.refl U.vm) qS⟩, va_recv hK hP (ci := 9) (q0 := k_11) rfl (Wd_ob kg_14 sg_14 (by decide)), fun U hU hW => ⟨rfl, by rw [hU], by rw [hU]; exact hP, va_K.moved hW.alike hK, hD.weaken (fun _ _ _ _ => trivial), hN.warm hW, by rw [hU]; exact ((hSK.kept hS.2.1).narrow hFc).moved hW.alike⟩⟩ rfl rfl hl.1 rfl (lv_room (Nat.le_of_ble_eq_true rfl)) dX11_root_29 ⟨Nat.le_of_ble_eq_true rfl, Nat.le_of_ble_eq_true rfl⟩) hS (fun q _ h => hFc q h) hFc (fun u t H_15 locs ht hvm hw hB hz1 hk1 hS2 => ?_)
        obtain ⟨hP1, -, hD1⟩ := hB
        rw [ht] at hP1
        replace hD := hD1.weaken (fun _ _ _ h => hFc _ h)
        replace hP := hP1
        replace hS := hS2
        clear hP1 hD1 hS2 hFc hfc hz1 hk1 hvm ht
        refine lv_aload_n hx hb dX11_root_32 rfl (lv_at hl 0 rfl) ?_
        obtain ⟨k_16, ek_16, hf⟩ := lnk_some hf
        refine va_get (D := (dC, dI)) (ci := 11) (v := .ref (a k_16)) (C := RX11) (T := TX11) (N := 13) hx hb hts iwd_X11_root_X11 hown hK hP h0 (Wd_ob kg_3 sg_3 (by decide)) rfl 10 (by decide) (hts _ md_X11_root_1) (fun _ h9 => h9) (fl_q rfl ek_16) dX11_root_33 ?_
        obtain ⟨g_17, hf⟩ := grd_some hf
        obtain ⟨kg_17, sg_17⟩ := okO_at g_17
        obtain ⟨k_18, ek_18, hf⟩ := lnk_some hf
        refine va_get (D := (dC, dI)) (ci := 9) (v := .ref (a k_18)) (C := RX9) (T := TX9) (N := 13) hx hb hts iwd_X11_root_X9 hown hK hP k_16 (Wd_ob kg_17 sg_17 (by decide)) rfl 0 (by decide) (hts _ md_X11_root_4) (fun _ h9 => h9) (fl_q rfl ek_18) dX11_root_36 ?_
        refine lv_iload_n hx hb dX11_root_39 rfl (lv_at hl 1 rfl) ?_
        obtain ⟨g_19, hf⟩ := grd_some hf
        obtain ⟨kg_19, sg_19, ig_19⟩ := okA_at g_19
        refine va_lald hx hb hK hP k_18 2 (Wd_al kg_19 sg_19) rfl ig_19 dX11_root_40 ?_
        obtain ⟨h8, h9⟩ := ret_some hf
        rw [h8, h9]
        exact W.lret (v := (z_13.2.1 k_18 x0.toNatClampNeg)) hx hb hr (fun t ht hW => ⟨⟨(z_13.2.1 k_18 x0.toNatClampNeg), (), rfl, rfl, by rw [ht]; exact hP, va_K.moved hW.alike hK, hD⟩, hS.F ht⟩) hS.2.2 dX11_root_41
    · skip
      rw [if_neg c_2] at hf
      refine lv_lconst (v := 0) hx hb dX11_root_9 (by decide) ?_
      obtain ⟨h8, h9⟩ := ret_some hf
      rw [h8, h9]
      exact W.lret (v := 0) hx hb hr (fun t ht hW => ⟨⟨0, (), rfl, rfl, by rw [ht]; exact hP, va_K.moved hW.alike hK, hD⟩, hS.F ht⟩) hS.2.2 dX11_root_10

set_option maxHeartbeats 4000000 in
set_option maxRecDepth 100000 in
theorem de_X18_isSameList (l : Launch) (dC : Nat → ClassId) (dI : Nat → Nat → Nat) (cy : Nat → ClassId) (a : Nat → Nat) (sh : Nat → Nat × Nat) (n sz : Nat) (F : Nat) (z : St) (h0 : Nat) (x0 : Nat) (x1 : Int32) (x2 : Int32) (x3 : Int32) (x4 : Int32) {z8 : St} {r8 : Int32} (hf : fn_X18_isSameList F sh n z h0 x0 x1 x2 x3 x4 = some (z8, r8)) : Met l yX18_isSameList wsX18_isSameList ({ frames := 7, cells := 0, slots := 0, locals := 163 }) (va_Pc [.ref (a h0), .ref (a x0), .int x1, .int x2, .int x3, .int x4] (fun U => U.heap.size = sz ∧ va_P (dC, dI) vwCl (Wd cy a sh n z) U.heap ∧ va_K (dC, dI) vwCl (TYS cy) U ∧ va_D (fun _ => True) (Wd cy a sh n z) ∧ NK U)) (va_Qi (fun (r9 : Int32) (u : Unit) => r9 = r8) (fun u t => va_P (dC, dI) vwCl (Wd cy a sh n z8) t.heap ∧ va_K (dC, dI) vwCl (TYS cy) t ∧ va_D (va_A (Wd cy a sh n z) sz) (Wd cy a sh n z8)) (va_A (Wd cy a sh n z) sz)) 0 0 (va_A (Wd cy a sh n z) sz) := by
  refine Met.ofW (cc := cX18_isSameList) (maxL := 9) (ret := (some .boolean)) (by decide) rfl ?_
  intro p e s m args below meth c s₁ B hml hv
  obtain ⟨rfl, hsz, hP, hK, hD0, hN⟩ := hv
  have hx := B.exec
  have hb := B.bytes
  have hr := B.returns
  have hts := atoms_spec (ws := wsX18_isSameList) B.pre
  have hown : s.vm.findClass RX18 = some m.cls := findClass_of_methodNamed B.named
  have hlocks := B.notSynchronized
  subst hsz
  have hD := hD0.self (sz := s.heap.size)
  clear hD0
  generalize hAe : va_A (Wd cy a sh n z) s.heap.size = A at hD ⊢
  have hA : ∀ q : Nat, s.heap.size ≤ q → A q := fun q h => by rw [← hAe]; exact Or.inr h
  clear hAe
  have hS : va_S A s.heap s.heap [] := va_S.rf
  have hl := lv_entry ([.ref (a h0), .ref (a x0), .int x1, .int x2, .int x3, .int x4]) (n := 9) (Nat.le_of_ble_eq_true rfl)
  rw [lg_entry_eq]
  generalize (lg_sl ([.ref (a h0), .ref (a x0), .int x1, .int x2, .int x3, .int x4]) ++ List.replicate (9 - (lg_sl ([.ref (a h0), .ref (a x0), .int x1, .int x2, .int x3, .int x4])).length) Slot.unset).toArray = ls at hl ⊢
  replace hl : lv_has ls 9 [(0, .ref (a h0)), (1, .ref (a x0)), (2, .int x1), (3, .int x2), (4, .int x3), (5, .int x4)] := hl
  unfold fn_X18_isSameList at hf
  refine de_start hS hP (fun H locs hS hP => ?_)
  refine lv_aload_n hx hb dX18_isSameList_0 rfl (lv_at hl 1 rfl) ?_
  refine lv_iload_n hx hb dX18_isSameList_1 rfl (lv_at hl 2 rfl) ?_
  refine lv_iload hx hb dX18_isSameList_2 (lv_at hl 5 rfl) ?_
  obtain ⟨g_3, hf⟩ := grd_some hf
  obtain ⟨kg_3, sg_3⟩ := okO_at g_3
  obtain ⟨z_1, r_2, hfc, hf⟩ := cal_some hf
  have hFc := de_free hD hS hA
  refine va_calli (va_runV (As := [.int x1, .int x4]) (rest := []) ⟨hx, hb, hml, hown, hts⟩ (de_X16_many l dC dI cy a sh n H.size F z x0 x1 x4 hfc) (cwV 2 hts gX18_isSameList_X16_many rfl rfl rfl (by decide +kernel) ⟨Nat.le_of_ble_eq_true rfl, Nat.le_of_ble_eq_true rfl⟩) ⟨fun a U g mk q => by obtain ⟨q0, q1, qP, qK, qD, qN⟩ := q; exact ⟨q0, q1, qP, va_K.moved (u := U) (U := U.calling g mk a) (Vm.Alike.refl U.vm) qK, qD, qN.same rfl⟩, va_recv hK hP (ci := 16) (q0 := x0) rfl (Wd_ob kg_3 sg_3 (by decide)), fun U hU hW => ⟨rfl, by rw [hU], by rw [hU]; exact hP, va_K.moved hW.alike hK, hD.weaken (fun _ _ _ _ => trivial), hN.warm hW⟩⟩ rfl rfl hl.1 rfl (lv_room (Nat.le_of_ble_eq_true rfl)) dX18_isSameList_4 ⟨Nat.le_of_ble_eq_true rfl, Nat.le_of_ble_eq_true rfl⟩) hS (fun q _ h => hFc q h) hFc (fun rr u t H_4 locs ht hvm hw hB hz1 hk1 hS2 => ?_)
  rw [hw]
  clear hw
  obtain ⟨hP1, -, hD1⟩ := hB
  rw [ht] at hP1
  replace hD := hD1.weaken (fun _ _ _ h => hFc _ h)
  replace hP := hP1
  replace hS := hS2
  clear hP1 hD1 hS2 hFc hfc hz1 hk1 hvm ht
  refine lv_istore (lv' := [(6, .int r_2), (0, .ref (a h0)), (1, .ref (a x0)), (2, .int x1), (3, .int x2), (4, .int x3), (5, .int x4)]) hx hb dX18_isSameList_7 hl (by decide) rfl (fun ls hl2 => ?_)
  replace hl := hl2
  clear hl2
  refine lv_iload hx hb dX18_isSameList_9 (lv_at hl 0 rfl) ?_
  refine lv_aload_n hx hb dX18_isSameList_11 rfl (lv_at hl 1 rfl) ?_
  refine lv_iload_n hx hb dX18_isSameList_12 rfl (lv_at hl 4 rfl) ?_
  refine lv_iload hx hb dX18_isSameList_13 (lv_at hl 5 rfl) ?_
  refine lv_iload hx hb dX18_isSameList_15 (lv_at hl 6 rfl) ?_
  obtain ⟨g_7, hf⟩ := grd_some hf
  obtain ⟨kg_7, sg_7⟩ := okO_at g_7
  obtain ⟨z_5, r_6, hfc, hf⟩ := cal_some hf
  have hFc := de_free hD hS hA
  refine va_calli (va_runV (As := [.int x2, .int x3, .int x4]) (rest := [.int r_2]) ⟨hx, hb, hml, hown, hts⟩ (de_X18_manyThere l dC dI cy a sh n H_4.size F z_1 h0 x2 x3 x4 hfc) (cwV 3 hts gX18_isSameList_X18_manyThere rfl rfl rfl (by decide +kernel) ⟨Nat.le_of_ble_eq_true rfl, Nat.le_of_ble_eq_true rfl⟩) ⟨fun a U g mk q => by obtain ⟨q0, q1, qP, qK, qD, qN⟩ := q; exact ⟨q0, q1, qP, va_K.moved (u := U) (U := U.calling g mk a) (Vm.Alike.refl U.vm) qK, qD, qN.same rfl⟩, va_recv hK hP (ci := 18) (q0 := h0) rfl (Wd_ob kg_7 sg_7 (by decide)), fun U hU hW => ⟨rfl, by rw [hU], by rw [hU]; exact hP, va_K.moved hW.alike hK, hD.weaken (fun _ _ _ _ => trivial), hN.warm hW⟩⟩ rfl rfl hl.1 rfl (lv_room (Nat.le_of_ble_eq_true rfl)) dX18_isSameList_17 ⟨Nat.le_of_ble_eq_true rfl, Nat.le_of_ble_eq_true rfl⟩) hS (fun q _ h => hFc q h) hFc (fun rr u t H_8 locs ht hvm hw hB hz1 hk1 hS2 => ?_)
  rw [hw]
  clear hw
  obtain ⟨hP1, -, hD1⟩ := hB
  rw [ht] at hP1
  replace hD := hD1.weaken (fun _ _ _ h => hFc _ h)
  replace hP := hP1
  replace hS := hS2
  clear hP1 hD1 hS2 hFc hfc hz1 hk1 hvm ht
  refine de_cut (h := 28) (fun (x : St × Int32) => [.int x.2]) (fun x ls H locs => lv_has ls 9 [(6, .int r_2), (0, .ref (a h0)), (1, .ref (a x0)), (2, .int x1), (3, .int x2), (4, .int x3), (5, .int x4)] ∧ va_P (dC, dI) vwCl (Wd cy a sh n x.1) H ∧ va_D A (Wd cy a sh n x.1) ∧ va_S A s.heap H locs) (fun x => fn_X18_isSameList_B28 F sh n r_2 x0 x1 x4 h0 x2 x3 x.1 x.2) (z8, r8) ?_ (fun B28 => ?_)
  · intro x ls H locs hI hf
    obtain ⟨z_10, p_9⟩ := x
    obtain ⟨hl2, hP2, hD2, hS2⟩ := hI
    replace hl : lv_has ls 9 [(6, .int r_2), (0, .ref (a h0)), (1, .ref (a x0)), (2, .int x1), (3, .int x2), (4, .int x3), (5, .int x4)] := hl2
    replace hP := hP2
    replace hD := hD2
    replace hS := hS2
    clear hl2 hP2 hD2 hS2
    replace hf := fn_X18_isSameList_B28_s hf
    refine W.eq (g2 := F0 m 28 ls [.int p_9]) rfl ?_
    refine lv_istore (lv' := [(7, .int p_9), (6, .int r_2), (0, .ref (a h0)), (1, .ref (a x0)), (2, .int x1), (3, .int x2), (4, .int x3), (5, .int x4)]) hx hb dX18_isSameList_28 hl (by decide) rfl (fun ls hl2 => ?_)
    replace hl := hl2
    clear hl2
    refine lv_iconst (v := 0) hx hb dX18_isSameList_30 (by decide) ?_
    refine lv_istore (lv' := [(8, .int 0), (7, .int p_9), (6, .int r_2), (0, .ref (a h0)), (1, .ref (a x0)), (2, .int x1), (3, .int x2), (4, .int x3), (5, .int x4)]) hx hb dX18_isSameList_31 hl (by decide) rfl (fun ls hl2 => ?_)
    replace hl := hl2
    clear hl2
    have hl0 : lv_has ls 9 [(8, .int 0), (7, .int p_9), (6, .int r_2), (0, .ref (a h0)), (1, .ref (a x0)), (2, .int x1), (3, .int x2), (4, .int x3), (5, .int x4)] := lv_sub hl [0, 1, 2, 3, 4, 5, 6, 7, 8] rfl
    refine de_loop (h := 33) (fun (x : St × Int32 × Int32) ls H locs => lv_has ls 9 [(8, .int x.2.2), (7, .int x.2.1), (6, .int r_2), (0, .ref (a h0)), (1, .ref (a x0)), (2, .int x1), (3, .int x2), (4, .int x3), (5, .int x4)] ∧ va_P (dC, dI) vwCl (Wd cy a sh n x.1) H ∧ va_D A (Wd cy a sh n x.1) ∧ va_S A s.heap H locs) (fun f x => fn_X18_isSameList_L33 F sh n r_2 x0 x1 x4 h0 x2 x3 f x.1 x.2.1 x.2.2) (z8, r8) ?_ (fun _ => rfl) F (z_10, p_9, 0) ls H locs ⟨hl0, hP, hD, hS⟩ hf
    intro f_14 x ls H locs ih33 hI hf
    obtain ⟨z_13, p_11, p_12⟩ := x
    obtain ⟨hl2, hP2, hD2, hS2⟩ := hI
    replace hl : lv_has ls 9 [(8, .int p_12), (7, .int p_11), (6, .int r_2), (0, .ref (a h0)), (1, .ref (a x0)), (2, .int x1), (3, .int x2), (4, .int x3), (5, .int x4)] := hl2
    replace hP := hP2
    replace hD := hD2
    replace hS := hS2
    clear hl2 hP2 hD2 hS2 hl0
    replace hf := fn_X18_isSameList_L33_s hf
    refine lv_iload hx hb dX18_isSameList_33 (lv_at hl 0 rfl) ?_
    refine lv_iload hx hb dX18_isSameList_35 (lv_at hl 2 rfl) ?_
    refine lv_icmp_ge (tgt := 79) hx hb dX18_isSameList_37 (by decide) (fun c_15 => ?_) (fun c_15 => ?_)
    · skip
      rw [if_pos c_15] at hf
      refine lv_iload hx hb dX18_isSameList_79 (lv_at hl 1 rfl) ?_
      obtain ⟨g_16, hf⟩ := grd_some hf
      obtain ⟨h8, h9⟩ := ret_some hf
      rw [h8, h9]
      exact W.zret (v := p_11) hx hb hr (nar_z g_16) (fun t ht hW => ⟨⟨p_11, (), rfl, rfl, by rw [ht]; exact hP, va_K.moved hW.alike hK, hD⟩, hS.F ht⟩) hS.2.2 dX18_isSameList_81
    · skip
      rw [if_neg c_15] at hf
      refine lv_iload hx hb dX18_isSameList_40 (lv_at hl 1 rfl) ?_
      refine lv_if_eq (tgt := 79) hx hb dX18_isSameList_42 (by decide) (fun c_17 => ?_) (fun c_17 => ?_)
      · skip
        rw [if_pos c_17] at hf
        refine lv_iload hx hb dX18_isSameList_79 (lv_at hl 1 rfl) ?_
        obtain ⟨g_18, hf⟩ := grd_some hf
        obtain ⟨h8, h9⟩ := ret_some hf
        rw [h8, h9]
        exact W.zret (v := p_11) hx hb hr (nar_z g_18) (fun t ht hW => ⟨⟨p_11, (), rfl, rfl, by rw [ht]; exact hP, va_K.moved hW.alike hK, hD⟩, hS.F ht⟩) hS.2.2 dX18_isSameList_81
      · skip
        rw [if_neg c_17] at hf
        refine lv_aload_n hx hb dX18_isSameList_45 rfl (lv_at hl 3 rfl) ?_
        refine lv_aload_n hx hb dX18_isSameList_46 rfl (lv_at hl 4 rfl) ?_
        refine lv_aload_n hx hb dX18_isSameList_47 rfl (lv_at hl 4 rfl) ?_
        refine lv_iload_n hx hb dX18_isSameList_48 rfl (lv_at hl 5 rfl) ?_
        refine lv_iload hx hb dX18_isSameList_49 (lv_at hl 8 rfl) ?_
        refine lv_iload hx hb dX18_isSameList_51 (lv_at hl 0 rfl) ?_
        obtain ⟨z_19, r_20, hfc, hf⟩ := cal_some hf
        have hFc := de_free hD hS hA
        refine va_calll (va_runV (As := [.int x1, .int x4, .int p_12]) (rest := [.ref (a x0), .ref (a h0)]) ⟨hx, hb, hml, hown, hts⟩ (de_X16_listed l dC dI cy a sh n H.size F z_13 x0 x1 x4 p_12 hfc) (cwV 3 hts gX18_isSameList_X16_listed rfl rfl rfl (by decide +kernel) ⟨Nat.le_of_ble_eq_true rfl, Nat.le_of_ble_eq_true rfl⟩) ⟨fun a U g mk q => by obtain ⟨q0, q1, qP, qK, qD, qN⟩ := q; exact ⟨q0, q1, qP, va_K.moved (u := U) (U := U.calling g mk a) (Vm.Alike.refl U.vm) qK, qD, qN.same rfl⟩, va_recv hK hP (ci := 16) (q0 := x0) rfl (Wd_ob kg_3 sg_3 (by decide)), fun U hU hW => ⟨rfl, by rw [hU], by rw [hU]; exact hP, va_K.moved hW.alike hK, hD.weaken (fun _ _ _ _ => trivial), hN.warm hW⟩⟩ rfl rfl hl.1 rfl (lv_room (Nat.le_of_ble_eq_true rfl)) dX18_isSameList_53 ⟨Nat.le_of_ble_eq_true rfl, Nat.le_of_ble_eq_true rfl⟩) hS (fun q _ h => hFc q h) hFc (fun rr u t H_21 locs ht hvm hw hB hz1 hk1 hS2 => ?_)
        rw [hw]
        clear hw
        obtain ⟨hP1, -, hD1⟩ := hB
        rw [ht] at hP1
        replace hD := hD1.weaken (fun _ _ _ h => hFc _ h)
        replace hP := hP1
        replace hS := hS2
        clear hP1 hD1 hS2 hFc hfc hz1 hk1 hvm ht
        refine lv_iload_n hx hb dX18_isSameList_56 rfl (lv_at hl 6 rfl) ?_
        refine lv_aload_n hx hb dX18_isSameList_57 rfl (lv_at hl 3 rfl) ?_
        refine lv_iload_n hx hb dX18_isSameList_58 rfl (lv_at hl 6 rfl) ?_
        refine lv_iload hx hb dX18_isSameList_59 (lv_at hl 7 rfl) ?_
        refine lv_iload hx hb dX18_isSameList_61 (lv_at hl 8 rfl) ?_
        refine lv_iload hx hb dX18_isSameList_63 (lv_at hl 0 rfl) ?_
        obtain ⟨z_22, r_23, hfc, hf⟩ := cal_some hf
        have hFc := de_free hD hS hA
        refine va_calll (va_runV (As := [.int x2, .int x3, .int x4, .int p_12]) (rest := [.int x2, .long r_20, .ref (a x0), .ref (a h0)]) ⟨hx, hb, hml, hown, hts⟩ (de_X18_typeThere l dC dI cy a sh n H_21.size F z_19 h0 x2 x3 x4 p_12 hfc) (cwV 4 hts gX18_isSameList_X18_typeThere rfl rfl rfl (by decide +kernel) ⟨Nat.le_of_ble_eq_true rfl, Nat.le_of_ble_eq_true rfl⟩) ⟨fun a U g mk q => by obtain ⟨q0, q1, qP, qK, qD, qN⟩ := q; exact ⟨q0, q1, qP, va_K.moved (u := U) (U := U.calling g mk a) (Vm.Alike.refl U.vm) qK, qD, qN.same rfl⟩, va_recv hK hP (ci := 18) (q0 := h0) rfl (Wd_ob kg_7 sg_7 (by decide)), fun U hU hW => ⟨rfl, by rw [hU], by rw [hU]; exact hP, va_K.moved hW.alike hK, hD.weaken (fun _ _ _ _ => trivial), hN.warm hW⟩⟩ rfl rfl hl.1 rfl (lv_room (Nat.le_of_ble_eq_true rfl)) dX18_isSameList_65 ⟨Nat.le_of_ble_eq_true rfl, Nat.le_of_ble_eq_true rfl⟩) hS (fun q _ h => hFc q h) hFc (fun rr u t H_24 locs ht hvm hw hB hz1 hk1 hS2 => ?_)
        rw [hw]
        clear hw
        obtain ⟨hP1, -, hD1⟩ := hB
        rw [ht] at hP1
        replace hD := hD1.weaken (fun _ _ _ h => hFc _ h)
        replace hP := hP1
        replace hS := hS2
        clear hP1 hD1 hS2 hFc hfc hz1 hk1 hvm ht
        obtain ⟨z_25, r_26, hfc, hf⟩ := cal_some hf
        have hFc := de_free hD hS hA
        refine va_calli (va_runV (As := [.ref (a x0), .long r_20, .int x2, .long r_23]) (rest := []) ⟨hx, hb, hml, hown, hts⟩ (de_X18_isSame l dC dI cy a sh n H_24.size F z_22 h0 x0 r_20 x2 r_23 hfc) (cwV 4 hts gX18_isSameList_X18_isSame rfl rfl rfl (by decide +kernel) ⟨Nat.le_of_ble_eq_true rfl, Nat.le_of_ble_eq_true rfl⟩) ⟨fun a U g mk q => by obtain ⟨q0, q1, qP, qK, qD, qN⟩ := q; exact ⟨q0, q1, qP, va_K.moved (u := U) (U := U.calling g mk a) (Vm.Alike.refl U.vm) qK, qD, qN.same rfl⟩, va_recv hK hP (ci := 18) (q0 := h0) rfl (Wd_ob kg_7 sg_7 (by decide)), fun U hU hW => ⟨rfl, by rw [hU], by rw [hU]; exact hP, va_K.moved hW.alike hK, hD.weaken (fun _ _ _ _ => trivial), hN.warm hW⟩⟩ rfl rfl hl.1 rfl (lv_room (Nat.le_of_ble_eq_true rfl)) dX18_isSameList_68 ⟨Nat.le_of_ble_eq_true rfl, Nat.le_of_ble_eq_true rfl⟩) hS (fun q _ h => hFc q h) hFc (fun rr u t H_27 locs ht hvm hw hB hz1 hk1 hS2 => ?_)
        rw [hw]
        clear hw
        obtain ⟨hP1, -, hD1⟩ := hB
        rw [ht] at hP1
        replace hD := hD1.weaken (fun _ _ _ h => hFc _ h)
        replace hP := hP1
        replace hS := hS2
        clear hP1 hD1 hS2 hFc hfc hz1 hk1 hvm ht
        refine lv_istore (lv' := [(7, .int r_26), (8, .int p_12), (6, .int r_2), (0, .ref (a h0)), (1, .ref (a x0)), (2, .int x1), (3, .int x2), (4, .int x3), (5, .int x4)]) hx hb dX18_isSameList_71 hl (by decide) rfl (fun ls hl2 => ?_)
        replace hl := hl2
        clear hl2
        refine lv_iinc (v := (p_12 + 1)) (lv' := [(8, .int (p_12 + 1)), (7, .int r_26), (6, .int r_2), (0, .ref (a h0)), (1, .ref (a x0)), (2, .int x1), (3, .int x2), (4, .int x3), (5, .int x4)]) hx hb dX18_isSameList_73 hl (k := 1) rfl rfl (by decide) rfl (fun ls hl2 => ?_)
        replace hl := hl2
        clear hl2
        refine lv_goto (tgt := 33) hx hb dX18_isSameList_76 (by decide) ?_
        exact ih33 (z_25, r_26, (p_12 + 1)) ls H_27 locs ⟨lv_sub hl [0, 1, 2, 3, 4, 5, 6, 7, 8] rfl, hP, hD, hS⟩ hf
  refine lv_icmp_ne (tgt := 27) hx hb dX18_isSameList_20 (by decide) (fun c_28 => ?_) (fun c_28 => ?_)
  · skip
    rw [if_neg c_28] at hf
    refine lv_iconst (v := 0) hx hb dX18_isSameList_27 (by decide) ?_
    exact B28 (z_5, 0) ls H_8 locs ⟨lv_sub hl [0, 1, 2, 3, 4, 5, 6] rfl, hP, hD, hS⟩ hf
  · skip
    rw [if_pos c_28] at hf
    refine lv_iconst (v := 1) hx hb dX18_isSameList_23 (by decide) ?_
    refine lv_goto (tgt := 28) hx hb dX18_isSameList_24 (by decide) ?_
    exact B28 (z_5, 1) ls H_8 locs ⟨lv_sub hl [0, 1, 2, 3, 4, 5, 6] rfl, hP, hD, hS⟩ hf

theorem md_X16_read_1 : (.fieldLink RX16 43 "ResourceLedgerModel$Unit" "length" "I" : Cond) ∈ wsX16_read := List.mem_of_getElem? (i := 1) rfl
theorem iwd_X16_read_X16 : ∀ w ∈ wsX160, w ∈ wsX16_read := fun _ h => List.mem_cons_of_mem _ (List.mem_append_right _ h)
theorem md_X16_read_3 : (.fieldLink RX16 50 "ResourceLedgerModel$Unit" "at" "I" : Cond) ∈ wsX16_read := List.mem_of_getElem? (i := 3) rfl
theorem md_X16_read_4 : (.fieldLink RX16 36 "ResourceLedgerModel$Unit" "fault" "I" : Cond) ∈ wsX16_read := List.mem_of_getElem? (i := 4) rfl
theorem md_X16_read_5 : (.fieldLink RX16 40 "ResourceLedgerModel$Unit" "where" "I" : Cond) ∈ wsX16_read := List.mem_of_getElem? (i := 5) rfl
theorem md_X16_read_6 : (.fieldLink RX16 72 "ResourceLedgerModel$Unit" "all" "I" : Cond) ∈ wsX16_read := List.mem_of_getElem? (i := 6) rfl
theorem md_X16_read_7 : (.fieldLink RX16 92 "ResourceLedgerModel$Unit" "structures" "I" : Cond) ∈ wsX16_read := List.mem_of_getElem? (i := 7) rfl
theorem md_X16_read_8 : (.fieldLink RX16 13 "ResourceLedgerModel$Unit" "structureAt" "[I" : Cond) ∈ wsX16_read := List.mem_of_getElem? (i := 8) rfl
theorem md_X16_read_2 : (.fieldLink RX16 7 "ResourceLedgerModel$Unit" "bytes" "[B" : Cond) ∈ wsX16_read := List.mem_of_getElem? (i := 2) rfl
set_option maxHeartbeats 4000000 in
set_option maxRecDepth 100000 in
theorem de_X16_read (l : Launch) (dC : Nat → ClassId) (dI : Nat → Nat → Nat) (cy : Nat → ClassId) (a : Nat → Nat) (sh : Nat → Nat × Nat) (n sz : Nat) (F : Nat) (z : St) (h0 : Nat) (x0 : Nat) (x1 : Int32) (x2 : Int32) {z8 : St} {r8 : Int32} (hf : fn_X16_read F sh n z h0 x0 x1 x2 = some (z8, r8)) : Met l yX16_read wsX16_read ({ frames := 7, cells := 0, slots := 0, locals := 160 }) (va_Pc [.ref (a h0), .ref (a x0), .int x1, .int x2] (fun U => U.heap.size = sz ∧ va_P (dC, dI) vwCl (Wd cy a sh n z) U.heap ∧ va_K (dC, dI) vwCl (TYS cy) U ∧ va_D (fun _ => True) (Wd cy a sh n z) ∧ NK U)) (va_Qi (fun (r9 : Int32) (u : Unit) => r9 = r8) (fun u t => va_P (dC, dI) vwCl (Wd cy a sh n z8) t.heap ∧ va_K (dC, dI) vwCl (TYS cy) t ∧ va_D (va_A (Wd cy a sh n z) sz) (Wd cy a sh n z8)) (va_A (Wd cy a sh n z) sz)) 0 0 (va_A (Wd cy a sh n z) sz) := by
  refine Met.ofW (cc := cX16_read) (maxL := 5) (ret := (some .int)) (by decide) rfl ?_
  intro p e s m args below meth c s₁ B hml hv
  obtain ⟨rfl, hsz, hP, hK, hD0, hN⟩ := hv
  have hx := B.exec
  have hb := B.bytes
  have hr := B.returns
  have hts := atoms_spec (ws := wsX16_read) B.pre
  have hown : s.vm.findClass RX16 = some m.cls := findClass_of_methodNamed B.named
  have hlocks := B.notSynchronized
  subst hsz
  have hD := hD0.self (sz := s.heap.size)
  clear hD0
  generalize hAe : va_A (Wd cy a sh n z) s.heap.size = A at hD ⊢
  have hA : ∀ q : Nat, s.heap.size ≤ q → A q := fun q h => by rw [← hAe]; exact Or.inr h
  clear hAe
  have hS : va_S A s.heap s.heap [] := va_S.rf
  have hl := lv_entry ([.ref (a h0), .ref (a x0), .int x1, .int x2]) (n := 5) (Nat.le_of_ble_eq_true rfl)
  rw [lg_entry_eq]
  generalize (lg_sl ([.ref (a h0), .ref (a x0), .int x1, .int x2]) ++ List.replicate (5 - (lg_sl ([.ref (a h0), .ref (a x0), .int x1, .int x2])).length) Slot.unset).toArray = ls at hl ⊢
  replace hl : lv_has ls 5 [(0, .ref (a h0)), (1, .ref (a x0)), (2, .int x1), (3, .int x2)] := hl
  unfold fn_X16_read at hf
  refine de_start hS hP (fun H locs hS hP => ?_)
  refine lv_aload_n hx hb dX16_read_0 rfl (lv_at hl 0 rfl) ?_
  refine lv_iload_n hx hb dX16_read_1 rfl (lv_at hl 3 rfl) ?_
  obtain ⟨g_1, hf⟩ := grd_some hf
  obtain ⟨kg_1, sg_1⟩ := okO_at g_1
  refine va_put (D := (dC, dI)) (ci := 16) (v := .int x2) (ty := .int) (C := RX16) (T := TX16) (N := 18) hx hb hts iwd_X16_read_X16 tyX16 tyX16_ok nmX16 hown hK hP hD hS h0 (Wd_ob kg_1 sg_1 (by decide)) rfl 1 (by decide) (hts _ md_X16_read_1) (fun _ h9 => h9) rfl (by decide +kernel) rfl rfl (by rw [fl_len]; decide) dX16_read_2 (fun H_2 locs hP2 hD2 hS2 => ?_)
  rw [Wd_si sg_1 (by decide) rfl] at hP2 hD2
  obtain ⟨z_3, ez_3⟩ : ∃ w, w = si z h0 1 x2 := ⟨_, rfl⟩
  rw [← ez_3] at hP2 hD2
  replace hf := lt_at ez_3 hf
  clear ez_3
  replace hP := hP2
  replace hD := hD2
  replace hS := hS2
  clear hP2 hD2 hS2
  refine lv_iconst (v := 0) hx hb dX16_read_5 (by decide) ?_
  refine lv_istore (lv' := [(4, .int 0), (0, .ref (a h0)), (1, .ref (a x0)), (2, .int x1), (3, .int x2)]) hx hb dX16_read_6 hl (by decide) rfl (fun ls hl2 => ?_)
  replace hl := hl2
  clear hl2
  have hl0 : lv_has ls 5 [(4, .int 0), (0, .ref (a h0)), (1, .ref (a x0)), (2, .int x1), (3, .int x2)] := lv_sub hl [0, 1, 2, 3, 4] rfl
  refine de_loop (h := 8) (fun (x : St × Int32) ls H locs => lv_has ls 5 [(4, .int x.2), (0, .ref (a h0)), (1, .ref (a x0)), (2, .int x1), (3, .int x2)] ∧ va_P (dC, dI) vwCl (Wd cy a sh n x.1) H ∧ va_D A (Wd cy a sh n x.1) ∧ va_S A s.heap H locs) (fun f x => fn_X16_read_L8 F sh n x2 h0 x0 x1 f x.1 x.2) (z8, r8) ?_ (fun _ => rfl) F (z_3, 0) ls H_2 locs ⟨hl0, hP, hD, hS⟩ hf
  intro f_6 x ls H locs ih8 hI hf
  obtain ⟨z_5, p_4⟩ := x
  obtain ⟨hl2, hP2, hD2, hS2⟩ := hI
  replace hl : lv_has ls 5 [(4, .int p_4), (0, .ref (a h0)), (1, .ref (a x0)), (2, .int x1), (3, .int x2)] := hl2
  replace hP := hP2
  replace hD := hD2
  replace hS := hS2
  clear hl2 hP2 hD2 hS2 hl0
  replace hf := fn_X16_read_L8_s hf
  refine lv_iload hx hb dX16_read_8 (lv_at hl 0 rfl) ?_
  refine lv_iload_n hx hb dX16_read_10 rfl (lv_at hl 4 rfl) ?_
  refine lv_icmp_ge (tgt := 33) hx hb dX16_read_11 (by decide) (fun c_7 => ?_) (fun c_7 => ?_)
  · skip
    rw [if_pos c_7] at hf
    refine lv_aload_n hx hb dX16_read_33 rfl (lv_at hl 1 rfl) ?_
    refine lv_iconst (v := 0) hx hb dX16_read_34 (by decide) ?_
    refine va_put (D := (dC, dI)) (ci := 16) (v := .int 0) (ty := .int) (C := RX16) (T := TX16) (N := 18) hx hb hts iwd_X16_read_X16 tyX16 tyX16_ok nmX16 hown hK hP hD hS h0 (Wd_ob kg_1 sg_1 (by decide)) rfl 2 (by decide) (hts _ md_X16_read_3) (fun _ h9 => h9) rfl (by decide +kernel) rfl rfl (by rw [fl_len]; decide) dX16_read_35 (fun H_8 locs hP2 hD2 hS2 => ?_)
    rw [Wd_si sg_1 (by decide) rfl] at hP2 hD2
    obtain ⟨z_9, ez_9⟩ : ∃ w, w = si z_5 h0 2 0 := ⟨_, rfl⟩
    rw [← ez_9] at hP2 hD2
    replace hf := lt_at ez_9 hf
    clear ez_9
    replace hP := hP2
    replace hD := hD2
    replace hS := hS2
    clear hP2 hD2 hS2
    refine lv_aload_n hx hb dX16_read_38 rfl (lv_at hl 1 rfl) ?_
    refine lv_iconst (v := 0) hx hb dX16_read_39 (by decide) ?_
    refine va_put (D := (dC, dI)) (ci := 16) (v := .int 0) (ty := .int) (C := RX16) (T := TX16) (N := 18) hx hb hts iwd_X16_read_X16 tyX16 tyX16_ok nmX16 hown hK hP hD hS h0 (Wd_ob kg_1 sg_1 (by decide)) rfl 3 (by decide) (hts _ md_X16_read_4) (fun _ h9 => h9) rfl (by decide +kernel) rfl rfl (by rw [fl_len]; decide) dX16_read_40 (fun H_10 locs hP2 hD2 hS2 => ?_)
    rw [Wd_si sg_1 (by decide) rfl] at hP2 hD2
    obtain ⟨z_11, ez_11⟩ : ∃ w, w = si z_9 h0 3 0 := ⟨_, rfl⟩
    rw [← ez_11] at hP2 hD2
    replace hf := lt_at ez_11 hf
    clear ez_11
    replace hP := hP2
    replace hD := hD2
    replace hS := hS2
    clear hP2 hD2 hS2
    refine lv_aload_n hx hb dX16_read_43 rfl (lv_at hl 1 rfl) ?_
    refine lv_iconst (v := 0) hx hb dX16_read_44 (by decide) ?_
    refine va_put (D := (dC, dI)) (ci := 16) (v := .int 0) (ty := .int) (C := RX16) (T := TX16) (N := 18) hx hb hts iwd_X16_read_X16 tyX16 tyX16_ok nmX16 hown hK hP hD hS h0 (Wd_ob kg_1 sg_1 (by decide)) rfl 4 (by decide) (hts _ md_X16_read_5) (fun _ h9 => h9) rfl (by decide +kernel) rfl rfl (by rw [fl_len]; decide) dX16_read_45 (fun H_12 locs hP2 hD2 hS2 => ?_)
    rw [Wd_si sg_1 (by decide) rfl] at hP2 hD2
    obtain ⟨z_13, ez_13⟩ : ∃ w, w = si z_11 h0 4 0 := ⟨_, rfl⟩
    rw [← ez_13] at hP2 hD2
    replace hf := lt_at ez_13 hf
    clear ez_13
    replace hP := hP2
    replace hD := hD2
    replace hS := hS2
    clear hP2 hD2 hS2
    refine lv_aload_n hx hb dX16_read_48 rfl (lv_at hl 1 rfl) ?_
    refine lv_iconst (v := 0) hx hb dX16_read_49 (by decide) ?_
    refine va_put (D := (dC, dI)) (ci := 16) (v := .int 0) (ty := .int) (C := RX16) (T := TX16) (N := 18) hx hb hts iwd_X16_read_X16 tyX16 tyX16_ok nmX16 hown hK hP hD hS h0 (Wd_ob kg_1 sg_1 (by decide)) rfl 10 (by decide) (hts _ md_X16_read_6) (fun _ h9 => h9) rfl (by decide +kernel) rfl rfl (by rw [fl_len]; decide) dX16_read_50 (fun H_14 locs hP2 hD2 hS2 => ?_)
    rw [Wd_si sg_1 (by decide) rfl] at hP2 hD2
    obtain ⟨z_15, ez_15⟩ : ∃ w, w = si z_13 h0 10 0 := ⟨_, rfl⟩
    rw [← ez_15] at hP2 hD2
    replace hf := lt_at ez_15 hf
    clear ez_15
    replace hP := hP2
    replace hD := hD2
    replace hS := hS2
    clear hP2 hD2 hS2
    refine lv_aload_n hx hb dX16_read_53 rfl (lv_at hl 1 rfl) ?_
    obtain ⟨z_16, _u, hfc, hf⟩ := cal_some hf
    have hFc := de_free hD hS hA
    refine va_callv (va_runV (As := []) (rest := []) ⟨hx, hb, hml, hown, hts⟩ (de_X16_overAll l dC dI cy a sh n H_14.size F z_15 h0 hfc) (cwV 0 hts gX16_read_X16_overAll rfl rfl rfl (by decide +kernel) ⟨Nat.le_of_ble_eq_true rfl, Nat.le_of_ble_eq_true rfl⟩) ⟨fun a U g mk q => by obtain ⟨q0, q1, qP, qK, qD, qN⟩ := q; exact ⟨q0, q1, qP, va_K.moved (u := U) (U := U.calling g mk a) (Vm.Alike.refl U.vm) qK, qD, qN.same rfl⟩, va_recv hK hP (ci := 16) (q0 := h0) rfl (Wd_ob kg_1 sg_1 (by decide)), fun U hU hW => ⟨rfl, by rw [hU], by rw [hU]; exact hP, va_K.moved hW.alike hK, hD.weaken (fun _ _ _ _ => trivial), hN.warm hW⟩⟩ rfl rfl hl.1 rfl (lv_room (Nat.le_of_ble_eq_true rfl)) dX16_read_54 ⟨Nat.le_of_ble_eq_true rfl, Nat.le_of_ble_eq_true rfl⟩) hS (fun q _ h => hFc q h) hFc (fun u t H_17 locs ht hvm hw hB hz1 hk1 hS2 => ?_)
    obtain ⟨hP1, -, hD1⟩ := hB
    rw [ht] at hP1
    replace hD := hD1.weaken (fun _ _ _ h => hFc _ h)
    replace hP := hP1
    replace hS := hS2
    clear hP1 hD1 hS2 hFc hfc hz1 hk1 hvm ht
    refine lv_aload_n hx hb dX16_read_57 rfl (lv_at hl 1 rfl) ?_
    obtain ⟨z_18, r_19, hfc, hf⟩ := cal_some hf
    have hFc := de_free hD hS hA
    refine va_calli (va_runV (As := []) (rest := []) ⟨hx, hb, hml, hown, hts⟩ (de_X16_isGood l dC dI cy a sh n H_17.size F z_16 h0 hfc) (cwV 0 hts gX16_read_X16_isGood rfl rfl rfl (by decide +kernel) ⟨Nat.le_of_ble_eq_true rfl, Nat.le_of_ble_eq_true rfl⟩) ⟨fun a U g mk q => by obtain ⟨q0, q1, qP, qK, qD, qN⟩ := q; exact ⟨q0, q1, qP, va_K.moved (u := U) (U := U.calling g mk a) (Vm.Alike.refl U.vm) qK, qD, qN.same rfl⟩, va_recv hK hP (ci := 16) (q0 := h0) rfl (Wd_ob kg_1 sg_1 (by decide)), fun U hU hW => ⟨rfl, by rw [hU], by rw [hU]; exact hP, va_K.moved hW.alike hK, hD.weaken (fun _ _ _ _ => trivial), hN.warm hW⟩⟩ rfl rfl hl.1 rfl (lv_room (Nat.le_of_ble_eq_true rfl)) dX16_read_58 ⟨Nat.le_of_ble_eq_true rfl, Nat.le_of_ble_eq_true rfl⟩) hS (fun q _ h => hFc q h) hFc (fun rr u t H_20 locs ht hvm hw hB hz1 hk1 hS2 => ?_)
    rw [hw]
    clear hw
    obtain ⟨hP1, -, hD1⟩ := hB
    rw [ht] at hP1
    replace hD := hD1.weaken (fun _ _ _ h => hFc _ h)
    replace hP := hP1
    replace hS := hS2
    clear hP1 hD1 hS2 hFc hfc hz1 hk1 hvm ht
    refine de_cut (h := 68) (fun (x : St) => []) (fun x ls H locs => lv_has ls 5 [(0, .ref (a h0))] ∧ va_P (dC, dI) vwCl (Wd cy a sh n x) H ∧ va_D A (Wd cy a sh n x) ∧ va_S A s.heap H locs) (fun x => fn_X16_read_B68 F sh n h0 x) (z8, r8) ?_ (fun B68 => ?_)
    · intro x ls H locs hI hf
      obtain ⟨z_21, ez⟩ : ∃ w, w = x := ⟨_, rfl⟩
      subst ez
      obtain ⟨hl2, hP2, hD2, hS2⟩ := hI
      replace hl : lv_has ls 5 [(0, .ref (a h0))] := hl2
      replace hP := hP2
      replace hD := hD2
      replace hS := hS2
      clear hl2 hP2 hD2 hS2
      replace hf := fn_X16_read_B68_s hf
      refine W.eq (g2 := F0 m 68 ls []) rfl ?_
      refine lv_iconst (v := 0) hx hb dX16_read_68 (by decide) ?_
      refine lv_istore (lv' := [(4, .int 0), (0, .ref (a h0))]) hx hb dX16_read_69 hl (by decide) rfl (fun ls hl2 => ?_)
      replace hl := hl2
      clear hl2
      have hl0 : lv_has ls 5 [(4, .int 0), (0, .ref (a h0))] := lv_sub hl [0, 1] rfl
      refine de_loop (h := 71) (fun (x : St × Int32) ls H locs => lv_has ls 5 [(4, .int x.2), (0, .ref (a h0))] ∧ va_P (dC, dI) vwCl (Wd cy a sh n x.1) H ∧ va_D A (Wd cy a sh n x.1) ∧ va_S A s.heap H locs) (fun f x => fn_X16_read_L71 F sh n h0 f x.1 x.2) (z8, r8) ?_ (fun _ => rfl) F (z_21, 0) ls H locs ⟨hl0, hP, hD, hS⟩ hf
      intro f_24 x ls H locs ih71 hI hf
      obtain ⟨z_23, p_22⟩ := x
      obtain ⟨hl2, hP2, hD2, hS2⟩ := hI
      replace hl : lv_has ls 5 [(4, .int p_22), (0, .ref (a h0))] := hl2
      replace hP := hP2
      replace hD := hD2
      replace hS := hS2
      clear hl2 hP2 hD2 hS2 hl0
      replace hf := fn_X16_read_L71_s hf
      refine lv_iload hx hb dX16_read_71 (lv_at hl 0 rfl) ?_
      refine lv_aload_n hx hb dX16_read_73 rfl (lv_at hl 1 rfl) ?_
      refine va_get (D := (dC, dI)) (ci := 16) (v := .int (z_23.1 h0 5)) (C := RX16) (T := TX16) (N := 18) hx hb hts iwd_X16_read_X16 hown hK hP h0 (Wd_ob kg_1 sg_1 (by decide)) rfl 5 (by decide) (hts _ md_X16_read_7) (fun _ h9 => h9) (fl_at (t := 0) rfl) dX16_read_74 ?_
      refine lv_icmp_ge (tgt := 115) hx hb dX16_read_77 (by decide) (fun c_25 => ?_) (fun c_25 => ?_)
      · skip
        rw [if_pos c_25] at hf
        refine lv_aload_n hx hb dX16_read_115 rfl (lv_at hl 1 rfl) ?_
        refine va_get (D := (dC, dI)) (ci := 16) (v := .int (z_23.1 h0 3)) (C := RX16) (T := TX16) (N := 18) hx hb hts iwd_X16_read_X16 hown hK hP h0 (Wd_ob kg_1 sg_1 (by decide)) rfl 3 (by decide) (hts _ md_X16_read_4) (fun _ h9 => h9) (fl_at (t := 0) rfl) dX16_read_116 ?_
        obtain ⟨h8, h9⟩ := ret_some hf
        rw [h8, h9]
        exact W.iret (v := (z_23.1 h0 3)) hx hb hr (fun t ht hW => ⟨⟨(z_23.1 h0 3), (), rfl, rfl, by rw [ht]; exact hP, va_K.moved hW.alike hK, hD⟩, hS.F ht⟩) hS.2.2 dX16_read_119
      · skip
        rw [if_neg c_25] at hf
        refine lv_aload_n hx hb dX16_read_80 rfl (lv_at hl 1 rfl) ?_
        obtain ⟨z_26, r_27, hfc, hf⟩ := cal_some hf
        have hFc := de_free hD hS hA
        refine va_calli (va_runV (As := []) (rest := []) ⟨hx, hb, hml, hown, hts⟩ (de_X16_isGood l dC dI cy a sh n H.size F z_23 h0 hfc) (cwV 0 hts gX16_read_X16_isGood rfl rfl rfl (by decide +kernel) ⟨Nat.le_of_ble_eq_true rfl, Nat.le_of_ble_eq_true rfl⟩) ⟨fun a U g mk q => by obtain ⟨q0, q1, qP, qK, qD, qN⟩ := q; exact ⟨q0, q1, qP, va_K.moved (u := U) (U := U.calling g mk a) (Vm.Alike.refl U.vm) qK, qD, qN.same rfl⟩, va_recv hK hP (ci := 16) (q0 := h0) rfl (Wd_ob kg_1 sg_1 (by decide)), fun U hU hW => ⟨rfl, by rw [hU], by rw [hU]; exact hP, va_K.moved hW.alike hK, hD.weaken (fun _ _ _ _ => trivial), hN.warm hW⟩⟩ rfl rfl hl.1 rfl (lv_room (Nat.le_of_ble_eq_true rfl)) dX16_read_81 ⟨Nat.le_of_ble_eq_true rfl, Nat.le_of_ble_eq_true rfl⟩) hS (fun q _ h => hFc q h) hFc (fun rr u t H_28 locs ht hvm hw hB hz1 hk1 hS2 => ?_)
        rw [hw]
        clear hw
        obtain ⟨hP1, -, hD1⟩ := hB
        rw [ht] at hP1
        replace hD := hD1.weaken (fun _ _ _ h => hFc _ h)
        replace hP := hP1
        replace hS := hS2
        clear hP1 hD1 hS2 hFc hfc hz1 hk1 hvm ht
        refine lv_if_eq (tgt := 115) hx hb dX16_read_84 (by decide) (fun c_29 => ?_) (fun c_29 => ?_)
        · skip
          rw [if_pos c_29] at hf
          refine lv_aload_n hx hb dX16_read_115 rfl (lv_at hl 1 rfl) ?_
          refine va_get (D := (dC, dI)) (ci := 16) (v := .int (z_26.1 h0 3)) (C := RX16) (T := TX16) (N := 18) hx hb hts iwd_X16_read_X16 hown hK hP h0 (Wd_ob kg_1 sg_1 (by decide)) rfl 3 (by decide) (hts _ md_X16_read_4) (fun _ h9 => h9) (fl_at (t := 0) rfl) dX16_read_116 ?_
          obtain ⟨h8, h9⟩ := ret_some hf
          rw [h8, h9]
          exact W.iret (v := (z_26.1 h0 3)) hx hb hr (fun t ht hW => ⟨⟨(z_26.1 h0 3), (), rfl, rfl, by rw [ht]; exact hP, va_K.moved hW.alike hK, hD⟩, hS.F ht⟩) hS.2.2 dX16_read_119
        · skip
          rw [if_neg c_29] at hf
          refine lv_aload_n hx hb dX16_read_87 rfl (lv_at hl 1 rfl) ?_
          refine lv_iload hx hb dX16_read_88 (lv_at hl 0 rfl) ?_
          obtain ⟨z_30, r_31, hfc, hf⟩ := cal_some hf
          have hFc := de_free hD hS hA
          refine va_calli (va_runV (As := [.int p_22]) (rest := []) ⟨hx, hb, hml, hown, hts⟩ (de_X16_isRound l dC dI cy a sh n H_28.size F z_26 h0 p_22 hfc) (cwV 1 hts gX16_read_X16_isRound rfl rfl rfl (by decide +kernel) ⟨Nat.le_of_ble_eq_true rfl, Nat.le_of_ble_eq_true rfl⟩) ⟨fun a U g mk q => by obtain ⟨q0, q1, qP, qK, qD, qN⟩ := q; exact ⟨q0, q1, qP, va_K.moved (u := U) (U := U.calling g mk a) (Vm.Alike.refl U.vm) qK, qD, qN.same rfl⟩, va_recv hK hP (ci := 16) (q0 := h0) rfl (Wd_ob kg_1 sg_1 (by decide)), fun U hU hW => ⟨rfl, by rw [hU], by rw [hU]; exact hP, va_K.moved hW.alike hK, hD.weaken (fun _ _ _ _ => trivial), hN.warm hW⟩⟩ rfl rfl hl.1 rfl (lv_room (Nat.le_of_ble_eq_true rfl)) dX16_read_90 ⟨Nat.le_of_ble_eq_true rfl, Nat.le_of_ble_eq_true rfl⟩) hS (fun q _ h => hFc q h) hFc (fun rr u t H_32 locs ht hvm hw hB hz1 hk1 hS2 => ?_)
          rw [hw]
          clear hw
          obtain ⟨hP1, -, hD1⟩ := hB
          rw [ht] at hP1
          replace hD := hD1.weaken (fun _ _ _ h => hFc _ h)
          replace hP := hP1
          replace hS := hS2
          clear hP1 hD1 hS2 hFc hfc hz1 hk1 hvm ht
          refine de_cut (h := 109) (fun (x : St) => []) (fun x ls H locs => lv_has ls 5 [(4, .int p_22), (0, .ref (a h0))] ∧ va_P (dC, dI) vwCl (Wd cy a sh n x) H ∧ va_D A (Wd cy a sh n x) ∧ va_S A s.heap H locs) (fun x => fn_X16_read_B109 F sh n p_22 (fun z9 q4 => fn_X16_read_L71 F sh n h0 f_24 z9 q4) x) (z8, r8) ?_ (fun B109 => ?_)
          · intro x ls H locs hI hf
            obtain ⟨z_33, ez⟩ : ∃ w, w = x := ⟨_, rfl⟩
            subst ez
            obtain ⟨hl2, hP2, hD2, hS2⟩ := hI
            replace hl : lv_has ls 5 [(4, .int p_22), (0, .ref (a h0))] := hl2
            replace hP := hP2
            replace hD := hD2
            replace hS := hS2
            clear hl2 hP2 hD2 hS2
            replace hf := fn_X16_read_B109_s hf
            refine W.eq (g2 := F0 m 109 ls []) rfl ?_
            refine lv_iinc (v := (p_22 + 1)) (lv' := [(4, .int (p_22 + 1)), (0, .ref (a h0))]) hx hb dX16_read_109 hl (k := 0) rfl rfl (by decide) rfl (fun ls hl2 => ?_)
            replace hl := hl2
            clear hl2
            refine lv_goto (tgt := 71) hx hb dX16_read_112 (by decide) ?_
            exact ih71 (z_33, (p_22 + 1)) ls H locs ⟨lv_sub hl [0, 1] rfl, hP, hD, hS⟩ hf
          refine lv_if_eq (tgt := 109) hx hb dX16_read_93 (by decide) (fun c_34 => ?_) (fun c_34 => ?_)
          · skip
            rw [if_pos c_34] at hf
            exact B109 (z_30) ls H_32 locs ⟨lv_sub hl [0, 1] rfl, hP, hD, hS⟩ hf
          · skip
            rw [if_neg c_34] at hf
            refine lv_aload_n hx hb dX16_read_96 rfl (lv_at hl 1 rfl) ?_
            refine lv_bipush (v := 14) hx hb dX16_read_97 (by decide) ?_
            refine lv_aload_n hx hb dX16_read_99 rfl (lv_at hl 1 rfl) ?_
            obtain ⟨k_35, ek_35, hf⟩ := lnk_some hf
            refine va_get (D := (dC, dI)) (ci := 16) (v := .ref (a k_35)) (C := RX16) (T := TX16) (N := 18) hx hb hts iwd_X16_read_X16 hown hK hP h0 (Wd_ob kg_1 sg_1 (by decide)) rfl 11 (by decide) (hts _ md_X16_read_8) (fun _ h9 => h9) (fl_q rfl ek_35) dX16_read_100 ?_
            refine lv_iload hx hb dX16_read_103 (lv_at hl 0 rfl) ?_
            obtain ⟨g_36, hf⟩ := grd_some hf
            obtain ⟨kg_36, sg_36, ig_36⟩ := okA_at g_36
            refine va_iald hx hb hK hP k_35 1 (Wd_ai kg_36 sg_36) rfl ig_36 dX16_read_105 ?_
            obtain ⟨z_37, _u, hfc, hf⟩ := cal_some hf
            have hFc := de_free hD hS hA
            refine va_callv (va_runV (As := [.int 14, .int (z_30.1 k_35 p_22.toNatClampNeg)]) (rest := []) ⟨hx, hb, hml, hown, hts⟩ (de_X16_fail l dC dI cy a sh n H_32.size F z_30 h0 14 (z_30.1 k_35 p_22.toNatClampNeg) hfc) (cwV 2 hts gX16_read_X16_fail rfl rfl rfl (by decide +kernel) ⟨Nat.le_of_ble_eq_true rfl, Nat.le_of_ble_eq_true rfl⟩) ⟨fun a U g mk q => by obtain ⟨q0, q1, qP, qK, qD, qN⟩ := q; exact ⟨q0, q1, qP, va_K.moved (u := U) (U := U.calling g mk a) (Vm.Alike.refl U.vm) qK, qD, qN.same rfl⟩, va_recv hK hP (ci := 16) (q0 := h0) rfl (Wd_ob kg_1 sg_1 (by decide)), fun U hU hW => ⟨rfl, by rw [hU], by rw [hU]; exact hP, va_K.moved hW.alike hK, hD.weaken (fun _ _ _ _ => trivial), hN.warm hW⟩⟩ rfl rfl hl.1 rfl (lv_room (Nat.le_of_ble_eq_true rfl)) dX16_read_106 ⟨Nat.le_of_ble_eq_true rfl, Nat.le_of_ble_eq_true rfl⟩) hS (fun q _ h => hFc q h) hFc (fun u t H_38 locs ht hvm hw hB hz1 hk1 hS2 => ?_)
            obtain ⟨hP1, -, hD1⟩ := hB
            rw [ht] at hP1
            replace hD := hD1.weaken (fun _ _ _ h => hFc _ h)
            replace hP := hP1
            replace hS := hS2
            clear hP1 hD1 hS2 hFc hfc hz1 hk1 hvm ht
            exact B109 (z_37) ls H_38 locs ⟨lv_sub hl [0, 1] rfl, hP, hD, hS⟩ hf
    refine lv_if_eq (tgt := 68) hx hb dX16_read_61 (by decide) (fun c_39 => ?_) (fun c_39 => ?_)
    · skip
      rw [if_pos c_39] at hf
      exact B68 (z_18) ls H_20 locs ⟨lv_sub hl [1] rfl, hP, hD, hS⟩ hf
    · skip
      rw [if_neg c_39] at hf
      refine lv_aload_n hx hb dX16_read_64 rfl (lv_at hl 1 rfl) ?_
      obtain ⟨z_40, _u, hfc, hf⟩ := cal_some hf
      have hFc := de_free hD hS hA
      refine va_callv (va_runV (As := []) (rest := []) ⟨hx, hb, hml, hown, hts⟩ (de_X16_lookAll l dC dI cy a sh n H_20.size F z_18 h0 hfc) (cwV 0 hts gX16_read_X16_lookAll rfl rfl rfl (by decide +kernel) ⟨Nat.le_of_ble_eq_true rfl, Nat.le_of_ble_eq_true rfl⟩) ⟨fun a U g mk q => by obtain ⟨q0, q1, qP, qK, qD, qN⟩ := q; exact ⟨q0, q1, qP, va_K.moved (u := U) (U := U.calling g mk a) (Vm.Alike.refl U.vm) qK, qD, qN.same rfl⟩, va_recv hK hP (ci := 16) (q0 := h0) rfl (Wd_ob kg_1 sg_1 (by decide)), fun U hU hW => ⟨rfl, by rw [hU], by rw [hU]; exact hP, va_K.moved hW.alike hK, hD.weaken (fun _ _ _ _ => trivial), hN.warm hW⟩⟩ rfl rfl hl.1 rfl (lv_room (Nat.le_of_ble_eq_true rfl)) dX16_read_65 ⟨Nat.le_of_ble_eq_true rfl, Nat.le_of_ble_eq_true rfl⟩) hS (fun q _ h => hFc q h) hFc (fun u t H_41 locs ht hvm hw hB hz1 hk1 hS2 => ?_)
      obtain ⟨hP1, -, hD1⟩ := hB
      rw [ht] at hP1
      replace hD := hD1.weaken (fun _ _ _ h => hFc _ h)
      replace hP := hP1
      replace hS := hS2
      clear hP1 hD1 hS2 hFc hfc hz1 hk1 hvm ht
      exact B68 (z_40) ls H_41 locs ⟨lv_sub hl [1] rfl, hP, hD, hS⟩ hf
  · skip
    rw [if_neg c_7] at hf
    refine lv_aload_n hx hb dX16_read_14 rfl (lv_at hl 1 rfl) ?_
    obtain ⟨k_42, ek_42, hf⟩ := lnk_some hf
    refine va_get (D := (dC, dI)) (ci := 16) (v := .ref (a k_42)) (C := RX16) (T := TX16) (N := 18) hx hb hts iwd_X16_read_X16 hown hK hP h0 (Wd_ob kg_1 sg_1 (by decide)) rfl 0 (by decide) (hts _ md_X16_read_2) (fun _ h9 => h9) (fl_q rfl ek_42) dX16_read_15 ?_
    refine lv_iload hx hb dX16_read_18 (lv_at hl 0 rfl) ?_
    refine lv_aload_n hx hb dX16_read_20 rfl (lv_at hl 2 rfl) ?_
    refine lv_iload_n hx hb dX16_read_21 rfl (lv_at hl 3 rfl) ?_
    refine lv_iload hx hb dX16_read_22 (lv_at hl 0 rfl) ?_
    refine lv_iadd hx hb dX16_read_24 ?_
    obtain ⟨g_43, hf⟩ := grd_some hf
    obtain ⟨kg_43, sg_43, ig_43⟩ := okA_at g_43
    refine va_bald hx hb hK hP x0 0 (Wd_ab kg_43 sg_43) rfl ig_43 dX16_read_25 ?_
    obtain ⟨g_44, hf⟩ := grd_some hf
    obtain ⟨kg_44, sg_44, ig_44⟩ := okA_at g_44
    refine va_bast hx hb hK hP hD hS k_42 0 (Wd_ab kg_44 sg_44) rfl ig_44 dX16_read_26 (fun H_45 locs hP2 hD2 hS2 => ?_)
    rw [Wd_tb sg_44] at hP2 hD2
    obtain ⟨z_46, ez_46⟩ : ∃ w, w = si z_5 k_42 p_4.toNatClampNeg (vp_nar .byte (z_5.1 x0 (x1 + p_4).toNatClampNeg)) := ⟨_, rfl⟩
    rw [← ez_46] at hP2 hD2
    replace hf := lt_at ez_46 hf
    clear ez_46
    replace hP := hP2
    replace hD := hD2
    replace hS := hS2
    clear hP2 hD2 hS2
    refine lv_iinc (v := (p_4 + 1)) (lv' := [(4, .int (p_4 + 1)), (0, .ref (a h0)), (1, .ref (a x0)), (2, .int x1), (3, .int x2)]) hx hb dX16_read_27 hl (k := 0) rfl rfl (by decide) rfl (fun ls hl2 => ?_)
    replace hl := hl2
    clear hl2
    refine lv_goto (tgt := 8) hx hb dX16_read_30 (by decide) ?_
    exact ih8 (z_46, (p_4 + 1)) ls H_45 locs ⟨lv_sub hl [0, 1, 2, 3, 4] rfl, hP, hD, hS⟩ hf

theorem md_X11_execute_1 : (.fieldLink RX11 115 "ResourceLedger" "doneLength" "I" : Cond) ∈ wsX11_execute := List.mem_of_getElem? (i := 1) rfl
theorem iwd_X11_execute_X11 : ∀ w ∈ wsX110, w ∈ wsX11_execute := fun _ h => List.mem_cons_of_mem _ (List.mem_append_left _ (List.mem_append_left _ (List.mem_append_left _ (List.mem_append_left _ (List.mem_append_left _ (List.mem_append_left _ (List.mem_append_left _ (List.mem_append_left _ (List.mem_append_left _ (List.mem_append_left _ (List.mem_append_left _ (List.mem_append_right _ h))))))))))))
theorem md_X11_execute_2 : (.fieldLink RX11 112 "ResourceLedger" "blockLength" "I" : Cond) ∈ wsX11_execute := List.mem_of_getElem? (i := 2) rfl
theorem md_X11_execute_8 : (.fieldLink RX11 43 "ResourceLedger" "tree" "LResourceLedger$Tree;" : Cond) ∈ wsX11_execute := List.mem_of_getElem? (i := 8) rfl
theorem md_X11_execute_9 : (.fieldLink RX11 108 "ResourceLedger$Tree" "stale" "Z" : Cond) ∈ wsX11_execute := List.mem_of_getElem? (i := 9) rfl
theorem iwd_X11_execute_X9 : ∀ w ∈ wsX90, w ∈ wsX11_execute := fun _ h => List.mem_cons_of_mem _ (List.mem_append_left _ (List.mem_append_left _ (List.mem_append_left _ (List.mem_append_left _ (List.mem_append_left _ (List.mem_append_left _ (List.mem_append_left _ (List.mem_append_left _ (List.mem_append_left _ (List.mem_append_right _ h))))))))))
theorem md_X11_execute_3 : (.fieldLink RX11 15 "ResourceLedger" "block" "[LResourceLedger$Transaction;" : Cond) ∈ wsX11_execute := List.mem_of_getElem? (i := 3) rfl
theorem md_X11_execute_4 : (.fieldLink RX11 22 "ResourceLedger" "state" "LResourceLedger$State;" : Cond) ∈ wsX11_execute := List.mem_of_getElem? (i := 4) rfl
theorem md_X11_execute_5 : (.fieldLink RX11 131 "ResourceLedger$Transaction" "calls" "Z" : Cond) ∈ wsX11_execute := List.mem_of_getElem? (i := 5) rfl
theorem iwd_X11_execute_X8 : ∀ w ∈ wsX80, w ∈ wsX11_execute := fun _ h => List.mem_cons_of_mem _ (List.mem_append_left _ (List.mem_append_left _ (List.mem_append_left _ (List.mem_append_left _ (List.mem_append_left _ (List.mem_append_left _ (List.mem_append_left _ (List.mem_append_left _ (List.mem_append_left _ (List.mem_append_left _ (List.mem_append_right _ h)))))))))))
theorem md_X11_execute_7 : (.fieldLink RX11 174 "ResourceLedger$Transaction" "outcome" "I" : Cond) ∈ wsX11_execute := List.mem_of_getElem? (i := 7) rfl
theorem md_X11_execute_6 : (.fieldLink RX11 55 "ResourceLedger" "machine" "LResourceLedger$Machine;" : Cond) ∈ wsX11_execute := List.mem_of_getElem? (i := 6) rfl
set_option maxHeartbeats 4000000 in
set_option maxRecDepth 100000 in
theorem de_X11_execute (l : Launch) (dC : Nat → ClassId) (dI : Nat → Nat → Nat) (cy : Nat → ClassId) (a : Nat → Nat) (sh : Nat → Nat × Nat) (n sz : Nat) (F : Nat) (sk : Nat → Nat) (z : St) (h0 : Nat) {z8 : St} {r8 : Int32} (hf : fn_X11_execute F sh n z h0 = some (z8, r8)) : Met l yX11_execute wsX11_execute ({ frames := 55, cells := 0, slots := 0, locals := 1523 }) (va_Pc [.ref (a h0)] (fun U => U.heap.size = sz ∧ va_P (dC, dI) vwCl (Wd cy a sh n z) U.heap ∧ va_K (dC, dI) vwCl (TYS cy) U ∧ va_D (fun _ => True) (Wd cy a sh n z) ∧ NK U ∧ SKs sk (a CBK) (va_A (Wd cy a sh n z) sz) U U.heap)) (va_Qi (fun (r9 : Int32) (u : Unit) => r9 = r8) (fun u t => va_P (dC, dI) vwCl (Wd cy a sh n z8) t.heap ∧ va_K (dC, dI) vwCl (TYS cy) t ∧ va_D (va_A (Wd cy a sh n z) sz) (Wd cy a sh n z8)) (va_A (Wd cy a sh n z) sz)) 0 0 (va_A (Wd cy a sh n z) sz) := by
  refine Met.ofW (cc := cX11_execute) (maxL := 5) (ret := (some .int)) (by decide) rfl ?_
  intro p e s m args below meth c s₁ B hml hv
  obtain ⟨rfl, hsz, hP, hK, hD0, hN, hSK⟩ := hv
  have hx := B.exec
  have hb := B.bytes
  have hr := B.returns
  have hts := atoms_spec (ws := wsX11_execute) B.pre
  have hown : s.vm.findClass RX11 = some m.cls := findClass_of_methodNamed B.named
  have hlocks := B.notSynchronized
  subst hsz
  have hD := hD0.self (sz := s.heap.size)
  clear hD0
  generalize hAe : va_A (Wd cy a sh n z) s.heap.size = A at hD hSK ⊢
  have hA : ∀ q : Nat, s.heap.size ≤ q → A q := fun q h => by rw [← hAe]; exact Or.inr h
  clear hAe
  have hS : va_S A s.heap s.heap [] := va_S.rf
  have hl := lv_entry ([.ref (a h0)]) (n := 5) (Nat.le_of_ble_eq_true rfl)
  rw [lg_entry_eq]
  generalize (lg_sl ([.ref (a h0)]) ++ List.replicate (5 - (lg_sl ([.ref (a h0)])).length) Slot.unset).toArray = ls at hl ⊢
  replace hl : lv_has ls 5 [(0, .ref (a h0))] := hl
  unfold fn_X11_execute at hf
  refine de_start hS hP (fun H locs hS hP => ?_)
  refine lv_aload_n hx hb dX11_execute_0 rfl (lv_at hl 0 rfl) ?_
  obtain ⟨g_1, hf⟩ := grd_some hf
  obtain ⟨kg_1, sg_1⟩ := okO_at g_1
  refine va_get (D := (dC, dI)) (ci := 11) (v := .int (z.1 h0 5)) (C := RX11) (T := TX11) (N := 13) hx hb hts iwd_X11_execute_X11 hown hK hP h0 (Wd_ob kg_1 sg_1 (by decide)) rfl 5 (by decide) (hts _ md_X11_execute_1) (fun _ h9 => h9) (fl_at (t := 0) rfl) dX11_execute_1 ?_
  refine lv_aload_n hx hb dX11_execute_4 rfl (lv_at hl 0 rfl) ?_
  refine va_get (D := (dC, dI)) (ci := 11) (v := .int (z.1 h0 4)) (C := RX11) (T := TX11) (N := 13) hx hb hts iwd_X11_execute_X11 hown hK hP h0 (Wd_ob kg_1 sg_1 (by decide)) rfl 4 (by decide) (hts _ md_X11_execute_2) (fun _ h9 => h9) (fl_at (t := 0) rfl) dX11_execute_5 ?_
  refine lv_icmp_lt (tgt := 14) hx hb dX11_execute_8 (by decide) (fun c_2 => ?_) (fun c_2 => ?_)
  · skip
    rw [if_pos c_2] at hf
    refine lv_iconst (v := 0) hx hb dX11_execute_14 (by decide) ?_
    refine lv_istore_n (lv' := [(1, .int 0), (0, .ref (a h0))]) hx hb dX11_execute_15 rfl hl (by decide) rfl (fun ls hl2 => ?_)
    replace hl := hl2
    clear hl2
    refine lv_aload_n hx hb dX11_execute_16 rfl (lv_at hl 1 rfl) ?_
    refine va_get (D := (dC, dI)) (ci := 11) (v := .int (z.1 h0 5)) (C := RX11) (T := TX11) (N := 13) hx hb hts iwd_X11_execute_X11 hown hK hP h0 (Wd_ob kg_1 sg_1 (by decide)) rfl 5 (by decide) (hts _ md_X11_execute_1) (fun _ h9 => h9) (fl_at (t := 0) rfl) dX11_execute_17 ?_
    refine lv_topi (fun v_3 ev_3 => ?_)
    replace hf := lt_at ev_3 hf
    clear ev_3
    refine lv_istore_n (lv' := [(2, .int v_3), (1, .int 0), (0, .ref (a h0))]) hx hb dX11_execute_20 rfl hl (by decide) rfl (fun ls hl2 => ?_)
    replace hl := hl2
    clear hl2
    have hl0 : lv_has ls 5 [(2, .int v_3), (1, .int 0), (0, .ref (a h0))] := lv_sub hl [0, 1, 2] rfl
    refine de_loop (h := 21) (fun (x : St × Int32 × Int32) ls H locs => lv_has ls 5 [(2, .int x.2.2), (1, .int x.2.1), (0, .ref (a h0))] ∧ va_P (dC, dI) vwCl (Wd cy a sh n x.1) H ∧ va_D A (Wd cy a sh n x.1) ∧ va_S A s.heap H locs) (fun f x => fn_X11_execute_L21 F sh n h0 f x.1 x.2.1 x.2.2) (z8, r8) ?_ (fun _ => rfl) F (z, 0, v_3) ls H locs ⟨hl0, hP, hD, hS⟩ hf
    intro f_7 x ls H locs ih21 hI hf
    obtain ⟨z_6, p_4, p_5⟩ := x
    obtain ⟨hl2, hP2, hD2, hS2⟩ := hI
    replace hl : lv_has ls 5 [(2, .int p_5), (1, .int p_4), (0, .ref (a h0))] := hl2
    replace hP := hP2
    replace hD := hD2
    replace hS := hS2
    clear hl2 hP2 hD2 hS2 hl0
    replace hf := fn_X11_execute_L21_s hf
    refine lv_iload_n hx hb dX11_execute_21 rfl (lv_at hl 0 rfl) ?_
    refine lv_aload_n hx hb dX11_execute_22 rfl (lv_at hl 2 rfl) ?_
    refine va_get (D := (dC, dI)) (ci := 11) (v := .int (z_6.1 h0 4)) (C := RX11) (T := TX11) (N := 13) hx hb hts iwd_X11_execute_X11 hown hK hP h0 (Wd_ob kg_1 sg_1 (by decide)) rfl 4 (by decide) (hts _ md_X11_execute_2) (fun _ h9 => h9) (fl_at (t := 0) rfl) dX11_execute_23 ?_
    refine lv_icmp_ge (tgt := 115) hx hb dX11_execute_26 (by decide) (fun c_8 => ?_) (fun c_8 => ?_)
    · skip
      rw [if_pos c_8] at hf
      refine lv_aload_n hx hb dX11_execute_115 rfl (lv_at hl 2 rfl) ?_
      refine lv_aload_n hx hb dX11_execute_116 rfl (lv_at hl 2 rfl) ?_
      refine va_get (D := (dC, dI)) (ci := 11) (v := .int (z_6.1 h0 4)) (C := RX11) (T := TX11) (N := 13) hx hb hts iwd_X11_execute_X11 hown hK hP h0 (Wd_ob kg_1 sg_1 (by decide)) rfl 4 (by decide) (hts _ md_X11_execute_2) (fun _ h9 => h9) (fl_at (t := 0) rfl) dX11_execute_117 ?_
      refine va_put (D := (dC, dI)) (ci := 11) (v := .int (z_6.1 h0 4)) (ty := .int) (C := RX11) (T := TX11) (N := 13) hx hb hts iwd_X11_execute_X11 tyX11 tyX11_ok nmX11 hown hK hP hD hS h0 (Wd_ob kg_1 sg_1 (by decide)) rfl 5 (by decide) (hts _ md_X11_execute_1) (fun _ h9 => h9) rfl (by decide +kernel) rfl rfl (by rw [fl_len]; decide) dX11_execute_120 (fun H_9 locs hP2 hD2 hS2 => ?_)
      rw [Wd_si sg_1 (by decide) rfl] at hP2 hD2
      obtain ⟨z_10, ez_10⟩ : ∃ w, w = si z_6 h0 5 (z_6.1 h0 4) := ⟨_, rfl⟩
      rw [← ez_10] at hP2 hD2
      replace hf := lt_at ez_10 hf
      clear ez_10
      replace hP := hP2
      replace hD := hD2
      replace hS := hS2
      clear hP2 hD2 hS2
      refine lv_aload_n hx hb dX11_execute_123 rfl (lv_at hl 2 rfl) ?_
      obtain ⟨k_11, ek_11, hf⟩ := lnk_some hf
      refine va_get (D := (dC, dI)) (ci := 11) (v := .ref (a k_11)) (C := RX11) (T := TX11) (N := 13) hx hb hts iwd_X11_execute_X11 hown hK hP h0 (Wd_ob kg_1 sg_1 (by decide)) rfl 10 (by decide) (hts _ md_X11_execute_8) (fun _ h9 => h9) (fl_q rfl ek_11) dX11_execute_124 ?_
      refine lv_iconst (v := 1) hx hb dX11_execute_127 (by decide) ?_
      obtain ⟨g_12, hf⟩ := grd_some hf
      obtain ⟨kg_12, sg_12⟩ := okO_at g_12
      refine va_put (D := (dC, dI)) (ci := 9) (v := .int 1) (ty := .boolean) (C := RX9) (T := TX9) (N := 13) hx hb hts iwd_X11_execute_X9 tyX9 tyX9_ok nmX9 hown hK hP hD hS k_11 (Wd_ob kg_12 sg_12 (by decide)) rfl 1 (by decide) (hts _ md_X11_execute_9) (fun _ h9 => h9) rfl (by decide +kernel) rfl rfl (by rw [fl_len]; decide) dX11_execute_128 (fun H_13 locs hP2 hD2 hS2 => ?_)
      rw [Wd_si sg_12 (by decide) rfl] at hP2 hD2
      obtain ⟨z_14, ez_14⟩ : ∃ w, w = si z_10 k_11 1 1 := ⟨_, rfl⟩
      rw [← ez_14] at hP2 hD2
      replace hf := lt_at ez_14 hf
      clear ez_14
      replace hP := hP2
      replace hD := hD2
      replace hS := hS2
      clear hP2 hD2 hS2
      refine lv_iload_n hx hb dX11_execute_131 rfl (lv_at hl 1 rfl) ?_
      obtain ⟨h8, h9⟩ := ret_some hf
      rw [h8, h9]
      exact W.iret (v := p_4) hx hb hr (fun t ht hW => ⟨⟨p_4, (), rfl, rfl, by rw [ht]; exact hP, va_K.moved hW.alike hK, hD⟩, hS.F ht⟩) hS.2.2 dX11_execute_132
    · skip
      rw [if_neg c_8] at hf
      refine lv_aload_n hx hb dX11_execute_29 rfl (lv_at hl 2 rfl) ?_
      obtain ⟨k_15, ek_15, hf⟩ := lnk_some hf
      refine va_get (D := (dC, dI)) (ci := 11) (v := .ref (a k_15)) (C := RX11) (T := TX11) (N := 13) hx hb hts iwd_X11_execute_X11 hown hK hP h0 (Wd_ob kg_1 sg_1 (by decide)) rfl 3 (by decide) (hts _ md_X11_execute_3) (fun _ h9 => h9) (fl_q rfl ek_15) dX11_execute_30 ?_
      refine lv_iload_n hx hb dX11_execute_33 rfl (lv_at hl 0 rfl) ?_
      obtain ⟨g_16, hf⟩ := grd_some hf
      obtain ⟨kg_16, sg_16, ig_16⟩ := okA_at g_16
      obtain ⟨k_17, ek_17, hf⟩ := lnk_some hf
      refine va_aldq (C := RX8) hx hb hK hP k_15 5 (Wd_aq kg_16 sg_16 (by decide)) rfl ig_16 dX11_execute_34 ?_
      refine W.eq (g2 := F0 m 35 ls [.ref (a k_17)]) (by rw [ek_17]; rfl) ?_
      refine lv_astore_n (lv' := [(3, .ref (a k_17)), (2, .int p_5), (1, .int p_4), (0, .ref (a h0))]) hx hb dX11_execute_35 rfl hl (by decide) rfl (fun ls hl2 => ?_)
      replace hl := hl2
      clear hl2
      refine lv_aload_n hx hb dX11_execute_36 rfl (lv_at hl 3 rfl) ?_
      refine lv_aload_n hx hb dX11_execute_37 rfl (lv_at hl 0 rfl) ?_
      obtain ⟨z_18, r_19, hfc, hf⟩ := cal_some hf
      have hFc := de_free hD hS hA
      refine va_calli (va_runV (As := [.ref (a k_17)]) (rest := []) ⟨hx, hb, hml, hown, hts⟩ (de_X11_refusalOf l dC dI cy a sh n H.size F z_6 h0 k_17 hfc) (cwV 1 hts gX11_execute_X11_refusalOf rfl rfl rfl (by decide +kernel) ⟨Nat.le_of_ble_eq_true rfl, Nat.le_of_ble_eq_true rfl⟩) ⟨fun a U g mk q => by obtain ⟨q0, q1, qP, qK, qD, qN⟩ := q; exact ⟨q0, q1, qP, va_K.moved (u := U) (U := U.calling g mk a) (Vm.Alike.refl U.vm) qK, qD, qN.same rfl⟩, va_recv hK hP (ci := 11) (q0 := h0) rfl (Wd_ob kg_1 sg_1 (by decide)), fun U hU hW => ⟨rfl, by rw [hU], by rw [hU]; exact hP, va_K.moved hW.alike hK, hD.weaken (fun _ _ _ _ => trivial), hN.warm hW⟩⟩ rfl rfl hl.1 rfl (lv_room (Nat.le_of_ble_eq_true rfl)) dX11_execute_38 ⟨Nat.le_of_ble_eq_true rfl, Nat.le_of_ble_eq_true rfl⟩) hS (fun q _ h => hFc q h) hFc (fun rr u t H_20 locs ht hvm hw hB hz1 hk1 hS2 => ?_)
      rw [hw]
      clear hw
      obtain ⟨hP1, -, hD1⟩ := hB
      rw [ht] at hP1
      replace hD := hD1.weaken (fun _ _ _ h => hFc _ h)
      replace hP := hP1
      replace hS := hS2
      clear hP1 hD1 hS2 hFc hfc hz1 hk1 hvm ht
      refine lv_istore (lv' := [(4, .int r_19), (3, .ref (a k_17)), (2, .int p_5), (1, .int p_4), (0, .ref (a h0))]) hx hb dX11_execute_41 hl (by decide) rfl (fun ls hl2 => ?_)
      replace hl := hl2
      clear hl2
      refine lv_iload hx hb dX11_execute_43 (lv_at hl 0 rfl) ?_
      refine de_cut (h := 109) (fun (x : St × Int32) => []) (fun x ls H locs => lv_has ls 5 [(1, .int x.2), (2, .int p_5), (0, .ref (a h0))] ∧ va_P (dC, dI) vwCl (Wd cy a sh n x.1) H ∧ va_D A (Wd cy a sh n x.1) ∧ va_S A s.heap H locs) (fun x => fn_X11_execute_B109 F sh n p_5 (fun z9 q1 q2 => fn_X11_execute_L21 F sh n h0 f_7 z9 q1 q2) x.1 x.2) (z8, r8) ?_ (fun B109 => ?_)
      · intro x ls H locs hI hf
        obtain ⟨z_22, p_21⟩ := x
        obtain ⟨hl2, hP2, hD2, hS2⟩ := hI
        replace hl : lv_has ls 5 [(1, .int p_21), (2, .int p_5), (0, .ref (a h0))] := hl2
        replace hP := hP2
        replace hD := hD2
        replace hS := hS2
        clear hl2 hP2 hD2 hS2
        replace hf := fn_X11_execute_B109_s hf
        refine W.eq (g2 := F0 m 109 ls []) rfl ?_
        refine lv_iinc (v := (p_5 + 1)) (lv' := [(2, .int (p_5 + 1)), (1, .int p_21), (0, .ref (a h0))]) hx hb dX11_execute_109 hl (k := 1) rfl rfl (by decide) rfl (fun ls hl2 => ?_)
        replace hl := hl2
        clear hl2
        refine lv_goto (tgt := 21) hx hb dX11_execute_112 (by decide) ?_
        exact ih21 (z_22, p_21, (p_5 + 1)) ls H locs ⟨lv_sub hl [0, 1, 2] rfl, hP, hD, hS⟩ hf
      refine lv_if_eq (tgt := 60) hx hb dX11_execute_45 (by decide) (fun c_23 => ?_) (fun c_23 => ?_)
      · skip
        rw [if_pos c_23] at hf
        refine lv_aload_n hx hb dX11_execute_60 rfl (lv_at hl 4 rfl) ?_
        obtain ⟨k_24, ek_24, hf⟩ := lnk_some hf
        refine va_get (D := (dC, dI)) (ci := 11) (v := .ref (a k_24)) (C := RX11) (T := TX11) (N := 13) hx hb hts iwd_X11_execute_X11 hown hK hP h0 (Wd_ob kg_1 sg_1 (by decide)) rfl 6 (by decide) (hts _ md_X11_execute_4) (fun _ h9 => h9) (fl_q rfl ek_24) dX11_execute_61 ?_
        refine lv_aload_n hx hb dX11_execute_64 rfl (lv_at hl 1 rfl) ?_
        obtain ⟨g_26, hf⟩ := grd_some hf
        obtain ⟨kg_26, sg_26⟩ := okO_at g_26
        obtain ⟨z_25, _u, hfc, hf⟩ := cal_some hf
        have hFc := de_free hD hS hA
        refine va_callv (va_runV (As := [.ref (a k_17)]) (rest := []) ⟨hx, hb, hml, hown, hts⟩ (de_X7_charge l dC dI cy a sh n H_20.size F z_18 k_24 k_17 hfc) (cwV 1 hts gX11_execute_X7_charge rfl rfl rfl (by decide +kernel) ⟨Nat.le_of_ble_eq_true rfl, Nat.le_of_ble_eq_true rfl⟩) ⟨fun a U g mk q => by obtain ⟨q0, q1, qP, qK, qD, qN⟩ := q; exact ⟨q0, q1, qP, va_K.moved (u := U) (U := U.calling g mk a) (Vm.Alike.refl U.vm) qK, qD, qN.same rfl⟩, va_recv hK hP (ci := 7) (q0 := k_24) rfl (Wd_ob kg_26 sg_26 (by decide)), fun U hU hW => ⟨rfl, by rw [hU], by rw [hU]; exact hP, va_K.moved hW.alike hK, hD.weaken (fun _ _ _ _ => trivial), hN.warm hW⟩⟩ rfl rfl hl.1 rfl (lv_room (Nat.le_of_ble_eq_true rfl)) dX11_execute_65 ⟨Nat.le_of_ble_eq_true rfl, Nat.le_of_ble_eq_true rfl⟩) hS (fun q _ h => hFc q h) hFc (fun u t H_27 locs ht hvm hw hB hz1 hk1 hS2 => ?_)
        obtain ⟨hP1, -, hD1⟩ := hB
        rw [ht] at hP1
        replace hD := hD1.weaken (fun _ _ _ h => hFc _ h)
        replace hP := hP1
        replace hS := hS2
        clear hP1 hD1 hS2 hFc hfc hz1 hk1 hvm ht
        refine lv_aload_n hx hb dX11_execute_68 rfl (lv_at hl 1 rfl) ?_
        obtain ⟨g_28, hf⟩ := grd_some hf
        obtain ⟨kg_28, sg_28⟩ := okO_at g_28
        refine va_get (D := (dC, dI)) (ci := 8) (v := .int (z_25.1 k_17 0)) (C := RX8) (T := TX8) (N := 19) hx hb hts iwd_X11_execute_X8 hown hK hP k_17 (Wd_ob kg_28 sg_28 (by decide)) rfl 0 (by decide) (hts _ md_X11_execute_5) (fun _ h9 => h9) (fl_at (t := 0) rfl) dX11_execute_69 ?_
        refine de_cut (h := 91) (fun (x : St) => []) (fun x ls H locs => lv_has ls 5 [(3, .ref (a k_17)), (2, .int p_5), (1, .int p_4), (0, .ref (a h0))] ∧ va_P (dC, dI) vwCl (Wd cy a sh n x) H ∧ va_D A (Wd cy a sh n x) ∧ va_S A s.heap H locs) (fun x => fn_X11_execute_B91 F sh n h0 k_17 p_5 p_4 (fun z9 q1 q2 => fn_X11_execute_L21 F sh n h0 f_7 z9 q1 q2) x) (z8, r8) ?_ (fun B91 => ?_)
        · intro x ls H locs hI hf
          obtain ⟨z_29, ez⟩ : ∃ w, w = x := ⟨_, rfl⟩
          subst ez
          obtain ⟨hl2, hP2, hD2, hS2⟩ := hI
          replace hl : lv_has ls 5 [(3, .ref (a k_17)), (2, .int p_5), (1, .int p_4), (0, .ref (a h0))] := hl2
          replace hP := hP2
          replace hD := hD2
          replace hS := hS2
          clear hl2 hP2 hD2 hS2
          replace hf := fn_X11_execute_B91_s hf
          refine W.eq (g2 := F0 m 91 ls []) rfl ?_
          refine lv_aload_n hx hb dX11_execute_91 rfl (lv_at hl 3 rfl) ?_
          obtain ⟨k_30, ek_30, hf⟩ := lnk_some hf
          refine va_get (D := (dC, dI)) (ci := 11) (v := .ref (a k_30)) (C := RX11) (T := TX11) (N := 13) hx hb hts iwd_X11_execute_X11 hown hK hP h0 (Wd_ob kg_1 sg_1 (by decide)) rfl 6 (by decide) (hts _ md_X11_execute_4) (fun _ h9 => h9) (fl_q rfl ek_30) dX11_execute_92 ?_
          refine lv_aload_n hx hb dX11_execute_95 rfl (lv_at hl 0 rfl) ?_
          obtain ⟨g_32, hf⟩ := grd_some hf
          obtain ⟨kg_32, sg_32⟩ := okO_at g_32
          obtain ⟨z_31, _u, hfc, hf⟩ := cal_some hf
          have hFc := de_free hD hS hA
          refine va_callv (va_runV (As := [.ref (a k_17)]) (rest := []) ⟨hx, hb, hml, hown, hts⟩ (de_X7_settle l dC dI cy a sh n H.size F z_29 k_30 k_17 hfc) (cwV 1 hts gX11_execute_X7_settle rfl rfl rfl (by decide +kernel) ⟨Nat.le_of_ble_eq_true rfl, Nat.le_of_ble_eq_true rfl⟩) ⟨fun a U g mk q => by obtain ⟨q0, q1, qP, qK, qD, qN⟩ := q; exact ⟨q0, q1, qP, va_K.moved (u := U) (U := U.calling g mk a) (Vm.Alike.refl U.vm) qK, qD, qN.same rfl⟩, va_recv hK hP (ci := 7) (q0 := k_30) rfl (Wd_ob kg_32 sg_32 (by decide)), fun U hU hW => ⟨rfl, by rw [hU], by rw [hU]; exact hP, va_K.moved hW.alike hK, hD.weaken (fun _ _ _ _ => trivial), hN.warm hW⟩⟩ rfl rfl hl.1 rfl (lv_room (Nat.le_of_ble_eq_true rfl)) dX11_execute_96 ⟨Nat.le_of_ble_eq_true rfl, Nat.le_of_ble_eq_true rfl⟩) hS (fun q _ h => hFc q h) hFc (fun u t H_33 locs ht hvm hw hB hz1 hk1 hS2 => ?_)
          obtain ⟨hP1, -, hD1⟩ := hB
          rw [ht] at hP1
          replace hD := hD1.weaken (fun _ _ _ h => hFc _ h)
          replace hP := hP1
          replace hS := hS2
          clear hP1 hD1 hS2 hFc hfc hz1 hk1 hvm ht
          refine lv_aload_n hx hb dX11_execute_99 rfl (lv_at hl 0 rfl) ?_
          refine va_get (D := (dC, dI)) (ci := 8) (v := .int (z_31.1 k_17 11)) (C := RX8) (T := TX8) (N := 19) hx hb hts iwd_X11_execute_X8 hown hK hP k_17 (Wd_ob kg_28 sg_28 (by decide)) rfl 11 (by decide) (hts _ md_X11_execute_7) (fun _ h9 => h9) (fl_at (t := 0) rfl) dX11_execute_100 ?_
          refine lv_if_ne (tgt := 109) hx hb dX11_execute_103 (by decide) (fun c_34 => ?_) (fun c_34 => ?_)
          · skip
            rw [if_neg c_34] at hf
            exact B109 (z_31, p_4) ls H_33 locs ⟨lv_sub hl [2, 1, 3] rfl, hP, hD, hS⟩ hf
          · skip
            rw [if_pos c_34] at hf
            refine lv_iinc (v := (p_4 + 1)) (lv' := [(1, .int (p_4 + 1)), (3, .ref (a k_17)), (2, .int p_5), (0, .ref (a h0))]) hx hb dX11_execute_106 hl (k := 2) rfl rfl (by decide) rfl (fun ls hl2 => ?_)
            replace hl := hl2
            clear hl2
            exact B109 (z_31, (p_4 + 1)) ls H_33 locs ⟨lv_sub hl [0, 2, 3] rfl, hP, hD, hS⟩ hf
        refine lv_if_eq (tgt := 86) hx hb dX11_execute_72 (by decide) (fun c_35 => ?_) (fun c_35 => ?_)
        · skip
          rw [if_pos c_35] at hf
          refine lv_aload_n hx hb dX11_execute_86 rfl (lv_at hl 4 rfl) ?_
          refine lv_aload_n hx hb dX11_execute_87 rfl (lv_at hl 1 rfl) ?_
          obtain ⟨z_36, _u, hfc, hf⟩ := cal_some hf
          have hFc := de_free hD hS hA
          refine va_callv (va_runV (As := [.ref (a k_17)]) (rest := []) ⟨hx, hb, hml, hown, hts⟩ (de_X11_takeModule l dC dI cy a sh n H_27.size F sk z_25 h0 k_17 hfc) (cwV 1 hts gX11_execute_X11_takeModule rfl rfl rfl (by decide +kernel) ⟨Nat.le_of_ble_eq_true rfl, Nat.le_of_ble_eq_true rfl⟩) ⟨fun a U g mk q => by obtain ⟨q0, q1, qP, qK, qD, qN, qS⟩ := q; exact ⟨q0, q1, qP, va_K.moved (u := U) (U := U.calling g mk a) (Vm.Alike.refl U.vm) qK, qD, qN.same rfl, SKs.moved (u := U) (U := U.calling g mk a) (Vm.Alike.refl U.vm) qS⟩, va_recv hK hP (ci := 11) (q0 := h0) rfl (Wd_ob kg_1 sg_1 (by decide)), fun U hU hW => ⟨rfl, by rw [hU], by rw [hU]; exact hP, va_K.moved hW.alike hK, hD.weaken (fun _ _ _ _ => trivial), hN.warm hW, by rw [hU]; exact ((hSK.kept hS.2.1).narrow hFc).moved hW.alike⟩⟩ rfl rfl hl.1 rfl (lv_room (Nat.le_of_ble_eq_true rfl)) dX11_execute_88 ⟨Nat.le_of_ble_eq_true rfl, Nat.le_of_ble_eq_true rfl⟩) hS (fun q _ h => hFc q h) hFc (fun u t H_37 locs ht hvm hw hB hz1 hk1 hS2 => ?_)
          obtain ⟨hP1, -, hD1⟩ := hB
          rw [ht] at hP1
          replace hD := hD1.weaken (fun _ _ _ h => hFc _ h)
          replace hP := hP1
          replace hS := hS2
          clear hP1 hD1 hS2 hFc hfc hz1 hk1 hvm ht
          exact B91 (z_36) ls H_37 locs ⟨lv_sub hl [1, 2, 3, 4] rfl, hP, hD, hS⟩ hf
        · skip
          rw [if_neg c_35] at hf
          refine lv_aload_n hx hb dX11_execute_75 rfl (lv_at hl 4 rfl) ?_
          obtain ⟨k_38, ek_38, hf⟩ := lnk_some hf
          refine va_get (D := (dC, dI)) (ci := 11) (v := .ref (a k_38)) (C := RX11) (T := TX11) (N := 13) hx hb hts iwd_X11_execute_X11 hown hK hP h0 (Wd_ob kg_1 sg_1 (by decide)) rfl 9 (by decide) (hts _ md_X11_execute_6) (fun _ h9 => h9) (fl_q rfl ek_38) dX11_execute_76 ?_
          refine lv_aload_n hx hb dX11_execute_79 rfl (lv_at hl 1 rfl) ?_
          obtain ⟨g_40, hf⟩ := grd_some hf
          obtain ⟨kg_40, sg_40⟩ := okO_at g_40
          obtain ⟨z_39, _u, hfc, hf⟩ := cal_some hf
          have hFc := de_free hD hS hA
          refine va_callv (va_runV (As := [.ref (a k_17)]) (rest := []) ⟨hx, hb, hml, hown, hts⟩ (de_X4_run l dC dI cy a sh n H_27.size F sk z_25 k_38 k_17 hfc) (cwV 1 hts gX11_execute_X4_run rfl rfl rfl (by decide +kernel) ⟨Nat.le_of_ble_eq_true rfl, Nat.le_of_ble_eq_true rfl⟩) ⟨fun a U g mk q => by obtain ⟨q0, q1, qP, qK, qD, qN, qS⟩ := q; exact ⟨q0, q1, qP, va_K.moved (u := U) (U := U.calling g mk a) (Vm.Alike.refl U.vm) qK, qD, qN.same rfl, SKs.moved (u := U) (U := U.calling g mk a) (Vm.Alike.refl U.vm) qS⟩, va_recv hK hP (ci := 4) (q0 := k_38) rfl (Wd_ob kg_40 sg_40 (by decide)), fun U hU hW => ⟨rfl, by rw [hU], by rw [hU]; exact hP, va_K.moved hW.alike hK, hD.weaken (fun _ _ _ _ => trivial), hN.warm hW, by rw [hU]; exact ((hSK.kept hS.2.1).narrow hFc).moved hW.alike⟩⟩ rfl rfl hl.1 rfl (lv_room (Nat.le_of_ble_eq_true rfl)) dX11_execute_80 ⟨Nat.le_of_ble_eq_true rfl, Nat.le_of_ble_eq_true rfl⟩) hS (fun q _ h => hFc q h) hFc (fun u t H_41 locs ht hvm hw hB hz1 hk1 hS2 => ?_)
          obtain ⟨hP1, -, hD1⟩ := hB
          rw [ht] at hP1
          replace hD := hD1.weaken (fun _ _ _ h => hFc _ h)
          replace hP := hP1
          replace hS := hS2
          clear hP1 hD1 hS2 hFc hfc hz1 hk1 hvm ht
          refine lv_goto (tgt := 91) hx hb dX11_execute_83 (by decide) ?_
          exact B91 (z_39) ls H_41 locs ⟨lv_sub hl [1, 2, 3, 4] rfl, hP, hD, hS⟩ hf
      · skip
        rw [if_neg c_23] at hf
        refine lv_aload_n hx hb dX11_execute_48 rfl (lv_at hl 1 rfl) ?_
        refine lv_iconst (v := 3) hx hb dX11_execute_49 (by decide) ?_
        refine lv_iload hx hb dX11_execute_50 (lv_at hl 0 rfl) ?_
        refine lv_i2l (v := (r_19 : Int32).toInt64) hx hb dX11_execute_52 rfl ?_
        refine lv_iconst (v := 0) hx hb dX11_execute_53 (by decide) ?_
        obtain ⟨g_43, hf⟩ := grd_some hf
        obtain ⟨kg_43, sg_43⟩ := okO_at g_43
        obtain ⟨z_42, _u, hfc, hf⟩ := cal_some hf
        have hFc := de_free hD hS hA
        refine va_callv (va_runV (As := [.int 3, .long ((r_19 : Int32).toInt64), .int 0]) (rest := []) ⟨hx, hb, hml, hown, hts⟩ (de_X8_end l dC dI cy a sh n H_20.size F z_18 k_17 3 ((r_19 : Int32).toInt64) 0 hfc) (cwV 3 hts gX11_execute_X8_end rfl rfl rfl (by decide +kernel) ⟨Nat.le_of_ble_eq_true rfl, Nat.le_of_ble_eq_true rfl⟩) ⟨fun a U g mk q => by obtain ⟨q0, q1, qP, qK, qD, qN⟩ := q; exact ⟨q0, q1, qP, va_K.moved (u := U) (U := U.calling g mk a) (Vm.Alike.refl U.vm) qK, qD, qN.same rfl⟩, va_recv hK hP (ci := 8) (q0 := k_17) rfl (Wd_ob kg_43 sg_43 (by decide)), fun U hU hW => ⟨rfl, by rw [hU], by rw [hU]; exact hP, va_K.moved hW.alike hK, hD.weaken (fun _ _ _ _ => trivial), hN.warm hW⟩⟩ rfl rfl hl.1 rfl (lv_room (Nat.le_of_ble_eq_true rfl)) dX11_execute_54 ⟨Nat.le_of_ble_eq_true rfl, Nat.le_of_ble_eq_true rfl⟩) hS (fun q _ h => hFc q h) hFc (fun u t H_44 locs ht hvm hw hB hz1 hk1 hS2 => ?_)
        obtain ⟨hP1, -, hD1⟩ := hB
        rw [ht] at hP1
        replace hD := hD1.weaken (fun _ _ _ h => hFc _ h)
        replace hP := hP1
        replace hS := hS2
        clear hP1 hD1 hS2 hFc hfc hz1 hk1 hvm ht
        refine lv_goto (tgt := 109) hx hb dX11_execute_57 (by decide) ?_
        exact B109 (z_42, p_4) ls H_44 locs ⟨lv_sub hl [3, 2, 4] rfl, hP, hD, hS⟩ hf
  · skip
    rw [if_neg c_2] at hf
    refine lv_bipush (v := (-2)) hx hb dX11_execute_11 (by decide) ?_
    obtain ⟨h8, h9⟩ := ret_some hf
    rw [h8, h9]
    exact W.iret (v := (-2)) hx hb hr (fun t ht hW => ⟨⟨(-2), (), rfl, rfl, by rw [ht]; exact hP, va_K.moved hW.alike hK, hD⟩, hS.F ht⟩) hS.2.2 dX11_execute_13

theorem md_X13_operate_5 : (.constantLong RX13 185 (5) : Cond) ∈ wsX13_operate := List.mem_of_getElem? (i := 5) rfl
theorem md_X13_operate_4 : (.constantLong RX13 126 (3) : Cond) ∈ wsX13_operate := List.mem_of_getElem? (i := 4) rfl
theorem md_X13_operate_3 : (.fieldLink RX13 92 "ResourceLedgerModel$Looker" "height" "I" : Cond) ∈ wsX13_operate := List.mem_of_getElem? (i := 3) rfl
theorem iwd_X13_operate_X13 : ∀ w ∈ wsX130, w ∈ wsX13_operate := fun _ h => List.mem_cons_of_mem _ (List.mem_append_left _ (List.mem_append_right _ h))
theorem md_X13_operate_1 : (.fieldLink RX13 48 "ResourceLedgerModel$Looker" "fault" "I" : Cond) ∈ wsX13_operate := List.mem_of_getElem? (i := 1) rfl
theorem md_X13_operate_2 : (.fieldLink RX13 99 "ResourceLedgerModel$Looker" "taken" "J" : Cond) ∈ wsX13_operate := List.mem_of_getElem? (i := 2) rfl
set_option maxHeartbeats 4000000 in
set_option maxRecDepth 100000 in
theorem de_X13_operate (l : Launch) (dC : Nat → ClassId) (dI : Nat → Nat → Nat) (cy : Nat → ClassId) (a : Nat → Nat) (sh : Nat → Nat × Nat) (n sz : Nat) (F : Nat) (z : St) (h0 : Nat) (x0 : Int32) (x1 : Int32) (x2 : Int32) {z8 : St} {r8 : Unit} (hf : fn_X13_operate F sh n z h0 x0 x1 x2 = some (z8, r8)) : Met l yX13_operate wsX13_operate ({ frames := 7, cells := 0, slots := 0, locals := 171 }) (va_Pc [.ref (a h0), .int x0, .int x1, .int x2] (fun U => U.heap.size = sz ∧ va_P (dC, dI) vwCl (Wd cy a sh n z) U.heap ∧ va_K (dC, dI) vwCl (TYS cy) U ∧ va_D (fun _ => True) (Wd cy a sh n z) ∧ NK U)) (va_Qv (fun u : Unit => True) (fun u t => va_P (dC, dI) vwCl (Wd cy a sh n z8) t.heap ∧ va_K (dC, dI) vwCl (TYS cy) t ∧ va_D (va_A (Wd cy a sh n z) sz) (Wd cy a sh n z8)) (va_A (Wd cy a sh n z) sz)) 0 0 (va_A (Wd cy a sh n z) sz) := by
  refine Met.ofW (cc := cX13_operate) (maxL := 4) (ret := none) (by decide) rfl ?_
  intro p e s m args below meth c s₁ B hml hv
  obtain ⟨rfl, hsz, hP, hK, hD0, hN⟩ := hv
  have hx := B.exec
  have hb := B.bytes
  have hr := B.returns
  have hts := atoms_spec (ws := wsX13_operate) B.pre
  have hown : s.vm.findClass RX13 = some m.cls := findClass_of_methodNamed B.named
  have hlocks := B.notSynchronized
  subst hsz
  have hD := hD0.self (sz := s.heap.size)
  clear hD0
  generalize hAe : va_A (Wd cy a sh n z) s.heap.size = A at hD ⊢
  have hA : ∀ q : Nat, s.heap.size ≤ q → A q := fun q h => by rw [← hAe]; exact Or.inr h
  clear hAe
  have hS : va_S A s.heap s.heap [] := va_S.rf
  have hl := lv_entry ([.ref (a h0), .int x0, .int x1, .int x2]) (n := 4) (Nat.le_of_ble_eq_true rfl)
  rw [lg_entry_eq]
  generalize (lg_sl ([.ref (a h0), .int x0, .int x1, .int x2]) ++ List.replicate (4 - (lg_sl ([.ref (a h0), .int x0, .int x1, .int x2])).length) Slot.unset).toArray = ls at hl ⊢
  replace hl : lv_has ls 4 [(0, .ref (a h0)), (1, .int x0), (2, .int x1), (3, .int x2)] := hl
  unfold fn_X13_operate at hf
  refine de_start hS hP (fun H locs hS hP => ?_)
  refine lv_iload_n hx hb dX13_operate_0 rfl (lv_at hl 1 rfl) ?_
  refine lv_if_ne (tgt := 32) hx hb dX13_operate_1 (by decide) (fun c_1 => ?_) (fun c_1 => ?_)
  · skip
    rw [if_neg c_1] at hf
    refine lv_iload_n hx hb dX13_operate_32 rfl (lv_at hl 1 rfl) ?_
    refine lv_iconst (v := 1) hx hb dX13_operate_33 (by decide) ?_
    refine lv_icmp_ne (tgt := 44) hx hb dX13_operate_34 (by decide) (fun c_2 => ?_) (fun c_2 => ?_)
    · skip
      rw [if_neg c_2] at hf
      refine lv_iload_n hx hb dX13_operate_44 rfl (lv_at hl 1 rfl) ?_
      refine lv_iconst (v := 5) hx hb dX13_operate_45 (by decide) ?_
      refine lv_icmp_ge (tgt := 80) hx hb dX13_operate_46 (by decide) (fun c_3 => ?_) (fun c_3 => ?_)
      · skip
        rw [if_pos c_3] at hf
        refine lv_iload_n hx hb dX13_operate_80 rfl (lv_at hl 1 rfl) ?_
        refine lv_bipush (v := 11) hx hb dX13_operate_81 (by decide) ?_
        refine lv_icmp_ge (tgt := 121) hx hb dX13_operate_83 (by decide) (fun c_4 => ?_) (fun c_4 => ?_)
        · skip
          rw [if_pos c_4] at hf
          refine lv_iload_n hx hb dX13_operate_121 rfl (lv_at hl 1 rfl) ?_
          refine lv_bipush (v := 16) hx hb dX13_operate_122 (by decide) ?_
          refine lv_icmp_ge (tgt := 136) hx hb dX13_operate_124 (by decide) (fun c_5 => ?_) (fun c_5 => ?_)
          · skip
            rw [if_pos c_5] at hf
            refine lv_iload_n hx hb dX13_operate_136 rfl (lv_at hl 1 rfl) ?_
            refine lv_bipush (v := 21) hx hb dX13_operate_137 (by decide) ?_
            refine lv_icmp_ge (tgt := 152) hx hb dX13_operate_139 (by decide) (fun c_6 => ?_) (fun c_6 => ?_)
            · skip
              rw [if_pos c_6] at hf
              refine lv_iload_n hx hb dX13_operate_152 rfl (lv_at hl 1 rfl) ?_
              refine lv_bipush (v := 23) hx hb dX13_operate_153 (by decide) ?_
              refine lv_icmp_ge (tgt := 177) hx hb dX13_operate_155 (by decide) (fun c_7 => ?_) (fun c_7 => ?_)
              · skip
                rw [if_pos c_7] at hf
                refine lv_iload_n hx hb dX13_operate_177 rfl (lv_at hl 1 rfl) ?_
                refine lv_bipush (v := 23) hx hb dX13_operate_178 (by decide) ?_
                refine lv_icmp_ne (tgt := 191) hx hb dX13_operate_180 (by decide) (fun c_8 => ?_) (fun c_8 => ?_)
                · skip
                  rw [if_neg c_8] at hf
                  refine lv_iload_n hx hb dX13_operate_191 rfl (lv_at hl 1 rfl) ?_
                  refine lv_bipush (v := 35) hx hb dX13_operate_192 (by decide) ?_
                  refine lv_icmp_ne (tgt := 198) hx hb dX13_operate_194 (by decide) (fun c_9 => ?_) (fun c_9 => ?_)
                  · skip
                    rw [if_neg c_9] at hf
                    refine lv_iload_n hx hb dX13_operate_198 rfl (lv_at hl 1 rfl) ?_
                    refine lv_bipush (v := 45) hx hb dX13_operate_199 (by decide) ?_
                    refine lv_icmp_ge (tgt := 212) hx hb dX13_operate_201 (by decide) (fun c_10 => ?_) (fun c_10 => ?_)
                    · skip
                      rw [if_pos c_10] at hf
                      refine lv_iload_n hx hb dX13_operate_212 rfl (lv_at hl 1 rfl) ?_
                      refine lv_bipush (v := 45) hx hb dX13_operate_213 (by decide) ?_
                      refine lv_icmp_ne (tgt := 228) hx hb dX13_operate_215 (by decide) (fun c_11 => ?_) (fun c_11 => ?_)
                      · skip
                        rw [if_neg c_11] at hf
                        refine lv_iload_n hx hb dX13_operate_228 rfl (lv_at hl 1 rfl) ?_
                        refine lv_bipush (v := 46) hx hb dX13_operate_229 (by decide) ?_
                        refine lv_icmp_ne (tgt := 244) hx hb dX13_operate_231 (by decide) (fun c_12 => ?_) (fun c_12 => ?_)
                        · skip
                          rw [if_neg c_12] at hf
                          refine lv_iload_n hx hb dX13_operate_244 rfl (lv_at hl 1 rfl) ?_
                          refine lv_bipush (v := 52) hx hb dX13_operate_245 (by decide) ?_
                          refine lv_icmp_ge (tgt := 259) hx hb dX13_operate_247 (by decide) (fun c_13 => ?_) (fun c_13 => ?_)
                          · skip
                            rw [if_pos c_13] at hf
                            refine lv_aload_n hx hb dX13_operate_259 rfl (lv_at hl 0 rfl) ?_
                            refine lv_iload_n hx hb dX13_operate_260 rfl (lv_at hl 1 rfl) ?_
                            refine lv_iload_n hx hb dX13_operate_261 rfl (lv_at hl 2 rfl) ?_
                            refine lv_iload_n hx hb dX13_operate_262 rfl (lv_at hl 3 rfl) ?_
                            obtain ⟨g_15, hf⟩ := grd_some hf
                            obtain ⟨kg_15, sg_15⟩ := okO_at g_15
                            obtain ⟨z_14, _u, hfc, hf⟩ := cal_some hf
                            have hFc := de_free hD hS hA
                            refine va_callv (va_runV (As := [.int x0, .int x1, .int x2]) (rest := []) ⟨hx, hb, hml, hown, hts⟩ (de_X13_onVector l dC dI cy a sh n H.size F z h0 x0 x1 x2 hfc) (cwV 3 hts gX13_operate_X13_onVector rfl rfl rfl (by decide +kernel) ⟨Nat.le_of_ble_eq_true rfl, Nat.le_of_ble_eq_true rfl⟩) ⟨fun a U g mk q => by obtain ⟨q0, q1, qP, qK, qD, qN⟩ := q; exact ⟨q0, q1, qP, va_K.moved (u := U) (U := U.calling g mk a) (Vm.Alike.refl U.vm) qK, qD, qN.same rfl⟩, va_recv hK hP (ci := 13) (q0 := h0) rfl (Wd_ob kg_15 sg_15 (by decide)), fun U hU hW => ⟨rfl, by rw [hU], by rw [hU]; exact hP, va_K.moved hW.alike hK, hD.weaken (fun _ _ _ _ => trivial), hN.warm hW⟩⟩ rfl rfl hl.1 rfl (lv_room (Nat.le_of_ble_eq_true rfl)) dX13_operate_263 ⟨Nat.le_of_ble_eq_true rfl, Nat.le_of_ble_eq_true rfl⟩) hS (fun q _ h => hFc q h) hFc (fun u t H_16 locs ht hvm hw hB hz1 hk1 hS2 => ?_)
                            obtain ⟨hP1, -, hD1⟩ := hB
                            rw [ht] at hP1
                            replace hD := hD1.weaken (fun _ _ _ h => hFc _ h)
                            replace hP := hP1
                            replace hS := hS2
                            clear hP1 hD1 hS2 hFc hfc hz1 hk1 hvm ht
                            obtain ⟨h8, h9⟩ := ret_some hf
                            rw [h8]
                            exact W.vret hx hb hr (fun t ht hW => ⟨⟨(), rfl, trivial, by rw [ht]; exact hP, va_K.moved hW.alike hK, hD⟩, hS.F ht⟩) hS.2.2 dX13_operate_266
                          · skip
                            rw [if_neg c_13] at hf
                            refine lv_aload_n hx hb dX13_operate_250 rfl (lv_at hl 0 rfl) ?_
                            refine lv_iload_n hx hb dX13_operate_251 rfl (lv_at hl 1 rfl) ?_
                            refine lv_iload_n hx hb dX13_operate_252 rfl (lv_at hl 2 rfl) ?_
                            obtain ⟨g_18, hf⟩ := grd_some hf
                            obtain ⟨kg_18, sg_18⟩ := okO_at g_18
                            obtain ⟨z_17, _u, hfc, hf⟩ := cal_some hf
                            have hFc := de_free hD hS hA
                            refine va_callv (va_runV (As := [.int x0, .int x1]) (rest := []) ⟨hx, hb, hml, hown, hts⟩ (de_X13_onResource l dC dI cy a sh n H.size F z h0 x0 x1 hfc) (cwV 2 hts gX13_operate_X13_onResource rfl rfl rfl (by decide +kernel) ⟨Nat.le_of_ble_eq_true rfl, Nat.le_of_ble_eq_true rfl⟩) ⟨fun a U g mk q => by obtain ⟨q0, q1, qP, qK, qD, qN⟩ := q; exact ⟨q0, q1, qP, va_K.moved (u := U) (U := U.calling g mk a) (Vm.Alike.refl U.vm) qK, qD, qN.same rfl⟩, va_recv hK hP (ci := 13) (q0 := h0) rfl (Wd_ob kg_18 sg_18 (by decide)), fun U hU hW => ⟨rfl, by rw [hU], by rw [hU]; exact hP, va_K.moved hW.alike hK, hD.weaken (fun _ _ _ _ => trivial), hN.warm hW⟩⟩ rfl rfl hl.1 rfl (lv_room (Nat.le_of_ble_eq_true rfl)) dX13_operate_253 ⟨Nat.le_of_ble_eq_true rfl, Nat.le_of_ble_eq_true rfl⟩) hS (fun q _ h => hFc q h) hFc (fun u t H_19 locs ht hvm hw hB hz1 hk1 hS2 => ?_)
                            obtain ⟨hP1, -, hD1⟩ := hB
                            rw [ht] at hP1
                            replace hD := hD1.weaken (fun _ _ _ h => hFc _ h)
                            replace hP := hP1
                            replace hS := hS2
                            clear hP1 hD1 hS2 hFc hfc hz1 hk1 hvm ht
                            refine lv_goto (tgt := 266) hx hb dX13_operate_256 (by decide) ?_
                            obtain ⟨h8, h9⟩ := ret_some hf
                            rw [h8]
                            exact W.vret hx hb hr (fun t ht hW => ⟨⟨(), rfl, trivial, by rw [ht]; exact hP, va_K.moved hW.alike hK, hD⟩, hS.F ht⟩) hS.2.2 dX13_operate_266
                        · skip
                          rw [if_pos c_12] at hf
                          refine lv_aload_n hx hb dX13_operate_234 rfl (lv_at hl 0 rfl) ?_
                          refine lv_ldc2 hx hb hown (hts _ md_X13_operate_5) dX13_operate_235 ?_
                          obtain ⟨g_21, hf⟩ := grd_some hf
                          obtain ⟨kg_21, sg_21⟩ := okO_at g_21
                          obtain ⟨z_20, _u, hfc, hf⟩ := cal_some hf
                          have hFc := de_free hD hS hA
                          refine va_callv (va_runV (As := [.long 5]) (rest := []) ⟨hx, hb, hml, hown, hts⟩ (de_X13_give l dC dI cy a sh n H.size F z h0 5 hfc) (cwV 1 hts gX13_operate_X13_give rfl rfl rfl (by decide +kernel) ⟨Nat.le_of_ble_eq_true rfl, Nat.le_of_ble_eq_true rfl⟩) ⟨fun a U g mk q => by obtain ⟨q0, q1, qP, qK, qD, qN⟩ := q; exact ⟨q0, q1, qP, va_K.moved (u := U) (U := U.calling g mk a) (Vm.Alike.refl U.vm) qK, qD, qN.same rfl⟩, va_recv hK hP (ci := 13) (q0 := h0) rfl (Wd_ob kg_21 sg_21 (by decide)), fun U hU hW => ⟨rfl, by rw [hU], by rw [hU]; exact hP, va_K.moved hW.alike hK, hD.weaken (fun _ _ _ _ => trivial), hN.warm hW⟩⟩ rfl rfl hl.1 rfl (lv_room (Nat.le_of_ble_eq_true rfl)) dX13_operate_238 ⟨Nat.le_of_ble_eq_true rfl, Nat.le_of_ble_eq_true rfl⟩) hS (fun q _ h => hFc q h) hFc (fun u t H_22 locs ht hvm hw hB hz1 hk1 hS2 => ?_)
                          obtain ⟨hP1, -, hD1⟩ := hB
                          rw [ht] at hP1
                          replace hD := hD1.weaken (fun _ _ _ h => hFc _ h)
                          replace hP := hP1
                          replace hS := hS2
                          clear hP1 hD1 hS2 hFc hfc hz1 hk1 hvm ht
                          refine lv_goto (tgt := 266) hx hb dX13_operate_241 (by decide) ?_
                          obtain ⟨h8, h9⟩ := ret_some hf
                          rw [h8]
                          exact W.vret hx hb hr (fun t ht hW => ⟨⟨(), rfl, trivial, by rw [ht]; exact hP, va_K.moved hW.alike hK, hD⟩, hS.F ht⟩) hS.2.2 dX13_operate_266
                      · skip
                        rw [if_pos c_11] at hf
                        refine lv_aload_n hx hb dX13_operate_218 rfl (lv_at hl 0 rfl) ?_
                        refine lv_ldc2 hx hb hown (hts _ md_X13_operate_4) dX13_operate_219 ?_
                        obtain ⟨g_24, hf⟩ := grd_some hf
                        obtain ⟨kg_24, sg_24⟩ := okO_at g_24
                        obtain ⟨z_23, _u, hfc, hf⟩ := cal_some hf
                        have hFc := de_free hD hS hA
                        refine va_callv (va_runV (As := [.long 3]) (rest := []) ⟨hx, hb, hml, hown, hts⟩ (de_X13_take_ l dC dI cy a sh n H.size F z h0 3 hfc) (cwV 1 hts gX13_operate_X13_take_ rfl rfl rfl (by decide +kernel) ⟨Nat.le_of_ble_eq_true rfl, Nat.le_of_ble_eq_true rfl⟩) ⟨fun a U g mk q => by obtain ⟨q0, q1, qP, qK, qD, qN⟩ := q; exact ⟨q0, q1, qP, va_K.moved (u := U) (U := U.calling g mk a) (Vm.Alike.refl U.vm) qK, qD, qN.same rfl⟩, va_recv hK hP (ci := 13) (q0 := h0) rfl (Wd_ob kg_24 sg_24 (by decide)), fun U hU hW => ⟨rfl, by rw [hU], by rw [hU]; exact hP, va_K.moved hW.alike hK, hD.weaken (fun _ _ _ _ => trivial), hN.warm hW⟩⟩ rfl rfl hl.1 rfl (lv_room (Nat.le_of_ble_eq_true rfl)) dX13_operate_222 ⟨Nat.le_of_ble_eq_true rfl, Nat.le_of_ble_eq_true rfl⟩) hS (fun q _ h => hFc q h) hFc (fun u t H_25 locs ht hvm hw hB hz1 hk1 hS2 => ?_)
                        obtain ⟨hP1, -, hD1⟩ := hB
                        rw [ht] at hP1
                        replace hD := hD1.weaken (fun _ _ _ h => hFc _ h)
                        replace hP := hP1
                        replace hS := hS2
                        clear hP1 hD1 hS2 hFc hfc hz1 hk1 hvm ht
                        refine lv_goto (tgt := 266) hx hb dX13_operate_225 (by decide) ?_
                        obtain ⟨h8, h9⟩ := ret_some hf
                        rw [h8]
                        exact W.vret hx hb hr (fun t ht hW => ⟨⟨(), rfl, trivial, by rw [ht]; exact hP, va_K.moved hW.alike hK, hD⟩, hS.F ht⟩) hS.2.2 dX13_operate_266
                    · skip
                      rw [if_neg c_10] at hf
                      refine lv_aload_n hx hb dX13_operate_204 rfl (lv_at hl 0 rfl) ?_
                      refine lv_iload_n hx hb dX13_operate_205 rfl (lv_at hl 1 rfl) ?_
                      obtain ⟨g_27, hf⟩ := grd_some hf
                      obtain ⟨kg_27, sg_27⟩ := okO_at g_27
                      obtain ⟨z_26, _u, hfc, hf⟩ := cal_some hf
                      have hFc := de_free hD hS hA
                      refine va_callv (va_runV (As := [.int x0]) (rest := []) ⟨hx, hb, hml, hown, hts⟩ (de_X13_onNumbers l dC dI cy a sh n H.size F z h0 x0 hfc) (cwV 1 hts gX13_operate_X13_onNumbers rfl rfl rfl (by decide +kernel) ⟨Nat.le_of_ble_eq_true rfl, Nat.le_of_ble_eq_true rfl⟩) ⟨fun a U g mk q => by obtain ⟨q0, q1, qP, qK, qD, qN⟩ := q; exact ⟨q0, q1, qP, va_K.moved (u := U) (U := U.calling g mk a) (Vm.Alike.refl U.vm) qK, qD, qN.same rfl⟩, va_recv hK hP (ci := 13) (q0 := h0) rfl (Wd_ob kg_27 sg_27 (by decide)), fun U hU hW => ⟨rfl, by rw [hU], by rw [hU]; exact hP, va_K.moved hW.alike hK, hD.weaken (fun _ _ _ _ => trivial), hN.warm hW⟩⟩ rfl rfl hl.1 rfl (lv_room (Nat.le_of_ble_eq_true rfl)) dX13_operate_206 ⟨Nat.le_of_ble_eq_true rfl, Nat.le_of_ble_eq_true rfl⟩) hS (fun q _ h => hFc q h) hFc (fun u t H_28 locs ht hvm hw hB hz1 hk1 hS2 => ?_)
                      obtain ⟨hP1, -, hD1⟩ := hB
                      rw [ht] at hP1
                      replace hD := hD1.weaken (fun _ _ _ h => hFc _ h)
                      replace hP := hP1
                      replace hS := hS2
                      clear hP1 hD1 hS2 hFc hfc hz1 hk1 hvm ht
                      refine lv_goto (tgt := 266) hx hb dX13_operate_209 (by decide) ?_
                      obtain ⟨h8, h9⟩ := ret_some hf
                      rw [h8]
                      exact W.vret hx hb hr (fun t ht hW => ⟨⟨(), rfl, trivial, by rw [ht]; exact hP, va_K.moved hW.alike hK, hD⟩, hS.F ht⟩) hS.2.2 dX13_operate_266
                  · skip
                    rw [if_pos c_9] at hf
                    obtain ⟨h8, h9⟩ := ret_some hf
                    rw [h8]
                    exact W.vret hx hb hr (fun t ht hW => ⟨⟨(), rfl, trivial, by rw [ht]; exact hP, va_K.moved hW.alike hK, hD⟩, hS.F ht⟩) hS.2.2 dX13_operate_197
                · skip
                  rw [if_pos c_8] at hf
                  refine lv_aload_n hx hb dX13_operate_183 rfl (lv_at hl 0 rfl) ?_
                  refine lv_iload_n hx hb dX13_operate_184 rfl (lv_at hl 2 rfl) ?_
                  obtain ⟨g_30, hf⟩ := grd_some hf
                  obtain ⟨kg_30, sg_30⟩ := okO_at g_30
                  obtain ⟨z_29, _u, hfc, hf⟩ := cal_some hf
                  have hFc := de_free hD hS hA
                  refine va_callv (va_runV (As := [.int x1]) (rest := []) ⟨hx, hb, hml, hown, hts⟩ (de_X13_call l dC dI cy a sh n H.size F z h0 x1 hfc) (cwV 1 hts gX13_operate_X13_call rfl rfl rfl (by decide +kernel) ⟨Nat.le_of_ble_eq_true rfl, Nat.le_of_ble_eq_true rfl⟩) ⟨fun a U g mk q => by obtain ⟨q0, q1, qP, qK, qD, qN⟩ := q; exact ⟨q0, q1, qP, va_K.moved (u := U) (U := U.calling g mk a) (Vm.Alike.refl U.vm) qK, qD, qN.same rfl⟩, va_recv hK hP (ci := 13) (q0 := h0) rfl (Wd_ob kg_30 sg_30 (by decide)), fun U hU hW => ⟨rfl, by rw [hU], by rw [hU]; exact hP, va_K.moved hW.alike hK, hD.weaken (fun _ _ _ _ => trivial), hN.warm hW⟩⟩ rfl rfl hl.1 rfl (lv_room (Nat.le_of_ble_eq_true rfl)) dX13_operate_185 ⟨Nat.le_of_ble_eq_true rfl, Nat.le_of_ble_eq_true rfl⟩) hS (fun q _ h => hFc q h) hFc (fun u t H_31 locs ht hvm hw hB hz1 hk1 hS2 => ?_)
                  obtain ⟨hP1, -, hD1⟩ := hB
                  rw [ht] at hP1
                  replace hD := hD1.weaken (fun _ _ _ h => hFc _ h)
                  replace hP := hP1
                  replace hS := hS2
                  clear hP1 hD1 hS2 hFc hfc hz1 hk1 hvm ht
                  refine lv_goto (tgt := 266) hx hb dX13_operate_188 (by decide) ?_
                  obtain ⟨h8, h9⟩ := ret_some hf
                  rw [h8]
                  exact W.vret hx hb hr (fun t ht hW => ⟨⟨(), rfl, trivial, by rw [ht]; exact hP, va_K.moved hW.alike hK, hD⟩, hS.F ht⟩) hS.2.2 dX13_operate_266
              · skip
                rw [if_neg c_7] at hf
                refine lv_aload_n hx hb dX13_operate_158 rfl (lv_at hl 0 rfl) ?_
                refine lv_iload_n hx hb dX13_operate_159 rfl (lv_at hl 1 rfl) ?_
                refine lv_bipush (v := 21) hx hb dX13_operate_160 (by decide) ?_
                refine lv_icmp_ne (tgt := 169) hx hb dX13_operate_162 (by decide) (fun c_32 => ?_) (fun c_32 => ?_)
                · skip
                  rw [if_neg c_32] at hf
                  refine lv_iconst (v := 0) hx hb dX13_operate_169 (by decide) ?_
                  refine lv_iload_n hx hb dX13_operate_170 rfl (lv_at hl 2 rfl) ?_
                  obtain ⟨g_34, hf⟩ := grd_some hf
                  obtain ⟨kg_34, sg_34⟩ := okO_at g_34
                  obtain ⟨z_33, _u, hfc, hf⟩ := cal_some hf
                  have hFc := de_free hD hS hA
                  refine va_callv (va_runV (As := [.int 0, .int x1]) (rest := []) ⟨hx, hb, hml, hown, hts⟩ (de_X13_pack l dC dI cy a sh n H.size F z h0 0 x1 hfc) (cwV 2 hts gX13_operate_X13_pack rfl rfl rfl (by decide +kernel) ⟨Nat.le_of_ble_eq_true rfl, Nat.le_of_ble_eq_true rfl⟩) ⟨fun a U g mk q => by obtain ⟨q0, q1, qP, qK, qD, qN⟩ := q; exact ⟨q0, q1, qP, va_K.moved (u := U) (U := U.calling g mk a) (Vm.Alike.refl U.vm) qK, qD, qN.same rfl⟩, va_recv hK hP (ci := 13) (q0 := h0) rfl (Wd_ob kg_34 sg_34 (by decide)), fun U hU hW => ⟨rfl, by rw [hU], by rw [hU]; exact hP, va_K.moved hW.alike hK, hD.weaken (fun _ _ _ _ => trivial), hN.warm hW⟩⟩ rfl rfl hl.1 rfl (lv_room (Nat.le_of_ble_eq_true rfl)) dX13_operate_171 ⟨Nat.le_of_ble_eq_true rfl, Nat.le_of_ble_eq_true rfl⟩) hS (fun q _ h => hFc q h) hFc (fun u t H_35 locs ht hvm hw hB hz1 hk1 hS2 => ?_)
                  obtain ⟨hP1, -, hD1⟩ := hB
                  rw [ht] at hP1
                  replace hD := hD1.weaken (fun _ _ _ h => hFc _ h)
                  replace hP := hP1
                  replace hS := hS2
                  clear hP1 hD1 hS2 hFc hfc hz1 hk1 hvm ht
                  refine lv_goto (tgt := 266) hx hb dX13_operate_174 (by decide) ?_
                  obtain ⟨h8, h9⟩ := ret_some hf
                  rw [h8]
                  exact W.vret hx hb hr (fun t ht hW => ⟨⟨(), rfl, trivial, by rw [ht]; exact hP, va_K.moved hW.alike hK, hD⟩, hS.F ht⟩) hS.2.2 dX13_operate_266
                · skip
                  rw [if_pos c_32] at hf
                  refine lv_iconst (v := 1) hx hb dX13_operate_165 (by decide) ?_
                  refine lv_goto (tgt := 170) hx hb dX13_operate_166 (by decide) ?_
                  refine lv_iload_n hx hb dX13_operate_170 rfl (lv_at hl 2 rfl) ?_
                  obtain ⟨g_37, hf⟩ := grd_some hf
                  obtain ⟨kg_37, sg_37⟩ := okO_at g_37
                  obtain ⟨z_36, _u, hfc, hf⟩ := cal_some hf
                  have hFc := de_free hD hS hA
                  refine va_callv (va_runV (As := [.int 1, .int x1]) (rest := []) ⟨hx, hb, hml, hown, hts⟩ (de_X13_pack l dC dI cy a sh n H.size F z h0 1 x1 hfc) (cwV 2 hts gX13_operate_X13_pack rfl rfl rfl (by decide +kernel) ⟨Nat.le_of_ble_eq_true rfl, Nat.le_of_ble_eq_true rfl⟩) ⟨fun a U g mk q => by obtain ⟨q0, q1, qP, qK, qD, qN⟩ := q; exact ⟨q0, q1, qP, va_K.moved (u := U) (U := U.calling g mk a) (Vm.Alike.refl U.vm) qK, qD, qN.same rfl⟩, va_recv hK hP (ci := 13) (q0 := h0) rfl (Wd_ob kg_37 sg_37 (by decide)), fun U hU hW => ⟨rfl, by rw [hU], by rw [hU]; exact hP, va_K.moved hW.alike hK, hD.weaken (fun _ _ _ _ => trivial), hN.warm hW⟩⟩ rfl rfl hl.1 rfl (lv_room (Nat.le_of_ble_eq_true rfl)) dX13_operate_171 ⟨Nat.le_of_ble_eq_true rfl, Nat.le_of_ble_eq_true rfl⟩) hS (fun q _ h => hFc q h) hFc (fun u t H_38 locs ht hvm hw hB hz1 hk1 hS2 => ?_)
                  obtain ⟨hP1, -, hD1⟩ := hB
                  rw [ht] at hP1
                  replace hD := hD1.weaken (fun _ _ _ h => hFc _ h)
                  replace hP := hP1
                  replace hS := hS2
                  clear hP1 hD1 hS2 hFc hfc hz1 hk1 hvm ht
                  refine lv_goto (tgt := 266) hx hb dX13_operate_174 (by decide) ?_
                  obtain ⟨h8, h9⟩ := ret_some hf
                  rw [h8]
                  exact W.vret hx hb hr (fun t ht hW => ⟨⟨(), rfl, trivial, by rw [ht]; exact hP, va_K.moved hW.alike hK, hD⟩, hS.F ht⟩) hS.2.2 dX13_operate_266
            · skip
              rw [if_neg c_6] at hf
              refine lv_aload_n hx hb dX13_operate_142 rfl (lv_at hl 0 rfl) ?_
              refine lv_iload_n hx hb dX13_operate_143 rfl (lv_at hl 1 rfl) ?_
              refine lv_iload_n hx hb dX13_operate_144 rfl (lv_at hl 2 rfl) ?_
              refine lv_iload_n hx hb dX13_operate_145 rfl (lv_at hl 3 rfl) ?_
              obtain ⟨g_40, hf⟩ := grd_some hf
              obtain ⟨kg_40, sg_40⟩ := okO_at g_40
              obtain ⟨z_39, _u, hfc, hf⟩ := cal_some hf
              have hFc := de_free hD hS hA
              refine va_callv (va_runV (As := [.int x0, .int x1, .int x2]) (rest := []) ⟨hx, hb, hml, hown, hts⟩ (de_X13_onReference l dC dI cy a sh n H.size F z h0 x0 x1 x2 hfc) (cwV 3 hts gX13_operate_X13_onReference rfl rfl rfl (by decide +kernel) ⟨Nat.le_of_ble_eq_true rfl, Nat.le_of_ble_eq_true rfl⟩) ⟨fun a U g mk q => by obtain ⟨q0, q1, qP, qK, qD, qN⟩ := q; exact ⟨q0, q1, qP, va_K.moved (u := U) (U := U.calling g mk a) (Vm.Alike.refl U.vm) qK, qD, qN.same rfl⟩, va_recv hK hP (ci := 13) (q0 := h0) rfl (Wd_ob kg_40 sg_40 (by decide)), fun U hU hW => ⟨rfl, by rw [hU], by rw [hU]; exact hP, va_K.moved hW.alike hK, hD.weaken (fun _ _ _ _ => trivial), hN.warm hW⟩⟩ rfl rfl hl.1 rfl (lv_room (Nat.le_of_ble_eq_true rfl)) dX13_operate_146 ⟨Nat.le_of_ble_eq_true rfl, Nat.le_of_ble_eq_true rfl⟩) hS (fun q _ h => hFc q h) hFc (fun u t H_41 locs ht hvm hw hB hz1 hk1 hS2 => ?_)
              obtain ⟨hP1, -, hD1⟩ := hB
              rw [ht] at hP1
              replace hD := hD1.weaken (fun _ _ _ h => hFc _ h)
              replace hP := hP1
              replace hS := hS2
              clear hP1 hD1 hS2 hFc hfc hz1 hk1 hvm ht
              refine lv_goto (tgt := 266) hx hb dX13_operate_149 (by decide) ?_
              obtain ⟨h8, h9⟩ := ret_some hf
              rw [h8]
              exact W.vret hx hb hr (fun t ht hW => ⟨⟨(), rfl, trivial, by rw [ht]; exact hP, va_K.moved hW.alike hK, hD⟩, hS.F ht⟩) hS.2.2 dX13_operate_266
          · skip
            rw [if_neg c_5] at hf
            refine lv_aload_n hx hb dX13_operate_127 rfl (lv_at hl 0 rfl) ?_
            refine lv_iload_n hx hb dX13_operate_128 rfl (lv_at hl 1 rfl) ?_
            refine lv_iload_n hx hb dX13_operate_129 rfl (lv_at hl 2 rfl) ?_
            obtain ⟨g_43, hf⟩ := grd_some hf
            obtain ⟨kg_43, sg_43⟩ := okO_at g_43
            obtain ⟨z_42, _u, hfc, hf⟩ := cal_some hf
            have hFc := de_free hD hS hA
            refine va_callv (va_runV (As := [.int x0, .int x1]) (rest := []) ⟨hx, hb, hml, hown, hts⟩ (de_X13_onLocal l dC dI cy a sh n H.size F z h0 x0 x1 hfc) (cwV 2 hts gX13_operate_X13_onLocal rfl rfl rfl (by decide +kernel) ⟨Nat.le_of_ble_eq_true rfl, Nat.le_of_ble_eq_true rfl⟩) ⟨fun a U g mk q => by obtain ⟨q0, q1, qP, qK, qD, qN⟩ := q; exact ⟨q0, q1, qP, va_K.moved (u := U) (U := U.calling g mk a) (Vm.Alike.refl U.vm) qK, qD, qN.same rfl⟩, va_recv hK hP (ci := 13) (q0 := h0) rfl (Wd_ob kg_43 sg_43 (by decide)), fun U hU hW => ⟨rfl, by rw [hU], by rw [hU]; exact hP, va_K.moved hW.alike hK, hD.weaken (fun _ _ _ _ => trivial), hN.warm hW⟩⟩ rfl rfl hl.1 rfl (lv_room (Nat.le_of_ble_eq_true rfl)) dX13_operate_130 ⟨Nat.le_of_ble_eq_true rfl, Nat.le_of_ble_eq_true rfl⟩) hS (fun q _ h => hFc q h) hFc (fun u t H_44 locs ht hvm hw hB hz1 hk1 hS2 => ?_)
            obtain ⟨hP1, -, hD1⟩ := hB
            rw [ht] at hP1
            replace hD := hD1.weaken (fun _ _ _ h => hFc _ h)
            replace hP := hP1
            replace hS := hS2
            clear hP1 hD1 hS2 hFc hfc hz1 hk1 hvm ht
            refine lv_goto (tgt := 266) hx hb dX13_operate_133 (by decide) ?_
            obtain ⟨h8, h9⟩ := ret_some hf
            rw [h8]
            exact W.vret hx hb hr (fun t ht hW => ⟨⟨(), rfl, trivial, by rw [ht]; exact hP, va_K.moved hW.alike hK, hD⟩, hS.F ht⟩) hS.2.2 dX13_operate_266
        · skip
          rw [if_neg c_4] at hf
          refine lv_aload_n hx hb dX13_operate_86 rfl (lv_at hl 0 rfl) ?_
          refine lv_iload_n hx hb dX13_operate_87 rfl (lv_at hl 1 rfl) ?_
          refine lv_bipush (v := 8) hx hb dX13_operate_88 (by decide) ?_
          refine lv_icmp_ge (tgt := 102) hx hb dX13_operate_90 (by decide) (fun c_45 => ?_) (fun c_45 => ?_)
          · skip
            rw [if_pos c_45] at hf
            refine lv_iload_n hx hb dX13_operate_102 rfl (lv_at hl 1 rfl) ?_
            refine lv_bipush (v := 10) hx hb dX13_operate_103 (by decide) ?_
            refine lv_icmp_ge (tgt := 112) hx hb dX13_operate_105 (by decide) (fun c_46 => ?_) (fun c_46 => ?_)
            · skip
              rw [if_pos c_46] at hf
              refine lv_ldc2 hx hb hown (hts _ md_X13_operate_5) dX13_operate_112 ?_
              obtain ⟨g_48, hf⟩ := grd_some hf
              obtain ⟨kg_48, sg_48⟩ := okO_at g_48
              obtain ⟨z_47, _u, hfc, hf⟩ := cal_some hf
              have hFc := de_free hD hS hA
              refine va_callv (va_runV (As := [.long 5]) (rest := []) ⟨hx, hb, hml, hown, hts⟩ (de_X13_give l dC dI cy a sh n H.size F z h0 5 hfc) (cwV 1 hts gX13_operate_X13_give rfl rfl rfl (by decide +kernel) ⟨Nat.le_of_ble_eq_true rfl, Nat.le_of_ble_eq_true rfl⟩) ⟨fun a U g mk q => by obtain ⟨q0, q1, qP, qK, qD, qN⟩ := q; exact ⟨q0, q1, qP, va_K.moved (u := U) (U := U.calling g mk a) (Vm.Alike.refl U.vm) qK, qD, qN.same rfl⟩, va_recv hK hP (ci := 13) (q0 := h0) rfl (Wd_ob kg_48 sg_48 (by decide)), fun U hU hW => ⟨rfl, by rw [hU], by rw [hU]; exact hP, va_K.moved hW.alike hK, hD.weaken (fun _ _ _ _ => trivial), hN.warm hW⟩⟩ rfl rfl hl.1 rfl (lv_room (Nat.le_of_ble_eq_true rfl)) dX13_operate_115 ⟨Nat.le_of_ble_eq_true rfl, Nat.le_of_ble_eq_true rfl⟩) hS (fun q _ h => hFc q h) hFc (fun u t H_49 locs ht hvm hw hB hz1 hk1 hS2 => ?_)
              obtain ⟨hP1, -, hD1⟩ := hB
              rw [ht] at hP1
              replace hD := hD1.weaken (fun _ _ _ h => hFc _ h)
              replace hP := hP1
              replace hS := hS2
              clear hP1 hD1 hS2 hFc hfc hz1 hk1 hvm ht
              refine lv_goto (tgt := 266) hx hb dX13_operate_118 (by decide) ?_
              obtain ⟨h8, h9⟩ := ret_some hf
              rw [h8]
              exact W.vret hx hb hr (fun t ht hW => ⟨⟨(), rfl, trivial, by rw [ht]; exact hP, va_K.moved hW.alike hK, hD⟩, hS.F ht⟩) hS.2.2 dX13_operate_266
            · skip
              rw [if_neg c_46] at hf
              refine lv_lconst (v := 1) hx hb dX13_operate_108 (by decide) ?_
              refine lv_goto (tgt := 115) hx hb dX13_operate_109 (by decide) ?_
              obtain ⟨g_51, hf⟩ := grd_some hf
              obtain ⟨kg_51, sg_51⟩ := okO_at g_51
              obtain ⟨z_50, _u, hfc, hf⟩ := cal_some hf
              have hFc := de_free hD hS hA
              refine va_callv (va_runV (As := [.long 1]) (rest := []) ⟨hx, hb, hml, hown, hts⟩ (de_X13_give l dC dI cy a sh n H.size F z h0 1 hfc) (cwV 1 hts gX13_operate_X13_give rfl rfl rfl (by decide +kernel) ⟨Nat.le_of_ble_eq_true rfl, Nat.le_of_ble_eq_true rfl⟩) ⟨fun a U g mk q => by obtain ⟨q0, q1, qP, qK, qD, qN⟩ := q; exact ⟨q0, q1, qP, va_K.moved (u := U) (U := U.calling g mk a) (Vm.Alike.refl U.vm) qK, qD, qN.same rfl⟩, va_recv hK hP (ci := 13) (q0 := h0) rfl (Wd_ob kg_51 sg_51 (by decide)), fun U hU hW => ⟨rfl, by rw [hU], by rw [hU]; exact hP, va_K.moved hW.alike hK, hD.weaken (fun _ _ _ _ => trivial), hN.warm hW⟩⟩ rfl rfl hl.1 rfl (lv_room (Nat.le_of_ble_eq_true rfl)) dX13_operate_115 ⟨Nat.le_of_ble_eq_true rfl, Nat.le_of_ble_eq_true rfl⟩) hS (fun q _ h => hFc q h) hFc (fun u t H_52 locs ht hvm hw hB hz1 hk1 hS2 => ?_)
              obtain ⟨hP1, -, hD1⟩ := hB
              rw [ht] at hP1
              replace hD := hD1.weaken (fun _ _ _ h => hFc _ h)
              replace hP := hP1
              replace hS := hS2
              clear hP1 hD1 hS2 hFc hfc hz1 hk1 hvm ht
              refine lv_goto (tgt := 266) hx hb dX13_operate_118 (by decide) ?_
              obtain ⟨h8, h9⟩ := ret_some hf
              rw [h8]
              exact W.vret hx hb hr (fun t ht hW => ⟨⟨(), rfl, trivial, by rw [ht]; exact hP, va_K.moved hW.alike hK, hD⟩, hS.F ht⟩) hS.2.2 dX13_operate_266
          · skip
            rw [if_neg c_45] at hf
            refine lv_iload_n hx hb dX13_operate_93 rfl (lv_at hl 1 rfl) ?_
            refine lv_i2l (v := (x0 : Int32).toInt64) hx hb dX13_operate_94 rfl ?_
            refine lv_ldc2 hx hb hown (hts _ md_X13_operate_4) dX13_operate_95 ?_
            refine lv_lsub hx hb dX13_operate_98 ?_
            refine lv_goto (tgt := 115) hx hb dX13_operate_99 (by decide) ?_
            obtain ⟨g_54, hf⟩ := grd_some hf
            obtain ⟨kg_54, sg_54⟩ := okO_at g_54
            obtain ⟨z_53, _u, hfc, hf⟩ := cal_some hf
            have hFc := de_free hD hS hA
            refine va_callv (va_runV (As := [.long (((x0 : Int32).toInt64) - 3)]) (rest := []) ⟨hx, hb, hml, hown, hts⟩ (de_X13_give l dC dI cy a sh n H.size F z h0 (((x0 : Int32).toInt64) - 3) hfc) (cwV 1 hts gX13_operate_X13_give rfl rfl rfl (by decide +kernel) ⟨Nat.le_of_ble_eq_true rfl, Nat.le_of_ble_eq_true rfl⟩) ⟨fun a U g mk q => by obtain ⟨q0, q1, qP, qK, qD, qN⟩ := q; exact ⟨q0, q1, qP, va_K.moved (u := U) (U := U.calling g mk a) (Vm.Alike.refl U.vm) qK, qD, qN.same rfl⟩, va_recv hK hP (ci := 13) (q0 := h0) rfl (Wd_ob kg_54 sg_54 (by decide)), fun U hU hW => ⟨rfl, by rw [hU], by rw [hU]; exact hP, va_K.moved hW.alike hK, hD.weaken (fun _ _ _ _ => trivial), hN.warm hW⟩⟩ rfl rfl hl.1 rfl (lv_room (Nat.le_of_ble_eq_true rfl)) dX13_operate_115 ⟨Nat.le_of_ble_eq_true rfl, Nat.le_of_ble_eq_true rfl⟩) hS (fun q _ h => hFc q h) hFc (fun u t H_55 locs ht hvm hw hB hz1 hk1 hS2 => ?_)
            obtain ⟨hP1, -, hD1⟩ := hB
            rw [ht] at hP1
            replace hD := hD1.weaken (fun _ _ _ h => hFc _ h)
            replace hP := hP1
            replace hS := hS2
            clear hP1 hD1 hS2 hFc hfc hz1 hk1 hvm ht
            refine lv_goto (tgt := 266) hx hb dX13_operate_118 (by decide) ?_
            obtain ⟨h8, h9⟩ := ret_some hf
            rw [h8]
            exact W.vret hx hb hr (fun t ht hW => ⟨⟨(), rfl, trivial, by rw [ht]; exact hP, va_K.moved hW.alike hK, hD⟩, hS.F ht⟩) hS.2.2 dX13_operate_266
      · skip
        rw [if_neg c_3] at hf
        refine lv_iload_n hx hb dX13_operate_49 rfl (lv_at hl 1 rfl) ?_
        refine lv_iconst (v := 2) hx hb dX13_operate_50 (by decide) ?_
        refine de_cut (h := 59) (fun (x : St) => []) (fun x ls H locs => lv_has ls 4 [(0, .ref (a h0))] ∧ va_P (dC, dI) vwCl (Wd cy a sh n x) H ∧ va_D A (Wd cy a sh n x) ∧ va_S A s.heap H locs) (fun x => fn_X13_operate_B59 F sh n h0 x) (z8, r8) ?_ (fun B59 => ?_)
        · intro x ls H locs hI hf
          obtain ⟨z_56, ez⟩ : ∃ w, w = x := ⟨_, rfl⟩
          subst ez
          obtain ⟨hl2, hP2, hD2, hS2⟩ := hI
          replace hl : lv_has ls 4 [(0, .ref (a h0))] := hl2
          replace hP := hP2
          replace hD := hD2
          replace hS := hS2
          clear hl2 hP2 hD2 hS2
          replace hf := fn_X13_operate_B59_s hf
          refine W.eq (g2 := F0 m 59 ls []) rfl ?_
          refine lv_aload_n hx hb dX13_operate_59 rfl (lv_at hl 0 rfl) ?_
          refine lv_aload_n hx hb dX13_operate_60 rfl (lv_at hl 0 rfl) ?_
          obtain ⟨g_57, hf⟩ := grd_some hf
          obtain ⟨kg_57, sg_57⟩ := okO_at g_57
          refine va_get (D := (dC, dI)) (ci := 13) (v := .int (z_56.1 h0 14)) (C := RX13) (T := TX13) (N := 22) hx hb hts iwd_X13_operate_X13 hown hK hP h0 (Wd_ob kg_57 sg_57 (by decide)) rfl 14 (by decide) (hts _ md_X13_operate_3) (fun _ h9 => h9) (fl_at (t := 0) rfl) dX13_operate_61 ?_
          refine lv_if_ne (tgt := 71) hx hb dX13_operate_64 (by decide) (fun c_58 => ?_) (fun c_58 => ?_)
          · skip
            rw [if_neg c_58] at hf
            refine lv_iconst (v := 0) hx hb dX13_operate_71 (by decide) ?_
            refine lv_bipush (v := 8) hx hb dX13_operate_72 (by decide) ?_
            obtain ⟨z_59, _u, hfc, hf⟩ := cal_some hf
            have hFc := de_free hD hS hA
            refine va_callv (va_runV (As := [.int 0, .int 8]) (rest := []) ⟨hx, hb, hml, hown, hts⟩ (de_X13_need l dC dI cy a sh n H.size F z_56 h0 0 8 hfc) (cwV 2 hts gX13_operate_X13_need rfl rfl rfl (by decide +kernel) ⟨Nat.le_of_ble_eq_true rfl, Nat.le_of_ble_eq_true rfl⟩) ⟨fun a U g mk q => by obtain ⟨q0, q1, qP, qK, qD, qN⟩ := q; exact ⟨q0, q1, qP, va_K.moved (u := U) (U := U.calling g mk a) (Vm.Alike.refl U.vm) qK, qD, qN.same rfl⟩, va_recv hK hP (ci := 13) (q0 := h0) rfl (Wd_ob kg_57 sg_57 (by decide)), fun U hU hW => ⟨rfl, by rw [hU], by rw [hU]; exact hP, va_K.moved hW.alike hK, hD.weaken (fun _ _ _ _ => trivial), hN.warm hW⟩⟩ rfl rfl hl.1 rfl (lv_room (Nat.le_of_ble_eq_true rfl)) dX13_operate_74 ⟨Nat.le_of_ble_eq_true rfl, Nat.le_of_ble_eq_true rfl⟩) hS (fun q _ h => hFc q h) hFc (fun u t H_60 locs ht hvm hw hB hz1 hk1 hS2 => ?_)
            obtain ⟨hP1, -, hD1⟩ := hB
            rw [ht] at hP1
            replace hD := hD1.weaken (fun _ _ _ h => hFc _ h)
            replace hP := hP1
            replace hS := hS2
            clear hP1 hD1 hS2 hFc hfc hz1 hk1 hvm ht
            refine lv_goto (tgt := 266) hx hb dX13_operate_77 (by decide) ?_
            obtain ⟨h8, h9⟩ := ret_some hf
            rw [h8]
            exact W.vret hx hb hr (fun t ht hW => ⟨⟨(), rfl, trivial, by rw [ht]; exact hP, va_K.moved hW.alike hK, hD⟩, hS.F ht⟩) hS.2.2 dX13_operate_266
          · skip
            rw [if_pos c_58] at hf
            refine lv_iconst (v := 1) hx hb dX13_operate_67 (by decide) ?_
            refine lv_goto (tgt := 72) hx hb dX13_operate_68 (by decide) ?_
            refine lv_bipush (v := 8) hx hb dX13_operate_72 (by decide) ?_
            obtain ⟨z_61, _u, hfc, hf⟩ := cal_some hf
            have hFc := de_free hD hS hA
            refine va_callv (va_runV (As := [.int 1, .int 8]) (rest := []) ⟨hx, hb, hml, hown, hts⟩ (de_X13_need l dC dI cy a sh n H.size F z_56 h0 1 8 hfc) (cwV 2 hts gX13_operate_X13_need rfl rfl rfl (by decide +kernel) ⟨Nat.le_of_ble_eq_true rfl, Nat.le_of_ble_eq_true rfl⟩) ⟨fun a U g mk q => by obtain ⟨q0, q1, qP, qK, qD, qN⟩ := q; exact ⟨q0, q1, qP, va_K.moved (u := U) (U := U.calling g mk a) (Vm.Alike.refl U.vm) qK, qD, qN.same rfl⟩, va_recv hK hP (ci := 13) (q0 := h0) rfl (Wd_ob kg_57 sg_57 (by decide)), fun U hU hW => ⟨rfl, by rw [hU], by rw [hU]; exact hP, va_K.moved hW.alike hK, hD.weaken (fun _ _ _ _ => trivial), hN.warm hW⟩⟩ rfl rfl hl.1 rfl (lv_room (Nat.le_of_ble_eq_true rfl)) dX13_operate_74 ⟨Nat.le_of_ble_eq_true rfl, Nat.le_of_ble_eq_true rfl⟩) hS (fun q _ h => hFc q h) hFc (fun u t H_62 locs ht hvm hw hB hz1 hk1 hS2 => ?_)
            obtain ⟨hP1, -, hD1⟩ := hB
            rw [ht] at hP1
            replace hD := hD1.weaken (fun _ _ _ h => hFc _ h)
            replace hP := hP1
            replace hS := hS2
            clear hP1 hD1 hS2 hFc hfc hz1 hk1 hvm ht
            refine lv_goto (tgt := 266) hx hb dX13_operate_77 (by decide) ?_
            obtain ⟨h8, h9⟩ := ret_some hf
            rw [h8]
            exact W.vret hx hb hr (fun t ht hW => ⟨⟨(), rfl, trivial, by rw [ht]; exact hP, va_K.moved hW.alike hK, hD⟩, hS.F ht⟩) hS.2.2 dX13_operate_266
        refine lv_icmp_le (tgt := 59) hx hb dX13_operate_51 (by decide) (fun c_63 => ?_) (fun c_63 => ?_)
        · skip
          rw [if_pos c_63] at hf
          exact B59 (z) ls H locs ⟨lv_sub hl [0] rfl, hP, hD, hS⟩ hf
        · skip
          rw [if_neg c_63] at hf
          refine lv_aload_n hx hb dX13_operate_54 rfl (lv_at hl 0 rfl) ?_
          refine lv_lconst (v := 1) hx hb dX13_operate_55 (by decide) ?_
          obtain ⟨g_65, hf⟩ := grd_some hf
          obtain ⟨kg_65, sg_65⟩ := okO_at g_65
          obtain ⟨z_64, _u, hfc, hf⟩ := cal_some hf
          have hFc := de_free hD hS hA
          refine va_callv (va_runV (As := [.long 1]) (rest := []) ⟨hx, hb, hml, hown, hts⟩ (de_X13_take_ l dC dI cy a sh n H.size F z h0 1 hfc) (cwV 1 hts gX13_operate_X13_take_ rfl rfl rfl (by decide +kernel) ⟨Nat.le_of_ble_eq_true rfl, Nat.le_of_ble_eq_true rfl⟩) ⟨fun a U g mk q => by obtain ⟨q0, q1, qP, qK, qD, qN⟩ := q; exact ⟨q0, q1, qP, va_K.moved (u := U) (U := U.calling g mk a) (Vm.Alike.refl U.vm) qK, qD, qN.same rfl⟩, va_recv hK hP (ci := 13) (q0 := h0) rfl (Wd_ob kg_65 sg_65 (by decide)), fun U hU hW => ⟨rfl, by rw [hU], by rw [hU]; exact hP, va_K.moved hW.alike hK, hD.weaken (fun _ _ _ _ => trivial), hN.warm hW⟩⟩ rfl rfl hl.1 rfl (lv_room (Nat.le_of_ble_eq_true rfl)) dX13_operate_56 ⟨Nat.le_of_ble_eq_true rfl, Nat.le_of_ble_eq_true rfl⟩) hS (fun q _ h => hFc q h) hFc (fun u t H_66 locs ht hvm hw hB hz1 hk1 hS2 => ?_)
          obtain ⟨hP1, -, hD1⟩ := hB
          rw [ht] at hP1
          replace hD := hD1.weaken (fun _ _ _ h => hFc _ h)
          replace hP := hP1
          replace hS := hS2
          clear hP1 hD1 hS2 hFc hfc hz1 hk1 hvm ht
          exact B59 (z_64) ls H_66 locs ⟨lv_sub hl [0] rfl, hP, hD, hS⟩ hf
    · skip
      rw [if_pos c_2] at hf
      refine lv_aload_n hx hb dX13_operate_37 rfl (lv_at hl 0 rfl) ?_
      obtain ⟨g_68, hf⟩ := grd_some hf
      obtain ⟨kg_68, sg_68⟩ := okO_at g_68
      obtain ⟨z_67, _u, hfc, hf⟩ := cal_some hf
      have hFc := de_free hD hS hA
      refine va_callv (va_runV (As := []) (rest := []) ⟨hx, hb, hml, hown, hts⟩ (de_X13_giveBack l dC dI cy a sh n H.size F z h0 hfc) (cwV 0 hts gX13_operate_X13_giveBack rfl rfl rfl (by decide +kernel) ⟨Nat.le_of_ble_eq_true rfl, Nat.le_of_ble_eq_true rfl⟩) ⟨fun a U g mk q => by obtain ⟨q0, q1, qP, qK, qD, qN⟩ := q; exact ⟨q0, q1, qP, va_K.moved (u := U) (U := U.calling g mk a) (Vm.Alike.refl U.vm) qK, qD, qN.same rfl⟩, va_recv hK hP (ci := 13) (q0 := h0) rfl (Wd_ob kg_68 sg_68 (by decide)), fun U hU hW => ⟨rfl, by rw [hU], by rw [hU]; exact hP, va_K.moved hW.alike hK, hD.weaken (fun _ _ _ _ => trivial), hN.warm hW⟩⟩ rfl rfl hl.1 rfl (lv_room (Nat.le_of_ble_eq_true rfl)) dX13_operate_38 ⟨Nat.le_of_ble_eq_true rfl, Nat.le_of_ble_eq_true rfl⟩) hS (fun q _ h => hFc q h) hFc (fun u t H_69 locs ht hvm hw hB hz1 hk1 hS2 => ?_)
      obtain ⟨hP1, -, hD1⟩ := hB
      rw [ht] at hP1
      replace hD := hD1.weaken (fun _ _ _ h => hFc _ h)
      replace hP := hP1
      replace hS := hS2
      clear hP1 hD1 hS2 hFc hfc hz1 hk1 hvm ht
      refine lv_goto (tgt := 266) hx hb dX13_operate_41 (by decide) ?_
      obtain ⟨h8, h9⟩ := ret_some hf
      rw [h8]
      exact W.vret hx hb hr (fun t ht hW => ⟨⟨(), rfl, trivial, by rw [ht]; exact hP, va_K.moved hW.alike hK, hD⟩, hS.F ht⟩) hS.2.2 dX13_operate_266
  · skip
    rw [if_pos c_1] at hf
    refine lv_aload_n hx hb dX13_operate_4 rfl (lv_at hl 0 rfl) ?_
    obtain ⟨g_71, hf⟩ := grd_some hf
    obtain ⟨kg_71, sg_71⟩ := okO_at g_71
    obtain ⟨z_70, _u, hfc, hf⟩ := cal_some hf
    have hFc := de_free hD hS hA
    refine va_callv (va_runV (As := []) (rest := []) ⟨hx, hb, hml, hown, hts⟩ (de_X13_take l dC dI cy a sh n H.size F z h0 hfc) (cwV 0 hts gX13_operate_X13_take rfl rfl rfl (by decide +kernel) ⟨Nat.le_of_ble_eq_true rfl, Nat.le_of_ble_eq_true rfl⟩) ⟨fun a U g mk q => by obtain ⟨q0, q1, qP, qK, qD, qN⟩ := q; exact ⟨q0, q1, qP, va_K.moved (u := U) (U := U.calling g mk a) (Vm.Alike.refl U.vm) qK, qD, qN.same rfl⟩, va_recv hK hP (ci := 13) (q0 := h0) rfl (Wd_ob kg_71 sg_71 (by decide)), fun U hU hW => ⟨rfl, by rw [hU], by rw [hU]; exact hP, va_K.moved hW.alike hK, hD.weaken (fun _ _ _ _ => trivial), hN.warm hW⟩⟩ rfl rfl hl.1 rfl (lv_room (Nat.le_of_ble_eq_true rfl)) dX13_operate_5 ⟨Nat.le_of_ble_eq_true rfl, Nat.le_of_ble_eq_true rfl⟩) hS (fun q _ h => hFc q h) hFc (fun u t H_72 locs ht hvm hw hB hz1 hk1 hS2 => ?_)
    obtain ⟨hP1, -, hD1⟩ := hB
    rw [ht] at hP1
    replace hD := hD1.weaken (fun _ _ _ h => hFc _ h)
    replace hP := hP1
    replace hS := hS2
    clear hP1 hD1 hS2 hFc hfc hz1 hk1 hvm ht
    refine lv_aload_n hx hb dX13_operate_8 rfl (lv_at hl 0 rfl) ?_
    refine va_get (D := (dC, dI)) (ci := 13) (v := .int (z_70.1 h0 18)) (C := RX13) (T := TX13) (N := 22) hx hb hts iwd_X13_operate_X13 hown hK hP h0 (Wd_ob kg_71 sg_71 (by decide)) rfl 18 (by decide) (hts _ md_X13_operate_1) (fun _ h9 => h9) (fl_at (t := 0) rfl) dX13_operate_9 ?_
    refine lv_if_ne (tgt := 266) hx hb dX13_operate_12 (by decide) (fun c_73 => ?_) (fun c_73 => ?_)
    · skip
      rw [if_neg c_73] at hf
      obtain ⟨h8, h9⟩ := ret_some hf
      rw [h8]
      exact W.vret hx hb hr (fun t ht hW => ⟨⟨(), rfl, trivial, by rw [ht]; exact hP, va_K.moved hW.alike hK, hD⟩, hS.F ht⟩) hS.2.2 dX13_operate_266
    · skip
      rw [if_pos c_73] at hf
      refine lv_aload_n hx hb dX13_operate_15 rfl (lv_at hl 0 rfl) ?_
      refine lv_aload_n hx hb dX13_operate_16 rfl (lv_at hl 0 rfl) ?_
      refine lv_aload_n hx hb dX13_operate_17 rfl (lv_at hl 0 rfl) ?_
      refine va_get (D := (dC, dI)) (ci := 13) (v := .long (z_70.2.1 h0 19)) (C := RX13) (T := TX13) (N := 22) hx hb hts iwd_X13_operate_X13 hown hK hP h0 (Wd_ob kg_71 sg_71 (by decide)) rfl 19 (by decide) (hts _ md_X13_operate_2) (fun _ h9 => h9) (fl_at (t := 1) rfl) dX13_operate_18 ?_
      refine lv_iconst (v := 2) hx hb dX13_operate_21 (by decide) ?_
      obtain ⟨z_74, r_75, hfc, hf⟩ := cal_some hf
      have hFc := de_free hD hS hA
      refine va_calli (va_runV (As := [.long (z_70.2.1 h0 19), .int 2]) (rest := [.ref (a h0)]) ⟨hx, hb, hml, hown, hts⟩ (de_X13_has l dC dI cy a sh n H_72.size F z_70 h0 (z_70.2.1 h0 19) 2 hfc) (cwV 2 hts gX13_operate_X13_has rfl rfl rfl (by decide +kernel) ⟨Nat.le_of_ble_eq_true rfl, Nat.le_of_ble_eq_true rfl⟩) ⟨fun a U g mk q => by obtain ⟨q0, q1, qP, qK, qD, qN⟩ := q; exact ⟨q0, q1, qP, va_K.moved (u := U) (U := U.calling g mk a) (Vm.Alike.refl U.vm) qK, qD, qN.same rfl⟩, va_recv hK hP (ci := 13) (q0 := h0) rfl (Wd_ob kg_71 sg_71 (by decide)), fun U hU hW => ⟨rfl, by rw [hU], by rw [hU]; exact hP, va_K.moved hW.alike hK, hD.weaken (fun _ _ _ _ => trivial), hN.warm hW⟩⟩ rfl rfl hl.1 rfl (lv_room (Nat.le_of_ble_eq_true rfl)) dX13_operate_22 ⟨Nat.le_of_ble_eq_true rfl, Nat.le_of_ble_eq_true rfl⟩) hS (fun q _ h => hFc q h) hFc (fun rr u t H_76 locs ht hvm hw hB hz1 hk1 hS2 => ?_)
      rw [hw]
      clear hw
      obtain ⟨hP1, -, hD1⟩ := hB
      rw [ht] at hP1
      replace hD := hD1.weaken (fun _ _ _ h => hFc _ h)
      replace hP := hP1
      replace hS := hS2
      clear hP1 hD1 hS2 hFc hfc hz1 hk1 hvm ht
      refine lv_iconst (v := 4) hx hb dX13_operate_25 (by decide) ?_
      obtain ⟨z_77, _u, hfc, hf⟩ := cal_some hf
      have hFc := de_free hD hS hA
      refine va_callv (va_runV (As := [.int r_75, .int 4]) (rest := []) ⟨hx, hb, hml, hown, hts⟩ (de_X13_need l dC dI cy a sh n H_76.size F z_74 h0 r_75 4 hfc) (cwV 2 hts gX13_operate_X13_need rfl rfl rfl (by decide +kernel) ⟨Nat.le_of_ble_eq_true rfl, Nat.le_of_ble_eq_true rfl⟩) ⟨fun a U g mk q => by obtain ⟨q0, q1, qP, qK, qD, qN⟩ := q; exact ⟨q0, q1, qP, va_K.moved (u := U) (U := U.calling g mk a) (Vm.Alike.refl U.vm) qK, qD, qN.same rfl⟩, va_recv hK hP (ci := 13) (q0 := h0) rfl (Wd_ob kg_71 sg_71 (by decide)), fun U hU hW => ⟨rfl, by rw [hU], by rw [hU]; exact hP, va_K.moved hW.alike hK, hD.weaken (fun _ _ _ _ => trivial), hN.warm hW⟩⟩ rfl rfl hl.1 rfl (lv_room (Nat.le_of_ble_eq_true rfl)) dX13_operate_26 ⟨Nat.le_of_ble_eq_true rfl, Nat.le_of_ble_eq_true rfl⟩) hS (fun q _ h => hFc q h) hFc (fun u t H_78 locs ht hvm hw hB hz1 hk1 hS2 => ?_)
      obtain ⟨hP1, -, hD1⟩ := hB
      rw [ht] at hP1
      replace hD := hD1.weaken (fun _ _ _ h => hFc _ h)
      replace hP := hP1
      replace hS := hS2
      clear hP1 hD1 hS2 hFc hfc hz1 hk1 hvm ht
      refine lv_goto (tgt := 266) hx hb dX13_operate_29 (by decide) ?_
      obtain ⟨h8, h9⟩ := ret_some hf
      rw [h8]
      exact W.vret hx hb hr (fun t ht hW => ⟨⟨(), rfl, trivial, by rw [ht]; exact hP, va_K.moved hW.alike hK, hD⟩, hS.F ht⟩) hS.2.2 dX13_operate_266

theorem md_X18_one_1 : (.fieldLink RX18 444 "ResourceLedgerModel" "frameFunctions" "[I" : Cond) ∈ wsX18_one := List.mem_of_getElem? (i := 1) rfl
theorem iwd_X18_one_X18 : ∀ w ∈ wsX180, w ∈ wsX18_one := fun _ h => List.mem_cons_of_mem _ (List.mem_append_left _ (List.mem_append_left _ (List.mem_append_left _ (List.mem_append_left _ (List.mem_append_right _ h)))))
theorem md_X18_one_2 : (.fieldLink RX18 328 "ResourceLedgerModel" "frames" "I" : Cond) ∈ wsX18_one := List.mem_of_getElem? (i := 2) rfl
theorem md_X18_one_3 : (.fieldLink RX18 447 "ResourceLedgerModel" "nexts" "[I" : Cond) ∈ wsX18_one := List.mem_of_getElem? (i := 3) rfl
theorem md_X18_one_4 : (.fieldLink RX18 17 "ResourceLedgerModel" "units" "[LResourceLedgerModel$Unit;" : Cond) ∈ wsX18_one := List.mem_of_getElem? (i := 4) rfl
theorem md_X18_one_5 : (.fieldLink RX18 441 "ResourceLedgerModel" "frameUnits" "[I" : Cond) ∈ wsX18_one := List.mem_of_getElem? (i := 5) rfl
theorem md_X18_one_6 : (.fieldLink RX18 369 "ResourceLedgerModel" "unit" "LResourceLedgerModel$Unit;" : Cond) ∈ wsX18_one := List.mem_of_getElem? (i := 6) rfl
theorem md_X18_one_9 : (.fieldLink RX18 40 "ResourceLedgerModel" "trees" "LResourceLedgerModel$Trees;" : Cond) ∈ wsX18_one := List.mem_of_getElem? (i := 9) rfl
theorem iwd_X18_one_X15 : ∀ w ∈ wsX150, w ∈ wsX18_one := fun _ h => List.mem_cons_of_mem _ (List.mem_append_left _ (List.mem_append_left _ (List.mem_append_left _ (List.mem_append_right _ h))))
theorem md_X18_one_7 : (.fieldLink RX18 312 "ResourceLedgerModel" "height" "I" : Cond) ∈ wsX18_one := List.mem_of_getElem? (i := 7) rfl
theorem md_X18_one_8 : (.fieldLink RX18 325 "ResourceLedgerModel" "bases" "[I" : Cond) ∈ wsX18_one := List.mem_of_getElem? (i := 8) rfl
set_option maxHeartbeats 4000000 in
set_option maxRecDepth 100000 in
theorem de_X18_one (l : Launch) (dC : Nat → ClassId) (dI : Nat → Nat → Nat) (cy : Nat → ClassId) (a : Nat → Nat) (sh : Nat → Nat × Nat) (n sz : Nat) (F : Nat) (sk : Nat → Nat) (z : St) (h0 : Nat) {z8 : St} {r8 : Unit} (hf : fn_X18_one F sh n z h0 = some (z8, r8)) : Met l yX18_one wsX18_one ({ frames := 54, cells := 0, slots := 0, locals := 1252 }) (va_Pc [.ref (a h0)] (fun U => U.heap.size = sz ∧ va_P (dC, dI) vwCl (Wd cy a sh n z) U.heap ∧ va_K (dC, dI) vwCl (TYS cy) U ∧ va_D (fun _ => True) (Wd cy a sh n z) ∧ NK U ∧ SKs sk (a CBK) (va_A (Wd cy a sh n z) sz) U U.heap)) (va_Qv (fun u : Unit => True) (fun u t => va_P (dC, dI) vwCl (Wd cy a sh n z8) t.heap ∧ va_K (dC, dI) vwCl (TYS cy) t ∧ va_D (va_A (Wd cy a sh n z) sz) (Wd cy a sh n z8)) (va_A (Wd cy a sh n z) sz)) 0 0 (va_A (Wd cy a sh n z) sz) := by
  refine Met.ofW (cc := cX18_one) (maxL := 8) (ret := none) (by decide) rfl ?_
  intro p e s m args below meth c s₁ B hml hv
  obtain ⟨rfl, hsz, hP, hK, hD0, hN, hSK⟩ := hv
  have hx := B.exec
  have hb := B.bytes
  have hr := B.returns
  have hts := atoms_spec (ws := wsX18_one) B.pre
  have hown : s.vm.findClass RX18 = some m.cls := findClass_of_methodNamed B.named
  have hlocks := B.notSynchronized
  subst hsz
  have hD := hD0.self (sz := s.heap.size)
  clear hD0
  generalize hAe : va_A (Wd cy a sh n z) s.heap.size = A at hD hSK ⊢
  have hA : ∀ q : Nat, s.heap.size ≤ q → A q := fun q h => by rw [← hAe]; exact Or.inr h
  clear hAe
  have hS : va_S A s.heap s.heap [] := va_S.rf
  have hl := lv_entry ([.ref (a h0)]) (n := 8) (Nat.le_of_ble_eq_true rfl)
  rw [lg_entry_eq]
  generalize (lg_sl ([.ref (a h0)]) ++ List.replicate (8 - (lg_sl ([.ref (a h0)])).length) Slot.unset).toArray = ls at hl ⊢
  replace hl : lv_has ls 8 [(0, .ref (a h0))] := hl
  unfold fn_X18_one at hf
  refine de_start hS hP (fun H locs hS hP => ?_)
  refine lv_aload_n hx hb dX18_one_0 rfl (lv_at hl 0 rfl) ?_
  obtain ⟨g_1, hf⟩ := grd_some hf
  obtain ⟨kg_1, sg_1⟩ := okO_at g_1
  obtain ⟨k_2, ek_2, hf⟩ := lnk_some hf
  refine va_get (D := (dC, dI)) (ci := 18) (v := .ref (a k_2)) (C := RX18) (T := TX18) (N := 78) hx hb hts iwd_X18_one_X18 hown hK hP h0 (Wd_ob kg_1 sg_1 (by decide)) rfl 38 (by decide) (hts _ md_X18_one_1) (fun _ h9 => h9) (fl_q rfl ek_2) dX18_one_1 ?_
  refine lv_aload_n hx hb dX18_one_4 rfl (lv_at hl 0 rfl) ?_
  refine va_get (D := (dC, dI)) (ci := 18) (v := .int (z.1 h0 36)) (C := RX18) (T := TX18) (N := 78) hx hb hts iwd_X18_one_X18 hown hK hP h0 (Wd_ob kg_1 sg_1 (by decide)) rfl 36 (by decide) (hts _ md_X18_one_2) (fun _ h9 => h9) (fl_at (t := 0) rfl) dX18_one_5 ?_
  refine lv_iconst (v := 1) hx hb dX18_one_8 (by decide) ?_
  refine lv_isub hx hb dX18_one_9 ?_
  obtain ⟨g_3, hf⟩ := grd_some hf
  obtain ⟨kg_3, sg_3, ig_3⟩ := okA_at g_3
  refine va_iald hx hb hK hP k_2 1 (Wd_ai kg_3 sg_3) rfl ig_3 dX18_one_10 ?_
  refine lv_topi (fun v_4 ev_4 => ?_)
  replace hf := lt_at ev_4 hf
  clear ev_4
  refine lv_istore_n (lv' := [(1, .int v_4), (0, .ref (a h0))]) hx hb dX18_one_11 rfl hl (by decide) rfl (fun ls hl2 => ?_)
  replace hl := hl2
  clear hl2
  refine lv_aload_n hx hb dX18_one_12 rfl (lv_at hl 1 rfl) ?_
  obtain ⟨k_5, ek_5, hf⟩ := lnk_some hf
  refine va_get (D := (dC, dI)) (ci := 18) (v := .ref (a k_5)) (C := RX18) (T := TX18) (N := 78) hx hb hts iwd_X18_one_X18 hown hK hP h0 (Wd_ob kg_1 sg_1 (by decide)) rfl 39 (by decide) (hts _ md_X18_one_3) (fun _ h9 => h9) (fl_q rfl ek_5) dX18_one_13 ?_
  refine lv_aload_n hx hb dX18_one_16 rfl (lv_at hl 1 rfl) ?_
  refine va_get (D := (dC, dI)) (ci := 18) (v := .int (z.1 h0 36)) (C := RX18) (T := TX18) (N := 78) hx hb hts iwd_X18_one_X18 hown hK hP h0 (Wd_ob kg_1 sg_1 (by decide)) rfl 36 (by decide) (hts _ md_X18_one_2) (fun _ h9 => h9) (fl_at (t := 0) rfl) dX18_one_17 ?_
  refine lv_iconst (v := 1) hx hb dX18_one_20 (by decide) ?_
  refine lv_isub hx hb dX18_one_21 ?_
  obtain ⟨g_6, hf⟩ := grd_some hf
  obtain ⟨kg_6, sg_6, ig_6⟩ := okA_at g_6
  refine va_iald hx hb hK hP k_5 1 (Wd_ai kg_6 sg_6) rfl ig_6 dX18_one_22 ?_
  refine lv_topi (fun v_7 ev_7 => ?_)
  replace hf := lt_at ev_7 hf
  clear ev_7
  refine lv_istore_n (lv' := [(2, .int v_7), (1, .int v_4), (0, .ref (a h0))]) hx hb dX18_one_23 rfl hl (by decide) rfl (fun ls hl2 => ?_)
  replace hl := hl2
  clear hl2
  refine lv_aload_n hx hb dX18_one_24 rfl (lv_at hl 2 rfl) ?_
  refine lv_aload_n hx hb dX18_one_25 rfl (lv_at hl 2 rfl) ?_
  obtain ⟨k_8, ek_8, hf⟩ := lnk_some hf
  refine va_get (D := (dC, dI)) (ci := 18) (v := .ref (a k_8)) (C := RX18) (T := TX18) (N := 78) hx hb hts iwd_X18_one_X18 hown hK hP h0 (Wd_ob kg_1 sg_1 (by decide)) rfl 4 (by decide) (hts _ md_X18_one_4) (fun _ h9 => h9) (fl_q rfl ek_8) dX18_one_26 ?_
  refine lv_aload_n hx hb dX18_one_29 rfl (lv_at hl 2 rfl) ?_
  obtain ⟨k_9, ek_9, hf⟩ := lnk_some hf
  refine va_get (D := (dC, dI)) (ci := 18) (v := .ref (a k_9)) (C := RX18) (T := TX18) (N := 78) hx hb hts iwd_X18_one_X18 hown hK hP h0 (Wd_ob kg_1 sg_1 (by decide)) rfl 37 (by decide) (hts _ md_X18_one_5) (fun _ h9 => h9) (fl_q rfl ek_9) dX18_one_30 ?_
  refine lv_aload_n hx hb dX18_one_33 rfl (lv_at hl 2 rfl) ?_
  refine va_get (D := (dC, dI)) (ci := 18) (v := .int (z.1 h0 36)) (C := RX18) (T := TX18) (N := 78) hx hb hts iwd_X18_one_X18 hown hK hP h0 (Wd_ob kg_1 sg_1 (by decide)) rfl 36 (by decide) (hts _ md_X18_one_2) (fun _ h9 => h9) (fl_at (t := 0) rfl) dX18_one_34 ?_
  refine lv_iconst (v := 1) hx hb dX18_one_37 (by decide) ?_
  refine lv_isub hx hb dX18_one_38 ?_
  obtain ⟨g_10, hf⟩ := grd_some hf
  obtain ⟨kg_10, sg_10, ig_10⟩ := okA_at g_10
  refine va_iald hx hb hK hP k_9 1 (Wd_ai kg_10 sg_10) rfl ig_10 dX18_one_39 ?_
  obtain ⟨g_11, hf⟩ := grd_some hf
  obtain ⟨kg_11, sg_11, ig_11⟩ := okA_at g_11
  obtain ⟨k_12, ek_12, hf⟩ := lnk_some hf
  refine va_aldq (C := RX16) hx hb hK hP k_8 6 (Wd_aq kg_11 sg_11 (by decide)) rfl ig_11 dX18_one_40 ?_
  refine W.eq (g2 := F0 m 41 ls [.ref (a k_12), .ref (a h0)]) (by rw [ek_12]; rfl) ?_
  refine va_put (D := (dC, dI)) (ci := 18) (v := .ref (a k_12)) (ty := .object "ResourceLedgerModel$Unit") (C := RX18) (T := TX18) (N := 78) hx hb hts iwd_X18_one_X18 tyX18 tyX18_ok nmX18 hown hK hP hD hS h0 (Wd_ob kg_1 sg_1 (by decide)) rfl 48 (by decide) (hts _ md_X18_one_6) (fun _ h9 => h9) rfl (by decide +kernel) rfl rfl (by rw [fl_len]; decide) dX18_one_41 (fun H_13 locs hP2 hD2 hS2 => ?_)
  rw [Wd_sq1 sg_1 (by decide) rfl] at hP2 hD2
  obtain ⟨z_14, ez_14⟩ : ∃ w, w = sq z h0 48 (some k_12) := ⟨_, rfl⟩
  rw [← ez_14] at hP2 hD2
  replace hf := lt_at ez_14 hf
  clear ez_14
  replace hP := hP2
  replace hD := hD2
  replace hS := hS2
  clear hP2 hD2 hS2
  refine lv_iload_n hx hb dX18_one_44 rfl (lv_at hl 0 rfl) ?_
  refine lv_aload_n hx hb dX18_one_45 rfl (lv_at hl 2 rfl) ?_
  obtain ⟨k_15, ek_15, hf⟩ := lnk_some hf
  refine va_get (D := (dC, dI)) (ci := 18) (v := .ref (a k_15)) (C := RX18) (T := TX18) (N := 78) hx hb hts iwd_X18_one_X18 hown hK hP h0 (Wd_ob kg_1 sg_1 (by decide)) rfl 48 (by decide) (hts _ md_X18_one_6) (fun _ h9 => h9) (fl_q rfl ek_15) dX18_one_46 ?_
  refine lv_iload_n hx hb dX18_one_49 rfl (lv_at hl 1 rfl) ?_
  obtain ⟨g_18, hf⟩ := grd_some hf
  obtain ⟨kg_18, sg_18⟩ := okO_at g_18
  obtain ⟨z_16, r_17, hfc, hf⟩ := cal_some hf
  have hFc := de_free hD hS hA
  refine va_calli (va_runV (As := [.int v_4]) (rest := [.int v_7]) ⟨hx, hb, hml, hown, hts⟩ (de_X16_instructions l dC dI cy a sh n H_13.size F z_14 k_15 v_4 hfc) (cwV 1 hts gX18_one_X16_instructions rfl rfl rfl (by decide +kernel) ⟨Nat.le_of_ble_eq_true rfl, Nat.le_of_ble_eq_true rfl⟩) ⟨fun a U g mk q => by obtain ⟨q0, q1, qP, qK, qD, qN⟩ := q; exact ⟨q0, q1, qP, va_K.moved (u := U) (U := U.calling g mk a) (Vm.Alike.refl U.vm) qK, qD, qN.same rfl⟩, va_recv hK hP (ci := 16) (q0 := k_15) rfl (Wd_ob kg_18 sg_18 (by decide)), fun U hU hW => ⟨rfl, by rw [hU], by rw [hU]; exact hP, va_K.moved hW.alike hK, hD.weaken (fun _ _ _ _ => trivial), hN.warm hW⟩⟩ rfl rfl hl.1 rfl (lv_room (Nat.le_of_ble_eq_true rfl)) dX18_one_50 ⟨Nat.le_of_ble_eq_true rfl, Nat.le_of_ble_eq_true rfl⟩) hS (fun q _ h => hFc q h) hFc (fun rr u t H_19 locs ht hvm hw hB hz1 hk1 hS2 => ?_)
  rw [hw]
  clear hw
  obtain ⟨hP1, -, hD1⟩ := hB
  rw [ht] at hP1
  replace hD := hD1.weaken (fun _ _ _ h => hFc _ h)
  replace hP := hP1
  replace hS := hS2
  clear hP1 hD1 hS2 hFc hfc hz1 hk1 hvm ht
  refine de_cut (h := 60) (fun (x : St) => []) (fun x ls H locs => lv_has ls 8 [(2, .int v_7), (1, .int v_4), (0, .ref (a h0))] ∧ va_P (dC, dI) vwCl (Wd cy a sh n x) H ∧ va_D A (Wd cy a sh n x) ∧ va_S A s.heap H locs) (fun x => fn_X18_one_B60 F sh n h0 v_7 v_4 x) (z8, r8) ?_ (fun B60 => ?_)
  · intro x ls H locs hI hf
    obtain ⟨z_20, ez⟩ : ∃ w, w = x := ⟨_, rfl⟩
    subst ez
    obtain ⟨hl2, hP2, hD2, hS2⟩ := hI
    replace hl : lv_has ls 8 [(2, .int v_7), (1, .int v_4), (0, .ref (a h0))] := hl2
    replace hP := hP2
    replace hD := hD2
    replace hS := hS2
    clear hl2 hP2 hD2 hS2
    replace hf := fn_X18_one_B60_s hf
    refine W.eq (g2 := F0 m 60 ls []) rfl ?_
    refine lv_aload_n hx hb dX18_one_60 rfl (lv_at hl 2 rfl) ?_
    refine lv_iconst (v := 1) hx hb dX18_one_61 (by decide) ?_
    obtain ⟨z_21, r_22, hfc, hf⟩ := cal_some hf
    have hFc := de_free hD hS hA
    refine va_calli (va_runV (As := [.int 1]) (rest := []) ⟨hx, hb, hml, hown, hts⟩ (de_X18_spend l dC dI cy a sh n H.size F z_20 h0 1 hfc) (cwV 1 hts gX18_one_X18_spend rfl rfl rfl (by decide +kernel) ⟨Nat.le_of_ble_eq_true rfl, Nat.le_of_ble_eq_true rfl⟩) ⟨fun a U g mk q => by obtain ⟨q0, q1, qP, qK, qD, qN⟩ := q; exact ⟨q0, q1, qP, va_K.moved (u := U) (U := U.calling g mk a) (Vm.Alike.refl U.vm) qK, qD, qN.same rfl⟩, va_recv hK hP (ci := 18) (q0 := h0) rfl (Wd_ob kg_1 sg_1 (by decide)), fun U hU hW => ⟨rfl, by rw [hU], by rw [hU]; exact hP, va_K.moved hW.alike hK, hD.weaken (fun _ _ _ _ => trivial), hN.warm hW⟩⟩ rfl rfl hl.1 rfl (lv_room (Nat.le_of_ble_eq_true rfl)) dX18_one_62 ⟨Nat.le_of_ble_eq_true rfl, Nat.le_of_ble_eq_true rfl⟩) hS (fun q _ h => hFc q h) hFc (fun rr u t H_23 locs ht hvm hw hB hz1 hk1 hS2 => ?_)
    rw [hw]
    clear hw
    obtain ⟨hP1, -, hD1⟩ := hB
    rw [ht] at hP1
    replace hD := hD1.weaken (fun _ _ _ h => hFc _ h)
    replace hP := hP1
    replace hS := hS2
    clear hP1 hD1 hS2 hFc hfc hz1 hk1 hvm ht
    refine lv_if_ne (tgt := 69) hx hb dX18_one_65 (by decide) (fun c_24 => ?_) (fun c_24 => ?_)
    · skip
      rw [if_neg c_24] at hf
      refine lv_aload_n hx hb dX18_one_69 rfl (lv_at hl 2 rfl) ?_
      obtain ⟨k_25, ek_25, hf⟩ := lnk_some hf
      refine va_get (D := (dC, dI)) (ci := 18) (v := .ref (a k_25)) (C := RX18) (T := TX18) (N := 78) hx hb hts iwd_X18_one_X18 hown hK hP h0 (Wd_ob kg_1 sg_1 (by decide)) rfl 39 (by decide) (hts _ md_X18_one_3) (fun _ h9 => h9) (fl_q rfl ek_25) dX18_one_70 ?_
      refine lv_aload_n hx hb dX18_one_73 rfl (lv_at hl 2 rfl) ?_
      refine va_get (D := (dC, dI)) (ci := 18) (v := .int (z_21.1 h0 36)) (C := RX18) (T := TX18) (N := 78) hx hb hts iwd_X18_one_X18 hown hK hP h0 (Wd_ob kg_1 sg_1 (by decide)) rfl 36 (by decide) (hts _ md_X18_one_2) (fun _ h9 => h9) (fl_at (t := 0) rfl) dX18_one_74 ?_
      refine lv_iconst (v := 1) hx hb dX18_one_77 (by decide) ?_
      refine lv_isub hx hb dX18_one_78 ?_
      refine lv_iload_n hx hb dX18_one_79 rfl (lv_at hl 0 rfl) ?_
      refine lv_iconst (v := 1) hx hb dX18_one_80 (by decide) ?_
      refine lv_iadd hx hb dX18_one_81 ?_
      obtain ⟨g_26, hf⟩ := grd_some hf
      obtain ⟨kg_26, sg_26, ig_26⟩ := okA_at g_26
      refine va_iast hx hb hK hP hD hS k_25 1 (Wd_ai kg_26 sg_26) rfl ig_26 dX18_one_82 (fun H_27 locs hP2 hD2 hS2 => ?_)
      rw [Wd_ti sg_26] at hP2 hD2
      obtain ⟨z_28, ez_28⟩ : ∃ w, w = si z_21 k_25 ((z_21.1 h0 36) - 1).toNatClampNeg (v_7 + 1) := ⟨_, rfl⟩
      rw [← ez_28] at hP2 hD2
      replace hf := lt_at ez_28 hf
      clear ez_28
      replace hP := hP2
      replace hD := hD2
      replace hS := hS2
      clear hP2 hD2 hS2
      refine lv_aload_n hx hb dX18_one_83 rfl (lv_at hl 2 rfl) ?_
      obtain ⟨k_29, ek_29, hf⟩ := lnk_some hf
      refine va_get (D := (dC, dI)) (ci := 18) (v := .ref (a k_29)) (C := RX18) (T := TX18) (N := 78) hx hb hts iwd_X18_one_X18 hown hK hP h0 (Wd_ob kg_1 sg_1 (by decide)) rfl 48 (by decide) (hts _ md_X18_one_6) (fun _ h9 => h9) (fl_q rfl ek_29) dX18_one_84 ?_
      refine lv_iload_n hx hb dX18_one_87 rfl (lv_at hl 1 rfl) ?_
      refine lv_iload_n hx hb dX18_one_88 rfl (lv_at hl 0 rfl) ?_
      obtain ⟨g_32, hf⟩ := grd_some hf
      obtain ⟨kg_32, sg_32⟩ := okO_at g_32
      obtain ⟨z_30, r_31, hfc, hf⟩ := cal_some hf
      have hFc := de_free hD hS hA
      refine va_calli (va_runV (As := [.int v_4, .int v_7]) (rest := []) ⟨hx, hb, hml, hown, hts⟩ (de_X16_operation l dC dI cy a sh n H_27.size F z_28 k_29 v_4 v_7 hfc) (cwV 2 hts gX18_one_X16_operation rfl rfl rfl (by decide +kernel) ⟨Nat.le_of_ble_eq_true rfl, Nat.le_of_ble_eq_true rfl⟩) ⟨fun a U g mk q => by obtain ⟨q0, q1, qP, qK, qD, qN⟩ := q; exact ⟨q0, q1, qP, va_K.moved (u := U) (U := U.calling g mk a) (Vm.Alike.refl U.vm) qK, qD, qN.same rfl⟩, va_recv hK hP (ci := 16) (q0 := k_29) rfl (Wd_ob kg_32 sg_32 (by decide)), fun U hU hW => ⟨rfl, by rw [hU], by rw [hU]; exact hP, va_K.moved hW.alike hK, hD.weaken (fun _ _ _ _ => trivial), hN.warm hW⟩⟩ rfl rfl hl.1 rfl (lv_room (Nat.le_of_ble_eq_true rfl)) dX18_one_89 ⟨Nat.le_of_ble_eq_true rfl, Nat.le_of_ble_eq_true rfl⟩) hS (fun q _ h => hFc q h) hFc (fun rr u t H_33 locs ht hvm hw hB hz1 hk1 hS2 => ?_)
      rw [hw]
      clear hw
      obtain ⟨hP1, -, hD1⟩ := hB
      rw [ht] at hP1
      replace hD := hD1.weaken (fun _ _ _ h => hFc _ h)
      replace hP := hP1
      replace hS := hS2
      clear hP1 hD1 hS2 hFc hfc hz1 hk1 hvm ht
      refine lv_istore_n (lv' := [(3, .int r_31), (2, .int v_7), (1, .int v_4), (0, .ref (a h0))]) hx hb dX18_one_92 rfl hl (by decide) rfl (fun ls hl2 => ?_)
      replace hl := hl2
      clear hl2
      refine lv_aload_n hx hb dX18_one_93 rfl (lv_at hl 3 rfl) ?_
      obtain ⟨k_34, ek_34, hf⟩ := lnk_some hf
      refine va_get (D := (dC, dI)) (ci := 18) (v := .ref (a k_34)) (C := RX18) (T := TX18) (N := 78) hx hb hts iwd_X18_one_X18 hown hK hP h0 (Wd_ob kg_1 sg_1 (by decide)) rfl 48 (by decide) (hts _ md_X18_one_6) (fun _ h9 => h9) (fl_q rfl ek_34) dX18_one_94 ?_
      refine lv_iload_n hx hb dX18_one_97 rfl (lv_at hl 2 rfl) ?_
      refine lv_iload_n hx hb dX18_one_98 rfl (lv_at hl 1 rfl) ?_
      refine lv_iconst (v := 0) hx hb dX18_one_99 (by decide) ?_
      obtain ⟨g_37, hf⟩ := grd_some hf
      obtain ⟨kg_37, sg_37⟩ := okO_at g_37
      obtain ⟨z_35, r_36, hfc, hf⟩ := cal_some hf
      have hFc := de_free hD hS hA
      refine va_calll (va_runV (As := [.int v_4, .int v_7, .int 0]) (rest := []) ⟨hx, hb, hml, hown, hts⟩ (de_X16_operand l dC dI cy a sh n H_33.size F z_30 k_34 v_4 v_7 0 hfc) (cwV 3 hts gX18_one_X16_operand rfl rfl rfl (by decide +kernel) ⟨Nat.le_of_ble_eq_true rfl, Nat.le_of_ble_eq_true rfl⟩) ⟨fun a U g mk q => by obtain ⟨q0, q1, qP, qK, qD, qN⟩ := q; exact ⟨q0, q1, qP, va_K.moved (u := U) (U := U.calling g mk a) (Vm.Alike.refl U.vm) qK, qD, qN.same rfl⟩, va_recv hK hP (ci := 16) (q0 := k_34) rfl (Wd_ob kg_37 sg_37 (by decide)), fun U hU hW => ⟨rfl, by rw [hU], by rw [hU]; exact hP, va_K.moved hW.alike hK, hD.weaken (fun _ _ _ _ => trivial), hN.warm hW⟩⟩ rfl rfl hl.1 rfl (lv_room (Nat.le_of_ble_eq_true rfl)) dX18_one_100 ⟨Nat.le_of_ble_eq_true rfl, Nat.le_of_ble_eq_true rfl⟩) hS (fun q _ h => hFc q h) hFc (fun rr u t H_38 locs ht hvm hw hB hz1 hk1 hS2 => ?_)
      rw [hw]
      clear hw
      obtain ⟨hP1, -, hD1⟩ := hB
      rw [ht] at hP1
      replace hD := hD1.weaken (fun _ _ _ h => hFc _ h)
      replace hP := hP1
      replace hS := hS2
      clear hP1 hD1 hS2 hFc hfc hz1 hk1 hvm ht
      refine lv_lstore (lv' := [(4, .long r_36), (3, .int r_31), (2, .int v_7), (1, .int v_4), (0, .ref (a h0))]) hx hb dX18_one_103 hl (by decide) rfl (fun ls hl2 => ?_)
      replace hl := hl2
      clear hl2
      refine lv_aload_n hx hb dX18_one_105 rfl (lv_at hl 4 rfl) ?_
      obtain ⟨k_39, ek_39, hf⟩ := lnk_some hf
      refine va_get (D := (dC, dI)) (ci := 18) (v := .ref (a k_39)) (C := RX18) (T := TX18) (N := 78) hx hb hts iwd_X18_one_X18 hown hK hP h0 (Wd_ob kg_1 sg_1 (by decide)) rfl 48 (by decide) (hts _ md_X18_one_6) (fun _ h9 => h9) (fl_q rfl ek_39) dX18_one_106 ?_
      refine lv_iload_n hx hb dX18_one_109 rfl (lv_at hl 3 rfl) ?_
      refine lv_iload_n hx hb dX18_one_110 rfl (lv_at hl 2 rfl) ?_
      refine lv_iconst (v := 1) hx hb dX18_one_111 (by decide) ?_
      obtain ⟨g_42, hf⟩ := grd_some hf
      obtain ⟨kg_42, sg_42⟩ := okO_at g_42
      obtain ⟨z_40, r_41, hfc, hf⟩ := cal_some hf
      have hFc := de_free hD hS hA
      refine va_calll (va_runV (As := [.int v_4, .int v_7, .int 1]) (rest := []) ⟨hx, hb, hml, hown, hts⟩ (de_X16_operand l dC dI cy a sh n H_38.size F z_35 k_39 v_4 v_7 1 hfc) (cwV 3 hts gX18_one_X16_operand rfl rfl rfl (by decide +kernel) ⟨Nat.le_of_ble_eq_true rfl, Nat.le_of_ble_eq_true rfl⟩) ⟨fun a U g mk q => by obtain ⟨q0, q1, qP, qK, qD, qN⟩ := q; exact ⟨q0, q1, qP, va_K.moved (u := U) (U := U.calling g mk a) (Vm.Alike.refl U.vm) qK, qD, qN.same rfl⟩, va_recv hK hP (ci := 16) (q0 := k_39) rfl (Wd_ob kg_42 sg_42 (by decide)), fun U hU hW => ⟨rfl, by rw [hU], by rw [hU]; exact hP, va_K.moved hW.alike hK, hD.weaken (fun _ _ _ _ => trivial), hN.warm hW⟩⟩ rfl rfl hl.1 rfl (lv_room (Nat.le_of_ble_eq_true rfl)) dX18_one_112 ⟨Nat.le_of_ble_eq_true rfl, Nat.le_of_ble_eq_true rfl⟩) hS (fun q _ h => hFc q h) hFc (fun rr u t H_43 locs ht hvm hw hB hz1 hk1 hS2 => ?_)
      rw [hw]
      clear hw
      obtain ⟨hP1, -, hD1⟩ := hB
      rw [ht] at hP1
      replace hD := hD1.weaken (fun _ _ _ h => hFc _ h)
      replace hP := hP1
      replace hS := hS2
      clear hP1 hD1 hS2 hFc hfc hz1 hk1 hvm ht
      refine lv_lstore (lv' := [(6, .long r_41), (4, .long r_36), (3, .int r_31), (2, .int v_7), (1, .int v_4), (0, .ref (a h0))]) hx hb dX18_one_115 hl (by decide) rfl (fun ls hl2 => ?_)
      replace hl := hl2
      clear hl2
      refine lv_iload_n hx hb dX18_one_117 rfl (lv_at hl 2 rfl) ?_
      refine lv_if_ne (tgt := 159) hx hb dX18_one_118 (by decide) (fun c_44 => ?_) (fun c_44 => ?_)
      · skip
        rw [if_neg c_44] at hf
        refine lv_iload_n hx hb dX18_one_159 rfl (lv_at hl 2 rfl) ?_
        refine lv_iconst (v := 1) hx hb dX18_one_160 (by decide) ?_
        refine lv_icmp_ne (tgt := 171) hx hb dX18_one_161 (by decide) (fun c_45 => ?_) (fun c_45 => ?_)
        · skip
          rw [if_neg c_45] at hf
          refine lv_iload_n hx hb dX18_one_171 rfl (lv_at hl 2 rfl) ?_
          refine lv_iconst (v := 5) hx hb dX18_one_172 (by decide) ?_
          refine lv_icmp_ge (tgt := 187) hx hb dX18_one_173 (by decide) (fun c_46 => ?_) (fun c_46 => ?_)
          · skip
            rw [if_pos c_46] at hf
            refine lv_iload_n hx hb dX18_one_187 rfl (lv_at hl 2 rfl) ?_
            refine lv_bipush (v := 11) hx hb dX18_one_188 (by decide) ?_
            refine lv_icmp_lt (tgt := 199) hx hb dX18_one_190 (by decide) (fun c_47 => ?_) (fun c_47 => ?_)
            · skip
              rw [if_pos c_47] at hf
              refine lv_aload_n hx hb dX18_one_199 rfl (lv_at hl 5 rfl) ?_
              refine lv_iload_n hx hb dX18_one_200 rfl (lv_at hl 2 rfl) ?_
              refine lv_lload hx hb dX18_one_201 (lv_at hl 1 rfl) ?_
              refine lv_lload hx hb dX18_one_203 (lv_at hl 0 rfl) ?_
              obtain ⟨z_48, _u, hfc, hf⟩ := cal_some hf
              have hFc := de_free hD hS hA
              refine va_callv (va_runV (As := [.int r_31, .long r_36, .long r_41]) (rest := []) ⟨hx, hb, hml, hown, hts⟩ (de_X18_constant l dC dI cy a sh n H_43.size F z_40 h0 r_31 r_36 r_41 hfc) (cwV 3 hts gX18_one_X18_constant rfl rfl rfl (by decide +kernel) ⟨Nat.le_of_ble_eq_true rfl, Nat.le_of_ble_eq_true rfl⟩) ⟨fun a U g mk q => by obtain ⟨q0, q1, qP, qK, qD, qN⟩ := q; exact ⟨q0, q1, qP, va_K.moved (u := U) (U := U.calling g mk a) (Vm.Alike.refl U.vm) qK, qD, qN.same rfl⟩, va_recv hK hP (ci := 18) (q0 := h0) rfl (Wd_ob kg_1 sg_1 (by decide)), fun U hU hW => ⟨rfl, by rw [hU], by rw [hU]; exact hP, va_K.moved hW.alike hK, hD.weaken (fun _ _ _ _ => trivial), hN.warm hW⟩⟩ rfl rfl hl.1 rfl (lv_room (Nat.le_of_ble_eq_true rfl)) dX18_one_205 ⟨Nat.le_of_ble_eq_true rfl, Nat.le_of_ble_eq_true rfl⟩) hS (fun q _ h => hFc q h) hFc (fun u t H_49 locs ht hvm hw hB hz1 hk1 hS2 => ?_)
              obtain ⟨hP1, -, hD1⟩ := hB
              rw [ht] at hP1
              replace hD := hD1.weaken (fun _ _ _ h => hFc _ h)
              replace hP := hP1
              replace hS := hS2
              clear hP1 hD1 hS2 hFc hfc hz1 hk1 hvm ht
              refine lv_goto (tgt := 457) hx hb dX18_one_208 (by decide) ?_
              obtain ⟨h8, h9⟩ := ret_some hf
              rw [h8]
              exact W.vret hx hb hr (fun t ht hW => ⟨⟨(), rfl, trivial, by rw [ht]; exact hP, va_K.moved hW.alike hK, hD⟩, hS.F ht⟩) hS.2.2 dX18_one_457
            · skip
              rw [if_neg c_47] at hf
              refine lv_iload_n hx hb dX18_one_193 rfl (lv_at hl 2 rfl) ?_
              refine lv_bipush (v := 46) hx hb dX18_one_194 (by decide) ?_
              refine lv_icmp_ne (tgt := 211) hx hb dX18_one_196 (by decide) (fun c_50 => ?_) (fun c_50 => ?_)
              · skip
                rw [if_neg c_50] at hf
                refine lv_iload_n hx hb dX18_one_211 rfl (lv_at hl 2 rfl) ?_
                refine lv_bipush (v := 16) hx hb dX18_one_212 (by decide) ?_
                refine lv_icmp_ge (tgt := 228) hx hb dX18_one_214 (by decide) (fun c_51 => ?_) (fun c_51 => ?_)
                · skip
                  rw [if_pos c_51] at hf
                  refine lv_iload_n hx hb dX18_one_228 rfl (lv_at hl 2 rfl) ?_
                  refine lv_bipush (v := 21) hx hb dX18_one_229 (by decide) ?_
                  refine lv_icmp_ge (tgt := 245) hx hb dX18_one_231 (by decide) (fun c_52 => ?_) (fun c_52 => ?_)
                  · skip
                    rw [if_pos c_52] at hf
                    refine lv_iload_n hx hb dX18_one_245 rfl (lv_at hl 2 rfl) ?_
                    refine lv_bipush (v := 21) hx hb dX18_one_246 (by decide) ?_
                    refine lv_icmp_ne (tgt := 261) hx hb dX18_one_248 (by decide) (fun c_53 => ?_) (fun c_53 => ?_)
                    · skip
                      rw [if_neg c_53] at hf
                      refine lv_iload_n hx hb dX18_one_261 rfl (lv_at hl 2 rfl) ?_
                      refine lv_bipush (v := 22) hx hb dX18_one_262 (by decide) ?_
                      refine lv_icmp_ne (tgt := 277) hx hb dX18_one_264 (by decide) (fun c_54 => ?_) (fun c_54 => ?_)
                      · skip
                        rw [if_neg c_54] at hf
                        refine lv_iload_n hx hb dX18_one_277 rfl (lv_at hl 2 rfl) ?_
                        refine lv_bipush (v := 23) hx hb dX18_one_278 (by decide) ?_
                        refine lv_icmp_ne (tgt := 293) hx hb dX18_one_280 (by decide) (fun c_55 => ?_) (fun c_55 => ?_)
                        · skip
                          rw [if_neg c_55] at hf
                          refine lv_iload_n hx hb dX18_one_293 rfl (lv_at hl 2 rfl) ?_
                          refine lv_bipush (v := 32) hx hb dX18_one_294 (by decide) ?_
                          refine de_cut (h := 305) (fun (x : St) => []) (fun x ls H locs => lv_has ls 8 [(3, .int r_31), (0, .ref (a h0))] ∧ va_P (dC, dI) vwCl (Wd cy a sh n x) H ∧ va_D A (Wd cy a sh n x) ∧ va_S A s.heap H locs) (fun x => fn_X18_one_B305 F sh n r_31 h0 x) (z8, r8) ?_ (fun B305 => ?_)
                          · intro x ls H locs hI hf
                            obtain ⟨z_56, ez⟩ : ∃ w, w = x := ⟨_, rfl⟩
                            subst ez
                            obtain ⟨hl2, hP2, hD2, hS2⟩ := hI
                            replace hl : lv_has ls 8 [(3, .int r_31), (0, .ref (a h0))] := hl2
                            replace hP := hP2
                            replace hD := hD2
                            replace hS := hS2
                            clear hl2 hP2 hD2 hS2
                            replace hf := fn_X18_one_B305_s hf
                            refine W.eq (g2 := F0 m 305 ls []) rfl ?_
                            refine lv_aload_n hx hb dX18_one_305 rfl (lv_at hl 1 rfl) ?_
                            refine lv_iload_n hx hb dX18_one_306 rfl (lv_at hl 0 rfl) ?_
                            refine lv_bipush (v := 32) hx hb dX18_one_307 (by decide) ?_
                            refine lv_icmp_ne (tgt := 316) hx hb dX18_one_309 (by decide) (fun c_57 => ?_) (fun c_57 => ?_)
                            · skip
                              rw [if_neg c_57] at hf
                              refine lv_iconst (v := 0) hx hb dX18_one_316 (by decide) ?_
                              obtain ⟨z_58, _u, hfc, hf⟩ := cal_some hf
                              have hFc := de_free hD hS hA
                              refine va_callv (va_runV (As := [.int 0]) (rest := []) ⟨hx, hb, hml, hown, hts⟩ (de_X18_shift l dC dI cy a sh n H.size F z_56 h0 0 hfc) (cwV 1 hts gX18_one_X18_shift rfl rfl rfl (by decide +kernel) ⟨Nat.le_of_ble_eq_true rfl, Nat.le_of_ble_eq_true rfl⟩) ⟨fun a U g mk q => by obtain ⟨q0, q1, qP, qK, qD, qN⟩ := q; exact ⟨q0, q1, qP, va_K.moved (u := U) (U := U.calling g mk a) (Vm.Alike.refl U.vm) qK, qD, qN.same rfl⟩, va_recv hK hP (ci := 18) (q0 := h0) rfl (Wd_ob kg_1 sg_1 (by decide)), fun U hU hW => ⟨rfl, by rw [hU], by rw [hU]; exact hP, va_K.moved hW.alike hK, hD.weaken (fun _ _ _ _ => trivial), hN.warm hW⟩⟩ rfl rfl hl.1 rfl (lv_room (Nat.le_of_ble_eq_true rfl)) dX18_one_317 ⟨Nat.le_of_ble_eq_true rfl, Nat.le_of_ble_eq_true rfl⟩) hS (fun q _ h => hFc q h) hFc (fun u t H_59 locs ht hvm hw hB hz1 hk1 hS2 => ?_)
                              obtain ⟨hP1, -, hD1⟩ := hB
                              rw [ht] at hP1
                              replace hD := hD1.weaken (fun _ _ _ h => hFc _ h)
                              replace hP := hP1
                              replace hS := hS2
                              clear hP1 hD1 hS2 hFc hfc hz1 hk1 hvm ht
                              refine lv_goto (tgt := 457) hx hb dX18_one_320 (by decide) ?_
                              obtain ⟨h8, h9⟩ := ret_some hf
                              rw [h8]
                              exact W.vret hx hb hr (fun t ht hW => ⟨⟨(), rfl, trivial, by rw [ht]; exact hP, va_K.moved hW.alike hK, hD⟩, hS.F ht⟩) hS.2.2 dX18_one_457
                            · skip
                              rw [if_pos c_57] at hf
                              refine lv_iconst (v := 1) hx hb dX18_one_312 (by decide) ?_
                              refine lv_goto (tgt := 317) hx hb dX18_one_313 (by decide) ?_
                              obtain ⟨z_60, _u, hfc, hf⟩ := cal_some hf
                              have hFc := de_free hD hS hA
                              refine va_callv (va_runV (As := [.int 1]) (rest := []) ⟨hx, hb, hml, hown, hts⟩ (de_X18_shift l dC dI cy a sh n H.size F z_56 h0 1 hfc) (cwV 1 hts gX18_one_X18_shift rfl rfl rfl (by decide +kernel) ⟨Nat.le_of_ble_eq_true rfl, Nat.le_of_ble_eq_true rfl⟩) ⟨fun a U g mk q => by obtain ⟨q0, q1, qP, qK, qD, qN⟩ := q; exact ⟨q0, q1, qP, va_K.moved (u := U) (U := U.calling g mk a) (Vm.Alike.refl U.vm) qK, qD, qN.same rfl⟩, va_recv hK hP (ci := 18) (q0 := h0) rfl (Wd_ob kg_1 sg_1 (by decide)), fun U hU hW => ⟨rfl, by rw [hU], by rw [hU]; exact hP, va_K.moved hW.alike hK, hD.weaken (fun _ _ _ _ => trivial), hN.warm hW⟩⟩ rfl rfl hl.1 rfl (lv_room (Nat.le_of_ble_eq_true rfl)) dX18_one_317 ⟨Nat.le_of_ble_eq_true rfl, Nat.le_of_ble_eq_true rfl⟩) hS (fun q _ h => hFc q h) hFc (fun u t H_61 locs ht hvm hw hB hz1 hk1 hS2 => ?_)
                              obtain ⟨hP1, -, hD1⟩ := hB
                              rw [ht] at hP1
                              replace hD := hD1.weaken (fun _ _ _ h => hFc _ h)
                              replace hP := hP1
                              replace hS := hS2
                              clear hP1 hD1 hS2 hFc hfc hz1 hk1 hvm ht
                              refine lv_goto (tgt := 457) hx hb dX18_one_320 (by decide) ?_
                              obtain ⟨h8, h9⟩ := ret_some hf
                              rw [h8]
                              exact W.vret hx hb hr (fun t ht hW => ⟨⟨(), rfl, trivial, by rw [ht]; exact hP, va_K.moved hW.alike hK, hD⟩, hS.F ht⟩) hS.2.2 dX18_one_457
                          refine lv_icmp_eq (tgt := 305) hx hb dX18_one_296 (by decide) (fun c_62 => ?_) (fun c_62 => ?_)
                          · skip
                            rw [if_pos c_62] at hf
                            exact B305 (z_40) ls H_43 locs ⟨lv_sub hl [2, 5] rfl, hP, hD, hS⟩ hf
                          · skip
                            rw [if_neg c_62] at hf
                            refine lv_iload_n hx hb dX18_one_299 rfl (lv_at hl 2 rfl) ?_
                            refine lv_bipush (v := 33) hx hb dX18_one_300 (by decide) ?_
                            refine lv_icmp_ne (tgt := 323) hx hb dX18_one_302 (by decide) (fun c_63 => ?_) (fun c_63 => ?_)
                            · skip
                              rw [if_neg c_63] at hf
                              refine lv_iload_n hx hb dX18_one_323 rfl (lv_at hl 2 rfl) ?_
                              refine lv_bipush (v := 34) hx hb dX18_one_324 (by decide) ?_
                              refine lv_icmp_ne (tgt := 353) hx hb dX18_one_326 (by decide) (fun c_64 => ?_) (fun c_64 => ?_)
                              · skip
                                rw [if_neg c_64] at hf
                                refine lv_iload_n hx hb dX18_one_353 rfl (lv_at hl 2 rfl) ?_
                                refine lv_bipush (v := 35) hx hb dX18_one_354 (by decide) ?_
                                refine lv_icmp_lt (tgt := 371) hx hb dX18_one_356 (by decide) (fun c_65 => ?_) (fun c_65 => ?_)
                                · skip
                                  rw [if_pos c_65] at hf
                                  refine lv_aload_n hx hb dX18_one_371 rfl (lv_at hl 5 rfl) ?_
                                  refine lv_iload_n hx hb dX18_one_372 rfl (lv_at hl 2 rfl) ?_
                                  obtain ⟨z_66, _u, hfc, hf⟩ := cal_some hf
                                  have hFc := de_free hD hS hA
                                  refine va_callv (va_runV (As := [.int r_31]) (rest := []) ⟨hx, hb, hml, hown, hts⟩ (de_X18_reckon l dC dI cy a sh n H_43.size F z_40 h0 r_31 hfc) (cwV 1 hts gX18_one_X18_reckon rfl rfl rfl (by decide +kernel) ⟨Nat.le_of_ble_eq_true rfl, Nat.le_of_ble_eq_true rfl⟩) ⟨fun a U g mk q => by obtain ⟨q0, q1, qP, qK, qD, qN⟩ := q; exact ⟨q0, q1, qP, va_K.moved (u := U) (U := U.calling g mk a) (Vm.Alike.refl U.vm) qK, qD, qN.same rfl⟩, va_recv hK hP (ci := 18) (q0 := h0) rfl (Wd_ob kg_1 sg_1 (by decide)), fun U hU hW => ⟨rfl, by rw [hU], by rw [hU]; exact hP, va_K.moved hW.alike hK, hD.weaken (fun _ _ _ _ => trivial), hN.warm hW⟩⟩ rfl rfl hl.1 rfl (lv_room (Nat.le_of_ble_eq_true rfl)) dX18_one_373 ⟨Nat.le_of_ble_eq_true rfl, Nat.le_of_ble_eq_true rfl⟩) hS (fun q _ h => hFc q h) hFc (fun u t H_67 locs ht hvm hw hB hz1 hk1 hS2 => ?_)
                                  obtain ⟨hP1, -, hD1⟩ := hB
                                  rw [ht] at hP1
                                  replace hD := hD1.weaken (fun _ _ _ h => hFc _ h)
                                  replace hP := hP1
                                  replace hS := hS2
                                  clear hP1 hD1 hS2 hFc hfc hz1 hk1 hvm ht
                                  refine lv_goto (tgt := 457) hx hb dX18_one_376 (by decide) ?_
                                  obtain ⟨h8, h9⟩ := ret_some hf
                                  rw [h8]
                                  exact W.vret hx hb hr (fun t ht hW => ⟨⟨(), rfl, trivial, by rw [ht]; exact hP, va_K.moved hW.alike hK, hD⟩, hS.F ht⟩) hS.2.2 dX18_one_457
                                · skip
                                  rw [if_neg c_65] at hf
                                  refine lv_iload_n hx hb dX18_one_359 rfl (lv_at hl 2 rfl) ?_
                                  refine lv_bipush (v := 35) hx hb dX18_one_360 (by decide) ?_
                                  refine de_cut (h := 379) (fun (x : St) => []) (fun x ls H locs => lv_has ls 8 [(6, .long r_41), (4, .long r_36), (3, .int r_31), (0, .ref (a h0))] ∧ va_P (dC, dI) vwCl (Wd cy a sh n x) H ∧ va_D A (Wd cy a sh n x) ∧ va_S A s.heap H locs) (fun x => fn_X18_one_B379 F sh n r_31 h0 r_41 r_36 x) (z8, r8) ?_ (fun B379 => ?_)
                                  · intro x ls H locs hI hf
                                    obtain ⟨z_68, ez⟩ : ∃ w, w = x := ⟨_, rfl⟩
                                    subst ez
                                    obtain ⟨hl2, hP2, hD2, hS2⟩ := hI
                                    replace hl : lv_has ls 8 [(6, .long r_41), (4, .long r_36), (3, .int r_31), (0, .ref (a h0))] := hl2
                                    replace hP := hP2
                                    replace hD := hD2
                                    replace hS := hS2
                                    clear hl2 hP2 hD2 hS2
                                    replace hf := fn_X18_one_B379_s hf
                                    refine W.eq (g2 := F0 m 379 ls []) rfl ?_
                                    refine lv_iload_n hx hb dX18_one_379 rfl (lv_at hl 2 rfl) ?_
                                    refine lv_bipush (v := 41) hx hb dX18_one_380 (by decide) ?_
                                    refine de_cut (h := 402) (fun (x : St) => []) (fun x ls H locs => lv_has ls 8 [(6, .long r_41), (4, .long r_36), (3, .int r_31), (0, .ref (a h0))] ∧ va_P (dC, dI) vwCl (Wd cy a sh n x) H ∧ va_D A (Wd cy a sh n x) ∧ va_S A s.heap H locs) (fun x => fn_X18_one_B402 F sh n r_31 h0 r_41 r_36 x) (z8, r8) ?_ (fun B402 => ?_)
                                    · intro x ls H locs hI hf
                                      obtain ⟨z_69, ez⟩ : ∃ w, w = x := ⟨_, rfl⟩
                                      subst ez
                                      obtain ⟨hl2, hP2, hD2, hS2⟩ := hI
                                      replace hl : lv_has ls 8 [(6, .long r_41), (4, .long r_36), (3, .int r_31), (0, .ref (a h0))] := hl2
                                      replace hP := hP2
                                      replace hD := hD2
                                      replace hS := hS2
                                      clear hl2 hP2 hD2 hS2
                                      replace hf := fn_X18_one_B402_s hf
                                      refine W.eq (g2 := F0 m 402 ls []) rfl ?_
                                      refine lv_iload_n hx hb dX18_one_402 rfl (lv_at hl 2 rfl) ?_
                                      refine lv_bipush (v := 45) hx hb dX18_one_403 (by decide) ?_
                                      refine lv_icmp_ne (tgt := 420) hx hb dX18_one_405 (by decide) (fun c_70 => ?_) (fun c_70 => ?_)
                                      · skip
                                        rw [if_neg c_70] at hf
                                        refine lv_iload_n hx hb dX18_one_420 rfl (lv_at hl 2 rfl) ?_
                                        refine lv_bipush (v := 46) hx hb dX18_one_421 (by decide) ?_
                                        refine de_cut (h := 443) (fun (x : St) => []) (fun x ls H locs => lv_has ls 8 [(6, .long r_41), (3, .int r_31), (0, .ref (a h0))] ∧ va_P (dC, dI) vwCl (Wd cy a sh n x) H ∧ va_D A (Wd cy a sh n x) ∧ va_S A s.heap H locs) (fun x => fn_X18_one_B443 F sh n r_31 h0 r_41 x) (z8, r8) ?_ (fun B443 => ?_)
                                        · intro x ls H locs hI hf
                                          obtain ⟨z_71, ez⟩ : ∃ w, w = x := ⟨_, rfl⟩
                                          subst ez
                                          obtain ⟨hl2, hP2, hD2, hS2⟩ := hI
                                          replace hl : lv_has ls 8 [(6, .long r_41), (3, .int r_31), (0, .ref (a h0))] := hl2
                                          replace hP := hP2
                                          replace hD := hD2
                                          replace hS := hS2
                                          clear hl2 hP2 hD2 hS2
                                          replace hf := fn_X18_one_B443_s hf
                                          refine W.eq (g2 := F0 m 443 ls []) rfl ?_
                                          refine lv_iload_n hx hb dX18_one_443 rfl (lv_at hl 1 rfl) ?_
                                          refine lv_bipush (v := 51) hx hb dX18_one_444 (by decide) ?_
                                          refine lv_icmp_le (tgt := 457) hx hb dX18_one_446 (by decide) (fun c_72 => ?_) (fun c_72 => ?_)
                                          · skip
                                            rw [if_pos c_72] at hf
                                            obtain ⟨h8, h9⟩ := ret_some hf
                                            rw [h8]
                                            exact W.vret hx hb hr (fun t ht hW => ⟨⟨(), rfl, trivial, by rw [ht]; exact hP, va_K.moved hW.alike hK, hD⟩, hS.F ht⟩) hS.2.2 dX18_one_457
                                          · skip
                                            rw [if_neg c_72] at hf
                                            refine lv_aload_n hx hb dX18_one_449 rfl (lv_at hl 2 rfl) ?_
                                            refine lv_iload_n hx hb dX18_one_450 rfl (lv_at hl 1 rfl) ?_
                                            refine lv_lload hx hb dX18_one_451 (lv_at hl 0 rfl) ?_
                                            refine lv_l2i (v := (r_41 : Int64).toInt32) hx hb dX18_one_453 rfl ?_
                                            obtain ⟨z_73, _u, hfc, hf⟩ := cal_some hf
                                            have hFc := de_free hD hS hA
                                            refine va_callv (va_runV (As := [.int r_31, .int ((r_41 : Int64).toInt32)]) (rest := []) ⟨hx, hb, hml, hown, hts⟩ (de_X18_onVector l dC dI cy a sh n H.size F sk z_71 h0 r_31 ((r_41 : Int64).toInt32) hfc) (cwV 2 hts gX18_one_X18_onVector rfl rfl rfl (by decide +kernel) ⟨Nat.le_of_ble_eq_true rfl, Nat.le_of_ble_eq_true rfl⟩) ⟨fun a U g mk q => by obtain ⟨q0, q1, qP, qK, qD, qN, qS⟩ := q; exact ⟨q0, q1, qP, va_K.moved (u := U) (U := U.calling g mk a) (Vm.Alike.refl U.vm) qK, qD, qN.same rfl, SKs.moved (u := U) (U := U.calling g mk a) (Vm.Alike.refl U.vm) qS⟩, va_recv hK hP (ci := 18) (q0 := h0) rfl (Wd_ob kg_1 sg_1 (by decide)), fun U hU hW => ⟨rfl, by rw [hU], by rw [hU]; exact hP, va_K.moved hW.alike hK, hD.weaken (fun _ _ _ _ => trivial), hN.warm hW, by rw [hU]; exact ((hSK.kept hS.2.1).narrow hFc).moved hW.alike⟩⟩ rfl rfl hl.1 rfl (lv_room (Nat.le_of_ble_eq_true rfl)) dX18_one_454 ⟨Nat.le_of_ble_eq_true rfl, Nat.le_of_ble_eq_true rfl⟩) hS (fun q _ h => hFc q h) hFc (fun u t H_74 locs ht hvm hw hB hz1 hk1 hS2 => ?_)
                                            obtain ⟨hP1, -, hD1⟩ := hB
                                            rw [ht] at hP1
                                            replace hD := hD1.weaken (fun _ _ _ h => hFc _ h)
                                            replace hP := hP1
                                            replace hS := hS2
                                            clear hP1 hD1 hS2 hFc hfc hz1 hk1 hvm ht
                                            obtain ⟨h8, h9⟩ := ret_some hf
                                            rw [h8]
                                            exact W.vret hx hb hr (fun t ht hW => ⟨⟨(), rfl, trivial, by rw [ht]; exact hP, va_K.moved hW.alike hK, hD⟩, hS.F ht⟩) hS.2.2 dX18_one_457
                                        refine lv_icmp_le (tgt := 443) hx hb dX18_one_423 (by decide) (fun c_75 => ?_) (fun c_75 => ?_)
                                        · skip
                                          rw [if_pos c_75] at hf
                                          exact B443 (z_69) ls H locs ⟨lv_sub hl [0, 2, 3] rfl, hP, hD, hS⟩ hf
                                        · skip
                                          rw [if_neg c_75] at hf
                                          refine lv_iload_n hx hb dX18_one_426 rfl (lv_at hl 2 rfl) ?_
                                          refine lv_bipush (v := 52) hx hb dX18_one_427 (by decide) ?_
                                          refine lv_icmp_ge (tgt := 443) hx hb dX18_one_429 (by decide) (fun c_76 => ?_) (fun c_76 => ?_)
                                          · skip
                                            rw [if_pos c_76] at hf
                                            exact B443 (z_69) ls H locs ⟨lv_sub hl [0, 2, 3] rfl, hP, hD, hS⟩ hf
                                          · skip
                                            rw [if_neg c_76] at hf
                                            refine lv_aload_n hx hb dX18_one_432 rfl (lv_at hl 3 rfl) ?_
                                            refine lv_iload_n hx hb dX18_one_433 rfl (lv_at hl 2 rfl) ?_
                                            refine lv_lload hx hb dX18_one_434 (lv_at hl 1 rfl) ?_
                                            refine lv_l2i (v := (r_36 : Int64).toInt32) hx hb dX18_one_436 rfl ?_
                                            obtain ⟨z_77, _u, hfc, hf⟩ := cal_some hf
                                            have hFc := de_free hD hS hA
                                            refine va_callv (va_runV (As := [.int r_31, .int ((r_36 : Int64).toInt32)]) (rest := []) ⟨hx, hb, hml, hown, hts⟩ (de_X18_onResource l dC dI cy a sh n H.size F z_69 h0 r_31 ((r_36 : Int64).toInt32) hfc) (cwV 2 hts gX18_one_X18_onResource rfl rfl rfl (by decide +kernel) ⟨Nat.le_of_ble_eq_true rfl, Nat.le_of_ble_eq_true rfl⟩) ⟨fun a U g mk q => by obtain ⟨q0, q1, qP, qK, qD, qN⟩ := q; exact ⟨q0, q1, qP, va_K.moved (u := U) (U := U.calling g mk a) (Vm.Alike.refl U.vm) qK, qD, qN.same rfl⟩, va_recv hK hP (ci := 18) (q0 := h0) rfl (Wd_ob kg_1 sg_1 (by decide)), fun U hU hW => ⟨rfl, by rw [hU], by rw [hU]; exact hP, va_K.moved hW.alike hK, hD.weaken (fun _ _ _ _ => trivial), hN.warm hW⟩⟩ rfl rfl hl.1 rfl (lv_room (Nat.le_of_ble_eq_true rfl)) dX18_one_437 ⟨Nat.le_of_ble_eq_true rfl, Nat.le_of_ble_eq_true rfl⟩) hS (fun q _ h => hFc q h) hFc (fun u t H_78 locs ht hvm hw hB hz1 hk1 hS2 => ?_)
                                            obtain ⟨hP1, -, hD1⟩ := hB
                                            rw [ht] at hP1
                                            replace hD := hD1.weaken (fun _ _ _ h => hFc _ h)
                                            replace hP := hP1
                                            replace hS := hS2
                                            clear hP1 hD1 hS2 hFc hfc hz1 hk1 hvm ht
                                            refine lv_goto (tgt := 457) hx hb dX18_one_440 (by decide) ?_
                                            obtain ⟨h8, h9⟩ := ret_some hf
                                            rw [h8]
                                            exact W.vret hx hb hr (fun t ht hW => ⟨⟨(), rfl, trivial, by rw [ht]; exact hP, va_K.moved hW.alike hK, hD⟩, hS.F ht⟩) hS.2.2 dX18_one_457
                                      · skip
                                        rw [if_pos c_70] at hf
                                        refine lv_aload_n hx hb dX18_one_408 rfl (lv_at hl 3 rfl) ?_
                                        refine lv_iconst (v := 1) hx hb dX18_one_409 (by decide) ?_
                                        refine lv_aload_n hx hb dX18_one_410 rfl (lv_at hl 3 rfl) ?_
                                        obtain ⟨z_79, r_80, hfc, hf⟩ := cal_some hf
                                        have hFc := de_free hD hS hA
                                        refine va_calll (va_runV (As := []) (rest := [.int 1, .ref (a h0)]) ⟨hx, hb, hml, hown, hts⟩ (de_X18_takeLong l dC dI cy a sh n H.size F z_69 h0 hfc) (cwV 0 hts gX18_one_X18_takeLong rfl rfl rfl (by decide +kernel) ⟨Nat.le_of_ble_eq_true rfl, Nat.le_of_ble_eq_true rfl⟩) ⟨fun a U g mk q => by obtain ⟨q0, q1, qP, qK, qD, qN⟩ := q; exact ⟨q0, q1, qP, va_K.moved (u := U) (U := U.calling g mk a) (Vm.Alike.refl U.vm) qK, qD, qN.same rfl⟩, va_recv hK hP (ci := 18) (q0 := h0) rfl (Wd_ob kg_1 sg_1 (by decide)), fun U hU hW => ⟨rfl, by rw [hU], by rw [hU]; exact hP, va_K.moved hW.alike hK, hD.weaken (fun _ _ _ _ => trivial), hN.warm hW⟩⟩ rfl rfl hl.1 rfl (lv_room (Nat.le_of_ble_eq_true rfl)) dX18_one_411 ⟨Nat.le_of_ble_eq_true rfl, Nat.le_of_ble_eq_true rfl⟩) hS (fun q _ h => hFc q h) hFc (fun rr u t H_81 locs ht hvm hw hB hz1 hk1 hS2 => ?_)
                                        rw [hw]
                                        clear hw
                                        obtain ⟨hP1, -, hD1⟩ := hB
                                        rw [ht] at hP1
                                        replace hD := hD1.weaken (fun _ _ _ h => hFc _ h)
                                        replace hP := hP1
                                        replace hS := hS2
                                        clear hP1 hD1 hS2 hFc hfc hz1 hk1 hvm ht
                                        obtain ⟨z_82, _u, hfc, hf⟩ := cal_some hf
                                        have hFc := de_free hD hS hA
                                        refine va_callv (va_runV (As := [.int 1, .long r_80]) (rest := []) ⟨hx, hb, hml, hown, hts⟩ (de_X18_end l dC dI cy a sh n H_81.size F z_79 h0 1 r_80 hfc) (cwV 2 hts gX18_one_X18_end rfl rfl rfl (by decide +kernel) ⟨Nat.le_of_ble_eq_true rfl, Nat.le_of_ble_eq_true rfl⟩) ⟨fun a U g mk q => by obtain ⟨q0, q1, qP, qK, qD, qN⟩ := q; exact ⟨q0, q1, qP, va_K.moved (u := U) (U := U.calling g mk a) (Vm.Alike.refl U.vm) qK, qD, qN.same rfl⟩, va_recv hK hP (ci := 18) (q0 := h0) rfl (Wd_ob kg_1 sg_1 (by decide)), fun U hU hW => ⟨rfl, by rw [hU], by rw [hU]; exact hP, va_K.moved hW.alike hK, hD.weaken (fun _ _ _ _ => trivial), hN.warm hW⟩⟩ rfl rfl hl.1 rfl (lv_room (Nat.le_of_ble_eq_true rfl)) dX18_one_414 ⟨Nat.le_of_ble_eq_true rfl, Nat.le_of_ble_eq_true rfl⟩) hS (fun q _ h => hFc q h) hFc (fun u t H_83 locs ht hvm hw hB hz1 hk1 hS2 => ?_)
                                        obtain ⟨hP1, -, hD1⟩ := hB
                                        rw [ht] at hP1
                                        replace hD := hD1.weaken (fun _ _ _ h => hFc _ h)
                                        replace hP := hP1
                                        replace hS := hS2
                                        clear hP1 hD1 hS2 hFc hfc hz1 hk1 hvm ht
                                        refine lv_goto (tgt := 457) hx hb dX18_one_417 (by decide) ?_
                                        obtain ⟨h8, h9⟩ := ret_some hf
                                        rw [h8]
                                        exact W.vret hx hb hr (fun t ht hW => ⟨⟨(), rfl, trivial, by rw [ht]; exact hP, va_K.moved hW.alike hK, hD⟩, hS.F ht⟩) hS.2.2 dX18_one_457
                                    refine lv_icmp_le (tgt := 402) hx hb dX18_one_382 (by decide) (fun c_84 => ?_) (fun c_84 => ?_)
                                    · skip
                                      rw [if_pos c_84] at hf
                                      exact B402 (z_68) ls H locs ⟨lv_sub hl [0, 1, 2, 3] rfl, hP, hD, hS⟩ hf
                                    · skip
                                      rw [if_neg c_84] at hf
                                      refine lv_iload_n hx hb dX18_one_385 rfl (lv_at hl 2 rfl) ?_
                                      refine lv_bipush (v := 45) hx hb dX18_one_386 (by decide) ?_
                                      refine lv_icmp_ge (tgt := 402) hx hb dX18_one_388 (by decide) (fun c_85 => ?_) (fun c_85 => ?_)
                                      · skip
                                        rw [if_pos c_85] at hf
                                        exact B402 (z_68) ls H locs ⟨lv_sub hl [0, 1, 2, 3] rfl, hP, hD, hS⟩ hf
                                      · skip
                                        rw [if_neg c_85] at hf
                                        refine lv_aload_n hx hb dX18_one_391 rfl (lv_at hl 3 rfl) ?_
                                        refine lv_iload_n hx hb dX18_one_392 rfl (lv_at hl 2 rfl) ?_
                                        refine lv_bipush (v := 40) hx hb dX18_one_393 (by decide) ?_
                                        refine lv_isub hx hb dX18_one_395 ?_
                                        obtain ⟨z_86, _u, hfc, hf⟩ := cal_some hf
                                        have hFc := de_free hD hS hA
                                        refine va_callv (va_runV (As := [.int (r_31 - 40)]) (rest := []) ⟨hx, hb, hml, hown, hts⟩ (de_X18_convert l dC dI cy a sh n H.size F z_68 h0 (r_31 - 40) hfc) (cwV 1 hts gX18_one_X18_convert rfl rfl rfl (by decide +kernel) ⟨Nat.le_of_ble_eq_true rfl, Nat.le_of_ble_eq_true rfl⟩) ⟨fun a U g mk q => by obtain ⟨q0, q1, qP, qK, qD, qN⟩ := q; exact ⟨q0, q1, qP, va_K.moved (u := U) (U := U.calling g mk a) (Vm.Alike.refl U.vm) qK, qD, qN.same rfl⟩, va_recv hK hP (ci := 18) (q0 := h0) rfl (Wd_ob kg_1 sg_1 (by decide)), fun U hU hW => ⟨rfl, by rw [hU], by rw [hU]; exact hP, va_K.moved hW.alike hK, hD.weaken (fun _ _ _ _ => trivial), hN.warm hW⟩⟩ rfl rfl hl.1 rfl (lv_room (Nat.le_of_ble_eq_true rfl)) dX18_one_396 ⟨Nat.le_of_ble_eq_true rfl, Nat.le_of_ble_eq_true rfl⟩) hS (fun q _ h => hFc q h) hFc (fun u t H_87 locs ht hvm hw hB hz1 hk1 hS2 => ?_)
                                        obtain ⟨hP1, -, hD1⟩ := hB
                                        rw [ht] at hP1
                                        replace hD := hD1.weaken (fun _ _ _ h => hFc _ h)
                                        replace hP := hP1
                                        replace hS := hS2
                                        clear hP1 hD1 hS2 hFc hfc hz1 hk1 hvm ht
                                        refine lv_goto (tgt := 457) hx hb dX18_one_399 (by decide) ?_
                                        obtain ⟨h8, h9⟩ := ret_some hf
                                        rw [h8]
                                        exact W.vret hx hb hr (fun t ht hW => ⟨⟨(), rfl, trivial, by rw [ht]; exact hP, va_K.moved hW.alike hK, hD⟩, hS.F ht⟩) hS.2.2 dX18_one_457
                                  refine lv_icmp_le (tgt := 379) hx hb dX18_one_362 (by decide) (fun c_88 => ?_) (fun c_88 => ?_)
                                  · skip
                                    rw [if_pos c_88] at hf
                                    exact B379 (z_40) ls H_43 locs ⟨lv_sub hl [0, 1, 2, 5] rfl, hP, hD, hS⟩ hf
                                  · skip
                                    rw [if_neg c_88] at hf
                                    refine lv_iload_n hx hb dX18_one_365 rfl (lv_at hl 2 rfl) ?_
                                    refine lv_bipush (v := 42) hx hb dX18_one_366 (by decide) ?_
                                    refine lv_icmp_ge (tgt := 379) hx hb dX18_one_368 (by decide) (fun c_89 => ?_) (fun c_89 => ?_)
                                    · skip
                                      rw [if_pos c_89] at hf
                                      exact B379 (z_40) ls H_43 locs ⟨lv_sub hl [0, 1, 2, 5] rfl, hP, hD, hS⟩ hf
                                    · skip
                                      rw [if_neg c_89] at hf
                                      refine lv_aload_n hx hb dX18_one_371 rfl (lv_at hl 5 rfl) ?_
                                      refine lv_iload_n hx hb dX18_one_372 rfl (lv_at hl 2 rfl) ?_
                                      obtain ⟨z_90, _u, hfc, hf⟩ := cal_some hf
                                      have hFc := de_free hD hS hA
                                      refine va_callv (va_runV (As := [.int r_31]) (rest := []) ⟨hx, hb, hml, hown, hts⟩ (de_X18_reckon l dC dI cy a sh n H_43.size F z_40 h0 r_31 hfc) (cwV 1 hts gX18_one_X18_reckon rfl rfl rfl (by decide +kernel) ⟨Nat.le_of_ble_eq_true rfl, Nat.le_of_ble_eq_true rfl⟩) ⟨fun a U g mk q => by obtain ⟨q0, q1, qP, qK, qD, qN⟩ := q; exact ⟨q0, q1, qP, va_K.moved (u := U) (U := U.calling g mk a) (Vm.Alike.refl U.vm) qK, qD, qN.same rfl⟩, va_recv hK hP (ci := 18) (q0 := h0) rfl (Wd_ob kg_1 sg_1 (by decide)), fun U hU hW => ⟨rfl, by rw [hU], by rw [hU]; exact hP, va_K.moved hW.alike hK, hD.weaken (fun _ _ _ _ => trivial), hN.warm hW⟩⟩ rfl rfl hl.1 rfl (lv_room (Nat.le_of_ble_eq_true rfl)) dX18_one_373 ⟨Nat.le_of_ble_eq_true rfl, Nat.le_of_ble_eq_true rfl⟩) hS (fun q _ h => hFc q h) hFc (fun u t H_91 locs ht hvm hw hB hz1 hk1 hS2 => ?_)
                                      obtain ⟨hP1, -, hD1⟩ := hB
                                      rw [ht] at hP1
                                      replace hD := hD1.weaken (fun _ _ _ h => hFc _ h)
                                      replace hP := hP1
                                      replace hS := hS2
                                      clear hP1 hD1 hS2 hFc hfc hz1 hk1 hvm ht
                                      refine lv_goto (tgt := 457) hx hb dX18_one_376 (by decide) ?_
                                      obtain ⟨h8, h9⟩ := ret_some hf
                                      rw [h8]
                                      exact W.vret hx hb hr (fun t ht hW => ⟨⟨(), rfl, trivial, by rw [ht]; exact hP, va_K.moved hW.alike hK, hD⟩, hS.F ht⟩) hS.2.2 dX18_one_457
                              · skip
                                rw [if_pos c_64] at hf
                                refine lv_aload_n hx hb dX18_one_329 rfl (lv_at hl 5 rfl) ?_
                                refine lv_iconst (v := 1) hx hb dX18_one_330 (by decide) ?_
                                refine lv_lconst (v := 0) hx hb dX18_one_331 (by decide) ?_
                                refine lv_lconst (v := 1) hx hb dX18_one_332 (by decide) ?_
                                refine lv_aload_n hx hb dX18_one_333 rfl (lv_at hl 5 rfl) ?_
                                obtain ⟨k_92, ek_92, hf⟩ := lnk_some hf
                                refine va_get (D := (dC, dI)) (ci := 18) (v := .ref (a k_92)) (C := RX18) (T := TX18) (N := 78) hx hb hts iwd_X18_one_X18 hown hK hP h0 (Wd_ob kg_1 sg_1 (by decide)) rfl 15 (by decide) (hts _ md_X18_one_9) (fun _ h9 => h9) (fl_q rfl ek_92) dX18_one_334 ?_
                                obtain ⟨g_93, hf⟩ := grd_some hf
                                obtain ⟨kg_93, sg_93⟩ := okO_at g_93
                                obtain ⟨k_94, ek_94, hf⟩ := lnk_some hf
                                refine va_getN (D := (dC, dI)) (ci := 15) (v := .ref (a k_94)) (C := RX15) (T := TX15) (N := 6) hx hb hts iwd_X18_one_X15 hown hK hP k_92 (Wd_ob kg_93 sg_93 (by decide)) rfl 2 (by decide) (va_Nw.use rfl (NK_f_X18_77 hN)) (fun _ h9 => h9) (fl_q rfl ek_94) dX18_one_337 ?_
                                refine lv_aload_n hx hb dX18_one_340 rfl (lv_at hl 5 rfl) ?_
                                refine lv_iconst (v := 1) hx hb dX18_one_341 (by decide) ?_
                                obtain ⟨z_95, r_96, hfc, hf⟩ := cal_some hf
                                have hFc := de_free hD hS hA
                                refine va_calli (va_runV (As := [.int 1]) (rest := [.ref (a k_94), .long 1, .long 0, .int 1, .ref (a h0)]) ⟨hx, hb, hml, hown, hts⟩ (de_X18_take l dC dI cy a sh n H_43.size F z_40 h0 1 hfc) (cwV 1 hts gX18_one_X18_take rfl rfl rfl (by decide +kernel) ⟨Nat.le_of_ble_eq_true rfl, Nat.le_of_ble_eq_true rfl⟩) ⟨fun a U g mk q => by obtain ⟨q0, q1, qP, qK, qD, qN⟩ := q; exact ⟨q0, q1, qP, va_K.moved (u := U) (U := U.calling g mk a) (Vm.Alike.refl U.vm) qK, qD, qN.same rfl⟩, va_recv hK hP (ci := 18) (q0 := h0) rfl (Wd_ob kg_1 sg_1 (by decide)), fun U hU hW => ⟨rfl, by rw [hU], by rw [hU]; exact hP, va_K.moved hW.alike hK, hD.weaken (fun _ _ _ _ => trivial), hN.warm hW⟩⟩ rfl rfl hl.1 rfl (lv_room (Nat.le_of_ble_eq_true rfl)) dX18_one_342 ⟨Nat.le_of_ble_eq_true rfl, Nat.le_of_ble_eq_true rfl⟩) hS (fun q _ h => hFc q h) hFc (fun rr u t H_97 locs ht hvm hw hB hz1 hk1 hS2 => ?_)
                                rw [hw]
                                clear hw
                                obtain ⟨hP1, -, hD1⟩ := hB
                                rw [ht] at hP1
                                replace hD := hD1.weaken (fun _ _ _ h => hFc _ h)
                                replace hP := hP1
                                replace hS := hS2
                                clear hP1 hD1 hS2 hFc hfc hz1 hk1 hvm ht
                                obtain ⟨g_98, hf⟩ := grd_some hf
                                obtain ⟨kg_98, sg_98, ig_98⟩ := okA_at g_98
                                refine va_lald hx hb hK hP k_94 2 (Wd_al kg_98 sg_98) rfl ig_98 dX18_one_345 ?_
                                refine lv_lsub hx hb dX18_one_346 ?_
                                obtain ⟨z_99, _u, hfc, hf⟩ := cal_some hf
                                have hFc := de_free hD hS hA
                                refine va_callv (va_runV (As := [.int 1, .long 0, .long (1 - (z_95.2.1 k_94 r_96.toNatClampNeg))]) (rest := []) ⟨hx, hb, hml, hown, hts⟩ (de_X18_make l dC dI cy a sh n H_97.size F z_95 h0 1 0 (1 - (z_95.2.1 k_94 r_96.toNatClampNeg)) hfc) (cwV 3 hts gX18_one_X18_make rfl rfl rfl (by decide +kernel) ⟨Nat.le_of_ble_eq_true rfl, Nat.le_of_ble_eq_true rfl⟩) ⟨fun a U g mk q => by obtain ⟨q0, q1, qP, qK, qD, qN⟩ := q; exact ⟨q0, q1, qP, va_K.moved (u := U) (U := U.calling g mk a) (Vm.Alike.refl U.vm) qK, qD, qN.same rfl⟩, va_recv hK hP (ci := 18) (q0 := h0) rfl (Wd_ob kg_1 sg_1 (by decide)), fun U hU hW => ⟨rfl, by rw [hU], by rw [hU]; exact hP, va_K.moved hW.alike hK, hD.weaken (fun _ _ _ _ => trivial), hN.warm hW⟩⟩ rfl rfl hl.1 rfl (lv_room (Nat.le_of_ble_eq_true rfl)) dX18_one_347 ⟨Nat.le_of_ble_eq_true rfl, Nat.le_of_ble_eq_true rfl⟩) hS (fun q _ h => hFc q h) hFc (fun u t H_100 locs ht hvm hw hB hz1 hk1 hS2 => ?_)
                                obtain ⟨hP1, -, hD1⟩ := hB
                                rw [ht] at hP1
                                replace hD := hD1.weaken (fun _ _ _ h => hFc _ h)
                                replace hP := hP1
                                replace hS := hS2
                                clear hP1 hD1 hS2 hFc hfc hz1 hk1 hvm ht
                                refine lv_goto (tgt := 457) hx hb dX18_one_350 (by decide) ?_
                                obtain ⟨h8, h9⟩ := ret_some hf
                                rw [h8]
                                exact W.vret hx hb hr (fun t ht hW => ⟨⟨(), rfl, trivial, by rw [ht]; exact hP, va_K.moved hW.alike hK, hD⟩, hS.F ht⟩) hS.2.2 dX18_one_457
                            · skip
                              rw [if_pos c_63] at hf
                              exact B305 (z_40) ls H_43 locs ⟨lv_sub hl [2, 5] rfl, hP, hD, hS⟩ hf
                        · skip
                          rw [if_pos c_55] at hf
                          refine lv_aload_n hx hb dX18_one_283 rfl (lv_at hl 5 rfl) ?_
                          refine lv_lload hx hb dX18_one_284 (lv_at hl 1 rfl) ?_
                          refine lv_l2i (v := (r_36 : Int64).toInt32) hx hb dX18_one_286 rfl ?_
                          obtain ⟨z_101, _u, hfc, hf⟩ := cal_some hf
                          have hFc := de_free hD hS hA
                          refine va_callv (va_runV (As := [.int ((r_36 : Int64).toInt32)]) (rest := []) ⟨hx, hb, hml, hown, hts⟩ (de_X18_enterCall l dC dI cy a sh n H_43.size F z_40 h0 ((r_36 : Int64).toInt32) hfc) (cwV 1 hts gX18_one_X18_enterCall rfl rfl rfl (by decide +kernel) ⟨Nat.le_of_ble_eq_true rfl, Nat.le_of_ble_eq_true rfl⟩) ⟨fun a U g mk q => by obtain ⟨q0, q1, qP, qK, qD, qN⟩ := q; exact ⟨q0, q1, qP, va_K.moved (u := U) (U := U.calling g mk a) (Vm.Alike.refl U.vm) qK, qD, qN.same rfl⟩, va_recv hK hP (ci := 18) (q0 := h0) rfl (Wd_ob kg_1 sg_1 (by decide)), fun U hU hW => ⟨rfl, by rw [hU], by rw [hU]; exact hP, va_K.moved hW.alike hK, hD.weaken (fun _ _ _ _ => trivial), hN.warm hW⟩⟩ rfl rfl hl.1 rfl (lv_room (Nat.le_of_ble_eq_true rfl)) dX18_one_287 ⟨Nat.le_of_ble_eq_true rfl, Nat.le_of_ble_eq_true rfl⟩) hS (fun q _ h => hFc q h) hFc (fun u t H_102 locs ht hvm hw hB hz1 hk1 hS2 => ?_)
                          obtain ⟨hP1, -, hD1⟩ := hB
                          rw [ht] at hP1
                          replace hD := hD1.weaken (fun _ _ _ h => hFc _ h)
                          replace hP := hP1
                          replace hS := hS2
                          clear hP1 hD1 hS2 hFc hfc hz1 hk1 hvm ht
                          refine lv_goto (tgt := 457) hx hb dX18_one_290 (by decide) ?_
                          obtain ⟨h8, h9⟩ := ret_some hf
                          rw [h8]
                          exact W.vret hx hb hr (fun t ht hW => ⟨⟨(), rfl, trivial, by rw [ht]; exact hP, va_K.moved hW.alike hK, hD⟩, hS.F ht⟩) hS.2.2 dX18_one_457
                      · skip
                        rw [if_pos c_54] at hf
                        refine lv_aload_n hx hb dX18_one_267 rfl (lv_at hl 5 rfl) ?_
                        refine lv_lload hx hb dX18_one_268 (lv_at hl 1 rfl) ?_
                        refine lv_l2i (v := (r_36 : Int64).toInt32) hx hb dX18_one_270 rfl ?_
                        obtain ⟨z_103, _u, hfc, hf⟩ := cal_some hf
                        have hFc := de_free hD hS hA
                        refine va_callv (va_runV (As := [.int ((r_36 : Int64).toInt32)]) (rest := []) ⟨hx, hb, hml, hown, hts⟩ (de_X18_unpack l dC dI cy a sh n H_43.size F z_40 h0 ((r_36 : Int64).toInt32) hfc) (cwV 1 hts gX18_one_X18_unpack rfl rfl rfl (by decide +kernel) ⟨Nat.le_of_ble_eq_true rfl, Nat.le_of_ble_eq_true rfl⟩) ⟨fun a U g mk q => by obtain ⟨q0, q1, qP, qK, qD, qN⟩ := q; exact ⟨q0, q1, qP, va_K.moved (u := U) (U := U.calling g mk a) (Vm.Alike.refl U.vm) qK, qD, qN.same rfl⟩, va_recv hK hP (ci := 18) (q0 := h0) rfl (Wd_ob kg_1 sg_1 (by decide)), fun U hU hW => ⟨rfl, by rw [hU], by rw [hU]; exact hP, va_K.moved hW.alike hK, hD.weaken (fun _ _ _ _ => trivial), hN.warm hW⟩⟩ rfl rfl hl.1 rfl (lv_room (Nat.le_of_ble_eq_true rfl)) dX18_one_271 ⟨Nat.le_of_ble_eq_true rfl, Nat.le_of_ble_eq_true rfl⟩) hS (fun q _ h => hFc q h) hFc (fun u t H_104 locs ht hvm hw hB hz1 hk1 hS2 => ?_)
                        obtain ⟨hP1, -, hD1⟩ := hB
                        rw [ht] at hP1
                        replace hD := hD1.weaken (fun _ _ _ h => hFc _ h)
                        replace hP := hP1
                        replace hS := hS2
                        clear hP1 hD1 hS2 hFc hfc hz1 hk1 hvm ht
                        refine lv_goto (tgt := 457) hx hb dX18_one_274 (by decide) ?_
                        obtain ⟨h8, h9⟩ := ret_some hf
                        rw [h8]
                        exact W.vret hx hb hr (fun t ht hW => ⟨⟨(), rfl, trivial, by rw [ht]; exact hP, va_K.moved hW.alike hK, hD⟩, hS.F ht⟩) hS.2.2 dX18_one_457
                    · skip
                      rw [if_pos c_53] at hf
                      refine lv_aload_n hx hb dX18_one_251 rfl (lv_at hl 5 rfl) ?_
                      refine lv_lload hx hb dX18_one_252 (lv_at hl 1 rfl) ?_
                      refine lv_l2i (v := (r_36 : Int64).toInt32) hx hb dX18_one_254 rfl ?_
                      obtain ⟨z_105, _u, hfc, hf⟩ := cal_some hf
                      have hFc := de_free hD hS hA
                      refine va_callv (va_runV (As := [.int ((r_36 : Int64).toInt32)]) (rest := []) ⟨hx, hb, hml, hown, hts⟩ (de_X18_pack l dC dI cy a sh n H_43.size F z_40 h0 ((r_36 : Int64).toInt32) hfc) (cwV 1 hts gX18_one_X18_pack rfl rfl rfl (by decide +kernel) ⟨Nat.le_of_ble_eq_true rfl, Nat.le_of_ble_eq_true rfl⟩) ⟨fun a U g mk q => by obtain ⟨q0, q1, qP, qK, qD, qN⟩ := q; exact ⟨q0, q1, qP, va_K.moved (u := U) (U := U.calling g mk a) (Vm.Alike.refl U.vm) qK, qD, qN.same rfl⟩, va_recv hK hP (ci := 18) (q0 := h0) rfl (Wd_ob kg_1 sg_1 (by decide)), fun U hU hW => ⟨rfl, by rw [hU], by rw [hU]; exact hP, va_K.moved hW.alike hK, hD.weaken (fun _ _ _ _ => trivial), hN.warm hW⟩⟩ rfl rfl hl.1 rfl (lv_room (Nat.le_of_ble_eq_true rfl)) dX18_one_255 ⟨Nat.le_of_ble_eq_true rfl, Nat.le_of_ble_eq_true rfl⟩) hS (fun q _ h => hFc q h) hFc (fun u t H_106 locs ht hvm hw hB hz1 hk1 hS2 => ?_)
                      obtain ⟨hP1, -, hD1⟩ := hB
                      rw [ht] at hP1
                      replace hD := hD1.weaken (fun _ _ _ h => hFc _ h)
                      replace hP := hP1
                      replace hS := hS2
                      clear hP1 hD1 hS2 hFc hfc hz1 hk1 hvm ht
                      refine lv_goto (tgt := 457) hx hb dX18_one_258 (by decide) ?_
                      obtain ⟨h8, h9⟩ := ret_some hf
                      rw [h8]
                      exact W.vret hx hb hr (fun t ht hW => ⟨⟨(), rfl, trivial, by rw [ht]; exact hP, va_K.moved hW.alike hK, hD⟩, hS.F ht⟩) hS.2.2 dX18_one_457
                  · skip
                    rw [if_neg c_52] at hf
                    refine lv_aload_n hx hb dX18_one_234 rfl (lv_at hl 5 rfl) ?_
                    refine lv_iload_n hx hb dX18_one_235 rfl (lv_at hl 2 rfl) ?_
                    refine lv_lload hx hb dX18_one_236 (lv_at hl 0 rfl) ?_
                    refine lv_l2i (v := (r_41 : Int64).toInt32) hx hb dX18_one_238 rfl ?_
                    obtain ⟨z_107, _u, hfc, hf⟩ := cal_some hf
                    have hFc := de_free hD hS hA
                    refine va_callv (va_runV (As := [.int r_31, .int ((r_41 : Int64).toInt32)]) (rest := []) ⟨hx, hb, hml, hown, hts⟩ (de_X18_onReference l dC dI cy a sh n H_43.size F z_40 h0 r_31 ((r_41 : Int64).toInt32) hfc) (cwV 2 hts gX18_one_X18_onReference rfl rfl rfl (by decide +kernel) ⟨Nat.le_of_ble_eq_true rfl, Nat.le_of_ble_eq_true rfl⟩) ⟨fun a U g mk q => by obtain ⟨q0, q1, qP, qK, qD, qN⟩ := q; exact ⟨q0, q1, qP, va_K.moved (u := U) (U := U.calling g mk a) (Vm.Alike.refl U.vm) qK, qD, qN.same rfl⟩, va_recv hK hP (ci := 18) (q0 := h0) rfl (Wd_ob kg_1 sg_1 (by decide)), fun U hU hW => ⟨rfl, by rw [hU], by rw [hU]; exact hP, va_K.moved hW.alike hK, hD.weaken (fun _ _ _ _ => trivial), hN.warm hW⟩⟩ rfl rfl hl.1 rfl (lv_room (Nat.le_of_ble_eq_true rfl)) dX18_one_239 ⟨Nat.le_of_ble_eq_true rfl, Nat.le_of_ble_eq_true rfl⟩) hS (fun q _ h => hFc q h) hFc (fun u t H_108 locs ht hvm hw hB hz1 hk1 hS2 => ?_)
                    obtain ⟨hP1, -, hD1⟩ := hB
                    rw [ht] at hP1
                    replace hD := hD1.weaken (fun _ _ _ h => hFc _ h)
                    replace hP := hP1
                    replace hS := hS2
                    clear hP1 hD1 hS2 hFc hfc hz1 hk1 hvm ht
                    refine lv_goto (tgt := 457) hx hb dX18_one_242 (by decide) ?_
                    obtain ⟨h8, h9⟩ := ret_some hf
                    rw [h8]
                    exact W.vret hx hb hr (fun t ht hW => ⟨⟨(), rfl, trivial, by rw [ht]; exact hP, va_K.moved hW.alike hK, hD⟩, hS.F ht⟩) hS.2.2 dX18_one_457
                · skip
                  rw [if_neg c_51] at hf
                  refine lv_aload_n hx hb dX18_one_217 rfl (lv_at hl 5 rfl) ?_
                  refine lv_iload_n hx hb dX18_one_218 rfl (lv_at hl 2 rfl) ?_
                  refine lv_lload hx hb dX18_one_219 (lv_at hl 1 rfl) ?_
                  refine lv_l2i (v := (r_36 : Int64).toInt32) hx hb dX18_one_221 rfl ?_
                  obtain ⟨z_109, _u, hfc, hf⟩ := cal_some hf
                  have hFc := de_free hD hS hA
                  refine va_callv (va_runV (As := [.int r_31, .int ((r_36 : Int64).toInt32)]) (rest := []) ⟨hx, hb, hml, hown, hts⟩ (de_X18_onLocal l dC dI cy a sh n H_43.size F z_40 h0 r_31 ((r_36 : Int64).toInt32) hfc) (cwV 2 hts gX18_one_X18_onLocal rfl rfl rfl (by decide +kernel) ⟨Nat.le_of_ble_eq_true rfl, Nat.le_of_ble_eq_true rfl⟩) ⟨fun a U g mk q => by obtain ⟨q0, q1, qP, qK, qD, qN⟩ := q; exact ⟨q0, q1, qP, va_K.moved (u := U) (U := U.calling g mk a) (Vm.Alike.refl U.vm) qK, qD, qN.same rfl⟩, va_recv hK hP (ci := 18) (q0 := h0) rfl (Wd_ob kg_1 sg_1 (by decide)), fun U hU hW => ⟨rfl, by rw [hU], by rw [hU]; exact hP, va_K.moved hW.alike hK, hD.weaken (fun _ _ _ _ => trivial), hN.warm hW⟩⟩ rfl rfl hl.1 rfl (lv_room (Nat.le_of_ble_eq_true rfl)) dX18_one_222 ⟨Nat.le_of_ble_eq_true rfl, Nat.le_of_ble_eq_true rfl⟩) hS (fun q _ h => hFc q h) hFc (fun u t H_110 locs ht hvm hw hB hz1 hk1 hS2 => ?_)
                  obtain ⟨hP1, -, hD1⟩ := hB
                  rw [ht] at hP1
                  replace hD := hD1.weaken (fun _ _ _ h => hFc _ h)
                  replace hP := hP1
                  replace hS := hS2
                  clear hP1 hD1 hS2 hFc hfc hz1 hk1 hvm ht
                  refine lv_goto (tgt := 457) hx hb dX18_one_225 (by decide) ?_
                  obtain ⟨h8, h9⟩ := ret_some hf
                  rw [h8]
                  exact W.vret hx hb hr (fun t ht hW => ⟨⟨(), rfl, trivial, by rw [ht]; exact hP, va_K.moved hW.alike hK, hD⟩, hS.F ht⟩) hS.2.2 dX18_one_457
              · skip
                rw [if_pos c_50] at hf
                refine lv_aload_n hx hb dX18_one_199 rfl (lv_at hl 5 rfl) ?_
                refine lv_iload_n hx hb dX18_one_200 rfl (lv_at hl 2 rfl) ?_
                refine lv_lload hx hb dX18_one_201 (lv_at hl 1 rfl) ?_
                refine lv_lload hx hb dX18_one_203 (lv_at hl 0 rfl) ?_
                obtain ⟨z_111, _u, hfc, hf⟩ := cal_some hf
                have hFc := de_free hD hS hA
                refine va_callv (va_runV (As := [.int r_31, .long r_36, .long r_41]) (rest := []) ⟨hx, hb, hml, hown, hts⟩ (de_X18_constant l dC dI cy a sh n H_43.size F z_40 h0 r_31 r_36 r_41 hfc) (cwV 3 hts gX18_one_X18_constant rfl rfl rfl (by decide +kernel) ⟨Nat.le_of_ble_eq_true rfl, Nat.le_of_ble_eq_true rfl⟩) ⟨fun a U g mk q => by obtain ⟨q0, q1, qP, qK, qD, qN⟩ := q; exact ⟨q0, q1, qP, va_K.moved (u := U) (U := U.calling g mk a) (Vm.Alike.refl U.vm) qK, qD, qN.same rfl⟩, va_recv hK hP (ci := 18) (q0 := h0) rfl (Wd_ob kg_1 sg_1 (by decide)), fun U hU hW => ⟨rfl, by rw [hU], by rw [hU]; exact hP, va_K.moved hW.alike hK, hD.weaken (fun _ _ _ _ => trivial), hN.warm hW⟩⟩ rfl rfl hl.1 rfl (lv_room (Nat.le_of_ble_eq_true rfl)) dX18_one_205 ⟨Nat.le_of_ble_eq_true rfl, Nat.le_of_ble_eq_true rfl⟩) hS (fun q _ h => hFc q h) hFc (fun u t H_112 locs ht hvm hw hB hz1 hk1 hS2 => ?_)
                obtain ⟨hP1, -, hD1⟩ := hB
                rw [ht] at hP1
                replace hD := hD1.weaken (fun _ _ _ h => hFc _ h)
                replace hP := hP1
                replace hS := hS2
                clear hP1 hD1 hS2 hFc hfc hz1 hk1 hvm ht
                refine lv_goto (tgt := 457) hx hb dX18_one_208 (by decide) ?_
                obtain ⟨h8, h9⟩ := ret_some hf
                rw [h8]
                exact W.vret hx hb hr (fun t ht hW => ⟨⟨(), rfl, trivial, by rw [ht]; exact hP, va_K.moved hW.alike hK, hD⟩, hS.F ht⟩) hS.2.2 dX18_one_457
          · skip
            rw [if_neg c_46] at hf
            refine lv_aload_n hx hb dX18_one_176 rfl (lv_at hl 5 rfl) ?_
            refine lv_iload_n hx hb dX18_one_177 rfl (lv_at hl 2 rfl) ?_
            refine lv_lload hx hb dX18_one_178 (lv_at hl 1 rfl) ?_
            refine lv_l2i (v := (r_36 : Int64).toInt32) hx hb dX18_one_180 rfl ?_
            obtain ⟨z_113, _u, hfc, hf⟩ := cal_some hf
            have hFc := de_free hD hS hA
            refine va_callv (va_runV (As := [.int r_31, .int ((r_36 : Int64).toInt32)]) (rest := []) ⟨hx, hb, hml, hown, hts⟩ (de_X18_branch l dC dI cy a sh n H_43.size F z_40 h0 r_31 ((r_36 : Int64).toInt32) hfc) (cwV 2 hts gX18_one_X18_branch rfl rfl rfl (by decide +kernel) ⟨Nat.le_of_ble_eq_true rfl, Nat.le_of_ble_eq_true rfl⟩) ⟨fun a U g mk q => by obtain ⟨q0, q1, qP, qK, qD, qN⟩ := q; exact ⟨q0, q1, qP, va_K.moved (u := U) (U := U.calling g mk a) (Vm.Alike.refl U.vm) qK, qD, qN.same rfl⟩, va_recv hK hP (ci := 18) (q0 := h0) rfl (Wd_ob kg_1 sg_1 (by decide)), fun U hU hW => ⟨rfl, by rw [hU], by rw [hU]; exact hP, va_K.moved hW.alike hK, hD.weaken (fun _ _ _ _ => trivial), hN.warm hW⟩⟩ rfl rfl hl.1 rfl (lv_room (Nat.le_of_ble_eq_true rfl)) dX18_one_181 ⟨Nat.le_of_ble_eq_true rfl, Nat.le_of_ble_eq_true rfl⟩) hS (fun q _ h => hFc q h) hFc (fun u t H_114 locs ht hvm hw hB hz1 hk1 hS2 => ?_)
            obtain ⟨hP1, -, hD1⟩ := hB
            rw [ht] at hP1
            replace hD := hD1.weaken (fun _ _ _ h => hFc _ h)
            replace hP := hP1
            replace hS := hS2
            clear hP1 hD1 hS2 hFc hfc hz1 hk1 hvm ht
            refine lv_goto (tgt := 457) hx hb dX18_one_184 (by decide) ?_
            obtain ⟨h8, h9⟩ := ret_some hf
            rw [h8]
            exact W.vret hx hb hr (fun t ht hW => ⟨⟨(), rfl, trivial, by rw [ht]; exact hP, va_K.moved hW.alike hK, hD⟩, hS.F ht⟩) hS.2.2 dX18_one_457
        · skip
          rw [if_pos c_45] at hf
          refine lv_aload_n hx hb dX18_one_164 rfl (lv_at hl 5 rfl) ?_
          obtain ⟨z_115, _u, hfc, hf⟩ := cal_some hf
          have hFc := de_free hD hS hA
          refine va_callv (va_runV (As := []) (rest := []) ⟨hx, hb, hml, hown, hts⟩ (de_X18_giveBack l dC dI cy a sh n H_43.size F z_40 h0 hfc) (cwV 0 hts gX18_one_X18_giveBack rfl rfl rfl (by decide +kernel) ⟨Nat.le_of_ble_eq_true rfl, Nat.le_of_ble_eq_true rfl⟩) ⟨fun a U g mk q => by obtain ⟨q0, q1, qP, qK, qD, qN⟩ := q; exact ⟨q0, q1, qP, va_K.moved (u := U) (U := U.calling g mk a) (Vm.Alike.refl U.vm) qK, qD, qN.same rfl⟩, va_recv hK hP (ci := 18) (q0 := h0) rfl (Wd_ob kg_1 sg_1 (by decide)), fun U hU hW => ⟨rfl, by rw [hU], by rw [hU]; exact hP, va_K.moved hW.alike hK, hD.weaken (fun _ _ _ _ => trivial), hN.warm hW⟩⟩ rfl rfl hl.1 rfl (lv_room (Nat.le_of_ble_eq_true rfl)) dX18_one_165 ⟨Nat.le_of_ble_eq_true rfl, Nat.le_of_ble_eq_true rfl⟩) hS (fun q _ h => hFc q h) hFc (fun u t H_116 locs ht hvm hw hB hz1 hk1 hS2 => ?_)
          obtain ⟨hP1, -, hD1⟩ := hB
          rw [ht] at hP1
          replace hD := hD1.weaken (fun _ _ _ h => hFc _ h)
          replace hP := hP1
          replace hS := hS2
          clear hP1 hD1 hS2 hFc hfc hz1 hk1 hvm ht
          refine lv_goto (tgt := 457) hx hb dX18_one_168 (by decide) ?_
          obtain ⟨h8, h9⟩ := ret_some hf
          rw [h8]
          exact W.vret hx hb hr (fun t ht hW => ⟨⟨(), rfl, trivial, by rw [ht]; exact hP, va_K.moved hW.alike hK, hD⟩, hS.F ht⟩) hS.2.2 dX18_one_457
      · skip
        rw [if_pos c_44] at hf
        refine lv_aload_n hx hb dX18_one_121 rfl (lv_at hl 5 rfl) ?_
        refine va_get (D := (dC, dI)) (ci := 18) (v := .int (z_40.1 h0 45)) (C := RX18) (T := TX18) (N := 78) hx hb hts iwd_X18_one_X18 hown hK hP h0 (Wd_ob kg_1 sg_1 (by decide)) rfl 45 (by decide) (hts _ md_X18_one_7) (fun _ h9 => h9) (fl_at (t := 0) rfl) dX18_one_122 ?_
        refine lv_aload_n hx hb dX18_one_125 rfl (lv_at hl 5 rfl) ?_
        obtain ⟨k_117, ek_117, hf⟩ := lnk_some hf
        refine va_get (D := (dC, dI)) (ci := 18) (v := .ref (a k_117)) (C := RX18) (T := TX18) (N := 78) hx hb hts iwd_X18_one_X18 hown hK hP h0 (Wd_ob kg_1 sg_1 (by decide)) rfl 40 (by decide) (hts _ md_X18_one_8) (fun _ h9 => h9) (fl_q rfl ek_117) dX18_one_126 ?_
        refine lv_aload_n hx hb dX18_one_129 rfl (lv_at hl 5 rfl) ?_
        refine va_get (D := (dC, dI)) (ci := 18) (v := .int (z_40.1 h0 36)) (C := RX18) (T := TX18) (N := 78) hx hb hts iwd_X18_one_X18 hown hK hP h0 (Wd_ob kg_1 sg_1 (by decide)) rfl 36 (by decide) (hts _ md_X18_one_2) (fun _ h9 => h9) (fl_at (t := 0) rfl) dX18_one_130 ?_
        refine lv_iconst (v := 1) hx hb dX18_one_133 (by decide) ?_
        refine lv_isub hx hb dX18_one_134 ?_
        obtain ⟨g_118, hf⟩ := grd_some hf
        obtain ⟨kg_118, sg_118, ig_118⟩ := okA_at g_118
        refine va_iald hx hb hK hP k_117 1 (Wd_ai kg_118 sg_118) rfl ig_118 dX18_one_135 ?_
        refine lv_icmp_ne (tgt := 146) hx hb dX18_one_136 (by decide) (fun c_119 => ?_) (fun c_119 => ?_)
        · skip
          rw [if_neg c_119] at hf
          refine lv_aload_n hx hb dX18_one_146 rfl (lv_at hl 5 rfl) ?_
          refine lv_dup hx hb dX18_one_147 rfl ?_
          refine va_get (D := (dC, dI)) (ci := 18) (v := .int (z_40.1 h0 45)) (C := RX18) (T := TX18) (N := 78) hx hb hts iwd_X18_one_X18 hown hK hP h0 (Wd_ob kg_1 sg_1 (by decide)) rfl 45 (by decide) (hts _ md_X18_one_7) (fun _ h9 => h9) (fl_at (t := 0) rfl) dX18_one_148 ?_
          refine lv_iconst (v := 1) hx hb dX18_one_151 (by decide) ?_
          refine lv_isub hx hb dX18_one_152 ?_
          refine va_put (D := (dC, dI)) (ci := 18) (v := .int ((z_40.1 h0 45) - 1)) (ty := .int) (C := RX18) (T := TX18) (N := 78) hx hb hts iwd_X18_one_X18 tyX18 tyX18_ok nmX18 hown hK hP hD hS h0 (Wd_ob kg_1 sg_1 (by decide)) rfl 45 (by decide) (hts _ md_X18_one_7) (fun _ h9 => h9) rfl (by decide +kernel) rfl rfl (by rw [fl_len]; decide) dX18_one_153 (fun H_120 locs hP2 hD2 hS2 => ?_)
          rw [Wd_si sg_1 (by decide) rfl] at hP2 hD2
          obtain ⟨z_121, ez_121⟩ : ∃ w, w = si z_40 h0 45 ((z_40.1 h0 45) - 1) := ⟨_, rfl⟩
          rw [← ez_121] at hP2 hD2
          replace hf := lt_at ez_121 hf
          clear ez_121
          replace hP := hP2
          replace hD := hD2
          replace hS := hS2
          clear hP2 hD2 hS2
          refine lv_goto (tgt := 457) hx hb dX18_one_156 (by decide) ?_
          obtain ⟨h8, h9⟩ := ret_some hf
          rw [h8]
          exact W.vret hx hb hr (fun t ht hW => ⟨⟨(), rfl, trivial, by rw [ht]; exact hP, va_K.moved hW.alike hK, hD⟩, hS.F ht⟩) hS.2.2 dX18_one_457
        · skip
          rw [if_pos c_119] at hf
          refine lv_aload_n hx hb dX18_one_139 rfl (lv_at hl 5 rfl) ?_
          obtain ⟨z_122, _u, hfc, hf⟩ := cal_some hf
          have hFc := de_free hD hS hA
          refine va_callv (va_runV (As := []) (rest := []) ⟨hx, hb, hml, hown, hts⟩ (de_X18_slip l dC dI cy a sh n H_43.size F z_40 h0 hfc) (cwV 0 hts gX18_one_X18_slip rfl rfl rfl (by decide +kernel) ⟨Nat.le_of_ble_eq_true rfl, Nat.le_of_ble_eq_true rfl⟩) ⟨fun a U g mk q => by obtain ⟨q0, q1, qP, qK, qD, qN⟩ := q; exact ⟨q0, q1, qP, va_K.moved (u := U) (U := U.calling g mk a) (Vm.Alike.refl U.vm) qK, qD, qN.same rfl⟩, va_recv hK hP (ci := 18) (q0 := h0) rfl (Wd_ob kg_1 sg_1 (by decide)), fun U hU hW => ⟨rfl, by rw [hU], by rw [hU]; exact hP, va_K.moved hW.alike hK, hD.weaken (fun _ _ _ _ => trivial), hN.warm hW⟩⟩ rfl rfl hl.1 rfl (lv_room (Nat.le_of_ble_eq_true rfl)) dX18_one_140 ⟨Nat.le_of_ble_eq_true rfl, Nat.le_of_ble_eq_true rfl⟩) hS (fun q _ h => hFc q h) hFc (fun u t H_123 locs ht hvm hw hB hz1 hk1 hS2 => ?_)
          obtain ⟨hP1, -, hD1⟩ := hB
          rw [ht] at hP1
          replace hD := hD1.weaken (fun _ _ _ h => hFc _ h)
          replace hP := hP1
          replace hS := hS2
          clear hP1 hD1 hS2 hFc hfc hz1 hk1 hvm ht
          refine lv_goto (tgt := 457) hx hb dX18_one_143 (by decide) ?_
          obtain ⟨h8, h9⟩ := ret_some hf
          rw [h8]
          exact W.vret hx hb hr (fun t ht hW => ⟨⟨(), rfl, trivial, by rw [ht]; exact hP, va_K.moved hW.alike hK, hD⟩, hS.F ht⟩) hS.2.2 dX18_one_457
    · skip
      rw [if_pos c_24] at hf
      obtain ⟨h8, h9⟩ := ret_some hf
      rw [h8]
      exact W.vret hx hb hr (fun t ht hW => ⟨⟨(), rfl, trivial, by rw [ht]; exact hP, va_K.moved hW.alike hK, hD⟩, hS.F ht⟩) hS.2.2 dX18_one_68
  refine lv_icmp_lt (tgt := 60) hx hb dX18_one_53 (by decide) (fun c_124 => ?_) (fun c_124 => ?_)
  · skip
    rw [if_pos c_124] at hf
    exact B60 (z_16) ls H_19 locs ⟨lv_sub hl [0, 1, 2] rfl, hP, hD, hS⟩ hf
  · skip
    rw [if_neg c_124] at hf
    refine lv_aload_n hx hb dX18_one_56 rfl (lv_at hl 2 rfl) ?_
    obtain ⟨z_125, _u, hfc, hf⟩ := cal_some hf
    have hFc := de_free hD hS hA
    refine va_callv (va_runV (As := []) (rest := []) ⟨hx, hb, hml, hown, hts⟩ (de_X18_slip l dC dI cy a sh n H_19.size F z_16 h0 hfc) (cwV 0 hts gX18_one_X18_slip rfl rfl rfl (by decide +kernel) ⟨Nat.le_of_ble_eq_true rfl, Nat.le_of_ble_eq_true rfl⟩) ⟨fun a U g mk q => by obtain ⟨q0, q1, qP, qK, qD, qN⟩ := q; exact ⟨q0, q1, qP, va_K.moved (u := U) (U := U.calling g mk a) (Vm.Alike.refl U.vm) qK, qD, qN.same rfl⟩, va_recv hK hP (ci := 18) (q0 := h0) rfl (Wd_ob kg_1 sg_1 (by decide)), fun U hU hW => ⟨rfl, by rw [hU], by rw [hU]; exact hP, va_K.moved hW.alike hK, hD.weaken (fun _ _ _ _ => trivial), hN.warm hW⟩⟩ rfl rfl hl.1 rfl (lv_room (Nat.le_of_ble_eq_true rfl)) dX18_one_57 ⟨Nat.le_of_ble_eq_true rfl, Nat.le_of_ble_eq_true rfl⟩) hS (fun q _ h => hFc q h) hFc (fun u t H_126 locs ht hvm hw hB hz1 hk1 hS2 => ?_)
    obtain ⟨hP1, -, hD1⟩ := hB
    rw [ht] at hP1
    replace hD := hD1.weaken (fun _ _ _ h => hFc _ h)
    replace hP := hP1
    replace hS := hS2
    clear hP1 hD1 hS2 hFc hfc hz1 hk1 hvm ht
    exact B60 (z_125) ls H_126 locs ⟨lv_sub hl [0, 1, 2] rfl, hP, hD, hS⟩ hf

