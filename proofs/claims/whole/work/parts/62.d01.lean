theorem md_X15_make_1 : (.fieldLink RX15 27 "ResourceLedgerModel$Trees" "size" "I" : Cond) ∈ wsX15_make := List.mem_of_getElem? (i := 1) rfl
theorem iwd_X15_make_X15 : ∀ w ∈ wsX150, w ∈ wsX15_make := fun _ h => List.mem_cons_of_mem _ (List.mem_append_right _ h)
theorem md_X15_make_2 : (.fieldLink RX15 7 "ResourceLedgerModel$Trees" "kinds" "[B" : Cond) ∈ wsX15_make := List.mem_of_getElem? (i := 2) rfl
theorem md_X15_make_3 : (.fieldLink RX15 13 "ResourceLedgerModel$Trees" "highs" "[J" : Cond) ∈ wsX15_make := List.mem_of_getElem? (i := 3) rfl
theorem md_X15_make_4 : (.fieldLink RX15 17 "ResourceLedgerModel$Trees" "lows" "[J" : Cond) ∈ wsX15_make := List.mem_of_getElem? (i := 4) rfl
theorem md_X15_make_5 : (.fieldLink RX15 20 "ResourceLedgerModel$Trees" "firsts" "[I" : Cond) ∈ wsX15_make := List.mem_of_getElem? (i := 5) rfl
theorem md_X15_make_6 : (.fieldLink RX15 24 "ResourceLedgerModel$Trees" "nexts" "[I" : Cond) ∈ wsX15_make := List.mem_of_getElem? (i := 6) rfl
set_option maxHeartbeats 4000000 in
set_option maxRecDepth 100000 in
theorem de_X15_make (l : Launch) (dC : Nat → ClassId) (dI : Nat → Nat → Nat) (cy : Nat → ClassId) (a : Nat → Nat) (sh : Nat → Nat × Nat) (n sz : Nat) (F : Nat) (z : St) (h0 : Nat) (x0 : Int32) (x1 : Int64) (x2 : Int64) {z8 : St} {r8 : Int32} (hf : fn_X15_make F sh n z h0 x0 x1 x2 = some (z8, r8)) : Met l yX15_make wsX15_make ({ frames := 0, cells := 0, slots := 0, locals := 0 }) (va_Pc [.ref (a h0), .int x0, .long x1, .long x2] (fun U => U.heap.size = sz ∧ va_P (dC, dI) vwCl (Wd cy a sh n z) U.heap ∧ va_K (dC, dI) vwCl (TYS cy) U ∧ va_D (fun _ => True) (Wd cy a sh n z) ∧ NK U)) (va_Qi (fun (r9 : Int32) (u : Unit) => r9 = r8) (fun u t => va_P (dC, dI) vwCl (Wd cy a sh n z8) t.heap ∧ va_K (dC, dI) vwCl (TYS cy) t ∧ va_D (va_A (Wd cy a sh n z) sz) (Wd cy a sh n z8)) (va_A (Wd cy a sh n z) sz)) 0 0 (va_A (Wd cy a sh n z) sz) := by
  refine Met.ofW (cc := cX15_make) (maxL := 7) (ret := (some .int)) (by decide) rfl ?_
  intro p e s m args below meth c s₁ B hml hv
  obtain ⟨rfl, hsz, hP, hK, hD0, hN⟩ := hv
  have hx := B.exec
  have hb := B.bytes
  have hr := B.returns
  have hts := atoms_spec (ws := wsX15_make) B.pre
  have hown : s.vm.findClass RX15 = some m.cls := findClass_of_methodNamed B.named
  have hlocks := B.notSynchronized
  subst hsz
  have hD := hD0.self (sz := s.heap.size)
  clear hD0
  generalize hAe : va_A (Wd cy a sh n z) s.heap.size = A at hD ⊢
  have hA : ∀ q : Nat, s.heap.size ≤ q → A q := fun q h => by rw [← hAe]; exact Or.inr h
  clear hAe
  have hS : va_S A s.heap s.heap [] := va_S.rf
  have hl := lv_entry ([.ref (a h0), .int x0, .long x1, .long x2]) (n := 7) (Nat.le_of_ble_eq_true rfl)
  rw [lg_entry_eq]
  generalize (lg_sl ([.ref (a h0), .int x0, .long x1, .long x2]) ++ List.replicate (7 - (lg_sl ([.ref (a h0), .int x0, .long x1, .long x2])).length) Slot.unset).toArray = ls at hl ⊢
  replace hl : lv_has ls 7 [(0, .ref (a h0)), (1, .int x0), (2, .long x1), (4, .long x2)] := hl
  unfold fn_X15_make at hf
  refine de_start hS hP (fun H locs hS hP => ?_)
  refine lv_aload_n hx hb dX15_make_0 rfl (lv_at hl 0 rfl) ?_
  obtain ⟨g_1, hf⟩ := grd_some hf
  obtain ⟨kg_1, sg_1⟩ := okO_at g_1
  refine va_get (D := (dC, dI)) (ci := 15) (v := .int (z.1 h0 5)) (C := RX15) (T := TX15) (N := 6) hx hb hts iwd_X15_make_X15 hown hK hP h0 (Wd_ob kg_1 sg_1 (by decide)) rfl 5 (by decide) (hts _ md_X15_make_1) (fun _ h9 => h9) (fl_at (t := 0) rfl) dX15_make_1 ?_
  refine lv_topi (fun v_2 ev_2 => ?_)
  replace hf := lt_at ev_2 hf
  clear ev_2
  refine lv_istore (lv' := [(6, .int v_2), (0, .ref (a h0)), (1, .int x0), (2, .long x1), (4, .long x2)]) hx hb dX15_make_4 hl (by decide) rfl (fun ls hl2 => ?_)
  replace hl := hl2
  clear hl2
  refine lv_aload_n hx hb dX15_make_6 rfl (lv_at hl 1 rfl) ?_
  refine lv_dup hx hb dX15_make_7 rfl ?_
  refine va_get (D := (dC, dI)) (ci := 15) (v := .int (z.1 h0 5)) (C := RX15) (T := TX15) (N := 6) hx hb hts iwd_X15_make_X15 hown hK hP h0 (Wd_ob kg_1 sg_1 (by decide)) rfl 5 (by decide) (hts _ md_X15_make_1) (fun _ h9 => h9) (fl_at (t := 0) rfl) dX15_make_8 ?_
  refine lv_iconst (v := 1) hx hb dX15_make_11 (by decide) ?_
  refine lv_iadd hx hb dX15_make_12 ?_
  refine va_put (D := (dC, dI)) (ci := 15) (v := .int ((z.1 h0 5) + 1)) (ty := .int) (C := RX15) (T := TX15) (N := 6) hx hb hts iwd_X15_make_X15 tyX15 tyX15_ok nmX15 hown hK hP hD hS h0 (Wd_ob kg_1 sg_1 (by decide)) rfl 5 (by decide) (hts _ md_X15_make_1) (fun _ h9 => h9) rfl (by decide +kernel) rfl rfl (by rw [fl_len]; decide) dX15_make_13 (fun H_3 locs hP2 hD2 hS2 => ?_)
  rw [Wd_si sg_1 (by decide) rfl] at hP2 hD2
  obtain ⟨z_4, ez_4⟩ : ∃ w, w = si z h0 5 ((z.1 h0 5) + 1) := ⟨_, rfl⟩
  rw [← ez_4] at hP2 hD2
  replace hf := lt_at ez_4 hf
  clear ez_4
  replace hP := hP2
  replace hD := hD2
  replace hS := hS2
  clear hP2 hD2 hS2
  refine lv_aload_n hx hb dX15_make_16 rfl (lv_at hl 1 rfl) ?_
  obtain ⟨k_5, ek_5, hf⟩ := lnk_some hf
  refine va_get (D := (dC, dI)) (ci := 15) (v := .ref (a k_5)) (C := RX15) (T := TX15) (N := 6) hx hb hts iwd_X15_make_X15 hown hK hP h0 (Wd_ob kg_1 sg_1 (by decide)) rfl 0 (by decide) (hts _ md_X15_make_2) (fun _ h9 => h9) (fl_q rfl ek_5) dX15_make_17 ?_
  refine lv_iload hx hb dX15_make_20 (lv_at hl 0 rfl) ?_
  refine lv_iload_n hx hb dX15_make_22 rfl (lv_at hl 2 rfl) ?_
  refine lv_i2b (v := (x0 : Int32).toInt8.toInt32) hx hb dX15_make_23 rfl ?_
  obtain ⟨g_6, hf⟩ := grd_some hf
  obtain ⟨kg_6, sg_6, ig_6⟩ := okA_at g_6
  refine va_bast hx hb hK hP hD hS k_5 0 (Wd_ab kg_6 sg_6) rfl ig_6 dX15_make_24 (fun H_7 locs hP2 hD2 hS2 => ?_)
  rw [Wd_tb sg_6] at hP2 hD2
  obtain ⟨z_8, ez_8⟩ : ∃ w, w = si z_4 k_5 v_2.toNatClampNeg (vp_nar .byte ((x0 : Int32).toInt8.toInt32)) := ⟨_, rfl⟩
  rw [← ez_8] at hP2 hD2
  replace hf := lt_at ez_8 hf
  clear ez_8
  replace hP := hP2
  replace hD := hD2
  replace hS := hS2
  clear hP2 hD2 hS2
  refine lv_aload_n hx hb dX15_make_25 rfl (lv_at hl 1 rfl) ?_
  obtain ⟨k_9, ek_9, hf⟩ := lnk_some hf
  refine va_get (D := (dC, dI)) (ci := 15) (v := .ref (a k_9)) (C := RX15) (T := TX15) (N := 6) hx hb hts iwd_X15_make_X15 hown hK hP h0 (Wd_ob kg_1 sg_1 (by decide)) rfl 1 (by decide) (hts _ md_X15_make_3) (fun _ h9 => h9) (fl_q rfl ek_9) dX15_make_26 ?_
  refine lv_iload hx hb dX15_make_29 (lv_at hl 0 rfl) ?_
  refine lv_lload_n hx hb dX15_make_31 rfl (lv_at hl 3 rfl) ?_
  obtain ⟨g_10, hf⟩ := grd_some hf
  obtain ⟨kg_10, sg_10, ig_10⟩ := okA_at g_10
  refine va_last hx hb hK hP hD hS k_9 2 (Wd_al kg_10 sg_10) rfl ig_10 dX15_make_32 (fun H_11 locs hP2 hD2 hS2 => ?_)
  rw [Wd_tl sg_10] at hP2 hD2
  obtain ⟨z_12, ez_12⟩ : ∃ w, w = sl z_8 k_9 v_2.toNatClampNeg x1 := ⟨_, rfl⟩
  rw [← ez_12] at hP2 hD2
  replace hf := lt_at ez_12 hf
  clear ez_12
  replace hP := hP2
  replace hD := hD2
  replace hS := hS2
  clear hP2 hD2 hS2
  refine lv_aload_n hx hb dX15_make_33 rfl (lv_at hl 1 rfl) ?_
  obtain ⟨k_13, ek_13, hf⟩ := lnk_some hf
  refine va_get (D := (dC, dI)) (ci := 15) (v := .ref (a k_13)) (C := RX15) (T := TX15) (N := 6) hx hb hts iwd_X15_make_X15 hown hK hP h0 (Wd_ob kg_1 sg_1 (by decide)) rfl 2 (by decide) (hts _ md_X15_make_4) (fun _ h9 => h9) (fl_q rfl ek_13) dX15_make_34 ?_
  refine lv_iload hx hb dX15_make_37 (lv_at hl 0 rfl) ?_
  refine lv_lload hx hb dX15_make_39 (lv_at hl 4 rfl) ?_
  obtain ⟨g_14, hf⟩ := grd_some hf
  obtain ⟨kg_14, sg_14, ig_14⟩ := okA_at g_14
  refine va_last hx hb hK hP hD hS k_13 2 (Wd_al kg_14 sg_14) rfl ig_14 dX15_make_41 (fun H_15 locs hP2 hD2 hS2 => ?_)
  rw [Wd_tl sg_14] at hP2 hD2
  obtain ⟨z_16, ez_16⟩ : ∃ w, w = sl z_12 k_13 v_2.toNatClampNeg x2 := ⟨_, rfl⟩
  rw [← ez_16] at hP2 hD2
  replace hf := lt_at ez_16 hf
  clear ez_16
  replace hP := hP2
  replace hD := hD2
  replace hS := hS2
  clear hP2 hD2 hS2
  refine lv_aload_n hx hb dX15_make_42 rfl (lv_at hl 1 rfl) ?_
  obtain ⟨k_17, ek_17, hf⟩ := lnk_some hf
  refine va_get (D := (dC, dI)) (ci := 15) (v := .ref (a k_17)) (C := RX15) (T := TX15) (N := 6) hx hb hts iwd_X15_make_X15 hown hK hP h0 (Wd_ob kg_1 sg_1 (by decide)) rfl 3 (by decide) (hts _ md_X15_make_5) (fun _ h9 => h9) (fl_q rfl ek_17) dX15_make_43 ?_
  refine lv_iload hx hb dX15_make_46 (lv_at hl 0 rfl) ?_
  refine lv_iconst (v := (-1)) hx hb dX15_make_48 (by decide) ?_
  obtain ⟨g_18, hf⟩ := grd_some hf
  obtain ⟨kg_18, sg_18, ig_18⟩ := okA_at g_18
  refine va_iast hx hb hK hP hD hS k_17 1 (Wd_ai kg_18 sg_18) rfl ig_18 dX15_make_49 (fun H_19 locs hP2 hD2 hS2 => ?_)
  rw [Wd_ti sg_18] at hP2 hD2
  obtain ⟨z_20, ez_20⟩ : ∃ w, w = si z_16 k_17 v_2.toNatClampNeg (-1) := ⟨_, rfl⟩
  rw [← ez_20] at hP2 hD2
  replace hf := lt_at ez_20 hf
  clear ez_20
  replace hP := hP2
  replace hD := hD2
  replace hS := hS2
  clear hP2 hD2 hS2
  refine lv_aload_n hx hb dX15_make_50 rfl (lv_at hl 1 rfl) ?_
  obtain ⟨k_21, ek_21, hf⟩ := lnk_some hf
  refine va_get (D := (dC, dI)) (ci := 15) (v := .ref (a k_21)) (C := RX15) (T := TX15) (N := 6) hx hb hts iwd_X15_make_X15 hown hK hP h0 (Wd_ob kg_1 sg_1 (by decide)) rfl 4 (by decide) (hts _ md_X15_make_6) (fun _ h9 => h9) (fl_q rfl ek_21) dX15_make_51 ?_
  refine lv_iload hx hb dX15_make_54 (lv_at hl 0 rfl) ?_
  refine lv_iconst (v := (-1)) hx hb dX15_make_56 (by decide) ?_
  obtain ⟨g_22, hf⟩ := grd_some hf
  obtain ⟨kg_22, sg_22, ig_22⟩ := okA_at g_22
  refine va_iast hx hb hK hP hD hS k_21 1 (Wd_ai kg_22 sg_22) rfl ig_22 dX15_make_57 (fun H_23 locs hP2 hD2 hS2 => ?_)
  rw [Wd_ti sg_22] at hP2 hD2
  obtain ⟨z_24, ez_24⟩ : ∃ w, w = si z_20 k_21 v_2.toNatClampNeg (-1) := ⟨_, rfl⟩
  rw [← ez_24] at hP2 hD2
  replace hf := lt_at ez_24 hf
  clear ez_24
  replace hP := hP2
  replace hD := hD2
  replace hS := hS2
  clear hP2 hD2 hS2
  refine lv_iload hx hb dX15_make_58 (lv_at hl 0 rfl) ?_
  obtain ⟨h8, h9⟩ := ret_some hf
  rw [h8, h9]
  exact W.iret (v := v_2) hx hb hr (fun t ht hW => ⟨⟨v_2, (), rfl, rfl, by rw [ht]; exact hP, va_K.moved hW.alike hK, hD⟩, hS.F ht⟩) hS.2.2 dX15_make_60

theorem md_X15_takeLast_1 : (.fieldLink RX15 20 "ResourceLedgerModel$Trees" "firsts" "[I" : Cond) ∈ wsX15_takeLast := List.mem_of_getElem? (i := 1) rfl
theorem iwd_X15_takeLast_X15 : ∀ w ∈ wsX150, w ∈ wsX15_takeLast := fun _ h => List.mem_cons_of_mem _ (List.mem_append_right _ h)
theorem md_X15_takeLast_2 : (.fieldLink RX15 24 "ResourceLedgerModel$Trees" "nexts" "[I" : Cond) ∈ wsX15_takeLast := List.mem_of_getElem? (i := 2) rfl
set_option maxHeartbeats 4000000 in
set_option maxRecDepth 100000 in
theorem de_X15_takeLast (l : Launch) (dC : Nat → ClassId) (dI : Nat → Nat → Nat) (cy : Nat → ClassId) (a : Nat → Nat) (sh : Nat → Nat × Nat) (n sz : Nat) (F : Nat) (z : St) (h0 : Nat) (x0 : Int32) {z8 : St} {r8 : Int32} (hf : fn_X15_takeLast F sh n z h0 x0 = some (z8, r8)) : Met l yX15_takeLast wsX15_takeLast ({ frames := 0, cells := 0, slots := 0, locals := 0 }) (va_Pc [.ref (a h0), .int x0] (fun U => U.heap.size = sz ∧ va_P (dC, dI) vwCl (Wd cy a sh n z) U.heap ∧ va_K (dC, dI) vwCl (TYS cy) U ∧ va_D (fun _ => True) (Wd cy a sh n z) ∧ NK U)) (va_Qi (fun (r9 : Int32) (u : Unit) => r9 = r8) (fun u t => va_P (dC, dI) vwCl (Wd cy a sh n z8) t.heap ∧ va_K (dC, dI) vwCl (TYS cy) t ∧ va_D (va_A (Wd cy a sh n z) sz) (Wd cy a sh n z8)) (va_A (Wd cy a sh n z) sz)) 0 0 (va_A (Wd cy a sh n z) sz) := by
  refine Met.ofW (cc := cX15_takeLast) (maxL := 4) (ret := (some .int)) (by decide) rfl ?_
  intro p e s m args below meth c s₁ B hml hv
  obtain ⟨rfl, hsz, hP, hK, hD0, hN⟩ := hv
  have hx := B.exec
  have hb := B.bytes
  have hr := B.returns
  have hts := atoms_spec (ws := wsX15_takeLast) B.pre
  have hown : s.vm.findClass RX15 = some m.cls := findClass_of_methodNamed B.named
  have hlocks := B.notSynchronized
  subst hsz
  have hD := hD0.self (sz := s.heap.size)
  clear hD0
  generalize hAe : va_A (Wd cy a sh n z) s.heap.size = A at hD ⊢
  have hA : ∀ q : Nat, s.heap.size ≤ q → A q := fun q h => by rw [← hAe]; exact Or.inr h
  clear hAe
  have hS : va_S A s.heap s.heap [] := va_S.rf
  have hl := lv_entry ([.ref (a h0), .int x0]) (n := 4) (Nat.le_of_ble_eq_true rfl)
  rw [lg_entry_eq]
  generalize (lg_sl ([.ref (a h0), .int x0]) ++ List.replicate (4 - (lg_sl ([.ref (a h0), .int x0])).length) Slot.unset).toArray = ls at hl ⊢
  replace hl : lv_has ls 4 [(0, .ref (a h0)), (1, .int x0)] := hl
  unfold fn_X15_takeLast at hf
  refine de_start hS hP (fun H locs hS hP => ?_)
  refine lv_aload_n hx hb dX15_takeLast_0 rfl (lv_at hl 0 rfl) ?_
  obtain ⟨g_1, hf⟩ := grd_some hf
  obtain ⟨kg_1, sg_1⟩ := okO_at g_1
  obtain ⟨k_2, ek_2, hf⟩ := lnk_some hf
  refine va_get (D := (dC, dI)) (ci := 15) (v := .ref (a k_2)) (C := RX15) (T := TX15) (N := 6) hx hb hts iwd_X15_takeLast_X15 hown hK hP h0 (Wd_ob kg_1 sg_1 (by decide)) rfl 3 (by decide) (hts _ md_X15_takeLast_1) (fun _ h9 => h9) (fl_q rfl ek_2) dX15_takeLast_1 ?_
  refine lv_iload_n hx hb dX15_takeLast_4 rfl (lv_at hl 1 rfl) ?_
  obtain ⟨g_3, hf⟩ := grd_some hf
  obtain ⟨kg_3, sg_3, ig_3⟩ := okA_at g_3
  refine va_iald hx hb hK hP k_2 1 (Wd_ai kg_3 sg_3) rfl ig_3 dX15_takeLast_5 ?_
  refine lv_topi (fun v_4 ev_4 => ?_)
  replace hf := lt_at ev_4 hf
  clear ev_4
  refine lv_istore_n (lv' := [(2, .int v_4), (0, .ref (a h0)), (1, .int x0)]) hx hb dX15_takeLast_6 rfl hl (by decide) rfl (fun ls hl2 => ?_)
  replace hl := hl2
  clear hl2
  refine lv_iconst (v := (-1)) hx hb dX15_takeLast_7 (by decide) ?_
  refine lv_istore_n (lv' := [(3, .int (-1)), (2, .int v_4), (0, .ref (a h0)), (1, .int x0)]) hx hb dX15_takeLast_8 rfl hl (by decide) rfl (fun ls hl2 => ?_)
  replace hl := hl2
  clear hl2
  have hl0 : lv_has ls 4 [(3, .int (-1)), (2, .int v_4), (0, .ref (a h0)), (1, .int x0)] := lv_sub hl [0, 1, 2, 3] rfl
  refine de_loop (h := 9) (fun (x : St × Int32 × Int32) ls H locs => lv_has ls 4 [(3, .int x.2.2), (2, .int x.2.1), (0, .ref (a h0)), (1, .int x0)] ∧ va_P (dC, dI) vwCl (Wd cy a sh n x.1) H ∧ va_D A (Wd cy a sh n x.1) ∧ va_S A s.heap H locs) (fun f x => fn_X15_takeLast_L9 F sh n h0 x0 f x.1 x.2.1 x.2.2) (z8, r8) ?_ (fun _ => rfl) F (z, v_4, (-1)) ls H locs ⟨hl0, hP, hD, hS⟩ hf
  intro f_8 x ls H locs ih9 hI hf
  obtain ⟨z_7, p_5, p_6⟩ := x
  obtain ⟨hl2, hP2, hD2, hS2⟩ := hI
  replace hl : lv_has ls 4 [(3, .int p_6), (2, .int p_5), (0, .ref (a h0)), (1, .int x0)] := hl2
  replace hP := hP2
  replace hD := hD2
  replace hS := hS2
  clear hl2 hP2 hD2 hS2 hl0
  replace hf := fn_X15_takeLast_L9_s hf
  refine lv_aload_n hx hb dX15_takeLast_9 rfl (lv_at hl 2 rfl) ?_
  obtain ⟨k_9, ek_9, hf⟩ := lnk_some hf
  refine va_get (D := (dC, dI)) (ci := 15) (v := .ref (a k_9)) (C := RX15) (T := TX15) (N := 6) hx hb hts iwd_X15_takeLast_X15 hown hK hP h0 (Wd_ob kg_1 sg_1 (by decide)) rfl 4 (by decide) (hts _ md_X15_takeLast_2) (fun _ h9 => h9) (fl_q rfl ek_9) dX15_takeLast_10 ?_
  refine lv_iload_n hx hb dX15_takeLast_13 rfl (lv_at hl 1 rfl) ?_
  obtain ⟨g_10, hf⟩ := grd_some hf
  obtain ⟨kg_10, sg_10, ig_10⟩ := okA_at g_10
  refine va_iald hx hb hK hP k_9 1 (Wd_ai kg_10 sg_10) rfl ig_10 dX15_takeLast_14 ?_
  refine lv_iconst (v := (-1)) hx hb dX15_takeLast_15 (by decide) ?_
  refine lv_icmp_eq (tgt := 31) hx hb dX15_takeLast_16 (by decide) (fun c_11 => ?_) (fun c_11 => ?_)
  · skip
    rw [if_pos c_11] at hf
    refine lv_iload_n hx hb dX15_takeLast_31 rfl (lv_at hl 0 rfl) ?_
    refine lv_iconst (v := (-1)) hx hb dX15_takeLast_32 (by decide) ?_
    refine lv_icmp_ne (tgt := 46) hx hb dX15_takeLast_33 (by decide) (fun c_12 => ?_) (fun c_12 => ?_)
    · skip
      rw [if_neg c_12] at hf
      refine lv_aload_n hx hb dX15_takeLast_46 rfl (lv_at hl 2 rfl) ?_
      obtain ⟨k_13, ek_13, hf⟩ := lnk_some hf
      refine va_get (D := (dC, dI)) (ci := 15) (v := .ref (a k_13)) (C := RX15) (T := TX15) (N := 6) hx hb hts iwd_X15_takeLast_X15 hown hK hP h0 (Wd_ob kg_1 sg_1 (by decide)) rfl 4 (by decide) (hts _ md_X15_takeLast_2) (fun _ h9 => h9) (fl_q rfl ek_13) dX15_takeLast_47 ?_
      refine lv_iload_n hx hb dX15_takeLast_50 rfl (lv_at hl 0 rfl) ?_
      refine lv_iconst (v := (-1)) hx hb dX15_takeLast_51 (by decide) ?_
      obtain ⟨g_14, hf⟩ := grd_some hf
      obtain ⟨kg_14, sg_14, ig_14⟩ := okA_at g_14
      refine va_iast hx hb hK hP hD hS k_13 1 (Wd_ai kg_14 sg_14) rfl ig_14 dX15_takeLast_52 (fun H_15 locs hP2 hD2 hS2 => ?_)
      rw [Wd_ti sg_14] at hP2 hD2
      obtain ⟨z_16, ez_16⟩ : ∃ w, w = si z_7 k_13 p_6.toNatClampNeg (-1) := ⟨_, rfl⟩
      rw [← ez_16] at hP2 hD2
      replace hf := lt_at ez_16 hf
      clear ez_16
      replace hP := hP2
      replace hD := hD2
      replace hS := hS2
      clear hP2 hD2 hS2
      refine lv_iload_n hx hb dX15_takeLast_53 rfl (lv_at hl 1 rfl) ?_
      obtain ⟨h8, h9⟩ := ret_some hf
      rw [h8, h9]
      exact W.iret (v := p_5) hx hb hr (fun t ht hW => ⟨⟨p_5, (), rfl, rfl, by rw [ht]; exact hP, va_K.moved hW.alike hK, hD⟩, hS.F ht⟩) hS.2.2 dX15_takeLast_54
    · skip
      rw [if_pos c_12] at hf
      refine lv_aload_n hx hb dX15_takeLast_36 rfl (lv_at hl 2 rfl) ?_
      obtain ⟨k_17, ek_17, hf⟩ := lnk_some hf
      refine va_get (D := (dC, dI)) (ci := 15) (v := .ref (a k_17)) (C := RX15) (T := TX15) (N := 6) hx hb hts iwd_X15_takeLast_X15 hown hK hP h0 (Wd_ob kg_1 sg_1 (by decide)) rfl 3 (by decide) (hts _ md_X15_takeLast_1) (fun _ h9 => h9) (fl_q rfl ek_17) dX15_takeLast_37 ?_
      refine lv_iload_n hx hb dX15_takeLast_40 rfl (lv_at hl 3 rfl) ?_
      refine lv_iconst (v := (-1)) hx hb dX15_takeLast_41 (by decide) ?_
      obtain ⟨g_18, hf⟩ := grd_some hf
      obtain ⟨kg_18, sg_18, ig_18⟩ := okA_at g_18
      refine va_iast hx hb hK hP hD hS k_17 1 (Wd_ai kg_18 sg_18) rfl ig_18 dX15_takeLast_42 (fun H_19 locs hP2 hD2 hS2 => ?_)
      rw [Wd_ti sg_18] at hP2 hD2
      obtain ⟨z_20, ez_20⟩ : ∃ w, w = si z_7 k_17 x0.toNatClampNeg (-1) := ⟨_, rfl⟩
      rw [← ez_20] at hP2 hD2
      replace hf := lt_at ez_20 hf
      clear ez_20
      replace hP := hP2
      replace hD := hD2
      replace hS := hS2
      clear hP2 hD2 hS2
      refine lv_goto (tgt := 53) hx hb dX15_takeLast_43 (by decide) ?_
      refine lv_iload_n hx hb dX15_takeLast_53 rfl (lv_at hl 1 rfl) ?_
      obtain ⟨h8, h9⟩ := ret_some hf
      rw [h8, h9]
      exact W.iret (v := p_5) hx hb hr (fun t ht hW => ⟨⟨p_5, (), rfl, rfl, by rw [ht]; exact hP, va_K.moved hW.alike hK, hD⟩, hS.F ht⟩) hS.2.2 dX15_takeLast_54
  · skip
    rw [if_neg c_11] at hf
    refine lv_iload_n hx hb dX15_takeLast_19 rfl (lv_at hl 1 rfl) ?_
    refine lv_istore_n (lv' := [(3, .int p_5), (2, .int p_5), (0, .ref (a h0)), (1, .int x0)]) hx hb dX15_takeLast_20 rfl hl (by decide) rfl (fun ls hl2 => ?_)
    replace hl := hl2
    clear hl2
    refine lv_aload_n hx hb dX15_takeLast_21 rfl (lv_at hl 2 rfl) ?_
    obtain ⟨k_21, ek_21, hf⟩ := lnk_some hf
    refine va_get (D := (dC, dI)) (ci := 15) (v := .ref (a k_21)) (C := RX15) (T := TX15) (N := 6) hx hb hts iwd_X15_takeLast_X15 hown hK hP h0 (Wd_ob kg_1 sg_1 (by decide)) rfl 4 (by decide) (hts _ md_X15_takeLast_2) (fun _ h9 => h9) (fl_q rfl ek_21) dX15_takeLast_22 ?_
    refine lv_iload_n hx hb dX15_takeLast_25 rfl (lv_at hl 1 rfl) ?_
    obtain ⟨g_22, hf⟩ := grd_some hf
    obtain ⟨kg_22, sg_22, ig_22⟩ := okA_at g_22
    refine va_iald hx hb hK hP k_21 1 (Wd_ai kg_22 sg_22) rfl ig_22 dX15_takeLast_26 ?_
    refine lv_topi (fun v_23 ev_23 => ?_)
    replace hf := lt_at ev_23 hf
    clear ev_23
    refine lv_istore_n (lv' := [(2, .int v_23), (3, .int p_5), (0, .ref (a h0)), (1, .int x0)]) hx hb dX15_takeLast_27 rfl hl (by decide) rfl (fun ls hl2 => ?_)
    replace hl := hl2
    clear hl2
    refine lv_goto (tgt := 9) hx hb dX15_takeLast_28 (by decide) ?_
    exact ih9 (z_7, v_23, p_5) ls H locs ⟨lv_sub hl [1, 0, 2, 3] rfl, hP, hD, hS⟩ hf

theorem md_X17_lay_1 : (.constantLong RX17 19 (65535) : Cond) ∈ wsX17_lay := List.mem_of_getElem? (i := 1) rfl
set_option maxHeartbeats 4000000 in
set_option maxRecDepth 100000 in
theorem de_X17_lay (l : Launch) (dC : Nat → ClassId) (dI : Nat → Nat → Nat) (cy : Nat → ClassId) (a : Nat → Nat) (sh : Nat → Nat × Nat) (n sz : Nat) (F : Nat) (z : St) (x0 : Nat) (x1 : Int64) (x2 : Int64) {z8 : St} {r8 : Unit} (hf : fn_X17_lay F sh n z x0 x1 x2 = some (z8, r8)) : Met l yX17_lay wsX17_lay ({ frames := 0, cells := 0, slots := 0, locals := 0 }) (va_Pc [.ref (a x0), .long x1, .long x2] (fun U => U.heap.size = sz ∧ va_P (dC, dI) vwCl (Wd cy a sh n z) U.heap ∧ va_K (dC, dI) vwCl (TYS cy) U ∧ va_D (fun _ => True) (Wd cy a sh n z) ∧ NK U)) (va_Qv (fun u : Unit => True) (fun u t => va_P (dC, dI) vwCl (Wd cy a sh n z8) t.heap ∧ va_K (dC, dI) vwCl (TYS cy) t ∧ va_D (va_A (Wd cy a sh n z) sz) (Wd cy a sh n z8)) (va_A (Wd cy a sh n z) sz)) 0 0 (va_A (Wd cy a sh n z) sz) := by
  refine Met.ofW (cc := cX17_lay) (maxL := 6) (ret := none) (by decide) rfl ?_
  intro p e s m args below meth c s₁ B hml hv
  obtain ⟨rfl, hsz, hP, hK, hD0, hN⟩ := hv
  have hx := B.exec
  have hb := B.bytes
  have hr := B.returns
  have hts := atoms_spec (ws := wsX17_lay) B.pre
  have hown : s.vm.findClass RX17 = some m.cls := findClass_of_methodNamed B.named
  have hlocks := B.notSynchronized
  subst hsz
  have hD := hD0.self (sz := s.heap.size)
  clear hD0
  generalize hAe : va_A (Wd cy a sh n z) s.heap.size = A at hD ⊢
  have hA : ∀ q : Nat, s.heap.size ≤ q → A q := fun q h => by rw [← hAe]; exact Or.inr h
  clear hAe
  have hS : va_S A s.heap s.heap [] := va_S.rf
  have hl := lv_entry ([.ref (a x0), .long x1, .long x2]) (n := 6) (Nat.le_of_ble_eq_true rfl)
  rw [lg_entry_eq]
  generalize (lg_sl ([.ref (a x0), .long x1, .long x2]) ++ List.replicate (6 - (lg_sl ([.ref (a x0), .long x1, .long x2])).length) Slot.unset).toArray = ls at hl ⊢
  replace hl : lv_has ls 6 [(0, .ref (a x0)), (1, .long x1), (3, .long x2)] := hl
  unfold fn_X17_lay at hf
  refine de_start hS hP (fun H locs hS hP => ?_)
  refine lv_iconst (v := 0) hx hb dX17_lay_0 (by decide) ?_
  refine lv_istore (lv' := [(5, .int 0), (0, .ref (a x0)), (1, .long x1), (3, .long x2)]) hx hb dX17_lay_1 hl (by decide) rfl (fun ls hl2 => ?_)
  replace hl := hl2
  clear hl2
  have hl0 : lv_has ls 6 [(5, .int 0), (0, .ref (a x0)), (1, .long x1), (3, .long x2)] := lv_sub hl [0, 1, 2, 3] rfl
  refine de_loop (h := 3) (fun (x : St × Int32) ls H locs => lv_has ls 6 [(5, .int x.2), (0, .ref (a x0)), (1, .long x1), (3, .long x2)] ∧ va_P (dC, dI) vwCl (Wd cy a sh n x.1) H ∧ va_D A (Wd cy a sh n x.1) ∧ va_S A s.heap H locs) (fun f x => fn_X17_lay_L3 F sh n x0 x1 x2 f x.1 x.2) (z8, r8) ?_ (fun _ => rfl) F (z, 0) ls H locs ⟨hl0, hP, hD, hS⟩ hf
  intro f_3 x ls H locs ih3 hI hf
  obtain ⟨z_2, p_1⟩ := x
  obtain ⟨hl2, hP2, hD2, hS2⟩ := hI
  replace hl : lv_has ls 6 [(5, .int p_1), (0, .ref (a x0)), (1, .long x1), (3, .long x2)] := hl2
  replace hP := hP2
  replace hD := hD2
  replace hS := hS2
  clear hl2 hP2 hD2 hS2 hl0
  replace hf := fn_X17_lay_L3_s hf
  refine lv_iload hx hb dX17_lay_3 (lv_at hl 0 rfl) ?_
  refine lv_bipush (v := 16) hx hb dX17_lay_5 (by decide) ?_
  refine lv_icmp_ge (tgt := 66) hx hb dX17_lay_7 (by decide) (fun c_4 => ?_) (fun c_4 => ?_)
  · skip
    rw [if_pos c_4] at hf
    obtain ⟨h8, h9⟩ := ret_some hf
    rw [h8]
    exact W.vret hx hb hr (fun t ht hW => ⟨⟨(), rfl, trivial, by rw [ht]; exact hP, va_K.moved hW.alike hK, hD⟩, hS.F ht⟩) hS.2.2 dX17_lay_66
  · skip
    rw [if_neg c_4] at hf
    refine lv_aload_n hx hb dX17_lay_10 rfl (lv_at hl 1 rfl) ?_
    refine lv_iload hx hb dX17_lay_11 (lv_at hl 0 rfl) ?_
    refine lv_iload hx hb dX17_lay_13 (lv_at hl 0 rfl) ?_
    refine lv_iconst (v := 4) hx hb dX17_lay_15 (by decide) ?_
    refine de_cut (h := 59) (fun (x : St × Int32) => [.int x.2, .int p_1, .ref (a x0)]) (fun x ls H locs => lv_has ls 6 [(5, .int p_1), (0, .ref (a x0)), (1, .long x1), (3, .long x2)] ∧ va_P (dC, dI) vwCl (Wd cy a sh n x.1) H ∧ va_D A (Wd cy a sh n x.1) ∧ va_S A s.heap H locs) (fun x => fn_X17_lay_B59 F sh n x0 p_1 (fun z9 q5 => fn_X17_lay_L3 F sh n x0 x1 x2 f_3 z9 q5) x.1 x.2) (z8, r8) ?_ (fun B59 => ?_)
    · intro x ls H locs hI hf
      obtain ⟨z_6, p_5⟩ := x
      obtain ⟨hl2, hP2, hD2, hS2⟩ := hI
      replace hl : lv_has ls 6 [(5, .int p_1), (0, .ref (a x0)), (1, .long x1), (3, .long x2)] := hl2
      replace hP := hP2
      replace hD := hD2
      replace hS := hS2
      clear hl2 hP2 hD2 hS2
      replace hf := fn_X17_lay_B59_s hf
      refine W.eq (g2 := F0 m 59 ls [.int p_5, .int p_1, .ref (a x0)]) rfl ?_
      obtain ⟨g_7, hf⟩ := grd_some hf
      obtain ⟨kg_7, sg_7, ig_7⟩ := okA_at g_7
      refine va_iast hx hb hK hP hD hS x0 1 (Wd_ai kg_7 sg_7) rfl ig_7 dX17_lay_59 (fun H_8 locs hP2 hD2 hS2 => ?_)
      rw [Wd_ti sg_7] at hP2 hD2
      obtain ⟨z_9, ez_9⟩ : ∃ w, w = si z_6 x0 p_1.toNatClampNeg p_5 := ⟨_, rfl⟩
      rw [← ez_9] at hP2 hD2
      replace hf := lt_at ez_9 hf
      clear ez_9
      replace hP := hP2
      replace hD := hD2
      replace hS := hS2
      clear hP2 hD2 hS2
      refine lv_iinc (v := (p_1 + 1)) (lv' := [(5, .int (p_1 + 1)), (0, .ref (a x0)), (1, .long x1), (3, .long x2)]) hx hb dX17_lay_60 hl (k := 0) rfl rfl (by decide) rfl (fun ls hl2 => ?_)
      replace hl := hl2
      clear hl2
      refine lv_goto (tgt := 3) hx hb dX17_lay_63 (by decide) ?_
      exact ih3 (z_9, (p_1 + 1)) ls H_8 locs ⟨lv_sub hl [0, 1, 2, 3] rfl, hP, hD, hS⟩ hf
    refine lv_icmp_ge (tgt := 34) hx hb dX17_lay_16 (by decide) (fun c_10 => ?_) (fun c_10 => ?_)
    · skip
      rw [if_pos c_10] at hf
      refine lv_iload hx hb dX17_lay_34 (lv_at hl 0 rfl) ?_
      refine lv_bipush (v := 8) hx hb dX17_lay_36 (by decide) ?_
      refine lv_icmp_ge (tgt := 58) hx hb dX17_lay_38 (by decide) (fun c_11 => ?_) (fun c_11 => ?_)
      · skip
        rw [if_pos c_11] at hf
        refine lv_iconst (v := 0) hx hb dX17_lay_58 (by decide) ?_
        exact B59 (z_2, 0) ls H locs ⟨lv_sub hl [0, 1, 2, 3] rfl, hP, hD, hS⟩ hf
      · skip
        rw [if_neg c_11] at hf
        refine lv_lload_n hx hb dX17_lay_41 rfl (lv_at hl 2 rfl) ?_
        refine lv_bipush (v := 16) hx hb dX17_lay_42 (by decide) ?_
        refine lv_iload hx hb dX17_lay_44 (lv_at hl 0 rfl) ?_
        refine lv_iconst (v := 4) hx hb dX17_lay_46 (by decide) ?_
        refine lv_isub hx hb dX17_lay_47 ?_
        refine lv_imul hx hb dX17_lay_48 ?_
        refine lv_lshr (v := (x1 >>> (((16 * (p_1 - 4)) : Int32).toInt64 &&& 63))) hx hb dX17_lay_49 rfl ?_
        refine lv_ldc2 hx hb hown (hts _ md_X17_lay_1) dX17_lay_50 ?_
        refine lv_land hx hb dX17_lay_53 ?_
        refine lv_l2i (v := ((((x1 >>> (((16 * (p_1 - 4)) : Int32).toInt64 &&& 63))) &&& 65535) : Int64).toInt32) hx hb dX17_lay_54 rfl ?_
        refine lv_goto (tgt := 59) hx hb dX17_lay_55 (by decide) ?_
        exact B59 (z_2, (((((x1 >>> (((16 * (p_1 - 4)) : Int32).toInt64 &&& 63))) &&& 65535) : Int64).toInt32)) ls H locs ⟨lv_sub hl [0, 1, 2, 3] rfl, hP, hD, hS⟩ hf
    · skip
      rw [if_neg c_10] at hf
      refine lv_lload_n hx hb dX17_lay_19 rfl (lv_at hl 3 rfl) ?_
      refine lv_bipush (v := 16) hx hb dX17_lay_20 (by decide) ?_
      refine lv_iload hx hb dX17_lay_22 (lv_at hl 0 rfl) ?_
      refine lv_imul hx hb dX17_lay_24 ?_
      refine lv_lshr (v := (x2 >>> (((16 * p_1) : Int32).toInt64 &&& 63))) hx hb dX17_lay_25 rfl ?_
      refine lv_ldc2 hx hb hown (hts _ md_X17_lay_1) dX17_lay_26 ?_
      refine lv_land hx hb dX17_lay_29 ?_
      refine lv_l2i (v := ((((x2 >>> (((16 * p_1) : Int32).toInt64 &&& 63))) &&& 65535) : Int64).toInt32) hx hb dX17_lay_30 rfl ?_
      refine lv_goto (tgt := 59) hx hb dX17_lay_31 (by decide) ?_
      exact B59 (z_2, (((((x2 >>> (((16 * p_1) : Int32).toInt64 &&& 63))) &&& 65535) : Int64).toInt32)) ls H locs ⟨lv_sub hl [0, 1, 2, 3] rfl, hP, hD, hS⟩ hf

theorem md_X4_pop_1 : (.fieldLink RX4 49 "ResourceLedger$Machine" "depths" "[I" : Cond) ∈ wsX4_pop := List.mem_of_getElem? (i := 1) rfl
theorem iwd_X4_pop_X4 : ∀ w ∈ wsX40, w ∈ wsX4_pop := fun _ h => List.mem_cons_of_mem _ (List.mem_append_left _ (List.mem_append_right _ h))
theorem md_X4_pop_2 : (.fieldLink RX4 100 "ResourceLedger$Machine" "top" "I" : Cond) ∈ wsX4_pop := List.mem_of_getElem? (i := 2) rfl
theorem md_X4_pop_5 : (.fieldLink RX4 55 "ResourceLedger$Machine" "stack" "[I" : Cond) ∈ wsX4_pop := List.mem_of_getElem? (i := 5) rfl
theorem md_X4_pop_3 : (.fieldLink RX4 12 "ResourceLedger$Machine" "heap" "LResourceLedger$Heap;" : Cond) ∈ wsX4_pop := List.mem_of_getElem? (i := 3) rfl
theorem md_X4_pop_4 : (.fieldLink RX4 71 "ResourceLedger$Heap" "slips" "I" : Cond) ∈ wsX4_pop := List.mem_of_getElem? (i := 4) rfl
theorem iwd_X4_pop_X1 : ∀ w ∈ wsX10, w ∈ wsX4_pop := fun _ h => List.mem_cons_of_mem _ (List.mem_append_right _ h)
set_option maxHeartbeats 4000000 in
set_option maxRecDepth 100000 in
theorem de_X4_pop (l : Launch) (dC : Nat → ClassId) (dI : Nat → Nat → Nat) (cy : Nat → ClassId) (a : Nat → Nat) (sh : Nat → Nat × Nat) (n sz : Nat) (F : Nat) (z : St) (h0 : Nat) {z8 : St} {r8 : Int32} (hf : fn_X4_pop F sh n z h0 = some (z8, r8)) : Met l yX4_pop wsX4_pop ({ frames := 0, cells := 0, slots := 0, locals := 0 }) (va_Pc [.ref (a h0)] (fun U => U.heap.size = sz ∧ va_P (dC, dI) vwCl (Wd cy a sh n z) U.heap ∧ va_K (dC, dI) vwCl (TYS cy) U ∧ va_D (fun _ => True) (Wd cy a sh n z) ∧ NK U)) (va_Qi (fun (r9 : Int32) (u : Unit) => r9 = r8) (fun u t => va_P (dC, dI) vwCl (Wd cy a sh n z8) t.heap ∧ va_K (dC, dI) vwCl (TYS cy) t ∧ va_D (va_A (Wd cy a sh n z) sz) (Wd cy a sh n z8)) (va_A (Wd cy a sh n z) sz)) 0 0 (va_A (Wd cy a sh n z) sz) := by
  refine Met.ofW (cc := cX4_pop) (maxL := 1) (ret := (some .int)) (by decide) rfl ?_
  intro p e s m args below meth c s₁ B hml hv
  obtain ⟨rfl, hsz, hP, hK, hD0, hN⟩ := hv
  have hx := B.exec
  have hb := B.bytes
  have hr := B.returns
  have hts := atoms_spec (ws := wsX4_pop) B.pre
  have hown : s.vm.findClass RX4 = some m.cls := findClass_of_methodNamed B.named
  have hlocks := B.notSynchronized
  subst hsz
  have hD := hD0.self (sz := s.heap.size)
  clear hD0
  generalize hAe : va_A (Wd cy a sh n z) s.heap.size = A at hD ⊢
  have hA : ∀ q : Nat, s.heap.size ≤ q → A q := fun q h => by rw [← hAe]; exact Or.inr h
  clear hAe
  have hS : va_S A s.heap s.heap [] := va_S.rf
  have hl := lv_entry ([.ref (a h0)]) (n := 1) (Nat.le_of_ble_eq_true rfl)
  rw [lg_entry_eq]
  generalize (lg_sl ([.ref (a h0)]) ++ List.replicate (1 - (lg_sl ([.ref (a h0)])).length) Slot.unset).toArray = ls at hl ⊢
  replace hl : lv_has ls 1 [(0, .ref (a h0))] := hl
  unfold fn_X4_pop at hf
  refine de_start hS hP (fun H locs hS hP => ?_)
  refine lv_aload_n hx hb dX4_pop_0 rfl (lv_at hl 0 rfl) ?_
  obtain ⟨g_1, hf⟩ := grd_some hf
  obtain ⟨kg_1, sg_1⟩ := okO_at g_1
  obtain ⟨k_2, ek_2, hf⟩ := lnk_some hf
  refine va_get (D := (dC, dI)) (ci := 4) (v := .ref (a k_2)) (C := RX4) (T := TX4) (N := 18) hx hb hts iwd_X4_pop_X4 hown hK hP h0 (Wd_ob kg_1 sg_1 (by decide)) rfl 9 (by decide) (hts _ md_X4_pop_1) (fun _ h9 => h9) (fl_q rfl ek_2) dX4_pop_1 ?_
  refine lv_aload_n hx hb dX4_pop_4 rfl (lv_at hl 0 rfl) ?_
  refine va_get (D := (dC, dI)) (ci := 4) (v := .int (z.1 h0 12)) (C := RX4) (T := TX4) (N := 18) hx hb hts iwd_X4_pop_X4 hown hK hP h0 (Wd_ob kg_1 sg_1 (by decide)) rfl 12 (by decide) (hts _ md_X4_pop_2) (fun _ h9 => h9) (fl_at (t := 0) rfl) dX4_pop_5 ?_
  obtain ⟨g_3, hf⟩ := grd_some hf
  obtain ⟨kg_3, sg_3, ig_3⟩ := okA_at g_3
  refine va_iald hx hb hK hP k_2 1 (Wd_ai kg_3 sg_3) rfl ig_3 dX4_pop_8 ?_
  refine lv_if_ne (tgt := 27) hx hb dX4_pop_9 (by decide) (fun c_4 => ?_) (fun c_4 => ?_)
  · skip
    rw [if_neg c_4] at hf
    refine lv_aload_n hx hb dX4_pop_27 rfl (lv_at hl 0 rfl) ?_
    obtain ⟨k_5, ek_5, hf⟩ := lnk_some hf
    refine va_get (D := (dC, dI)) (ci := 4) (v := .ref (a k_5)) (C := RX4) (T := TX4) (N := 18) hx hb hts iwd_X4_pop_X4 hown hK hP h0 (Wd_ob kg_1 sg_1 (by decide)) rfl 9 (by decide) (hts _ md_X4_pop_1) (fun _ h9 => h9) (fl_q rfl ek_5) dX4_pop_28 ?_
    refine lv_aload_n hx hb dX4_pop_31 rfl (lv_at hl 0 rfl) ?_
    refine va_get (D := (dC, dI)) (ci := 4) (v := .int (z.1 h0 12)) (C := RX4) (T := TX4) (N := 18) hx hb hts iwd_X4_pop_X4 hown hK hP h0 (Wd_ob kg_1 sg_1 (by decide)) rfl 12 (by decide) (hts _ md_X4_pop_2) (fun _ h9 => h9) (fl_at (t := 0) rfl) dX4_pop_32 ?_
    refine lv_dup2_11 hx hb dX4_pop_35 rfl rfl ?_
    obtain ⟨g_6, hf⟩ := grd_some hf
    obtain ⟨kg_6, sg_6, ig_6⟩ := okA_at g_6
    refine va_iald hx hb hK hP k_5 1 (Wd_ai kg_6 sg_6) rfl ig_6 dX4_pop_36 ?_
    refine lv_iconst (v := 1) hx hb dX4_pop_37 (by decide) ?_
    refine lv_isub hx hb dX4_pop_38 ?_
    obtain ⟨g_7, hf⟩ := grd_some hf
    obtain ⟨kg_7, sg_7, ig_7⟩ := okA_at g_7
    refine va_iast hx hb hK hP hD hS k_5 1 (Wd_ai kg_7 sg_7) rfl ig_7 dX4_pop_39 (fun H_8 locs hP2 hD2 hS2 => ?_)
    rw [Wd_ti sg_7] at hP2 hD2
    obtain ⟨z_9, ez_9⟩ : ∃ w, w = si z k_5 (z.1 h0 12).toNatClampNeg ((z.1 k_5 (z.1 h0 12).toNatClampNeg) - 1) := ⟨_, rfl⟩
    rw [← ez_9] at hP2 hD2
    replace hf := lt_at ez_9 hf
    clear ez_9
    replace hP := hP2
    replace hD := hD2
    replace hS := hS2
    clear hP2 hD2 hS2
    refine lv_aload_n hx hb dX4_pop_40 rfl (lv_at hl 0 rfl) ?_
    obtain ⟨k_10, ek_10, hf⟩ := lnk_some hf
    refine va_get (D := (dC, dI)) (ci := 4) (v := .ref (a k_10)) (C := RX4) (T := TX4) (N := 18) hx hb hts iwd_X4_pop_X4 hown hK hP h0 (Wd_ob kg_1 sg_1 (by decide)) rfl 11 (by decide) (hts _ md_X4_pop_5) (fun _ h9 => h9) (fl_q rfl ek_10) dX4_pop_41 ?_
    refine lv_aload_n hx hb dX4_pop_44 rfl (lv_at hl 0 rfl) ?_
    refine va_get (D := (dC, dI)) (ci := 4) (v := .int (z_9.1 h0 12)) (C := RX4) (T := TX4) (N := 18) hx hb hts iwd_X4_pop_X4 hown hK hP h0 (Wd_ob kg_1 sg_1 (by decide)) rfl 12 (by decide) (hts _ md_X4_pop_2) (fun _ h9 => h9) (fl_at (t := 0) rfl) dX4_pop_45 ?_
    refine lv_bipush (v := 64) hx hb dX4_pop_48 (by decide) ?_
    refine lv_imul hx hb dX4_pop_50 ?_
    refine lv_aload_n hx hb dX4_pop_51 rfl (lv_at hl 0 rfl) ?_
    obtain ⟨k_11, ek_11, hf⟩ := lnk_some hf
    refine va_get (D := (dC, dI)) (ci := 4) (v := .ref (a k_11)) (C := RX4) (T := TX4) (N := 18) hx hb hts iwd_X4_pop_X4 hown hK hP h0 (Wd_ob kg_1 sg_1 (by decide)) rfl 9 (by decide) (hts _ md_X4_pop_1) (fun _ h9 => h9) (fl_q rfl ek_11) dX4_pop_52 ?_
    refine lv_aload_n hx hb dX4_pop_55 rfl (lv_at hl 0 rfl) ?_
    refine va_get (D := (dC, dI)) (ci := 4) (v := .int (z_9.1 h0 12)) (C := RX4) (T := TX4) (N := 18) hx hb hts iwd_X4_pop_X4 hown hK hP h0 (Wd_ob kg_1 sg_1 (by decide)) rfl 12 (by decide) (hts _ md_X4_pop_2) (fun _ h9 => h9) (fl_at (t := 0) rfl) dX4_pop_56 ?_
    obtain ⟨g_12, hf⟩ := grd_some hf
    obtain ⟨kg_12, sg_12, ig_12⟩ := okA_at g_12
    refine va_iald hx hb hK hP k_11 1 (Wd_ai kg_12 sg_12) rfl ig_12 dX4_pop_59 ?_
    refine lv_iadd hx hb dX4_pop_60 ?_
    obtain ⟨g_13, hf⟩ := grd_some hf
    obtain ⟨kg_13, sg_13, ig_13⟩ := okA_at g_13
    refine va_iald hx hb hK hP k_10 1 (Wd_ai kg_13 sg_13) rfl ig_13 dX4_pop_61 ?_
    obtain ⟨h8, h9⟩ := ret_some hf
    rw [h8, h9]
    exact W.iret (v := (z_9.1 k_10 (((z_9.1 h0 12) * 64) + (z_9.1 k_11 (z_9.1 h0 12).toNatClampNeg)).toNatClampNeg)) hx hb hr (fun t ht hW => ⟨⟨(z_9.1 k_10 (((z_9.1 h0 12) * 64) + (z_9.1 k_11 (z_9.1 h0 12).toNatClampNeg)).toNatClampNeg), (), rfl, rfl, by rw [ht]; exact hP, va_K.moved hW.alike hK, hD⟩, hS.F ht⟩) hS.2.2 dX4_pop_62
  · skip
    rw [if_pos c_4] at hf
    refine lv_aload_n hx hb dX4_pop_12 rfl (lv_at hl 0 rfl) ?_
    obtain ⟨k_14, ek_14, hf⟩ := lnk_some hf
    refine va_get (D := (dC, dI)) (ci := 4) (v := .ref (a k_14)) (C := RX4) (T := TX4) (N := 18) hx hb hts iwd_X4_pop_X4 hown hK hP h0 (Wd_ob kg_1 sg_1 (by decide)) rfl 1 (by decide) (hts _ md_X4_pop_3) (fun _ h9 => h9) (fl_q rfl ek_14) dX4_pop_13 ?_
    refine lv_dup hx hb dX4_pop_16 rfl ?_
    obtain ⟨g_15, hf⟩ := grd_some hf
    obtain ⟨kg_15, sg_15⟩ := okO_at g_15
    refine va_get (D := (dC, dI)) (ci := 1) (v := .int (z.1 k_14 6)) (C := RX1) (T := TX1) (N := 7) hx hb hts iwd_X4_pop_X1 hown hK hP k_14 (Wd_ob kg_15 sg_15 (by decide)) rfl 6 (by decide) (hts _ md_X4_pop_4) (fun _ h9 => h9) (fl_at (t := 0) rfl) dX4_pop_17 ?_
    refine lv_iconst (v := 1) hx hb dX4_pop_20 (by decide) ?_
    refine lv_iadd hx hb dX4_pop_21 ?_
    refine va_put (D := (dC, dI)) (ci := 1) (v := .int ((z.1 k_14 6) + 1)) (ty := .int) (C := RX1) (T := TX1) (N := 7) hx hb hts iwd_X4_pop_X1 tyX1 tyX1_ok nmX1 hown hK hP hD hS k_14 (Wd_ob kg_15 sg_15 (by decide)) rfl 6 (by decide) (hts _ md_X4_pop_4) (fun _ h9 => h9) rfl (by decide +kernel) rfl rfl (by rw [fl_len]; decide) dX4_pop_22 (fun H_16 locs hP2 hD2 hS2 => ?_)
    rw [Wd_si sg_15 (by decide) rfl] at hP2 hD2
    obtain ⟨z_17, ez_17⟩ : ∃ w, w = si z k_14 6 ((z.1 k_14 6) + 1) := ⟨_, rfl⟩
    rw [← ez_17] at hP2 hD2
    replace hf := lt_at ez_17 hf
    clear ez_17
    replace hP := hP2
    replace hD := hD2
    replace hS := hS2
    clear hP2 hD2 hS2
    refine lv_iconst (v := 0) hx hb dX4_pop_25 (by decide) ?_
    obtain ⟨h8, h9⟩ := ret_some hf
    rw [h8, h9]
    exact W.iret (v := 0) hx hb hr (fun t ht hW => ⟨⟨0, (), rfl, rfl, by rw [ht]; exact hP, va_K.moved hW.alike hK, hD⟩, hS.F ht⟩) hS.2.2 dX4_pop_26

theorem md_X4_push_1 : (.fieldLink RX4 49 "ResourceLedger$Machine" "depths" "[I" : Cond) ∈ wsX4_push := List.mem_of_getElem? (i := 1) rfl
theorem iwd_X4_push_X4 : ∀ w ∈ wsX40, w ∈ wsX4_push := fun _ h => List.mem_cons_of_mem _ (List.mem_append_left _ (List.mem_append_right _ h))
theorem md_X4_push_2 : (.fieldLink RX4 100 "ResourceLedger$Machine" "top" "I" : Cond) ∈ wsX4_push := List.mem_of_getElem? (i := 2) rfl
theorem md_X4_push_5 : (.fieldLink RX4 55 "ResourceLedger$Machine" "stack" "[I" : Cond) ∈ wsX4_push := List.mem_of_getElem? (i := 5) rfl
theorem md_X4_push_3 : (.fieldLink RX4 12 "ResourceLedger$Machine" "heap" "LResourceLedger$Heap;" : Cond) ∈ wsX4_push := List.mem_of_getElem? (i := 3) rfl
theorem md_X4_push_4 : (.fieldLink RX4 71 "ResourceLedger$Heap" "slips" "I" : Cond) ∈ wsX4_push := List.mem_of_getElem? (i := 4) rfl
theorem iwd_X4_push_X1 : ∀ w ∈ wsX10, w ∈ wsX4_push := fun _ h => List.mem_cons_of_mem _ (List.mem_append_right _ h)
set_option maxHeartbeats 4000000 in
set_option maxRecDepth 100000 in
theorem de_X4_push (l : Launch) (dC : Nat → ClassId) (dI : Nat → Nat → Nat) (cy : Nat → ClassId) (a : Nat → Nat) (sh : Nat → Nat × Nat) (n sz : Nat) (F : Nat) (z : St) (h0 : Nat) (x0 : Int32) {z8 : St} {r8 : Unit} (hf : fn_X4_push F sh n z h0 x0 = some (z8, r8)) : Met l yX4_push wsX4_push ({ frames := 0, cells := 0, slots := 0, locals := 0 }) (va_Pc [.ref (a h0), .int x0] (fun U => U.heap.size = sz ∧ va_P (dC, dI) vwCl (Wd cy a sh n z) U.heap ∧ va_K (dC, dI) vwCl (TYS cy) U ∧ va_D (fun _ => True) (Wd cy a sh n z) ∧ NK U)) (va_Qv (fun u : Unit => True) (fun u t => va_P (dC, dI) vwCl (Wd cy a sh n z8) t.heap ∧ va_K (dC, dI) vwCl (TYS cy) t ∧ va_D (va_A (Wd cy a sh n z) sz) (Wd cy a sh n z8)) (va_A (Wd cy a sh n z) sz)) 0 0 (va_A (Wd cy a sh n z) sz) := by
  refine Met.ofW (cc := cX4_push) (maxL := 2) (ret := none) (by decide) rfl ?_
  intro p e s m args below meth c s₁ B hml hv
  obtain ⟨rfl, hsz, hP, hK, hD0, hN⟩ := hv
  have hx := B.exec
  have hb := B.bytes
  have hr := B.returns
  have hts := atoms_spec (ws := wsX4_push) B.pre
  have hown : s.vm.findClass RX4 = some m.cls := findClass_of_methodNamed B.named
  have hlocks := B.notSynchronized
  subst hsz
  have hD := hD0.self (sz := s.heap.size)
  clear hD0
  generalize hAe : va_A (Wd cy a sh n z) s.heap.size = A at hD ⊢
  have hA : ∀ q : Nat, s.heap.size ≤ q → A q := fun q h => by rw [← hAe]; exact Or.inr h
  clear hAe
  have hS : va_S A s.heap s.heap [] := va_S.rf
  have hl := lv_entry ([.ref (a h0), .int x0]) (n := 2) (Nat.le_of_ble_eq_true rfl)
  rw [lg_entry_eq]
  generalize (lg_sl ([.ref (a h0), .int x0]) ++ List.replicate (2 - (lg_sl ([.ref (a h0), .int x0])).length) Slot.unset).toArray = ls at hl ⊢
  replace hl : lv_has ls 2 [(0, .ref (a h0)), (1, .int x0)] := hl
  unfold fn_X4_push at hf
  refine de_start hS hP (fun H locs hS hP => ?_)
  refine lv_aload_n hx hb dX4_push_0 rfl (lv_at hl 0 rfl) ?_
  obtain ⟨g_1, hf⟩ := grd_some hf
  obtain ⟨kg_1, sg_1⟩ := okO_at g_1
  obtain ⟨k_2, ek_2, hf⟩ := lnk_some hf
  refine va_get (D := (dC, dI)) (ci := 4) (v := .ref (a k_2)) (C := RX4) (T := TX4) (N := 18) hx hb hts iwd_X4_push_X4 hown hK hP h0 (Wd_ob kg_1 sg_1 (by decide)) rfl 9 (by decide) (hts _ md_X4_push_1) (fun _ h9 => h9) (fl_q rfl ek_2) dX4_push_1 ?_
  refine lv_aload_n hx hb dX4_push_4 rfl (lv_at hl 0 rfl) ?_
  refine va_get (D := (dC, dI)) (ci := 4) (v := .int (z.1 h0 12)) (C := RX4) (T := TX4) (N := 18) hx hb hts iwd_X4_push_X4 hown hK hP h0 (Wd_ob kg_1 sg_1 (by decide)) rfl 12 (by decide) (hts _ md_X4_push_2) (fun _ h9 => h9) (fl_at (t := 0) rfl) dX4_push_5 ?_
  obtain ⟨g_3, hf⟩ := grd_some hf
  obtain ⟨kg_3, sg_3, ig_3⟩ := okA_at g_3
  refine va_iald hx hb hK hP k_2 1 (Wd_ai kg_3 sg_3) rfl ig_3 dX4_push_8 ?_
  refine lv_bipush (v := 64) hx hb dX4_push_9 (by decide) ?_
  refine lv_icmp_lt (tgt := 28) hx hb dX4_push_11 (by decide) (fun c_4 => ?_) (fun c_4 => ?_)
  · skip
    rw [if_pos c_4] at hf
    refine lv_aload_n hx hb dX4_push_28 rfl (lv_at hl 0 rfl) ?_
    obtain ⟨k_5, ek_5, hf⟩ := lnk_some hf
    refine va_get (D := (dC, dI)) (ci := 4) (v := .ref (a k_5)) (C := RX4) (T := TX4) (N := 18) hx hb hts iwd_X4_push_X4 hown hK hP h0 (Wd_ob kg_1 sg_1 (by decide)) rfl 11 (by decide) (hts _ md_X4_push_5) (fun _ h9 => h9) (fl_q rfl ek_5) dX4_push_29 ?_
    refine lv_aload_n hx hb dX4_push_32 rfl (lv_at hl 0 rfl) ?_
    refine va_get (D := (dC, dI)) (ci := 4) (v := .int (z.1 h0 12)) (C := RX4) (T := TX4) (N := 18) hx hb hts iwd_X4_push_X4 hown hK hP h0 (Wd_ob kg_1 sg_1 (by decide)) rfl 12 (by decide) (hts _ md_X4_push_2) (fun _ h9 => h9) (fl_at (t := 0) rfl) dX4_push_33 ?_
    refine lv_bipush (v := 64) hx hb dX4_push_36 (by decide) ?_
    refine lv_imul hx hb dX4_push_38 ?_
    refine lv_aload_n hx hb dX4_push_39 rfl (lv_at hl 0 rfl) ?_
    obtain ⟨k_6, ek_6, hf⟩ := lnk_some hf
    refine va_get (D := (dC, dI)) (ci := 4) (v := .ref (a k_6)) (C := RX4) (T := TX4) (N := 18) hx hb hts iwd_X4_push_X4 hown hK hP h0 (Wd_ob kg_1 sg_1 (by decide)) rfl 9 (by decide) (hts _ md_X4_push_1) (fun _ h9 => h9) (fl_q rfl ek_6) dX4_push_40 ?_
    refine lv_aload_n hx hb dX4_push_43 rfl (lv_at hl 0 rfl) ?_
    refine va_get (D := (dC, dI)) (ci := 4) (v := .int (z.1 h0 12)) (C := RX4) (T := TX4) (N := 18) hx hb hts iwd_X4_push_X4 hown hK hP h0 (Wd_ob kg_1 sg_1 (by decide)) rfl 12 (by decide) (hts _ md_X4_push_2) (fun _ h9 => h9) (fl_at (t := 0) rfl) dX4_push_44 ?_
    obtain ⟨g_7, hf⟩ := grd_some hf
    obtain ⟨kg_7, sg_7, ig_7⟩ := okA_at g_7
    refine va_iald hx hb hK hP k_6 1 (Wd_ai kg_7 sg_7) rfl ig_7 dX4_push_47 ?_
    refine lv_iadd hx hb dX4_push_48 ?_
    refine lv_iload_n hx hb dX4_push_49 rfl (lv_at hl 1 rfl) ?_
    obtain ⟨g_8, hf⟩ := grd_some hf
    obtain ⟨kg_8, sg_8, ig_8⟩ := okA_at g_8
    refine va_iast hx hb hK hP hD hS k_5 1 (Wd_ai kg_8 sg_8) rfl ig_8 dX4_push_50 (fun H_9 locs hP2 hD2 hS2 => ?_)
    rw [Wd_ti sg_8] at hP2 hD2
    obtain ⟨z_10, ez_10⟩ : ∃ w, w = si z k_5 (((z.1 h0 12) * 64) + (z.1 k_6 (z.1 h0 12).toNatClampNeg)).toNatClampNeg x0 := ⟨_, rfl⟩
    rw [← ez_10] at hP2 hD2
    replace hf := lt_at ez_10 hf
    clear ez_10
    replace hP := hP2
    replace hD := hD2
    replace hS := hS2
    clear hP2 hD2 hS2
    refine lv_aload_n hx hb dX4_push_51 rfl (lv_at hl 0 rfl) ?_
    obtain ⟨k_11, ek_11, hf⟩ := lnk_some hf
    refine va_get (D := (dC, dI)) (ci := 4) (v := .ref (a k_11)) (C := RX4) (T := TX4) (N := 18) hx hb hts iwd_X4_push_X4 hown hK hP h0 (Wd_ob kg_1 sg_1 (by decide)) rfl 9 (by decide) (hts _ md_X4_push_1) (fun _ h9 => h9) (fl_q rfl ek_11) dX4_push_52 ?_
    refine lv_aload_n hx hb dX4_push_55 rfl (lv_at hl 0 rfl) ?_
    refine va_get (D := (dC, dI)) (ci := 4) (v := .int (z_10.1 h0 12)) (C := RX4) (T := TX4) (N := 18) hx hb hts iwd_X4_push_X4 hown hK hP h0 (Wd_ob kg_1 sg_1 (by decide)) rfl 12 (by decide) (hts _ md_X4_push_2) (fun _ h9 => h9) (fl_at (t := 0) rfl) dX4_push_56 ?_
    refine lv_dup2_11 hx hb dX4_push_59 rfl rfl ?_
    obtain ⟨g_12, hf⟩ := grd_some hf
    obtain ⟨kg_12, sg_12, ig_12⟩ := okA_at g_12
    refine va_iald hx hb hK hP k_11 1 (Wd_ai kg_12 sg_12) rfl ig_12 dX4_push_60 ?_
    refine lv_iconst (v := 1) hx hb dX4_push_61 (by decide) ?_
    refine lv_iadd hx hb dX4_push_62 ?_
    obtain ⟨g_13, hf⟩ := grd_some hf
    obtain ⟨kg_13, sg_13, ig_13⟩ := okA_at g_13
    refine va_iast hx hb hK hP hD hS k_11 1 (Wd_ai kg_13 sg_13) rfl ig_13 dX4_push_63 (fun H_14 locs hP2 hD2 hS2 => ?_)
    rw [Wd_ti sg_13] at hP2 hD2
    obtain ⟨z_15, ez_15⟩ : ∃ w, w = si z_10 k_11 (z_10.1 h0 12).toNatClampNeg ((z_10.1 k_11 (z_10.1 h0 12).toNatClampNeg) + 1) := ⟨_, rfl⟩
    rw [← ez_15] at hP2 hD2
    replace hf := lt_at ez_15 hf
    clear ez_15
    replace hP := hP2
    replace hD := hD2
    replace hS := hS2
    clear hP2 hD2 hS2
    obtain ⟨h8, h9⟩ := ret_some hf
    rw [h8]
    exact W.vret hx hb hr (fun t ht hW => ⟨⟨(), rfl, trivial, by rw [ht]; exact hP, va_K.moved hW.alike hK, hD⟩, hS.F ht⟩) hS.2.2 dX4_push_64
  · skip
    rw [if_neg c_4] at hf
    refine lv_aload_n hx hb dX4_push_14 rfl (lv_at hl 0 rfl) ?_
    obtain ⟨k_16, ek_16, hf⟩ := lnk_some hf
    refine va_get (D := (dC, dI)) (ci := 4) (v := .ref (a k_16)) (C := RX4) (T := TX4) (N := 18) hx hb hts iwd_X4_push_X4 hown hK hP h0 (Wd_ob kg_1 sg_1 (by decide)) rfl 1 (by decide) (hts _ md_X4_push_3) (fun _ h9 => h9) (fl_q rfl ek_16) dX4_push_15 ?_
    refine lv_dup hx hb dX4_push_18 rfl ?_
    obtain ⟨g_17, hf⟩ := grd_some hf
    obtain ⟨kg_17, sg_17⟩ := okO_at g_17
    refine va_get (D := (dC, dI)) (ci := 1) (v := .int (z.1 k_16 6)) (C := RX1) (T := TX1) (N := 7) hx hb hts iwd_X4_push_X1 hown hK hP k_16 (Wd_ob kg_17 sg_17 (by decide)) rfl 6 (by decide) (hts _ md_X4_push_4) (fun _ h9 => h9) (fl_at (t := 0) rfl) dX4_push_19 ?_
    refine lv_iconst (v := 1) hx hb dX4_push_22 (by decide) ?_
    refine lv_iadd hx hb dX4_push_23 ?_
    refine va_put (D := (dC, dI)) (ci := 1) (v := .int ((z.1 k_16 6) + 1)) (ty := .int) (C := RX1) (T := TX1) (N := 7) hx hb hts iwd_X4_push_X1 tyX1 tyX1_ok nmX1 hown hK hP hD hS k_16 (Wd_ob kg_17 sg_17 (by decide)) rfl 6 (by decide) (hts _ md_X4_push_4) (fun _ h9 => h9) rfl (by decide +kernel) rfl rfl (by rw [fl_len]; decide) dX4_push_24 (fun H_18 locs hP2 hD2 hS2 => ?_)
    rw [Wd_si sg_17 (by decide) rfl] at hP2 hD2
    obtain ⟨z_19, ez_19⟩ : ∃ w, w = si z k_16 6 ((z.1 k_16 6) + 1) := ⟨_, rfl⟩
    rw [← ez_19] at hP2 hD2
    replace hf := lt_at ez_19 hf
    clear ez_19
    replace hP := hP2
    replace hD := hD2
    replace hS := hS2
    clear hP2 hD2 hS2
    obtain ⟨h8, h9⟩ := ret_some hf
    rw [h8]
    exact W.vret hx hb hr (fun t ht hW => ⟨⟨(), rfl, trivial, by rw [ht]; exact hP, va_K.moved hW.alike hK, hD⟩, hS.F ht⟩) hS.2.2 dX4_push_27

theorem md_X15_add_1 : (.fieldLink RX15 24 "ResourceLedgerModel$Trees" "nexts" "[I" : Cond) ∈ wsX15_add := List.mem_of_getElem? (i := 1) rfl
theorem iwd_X15_add_X15 : ∀ w ∈ wsX150, w ∈ wsX15_add := fun _ h => List.mem_cons_of_mem _ (List.mem_append_right _ h)
theorem md_X15_add_2 : (.fieldLink RX15 20 "ResourceLedgerModel$Trees" "firsts" "[I" : Cond) ∈ wsX15_add := List.mem_of_getElem? (i := 2) rfl
set_option maxHeartbeats 4000000 in
set_option maxRecDepth 100000 in
theorem de_X15_add (l : Launch) (dC : Nat → ClassId) (dI : Nat → Nat → Nat) (cy : Nat → ClassId) (a : Nat → Nat) (sh : Nat → Nat × Nat) (n sz : Nat) (F : Nat) (z : St) (h0 : Nat) (x0 : Int32) (x1 : Int32) {z8 : St} {r8 : Unit} (hf : fn_X15_add F sh n z h0 x0 x1 = some (z8, r8)) : Met l yX15_add wsX15_add ({ frames := 0, cells := 0, slots := 0, locals := 0 }) (va_Pc [.ref (a h0), .int x0, .int x1] (fun U => U.heap.size = sz ∧ va_P (dC, dI) vwCl (Wd cy a sh n z) U.heap ∧ va_K (dC, dI) vwCl (TYS cy) U ∧ va_D (fun _ => True) (Wd cy a sh n z) ∧ NK U)) (va_Qv (fun u : Unit => True) (fun u t => va_P (dC, dI) vwCl (Wd cy a sh n z8) t.heap ∧ va_K (dC, dI) vwCl (TYS cy) t ∧ va_D (va_A (Wd cy a sh n z) sz) (Wd cy a sh n z8)) (va_A (Wd cy a sh n z) sz)) 0 0 (va_A (Wd cy a sh n z) sz) := by
  refine Met.ofW (cc := cX15_add) (maxL := 4) (ret := none) (by decide) rfl ?_
  intro p e s m args below meth c s₁ B hml hv
  obtain ⟨rfl, hsz, hP, hK, hD0, hN⟩ := hv
  have hx := B.exec
  have hb := B.bytes
  have hr := B.returns
  have hts := atoms_spec (ws := wsX15_add) B.pre
  have hown : s.vm.findClass RX15 = some m.cls := findClass_of_methodNamed B.named
  have hlocks := B.notSynchronized
  subst hsz
  have hD := hD0.self (sz := s.heap.size)
  clear hD0
  generalize hAe : va_A (Wd cy a sh n z) s.heap.size = A at hD ⊢
  have hA : ∀ q : Nat, s.heap.size ≤ q → A q := fun q h => by rw [← hAe]; exact Or.inr h
  clear hAe
  have hS : va_S A s.heap s.heap [] := va_S.rf
  have hl := lv_entry ([.ref (a h0), .int x0, .int x1]) (n := 4) (Nat.le_of_ble_eq_true rfl)
  rw [lg_entry_eq]
  generalize (lg_sl ([.ref (a h0), .int x0, .int x1]) ++ List.replicate (4 - (lg_sl ([.ref (a h0), .int x0, .int x1])).length) Slot.unset).toArray = ls at hl ⊢
  replace hl : lv_has ls 4 [(0, .ref (a h0)), (1, .int x0), (2, .int x1)] := hl
  unfold fn_X15_add at hf
  refine de_start hS hP (fun H locs hS hP => ?_)
  refine lv_aload_n hx hb dX15_add_0 rfl (lv_at hl 0 rfl) ?_
  obtain ⟨g_1, hf⟩ := grd_some hf
  obtain ⟨kg_1, sg_1⟩ := okO_at g_1
  obtain ⟨k_2, ek_2, hf⟩ := lnk_some hf
  refine va_get (D := (dC, dI)) (ci := 15) (v := .ref (a k_2)) (C := RX15) (T := TX15) (N := 6) hx hb hts iwd_X15_add_X15 hown hK hP h0 (Wd_ob kg_1 sg_1 (by decide)) rfl 4 (by decide) (hts _ md_X15_add_1) (fun _ h9 => h9) (fl_q rfl ek_2) dX15_add_1 ?_
  refine lv_iload_n hx hb dX15_add_4 rfl (lv_at hl 2 rfl) ?_
  refine lv_iconst (v := (-1)) hx hb dX15_add_5 (by decide) ?_
  obtain ⟨g_3, hf⟩ := grd_some hf
  obtain ⟨kg_3, sg_3, ig_3⟩ := okA_at g_3
  refine va_iast hx hb hK hP hD hS k_2 1 (Wd_ai kg_3 sg_3) rfl ig_3 dX15_add_6 (fun H_4 locs hP2 hD2 hS2 => ?_)
  rw [Wd_ti sg_3] at hP2 hD2
  obtain ⟨z_5, ez_5⟩ : ∃ w, w = si z k_2 x1.toNatClampNeg (-1) := ⟨_, rfl⟩
  rw [← ez_5] at hP2 hD2
  replace hf := lt_at ez_5 hf
  clear ez_5
  replace hP := hP2
  replace hD := hD2
  replace hS := hS2
  clear hP2 hD2 hS2
  refine lv_aload_n hx hb dX15_add_7 rfl (lv_at hl 0 rfl) ?_
  obtain ⟨k_6, ek_6, hf⟩ := lnk_some hf
  refine va_get (D := (dC, dI)) (ci := 15) (v := .ref (a k_6)) (C := RX15) (T := TX15) (N := 6) hx hb hts iwd_X15_add_X15 hown hK hP h0 (Wd_ob kg_1 sg_1 (by decide)) rfl 3 (by decide) (hts _ md_X15_add_2) (fun _ h9 => h9) (fl_q rfl ek_6) dX15_add_8 ?_
  refine lv_iload_n hx hb dX15_add_11 rfl (lv_at hl 1 rfl) ?_
  obtain ⟨g_7, hf⟩ := grd_some hf
  obtain ⟨kg_7, sg_7, ig_7⟩ := okA_at g_7
  refine va_iald hx hb hK hP k_6 1 (Wd_ai kg_7 sg_7) rfl ig_7 dX15_add_12 ?_
  refine lv_iconst (v := (-1)) hx hb dX15_add_13 (by decide) ?_
  refine lv_icmp_ne (tgt := 25) hx hb dX15_add_14 (by decide) (fun c_8 => ?_) (fun c_8 => ?_)
  · skip
    rw [if_neg c_8] at hf
    refine lv_aload_n hx hb dX15_add_25 rfl (lv_at hl 0 rfl) ?_
    obtain ⟨k_9, ek_9, hf⟩ := lnk_some hf
    refine va_get (D := (dC, dI)) (ci := 15) (v := .ref (a k_9)) (C := RX15) (T := TX15) (N := 6) hx hb hts iwd_X15_add_X15 hown hK hP h0 (Wd_ob kg_1 sg_1 (by decide)) rfl 3 (by decide) (hts _ md_X15_add_2) (fun _ h9 => h9) (fl_q rfl ek_9) dX15_add_26 ?_
    refine lv_iload_n hx hb dX15_add_29 rfl (lv_at hl 1 rfl) ?_
    obtain ⟨g_10, hf⟩ := grd_some hf
    obtain ⟨kg_10, sg_10, ig_10⟩ := okA_at g_10
    refine va_iald hx hb hK hP k_9 1 (Wd_ai kg_10 sg_10) rfl ig_10 dX15_add_30 ?_
    refine lv_topi (fun v_11 ev_11 => ?_)
    replace hf := lt_at ev_11 hf
    clear ev_11
    refine lv_istore_n (lv' := [(3, .int v_11), (0, .ref (a h0)), (1, .int x0), (2, .int x1)]) hx hb dX15_add_31 rfl hl (by decide) rfl (fun ls hl2 => ?_)
    replace hl := hl2
    clear hl2
    have hl0 : lv_has ls 4 [(3, .int v_11), (0, .ref (a h0)), (2, .int x1)] := lv_sub hl [0, 1, 3] rfl
    refine de_loop (h := 32) (fun (x : St × Int32) ls H locs => lv_has ls 4 [(3, .int x.2), (0, .ref (a h0)), (2, .int x1)] ∧ va_P (dC, dI) vwCl (Wd cy a sh n x.1) H ∧ va_D A (Wd cy a sh n x.1) ∧ va_S A s.heap H locs) (fun f x => fn_X15_add_L32 F sh n h0 x1 f x.1 x.2) (z8, r8) ?_ (fun _ => rfl) F (z_5, v_11) ls H_4 locs ⟨hl0, hP, hD, hS⟩ hf
    intro f_14 x ls H locs ih32 hI hf
    obtain ⟨z_13, p_12⟩ := x
    obtain ⟨hl2, hP2, hD2, hS2⟩ := hI
    replace hl : lv_has ls 4 [(3, .int p_12), (0, .ref (a h0)), (2, .int x1)] := hl2
    replace hP := hP2
    replace hD := hD2
    replace hS := hS2
    clear hl2 hP2 hD2 hS2 hl0
    replace hf := fn_X15_add_L32_s hf
    refine lv_aload_n hx hb dX15_add_32 rfl (lv_at hl 1 rfl) ?_
    obtain ⟨k_15, ek_15, hf⟩ := lnk_some hf
    refine va_get (D := (dC, dI)) (ci := 15) (v := .ref (a k_15)) (C := RX15) (T := TX15) (N := 6) hx hb hts iwd_X15_add_X15 hown hK hP h0 (Wd_ob kg_1 sg_1 (by decide)) rfl 4 (by decide) (hts _ md_X15_add_1) (fun _ h9 => h9) (fl_q rfl ek_15) dX15_add_33 ?_
    refine lv_iload_n hx hb dX15_add_36 rfl (lv_at hl 0 rfl) ?_
    obtain ⟨g_16, hf⟩ := grd_some hf
    obtain ⟨kg_16, sg_16, ig_16⟩ := okA_at g_16
    refine va_iald hx hb hK hP k_15 1 (Wd_ai kg_16 sg_16) rfl ig_16 dX15_add_37 ?_
    refine lv_iconst (v := (-1)) hx hb dX15_add_38 (by decide) ?_
    refine lv_icmp_eq (tgt := 52) hx hb dX15_add_39 (by decide) (fun c_17 => ?_) (fun c_17 => ?_)
    · skip
      rw [if_pos c_17] at hf
      refine lv_aload_n hx hb dX15_add_52 rfl (lv_at hl 1 rfl) ?_
      obtain ⟨k_18, ek_18, hf⟩ := lnk_some hf
      refine va_get (D := (dC, dI)) (ci := 15) (v := .ref (a k_18)) (C := RX15) (T := TX15) (N := 6) hx hb hts iwd_X15_add_X15 hown hK hP h0 (Wd_ob kg_1 sg_1 (by decide)) rfl 4 (by decide) (hts _ md_X15_add_1) (fun _ h9 => h9) (fl_q rfl ek_18) dX15_add_53 ?_
      refine lv_iload_n hx hb dX15_add_56 rfl (lv_at hl 0 rfl) ?_
      refine lv_iload_n hx hb dX15_add_57 rfl (lv_at hl 2 rfl) ?_
      obtain ⟨g_19, hf⟩ := grd_some hf
      obtain ⟨kg_19, sg_19, ig_19⟩ := okA_at g_19
      refine va_iast hx hb hK hP hD hS k_18 1 (Wd_ai kg_19 sg_19) rfl ig_19 dX15_add_58 (fun H_20 locs hP2 hD2 hS2 => ?_)
      rw [Wd_ti sg_19] at hP2 hD2
      obtain ⟨z_21, ez_21⟩ : ∃ w, w = si z_13 k_18 p_12.toNatClampNeg x1 := ⟨_, rfl⟩
      rw [← ez_21] at hP2 hD2
      replace hf := lt_at ez_21 hf
      clear ez_21
      replace hP := hP2
      replace hD := hD2
      replace hS := hS2
      clear hP2 hD2 hS2
      obtain ⟨h8, h9⟩ := ret_some hf
      rw [h8]
      exact W.vret hx hb hr (fun t ht hW => ⟨⟨(), rfl, trivial, by rw [ht]; exact hP, va_K.moved hW.alike hK, hD⟩, hS.F ht⟩) hS.2.2 dX15_add_59
    · skip
      rw [if_neg c_17] at hf
      refine lv_aload_n hx hb dX15_add_42 rfl (lv_at hl 1 rfl) ?_
      obtain ⟨k_22, ek_22, hf⟩ := lnk_some hf
      refine va_get (D := (dC, dI)) (ci := 15) (v := .ref (a k_22)) (C := RX15) (T := TX15) (N := 6) hx hb hts iwd_X15_add_X15 hown hK hP h0 (Wd_ob kg_1 sg_1 (by decide)) rfl 4 (by decide) (hts _ md_X15_add_1) (fun _ h9 => h9) (fl_q rfl ek_22) dX15_add_43 ?_
      refine lv_iload_n hx hb dX15_add_46 rfl (lv_at hl 0 rfl) ?_
      obtain ⟨g_23, hf⟩ := grd_some hf
      obtain ⟨kg_23, sg_23, ig_23⟩ := okA_at g_23
      refine va_iald hx hb hK hP k_22 1 (Wd_ai kg_23 sg_23) rfl ig_23 dX15_add_47 ?_
      refine lv_topi (fun v_24 ev_24 => ?_)
      replace hf := lt_at ev_24 hf
      clear ev_24
      refine lv_istore_n (lv' := [(3, .int v_24), (0, .ref (a h0)), (2, .int x1)]) hx hb dX15_add_48 rfl hl (by decide) rfl (fun ls hl2 => ?_)
      replace hl := hl2
      clear hl2
      refine lv_goto (tgt := 32) hx hb dX15_add_49 (by decide) ?_
      exact ih32 (z_13, v_24) ls H locs ⟨lv_sub hl [0, 1, 2] rfl, hP, hD, hS⟩ hf
  · skip
    rw [if_pos c_8] at hf
    refine lv_aload_n hx hb dX15_add_17 rfl (lv_at hl 0 rfl) ?_
    obtain ⟨k_25, ek_25, hf⟩ := lnk_some hf
    refine va_get (D := (dC, dI)) (ci := 15) (v := .ref (a k_25)) (C := RX15) (T := TX15) (N := 6) hx hb hts iwd_X15_add_X15 hown hK hP h0 (Wd_ob kg_1 sg_1 (by decide)) rfl 3 (by decide) (hts _ md_X15_add_2) (fun _ h9 => h9) (fl_q rfl ek_25) dX15_add_18 ?_
    refine lv_iload_n hx hb dX15_add_21 rfl (lv_at hl 1 rfl) ?_
    refine lv_iload_n hx hb dX15_add_22 rfl (lv_at hl 2 rfl) ?_
    obtain ⟨g_26, hf⟩ := grd_some hf
    obtain ⟨kg_26, sg_26, ig_26⟩ := okA_at g_26
    refine va_iast hx hb hK hP hD hS k_25 1 (Wd_ai kg_26 sg_26) rfl ig_26 dX15_add_23 (fun H_27 locs hP2 hD2 hS2 => ?_)
    rw [Wd_ti sg_26] at hP2 hD2
    obtain ⟨z_28, ez_28⟩ : ∃ w, w = si z_5 k_25 x0.toNatClampNeg x1 := ⟨_, rfl⟩
    rw [← ez_28] at hP2 hD2
    replace hf := lt_at ez_28 hf
    clear ez_28
    replace hP := hP2
    replace hD := hD2
    replace hS := hS2
    clear hP2 hD2 hS2
    obtain ⟨h8, h9⟩ := ret_some hf
    rw [h8]
    exact W.vret hx hb hr (fun t ht hW => ⟨⟨(), rfl, trivial, by rw [ht]; exact hP, va_K.moved hW.alike hK, hD⟩, hS.F ht⟩) hS.2.2 dX15_add_24

theorem md_X7_storedCoins_1 : (.fieldLink RX7 37 "ResourceLedger$State" "nodeCount" "[I" : Cond) ∈ wsX7_storedCoins := List.mem_of_getElem? (i := 1) rfl
theorem iwd_X7_storedCoins_X7 : ∀ w ∈ wsX70, w ∈ wsX7_storedCoins := fun _ h => List.mem_cons_of_mem _ (List.mem_append_right _ h)
theorem md_X7_storedCoins_2 : (.fieldLink RX7 40 "ResourceLedger$State" "nodeKind" "[B" : Cond) ∈ wsX7_storedCoins := List.mem_of_getElem? (i := 2) rfl
theorem md_X7_storedCoins_3 : (.fieldLink RX7 47 "ResourceLedger$State" "nodeLow" "[J" : Cond) ∈ wsX7_storedCoins := List.mem_of_getElem? (i := 3) rfl
set_option maxHeartbeats 4000000 in
set_option maxRecDepth 100000 in
theorem de_X7_storedCoins (l : Launch) (dC : Nat → ClassId) (dI : Nat → Nat → Nat) (cy : Nat → ClassId) (a : Nat → Nat) (sh : Nat → Nat × Nat) (n sz : Nat) (F : Nat) (z : St) (h0 : Nat) {z8 : St} {r8 : Int64} (hf : fn_X7_storedCoins F sh n z h0 = some (z8, r8)) : Met l yX7_storedCoins wsX7_storedCoins ({ frames := 0, cells := 0, slots := 0, locals := 0 }) (va_Pc [.ref (a h0)] (fun U => U.heap.size = sz ∧ va_P (dC, dI) vwCl (Wd cy a sh n z) U.heap ∧ va_K (dC, dI) vwCl (TYS cy) U ∧ va_D (fun _ => True) (Wd cy a sh n z) ∧ NK U)) (va_Ql (fun (r9 : Int64) (u : Unit) => r9 = r8) (fun u t => va_P (dC, dI) vwCl (Wd cy a sh n z8) t.heap ∧ va_K (dC, dI) vwCl (TYS cy) t ∧ va_D (va_A (Wd cy a sh n z) sz) (Wd cy a sh n z8)) (va_A (Wd cy a sh n z) sz)) 0 0 (va_A (Wd cy a sh n z) sz) := by
  refine Met.ofW (cc := cX7_storedCoins) (maxL := 5) (ret := (some .long)) (by decide) rfl ?_
  intro p e s m args below meth c s₁ B hml hv
  obtain ⟨rfl, hsz, hP, hK, hD0, hN⟩ := hv
  have hx := B.exec
  have hb := B.bytes
  have hr := B.returns
  have hts := atoms_spec (ws := wsX7_storedCoins) B.pre
  have hown : s.vm.findClass RX7 = some m.cls := findClass_of_methodNamed B.named
  have hlocks := B.notSynchronized
  subst hsz
  have hD := hD0.self (sz := s.heap.size)
  clear hD0
  generalize hAe : va_A (Wd cy a sh n z) s.heap.size = A at hD ⊢
  have hA : ∀ q : Nat, s.heap.size ≤ q → A q := fun q h => by rw [← hAe]; exact Or.inr h
  clear hAe
  have hS : va_S A s.heap s.heap [] := va_S.rf
  have hl := lv_entry ([.ref (a h0)]) (n := 5) (Nat.le_of_ble_eq_true rfl)
  rw [lg_entry_eq]
  generalize (lg_sl ([.ref (a h0)]) ++ List.replicate (5 - (lg_sl ([.ref (a h0)])).length) Slot.unset).toArray = ls at hl ⊢
  replace hl : lv_has ls 5 [(0, .ref (a h0))] := hl
  unfold fn_X7_storedCoins at hf
  refine de_start hS hP (fun H locs hS hP => ?_)
  refine lv_lconst (v := 0) hx hb dX7_storedCoins_0 (by decide) ?_
  refine lv_lstore_n (lv' := [(1, .long 0), (0, .ref (a h0))]) hx hb dX7_storedCoins_1 rfl hl (by decide) rfl (fun ls hl2 => ?_)
  replace hl := hl2
  clear hl2
  refine lv_iconst (v := 0) hx hb dX7_storedCoins_2 (by decide) ?_
  refine lv_istore_n (lv' := [(3, .int 0), (1, .long 0), (0, .ref (a h0))]) hx hb dX7_storedCoins_3 rfl hl (by decide) rfl (fun ls hl2 => ?_)
  replace hl := hl2
  clear hl2
  have hl0 : lv_has ls 5 [(3, .int 0), (1, .long 0), (0, .ref (a h0))] := lv_sub hl [0, 1, 2] rfl
  refine de_loop (h := 4) (fun (x : St × Int64 × Int32) ls H locs => lv_has ls 5 [(3, .int x.2.2), (1, .long x.2.1), (0, .ref (a h0))] ∧ va_P (dC, dI) vwCl (Wd cy a sh n x.1) H ∧ va_D A (Wd cy a sh n x.1) ∧ va_S A s.heap H locs) (fun f x => fn_X7_storedCoins_L4 F sh n h0 f x.1 x.2.1 x.2.2) (z8, r8) ?_ (fun _ => rfl) F (z, 0, 0) ls H locs ⟨hl0, hP, hD, hS⟩ hf
  intro f_4 x ls H locs ih4 hI hf
  obtain ⟨z_3, p_1, p_2⟩ := x
  obtain ⟨hl2, hP2, hD2, hS2⟩ := hI
  replace hl : lv_has ls 5 [(3, .int p_2), (1, .long p_1), (0, .ref (a h0))] := hl2
  replace hP := hP2
  replace hD := hD2
  replace hS := hS2
  clear hl2 hP2 hD2 hS2 hl0
  replace hf := fn_X7_storedCoins_L4_s hf
  refine lv_iload_n hx hb dX7_storedCoins_4 rfl (lv_at hl 0 rfl) ?_
  refine lv_sipush (v := 256) hx hb dX7_storedCoins_5 (by decide) ?_
  refine lv_icmp_ge (tgt := 71) hx hb dX7_storedCoins_8 (by decide) (fun c_5 => ?_) (fun c_5 => ?_)
  · skip
    rw [if_pos c_5] at hf
    refine lv_lload_n hx hb dX7_storedCoins_71 rfl (lv_at hl 1 rfl) ?_
    obtain ⟨h8, h9⟩ := ret_some hf
    rw [h8, h9]
    exact W.lret (v := p_1) hx hb hr (fun t ht hW => ⟨⟨p_1, (), rfl, rfl, by rw [ht]; exact hP, va_K.moved hW.alike hK, hD⟩, hS.F ht⟩) hS.2.2 dX7_storedCoins_72
  · skip
    rw [if_neg c_5] at hf
    refine lv_iload_n hx hb dX7_storedCoins_11 rfl (lv_at hl 0 rfl) ?_
    refine lv_bipush (v := 64) hx hb dX7_storedCoins_12 (by decide) ?_
    refine lv_imul hx hb dX7_storedCoins_14 ?_
    refine lv_topi (fun v_6 ev_6 => ?_)
    replace hf := lt_at ev_6 hf
    clear ev_6
    refine lv_istore (lv' := [(4, .int v_6), (3, .int p_2), (1, .long p_1), (0, .ref (a h0))]) hx hb dX7_storedCoins_15 hl (by decide) rfl (fun ls hl2 => ?_)
    replace hl := hl2
    clear hl2
    have hl0 : lv_has ls 5 [(4, .int v_6), (3, .int p_2), (1, .long p_1), (0, .ref (a h0))] := lv_sub hl [0, 1, 2, 3] rfl
    refine de_loop (h := 17) (fun (x : St × Int64 × Int32) ls H locs => lv_has ls 5 [(4, .int x.2.2), (3, .int p_2), (1, .long x.2.1), (0, .ref (a h0))] ∧ va_P (dC, dI) vwCl (Wd cy a sh n x.1) H ∧ va_D A (Wd cy a sh n x.1) ∧ va_S A s.heap H locs) (fun f x => fn_X7_storedCoins_L17 F sh n h0 p_2 (fun z9 q1 q3 => fn_X7_storedCoins_L4 F sh n h0 f_4 z9 q1 q3) f x.1 x.2.1 x.2.2) (z8, r8) ?_ (fun _ => rfl) F (z_3, p_1, v_6) ls H locs ⟨hl0, hP, hD, hS⟩ hf
    intro f_10 x ls H locs ih17 hI hf
    obtain ⟨z_9, p_7, p_8⟩ := x
    obtain ⟨hl2, hP2, hD2, hS2⟩ := hI
    replace hl : lv_has ls 5 [(4, .int p_8), (3, .int p_2), (1, .long p_7), (0, .ref (a h0))] := hl2
    replace hP := hP2
    replace hD := hD2
    replace hS := hS2
    clear hl2 hP2 hD2 hS2 hl0
    replace hf := fn_X7_storedCoins_L17_s hf
    refine lv_iload hx hb dX7_storedCoins_17 (lv_at hl 0 rfl) ?_
    refine lv_iload_n hx hb dX7_storedCoins_19 rfl (lv_at hl 1 rfl) ?_
    refine lv_bipush (v := 64) hx hb dX7_storedCoins_20 (by decide) ?_
    refine lv_imul hx hb dX7_storedCoins_22 ?_
    refine lv_aload_n hx hb dX7_storedCoins_23 rfl (lv_at hl 3 rfl) ?_
    obtain ⟨g_11, hf⟩ := grd_some hf
    obtain ⟨kg_11, sg_11⟩ := okO_at g_11
    obtain ⟨k_12, ek_12, hf⟩ := lnk_some hf
    refine va_get (D := (dC, dI)) (ci := 7) (v := .ref (a k_12)) (C := RX7) (T := TX7) (N := 16) hx hb hts iwd_X7_storedCoins_X7 hown hK hP h0 (Wd_ob kg_11 sg_11 (by decide)) rfl 9 (by decide) (hts _ md_X7_storedCoins_1) (fun _ h9 => h9) (fl_q rfl ek_12) dX7_storedCoins_24 ?_
    refine lv_iload_n hx hb dX7_storedCoins_27 rfl (lv_at hl 1 rfl) ?_
    obtain ⟨g_13, hf⟩ := grd_some hf
    obtain ⟨kg_13, sg_13, ig_13⟩ := okA_at g_13
    refine va_iald hx hb hK hP k_12 1 (Wd_ai kg_13 sg_13) rfl ig_13 dX7_storedCoins_28 ?_
    refine lv_iadd hx hb dX7_storedCoins_29 ?_
    refine lv_icmp_ge (tgt := 65) hx hb dX7_storedCoins_30 (by decide) (fun c_14 => ?_) (fun c_14 => ?_)
    · skip
      rw [if_pos c_14] at hf
      refine lv_iinc (v := (p_2 + 1)) (lv' := [(3, .int (p_2 + 1)), (4, .int p_8), (1, .long p_7), (0, .ref (a h0))]) hx hb dX7_storedCoins_65 hl (k := 1) rfl rfl (by decide) rfl (fun ls hl2 => ?_)
      replace hl := hl2
      clear hl2
      refine lv_goto (tgt := 4) hx hb dX7_storedCoins_68 (by decide) ?_
      exact ih4 (z_9, p_7, (p_2 + 1)) ls H locs ⟨lv_sub hl [0, 2, 3] rfl, hP, hD, hS⟩ hf
    · skip
      rw [if_neg c_14] at hf
      refine lv_lload_n hx hb dX7_storedCoins_33 rfl (lv_at hl 2 rfl) ?_
      refine lv_aload_n hx hb dX7_storedCoins_34 rfl (lv_at hl 3 rfl) ?_
      obtain ⟨k_15, ek_15, hf⟩ := lnk_some hf
      refine va_get (D := (dC, dI)) (ci := 7) (v := .ref (a k_15)) (C := RX7) (T := TX7) (N := 16) hx hb hts iwd_X7_storedCoins_X7 hown hK hP h0 (Wd_ob kg_11 sg_11 (by decide)) rfl 11 (by decide) (hts _ md_X7_storedCoins_2) (fun _ h9 => h9) (fl_q rfl ek_15) dX7_storedCoins_35 ?_
      refine lv_iload hx hb dX7_storedCoins_38 (lv_at hl 0 rfl) ?_
      obtain ⟨g_16, hf⟩ := grd_some hf
      obtain ⟨kg_16, sg_16, ig_16⟩ := okA_at g_16
      refine va_bald hx hb hK hP k_15 0 (Wd_ab kg_16 sg_16) rfl ig_16 dX7_storedCoins_40 ?_
      refine lv_bipush (v := 10) hx hb dX7_storedCoins_41 (by decide) ?_
      refine de_cut (h := 57) (fun (x : St × Int64) => [.long x.2, .long p_7]) (fun x ls H locs => lv_has ls 5 [(4, .int p_8), (3, .int p_2), (0, .ref (a h0))] ∧ va_P (dC, dI) vwCl (Wd cy a sh n x.1) H ∧ va_D A (Wd cy a sh n x.1) ∧ va_S A s.heap H locs) (fun x => fn_X7_storedCoins_B57 F sh n p_7 p_8 (fun z9 q1 q4 => fn_X7_storedCoins_L17 F sh n h0 p_2 (fun z9 q1 q3 => fn_X7_storedCoins_L4 F sh n h0 f_4 z9 q1 q3) f_10 z9 q1 q4) x.1 x.2) (z8, r8) ?_ (fun B57 => ?_)
      · intro x ls H locs hI hf
        obtain ⟨z_18, p_17⟩ := x
        obtain ⟨hl2, hP2, hD2, hS2⟩ := hI
        replace hl : lv_has ls 5 [(4, .int p_8), (3, .int p_2), (0, .ref (a h0))] := hl2
        replace hP := hP2
        replace hD := hD2
        replace hS := hS2
        clear hl2 hP2 hD2 hS2
        replace hf := fn_X7_storedCoins_B57_s hf
        refine W.eq (g2 := F0 m 57 ls [.long p_17, .long p_7]) rfl ?_
        refine lv_ladd hx hb dX7_storedCoins_57 ?_
        refine lv_topl (fun v_19 ev_19 => ?_)
        replace hf := lt_at ev_19 hf
        clear ev_19
        refine lv_lstore_n (lv' := [(1, .long v_19), (4, .int p_8), (3, .int p_2), (0, .ref (a h0))]) hx hb dX7_storedCoins_58 rfl hl (by decide) rfl (fun ls hl2 => ?_)
        replace hl := hl2
        clear hl2
        refine lv_iinc (v := (p_8 + 1)) (lv' := [(4, .int (p_8 + 1)), (1, .long v_19), (3, .int p_2), (0, .ref (a h0))]) hx hb dX7_storedCoins_59 hl (k := 1) rfl rfl (by decide) rfl (fun ls hl2 => ?_)
        replace hl := hl2
        clear hl2
        refine lv_goto (tgt := 17) hx hb dX7_storedCoins_62 (by decide) ?_
        exact ih17 (z_18, v_19, (p_8 + 1)) ls H locs ⟨lv_sub hl [0, 2, 1, 3] rfl, hP, hD, hS⟩ hf
      refine lv_icmp_ne (tgt := 56) hx hb dX7_storedCoins_43 (by decide) (fun c_20 => ?_) (fun c_20 => ?_)
      · skip
        rw [if_neg c_20] at hf
        refine lv_lconst (v := 0) hx hb dX7_storedCoins_56 (by decide) ?_
        exact B57 (z_9, 0) ls H locs ⟨lv_sub hl [0, 1, 3] rfl, hP, hD, hS⟩ hf
      · skip
        rw [if_pos c_20] at hf
        refine lv_aload_n hx hb dX7_storedCoins_46 rfl (lv_at hl 3 rfl) ?_
        obtain ⟨k_21, ek_21, hf⟩ := lnk_some hf
        refine va_get (D := (dC, dI)) (ci := 7) (v := .ref (a k_21)) (C := RX7) (T := TX7) (N := 16) hx hb hts iwd_X7_storedCoins_X7 hown hK hP h0 (Wd_ob kg_11 sg_11 (by decide)) rfl 13 (by decide) (hts _ md_X7_storedCoins_3) (fun _ h9 => h9) (fl_q rfl ek_21) dX7_storedCoins_47 ?_
        refine lv_iload hx hb dX7_storedCoins_50 (lv_at hl 0 rfl) ?_
        obtain ⟨g_22, hf⟩ := grd_some hf
        obtain ⟨kg_22, sg_22, ig_22⟩ := okA_at g_22
        refine va_lald hx hb hK hP k_21 2 (Wd_al kg_22 sg_22) rfl ig_22 dX7_storedCoins_52 ?_
        refine lv_goto (tgt := 57) hx hb dX7_storedCoins_53 (by decide) ?_
        exact B57 (z_9, (z_9.2.1 k_21 p_8.toNatClampNeg)) ls H locs ⟨lv_sub hl [0, 1, 3] rfl, hP, hD, hS⟩ hf

theorem md_X11_type_1 : (.fieldLink RX11 80 "ResourceLedger" "tapeLength" "I" : Cond) ∈ wsX11_type := List.mem_of_getElem? (i := 1) rfl
theorem iwd_X11_type_X11 : ∀ w ∈ wsX110, w ∈ wsX11_type := fun _ h => List.mem_cons_of_mem _ (List.mem_append_right _ h)
theorem md_X11_type_2 : (.fieldLink RX11 9 "ResourceLedger" "tape" "[B" : Cond) ∈ wsX11_type := List.mem_of_getElem? (i := 2) rfl
set_option maxHeartbeats 4000000 in
set_option maxRecDepth 100000 in
theorem de_X11_type (l : Launch) (dC : Nat → ClassId) (dI : Nat → Nat → Nat) (cy : Nat → ClassId) (a : Nat → Nat) (sh : Nat → Nat × Nat) (n sz : Nat) (F : Nat) (z : St) (h0 : Nat) (x0 : Int64) (x1 : Int32) {z8 : St} {r8 : Int32} (hf : fn_X11_type F sh n z h0 x0 x1 = some (z8, r8)) : Met l yX11_type wsX11_type ({ frames := 0, cells := 0, slots := 0, locals := 0 }) (va_Pc [.ref (a h0), .long x0, .int x1] (fun U => U.heap.size = sz ∧ va_P (dC, dI) vwCl (Wd cy a sh n z) U.heap ∧ va_K (dC, dI) vwCl (TYS cy) U ∧ va_D (fun _ => True) (Wd cy a sh n z) ∧ NK U)) (va_Qi (fun (r9 : Int32) (u : Unit) => r9 = r8) (fun u t => va_P (dC, dI) vwCl (Wd cy a sh n z8) t.heap ∧ va_K (dC, dI) vwCl (TYS cy) t ∧ va_D (va_A (Wd cy a sh n z) sz) (Wd cy a sh n z8)) (va_A (Wd cy a sh n z) sz)) 0 0 (va_A (Wd cy a sh n z) sz) := by
  refine Met.ofW (cc := cX11_type) (maxL := 5) (ret := (some .int)) (by decide) rfl ?_
  intro p e s m args below meth c s₁ B hml hv
  obtain ⟨rfl, hsz, hP, hK, hD0, hN⟩ := hv
  have hx := B.exec
  have hb := B.bytes
  have hr := B.returns
  have hts := atoms_spec (ws := wsX11_type) B.pre
  have hown : s.vm.findClass RX11 = some m.cls := findClass_of_methodNamed B.named
  have hlocks := B.notSynchronized
  subst hsz
  have hD := hD0.self (sz := s.heap.size)
  clear hD0
  generalize hAe : va_A (Wd cy a sh n z) s.heap.size = A at hD ⊢
  have hA : ∀ q : Nat, s.heap.size ≤ q → A q := fun q h => by rw [← hAe]; exact Or.inr h
  clear hAe
  have hS : va_S A s.heap s.heap [] := va_S.rf
  have hl := lv_entry ([.ref (a h0), .long x0, .int x1]) (n := 5) (Nat.le_of_ble_eq_true rfl)
  rw [lg_entry_eq]
  generalize (lg_sl ([.ref (a h0), .long x0, .int x1]) ++ List.replicate (5 - (lg_sl ([.ref (a h0), .long x0, .int x1])).length) Slot.unset).toArray = ls at hl ⊢
  replace hl : lv_has ls 5 [(0, .ref (a h0)), (1, .long x0), (3, .int x1)] := hl
  unfold fn_X11_type at hf
  refine de_start hS hP (fun H locs hS hP => ?_)
  refine lv_iload_n hx hb dX11_type_0 rfl (lv_at hl 2 rfl) ?_
  refine lv_iconst (v := 1) hx hb dX11_type_1 (by decide) ?_
  refine lv_icmp_lt (tgt := 11) hx hb dX11_type_2 (by decide) (fun c_1 => ?_) (fun c_1 => ?_)
  · skip
    rw [if_pos c_1] at hf
    refine lv_iconst (v := (-1)) hx hb dX11_type_11 (by decide) ?_
    obtain ⟨h8, h9⟩ := ret_some hf
    rw [h8, h9]
    exact W.iret (v := (-1)) hx hb hr (fun t ht hW => ⟨⟨(-1), (), rfl, rfl, by rw [ht]; exact hP, va_K.moved hW.alike hK, hD⟩, hS.F ht⟩) hS.2.2 dX11_type_12
  · skip
    rw [if_neg c_1] at hf
    refine lv_iload_n hx hb dX11_type_5 rfl (lv_at hl 2 rfl) ?_
    refine lv_bipush (v := 8) hx hb dX11_type_6 (by decide) ?_
    refine lv_icmp_le (tgt := 13) hx hb dX11_type_8 (by decide) (fun c_2 => ?_) (fun c_2 => ?_)
    · skip
      rw [if_pos c_2] at hf
      refine lv_aload_n hx hb dX11_type_13 rfl (lv_at hl 0 rfl) ?_
      obtain ⟨g_3, hf⟩ := grd_some hf
      obtain ⟨kg_3, sg_3⟩ := okO_at g_3
      refine va_get (D := (dC, dI)) (ci := 11) (v := .int (z.1 h0 1)) (C := RX11) (T := TX11) (N := 13) hx hb hts iwd_X11_type_X11 hown hK hP h0 (Wd_ob kg_3 sg_3 (by decide)) rfl 1 (by decide) (hts _ md_X11_type_1) (fun _ h9 => h9) (fl_at (t := 0) rfl) dX11_type_14 ?_
      refine lv_iload_n hx hb dX11_type_17 rfl (lv_at hl 2 rfl) ?_
      refine lv_iadd hx hb dX11_type_18 ?_
      refine lv_sipush (v := 2048) hx hb dX11_type_19 (by decide) ?_
      refine lv_icmp_le (tgt := 28) hx hb dX11_type_22 (by decide) (fun c_4 => ?_) (fun c_4 => ?_)
      · skip
        rw [if_pos c_4] at hf
        refine lv_iload_n hx hb dX11_type_28 rfl (lv_at hl 2 rfl) ?_
        refine lv_iconst (v := 1) hx hb dX11_type_29 (by decide) ?_
        refine lv_isub hx hb dX11_type_30 ?_
        refine lv_topi (fun v_5 ev_5 => ?_)
        replace hf := lt_at ev_5 hf
        clear ev_5
        refine lv_istore (lv' := [(4, .int v_5), (0, .ref (a h0)), (1, .long x0), (3, .int x1)]) hx hb dX11_type_31 hl (by decide) rfl (fun ls hl2 => ?_)
        replace hl := hl2
        clear hl2
        have hl0 : lv_has ls 5 [(4, .int v_5), (0, .ref (a h0)), (1, .long x0)] := lv_sub hl [0, 1, 2] rfl
        refine de_loop (h := 33) (fun (x : St × Int32) ls H locs => lv_has ls 5 [(4, .int x.2), (0, .ref (a h0)), (1, .long x0)] ∧ va_P (dC, dI) vwCl (Wd cy a sh n x.1) H ∧ va_D A (Wd cy a sh n x.1) ∧ va_S A s.heap H locs) (fun f x => fn_X11_type_L33 F sh n h0 x0 f x.1 x.2) (z8, r8) ?_ (fun _ => rfl) F (z, v_5) ls H locs ⟨hl0, hP, hD, hS⟩ hf
        intro f_8 x ls H locs ih33 hI hf
        obtain ⟨z_7, p_6⟩ := x
        obtain ⟨hl2, hP2, hD2, hS2⟩ := hI
        replace hl : lv_has ls 5 [(4, .int p_6), (0, .ref (a h0)), (1, .long x0)] := hl2
        replace hP := hP2
        replace hD := hD2
        replace hS := hS2
        clear hl2 hP2 hD2 hS2 hl0
        replace hf := fn_X11_type_L33_s hf
        refine lv_iload hx hb dX11_type_33 (lv_at hl 0 rfl) ?_
        refine lv_if_lt (tgt := 69) hx hb dX11_type_35 (by decide) (fun c_9 => ?_) (fun c_9 => ?_)
        · skip
          rw [if_pos c_9] at hf
          refine lv_aload_n hx hb dX11_type_69 rfl (lv_at hl 1 rfl) ?_
          refine va_get (D := (dC, dI)) (ci := 11) (v := .int (z_7.1 h0 1)) (C := RX11) (T := TX11) (N := 13) hx hb hts iwd_X11_type_X11 hown hK hP h0 (Wd_ob kg_3 sg_3 (by decide)) rfl 1 (by decide) (hts _ md_X11_type_1) (fun _ h9 => h9) (fl_at (t := 0) rfl) dX11_type_70 ?_
          obtain ⟨h8, h9⟩ := ret_some hf
          rw [h8, h9]
          exact W.iret (v := (z_7.1 h0 1)) hx hb hr (fun t ht hW => ⟨⟨(z_7.1 h0 1), (), rfl, rfl, by rw [ht]; exact hP, va_K.moved hW.alike hK, hD⟩, hS.F ht⟩) hS.2.2 dX11_type_73
        · skip
          rw [if_neg c_9] at hf
          refine lv_aload_n hx hb dX11_type_38 rfl (lv_at hl 1 rfl) ?_
          obtain ⟨k_10, ek_10, hf⟩ := lnk_some hf
          refine va_get (D := (dC, dI)) (ci := 11) (v := .ref (a k_10)) (C := RX11) (T := TX11) (N := 13) hx hb hts iwd_X11_type_X11 hown hK hP h0 (Wd_ob kg_3 sg_3 (by decide)) rfl 0 (by decide) (hts _ md_X11_type_2) (fun _ h9 => h9) (fl_q rfl ek_10) dX11_type_39 ?_
          refine lv_aload_n hx hb dX11_type_42 rfl (lv_at hl 1 rfl) ?_
          refine lv_dup hx hb dX11_type_43 rfl ?_
          refine va_get (D := (dC, dI)) (ci := 11) (v := .int (z_7.1 h0 1)) (C := RX11) (T := TX11) (N := 13) hx hb hts iwd_X11_type_X11 hown hK hP h0 (Wd_ob kg_3 sg_3 (by decide)) rfl 1 (by decide) (hts _ md_X11_type_1) (fun _ h9 => h9) (fl_at (t := 0) rfl) dX11_type_44 ?_
          refine lv_topi (fun v_11 ev_11 => ?_)
          replace hf := lt_at ev_11 hf
          clear ev_11
          refine lv_dup_x1 hx hb dX11_type_47 rfl rfl ?_
          refine lv_iconst (v := 1) hx hb dX11_type_48 (by decide) ?_
          refine lv_iadd hx hb dX11_type_49 ?_
          refine va_put (D := (dC, dI)) (ci := 11) (v := .int (v_11 + 1)) (ty := .int) (C := RX11) (T := TX11) (N := 13) hx hb hts iwd_X11_type_X11 tyX11 tyX11_ok nmX11 hown hK hP hD hS h0 (Wd_ob kg_3 sg_3 (by decide)) rfl 1 (by decide) (hts _ md_X11_type_1) (fun _ h9 => h9) rfl (by decide +kernel) rfl rfl (by rw [fl_len]; decide) dX11_type_50 (fun H_12 locs hP2 hD2 hS2 => ?_)
          rw [Wd_si sg_3 (by decide) rfl] at hP2 hD2
          obtain ⟨z_13, ez_13⟩ : ∃ w, w = si z_7 h0 1 (v_11 + 1) := ⟨_, rfl⟩
          rw [← ez_13] at hP2 hD2
          replace hf := lt_at ez_13 hf
          clear ez_13
          replace hP := hP2
          replace hD := hD2
          replace hS := hS2
          clear hP2 hD2 hS2
          refine lv_lload_n hx hb dX11_type_53 rfl (lv_at hl 2 rfl) ?_
          refine lv_bipush (v := 8) hx hb dX11_type_54 (by decide) ?_
          refine lv_iload hx hb dX11_type_56 (lv_at hl 0 rfl) ?_
          refine lv_imul hx hb dX11_type_58 ?_
          refine lv_lushr (v := ((x0 : Int64).toUInt64 >>> (((8 * p_6) : Int32).toInt64.toUInt64 &&& Int64.toUInt64 63)).toInt64) hx hb dX11_type_59 rfl ?_
          refine lv_l2i (v := ((((x0 : Int64).toUInt64 >>> (((8 * p_6) : Int32).toInt64.toUInt64 &&& Int64.toUInt64 63)).toInt64) : Int64).toInt32) hx hb dX11_type_60 rfl ?_
          refine lv_i2b (v := ((((((x0 : Int64).toUInt64 >>> (((8 * p_6) : Int32).toInt64.toUInt64 &&& Int64.toUInt64 63)).toInt64) : Int64).toInt32) : Int32).toInt8.toInt32) hx hb dX11_type_61 rfl ?_
          obtain ⟨g_14, hf⟩ := grd_some hf
          obtain ⟨kg_14, sg_14, ig_14⟩ := okA_at g_14
          refine va_bast hx hb hK hP hD hS k_10 0 (Wd_ab kg_14 sg_14) rfl ig_14 dX11_type_62 (fun H_15 locs hP2 hD2 hS2 => ?_)
          rw [Wd_tb sg_14] at hP2 hD2
          obtain ⟨z_16, ez_16⟩ : ∃ w, w = si z_13 k_10 v_11.toNatClampNeg (vp_nar .byte (((((((x0 : Int64).toUInt64 >>> (((8 * p_6) : Int32).toInt64.toUInt64 &&& Int64.toUInt64 63)).toInt64) : Int64).toInt32) : Int32).toInt8.toInt32)) := ⟨_, rfl⟩
          rw [← ez_16] at hP2 hD2
          replace hf := lt_at ez_16 hf
          clear ez_16
          replace hP := hP2
          replace hD := hD2
          replace hS := hS2
          clear hP2 hD2 hS2
          refine lv_iinc (v := (p_6 + (-1))) (lv' := [(4, .int (p_6 + (-1))), (0, .ref (a h0)), (1, .long x0)]) hx hb dX11_type_63 hl (k := 0) rfl rfl (by decide) rfl (fun ls hl2 => ?_)
          replace hl := hl2
          clear hl2
          refine lv_goto (tgt := 33) hx hb dX11_type_66 (by decide) ?_
          exact ih33 (z_16, (p_6 + (-1))) ls H_15 locs ⟨lv_sub hl [0, 1, 2] rfl, hP, hD, hS⟩ hf
      · skip
        rw [if_neg c_4] at hf
        refine lv_bipush (v := (-3)) hx hb dX11_type_25 (by decide) ?_
        obtain ⟨h8, h9⟩ := ret_some hf
        rw [h8, h9]
        exact W.iret (v := (-3)) hx hb hr (fun t ht hW => ⟨⟨(-3), (), rfl, rfl, by rw [ht]; exact hP, va_K.moved hW.alike hK, hD⟩, hS.F ht⟩) hS.2.2 dX11_type_27
    · skip
      rw [if_neg c_2] at hf
      refine lv_iconst (v := (-1)) hx hb dX11_type_11 (by decide) ?_
      obtain ⟨h8, h9⟩ := ret_some hf
      rw [h8, h9]
      exact W.iret (v := (-1)) hx hb hr (fun t ht hW => ⟨⟨(-1), (), rfl, rfl, by rw [ht]; exact hP, va_K.moved hW.alike hK, hD⟩, hS.F ht⟩) hS.2.2 dX11_type_12

theorem md_X14_keep_3 : (.fieldLink RX14 16 "ResourceLedgerModel$Roots" "sorts" "[I" : Cond) ∈ wsX14_keep := List.mem_of_getElem? (i := 3) rfl
theorem iwd_X14_keep_X14 : ∀ w ∈ wsX140, w ∈ wsX14_keep := fun _ h => List.mem_cons_of_mem _ (List.mem_append_right _ h)
theorem md_X14_keep_4 : (.fieldLink RX14 20 "ResourceLedgerModel$Roots" "addresses" "[J" : Cond) ∈ wsX14_keep := List.mem_of_getElem? (i := 4) rfl
theorem md_X14_keep_5 : (.fieldLink RX14 23 "ResourceLedgerModel$Roots" "kinds" "[I" : Cond) ∈ wsX14_keep := List.mem_of_getElem? (i := 5) rfl
theorem md_X14_keep_1 : (.fieldLink RX14 7 "ResourceLedgerModel$Roots" "keys" "[J" : Cond) ∈ wsX14_keep := List.mem_of_getElem? (i := 1) rfl
theorem md_X14_keep_2 : (.fieldLink RX14 13 "ResourceLedgerModel$Roots" "values" "[J" : Cond) ∈ wsX14_keep := List.mem_of_getElem? (i := 2) rfl
set_option maxHeartbeats 4000000 in
set_option maxRecDepth 100000 in
theorem de_X14_keep (l : Launch) (dC : Nat → ClassId) (dI : Nat → Nat → Nat) (cy : Nat → ClassId) (a : Nat → Nat) (sh : Nat → Nat × Nat) (n sz : Nat) (F : Nat) (z : St) (h0 : Nat) (x0 : Int32) (x1 : Nat) (x2 : Nat) (x3 : Int32) (x4 : Int64) (x5 : Int32) {z8 : St} {r8 : Unit} (hf : fn_X14_keep F sh n z h0 x0 x1 x2 x3 x4 x5 = some (z8, r8)) : Met l yX14_keep wsX14_keep ({ frames := 0, cells := 0, slots := 0, locals := 0 }) (va_Pc [.ref (a h0), .int x0, .ref (a x1), .ref (a x2), .int x3, .long x4, .int x5] (fun U => U.heap.size = sz ∧ va_P (dC, dI) vwCl (Wd cy a sh n z) U.heap ∧ va_K (dC, dI) vwCl (TYS cy) U ∧ va_D (fun _ => True) (Wd cy a sh n z) ∧ NK U)) (va_Qv (fun u : Unit => True) (fun u t => va_P (dC, dI) vwCl (Wd cy a sh n z8) t.heap ∧ va_K (dC, dI) vwCl (TYS cy) t ∧ va_D (va_A (Wd cy a sh n z) sz) (Wd cy a sh n z8)) (va_A (Wd cy a sh n z) sz)) 0 0 (va_A (Wd cy a sh n z) sz) := by
  refine Met.ofW (cc := cX14_keep) (maxL := 9) (ret := none) (by decide) rfl ?_
  intro p e s m args below meth c s₁ B hml hv
  obtain ⟨rfl, hsz, hP, hK, hD0, hN⟩ := hv
  have hx := B.exec
  have hb := B.bytes
  have hr := B.returns
  have hts := atoms_spec (ws := wsX14_keep) B.pre
  have hown : s.vm.findClass RX14 = some m.cls := findClass_of_methodNamed B.named
  have hlocks := B.notSynchronized
  subst hsz
  have hD := hD0.self (sz := s.heap.size)
  clear hD0
  generalize hAe : va_A (Wd cy a sh n z) s.heap.size = A at hD ⊢
  have hA : ∀ q : Nat, s.heap.size ≤ q → A q := fun q h => by rw [← hAe]; exact Or.inr h
  clear hAe
  have hS : va_S A s.heap s.heap [] := va_S.rf
  have hl := lv_entry ([.ref (a h0), .int x0, .ref (a x1), .ref (a x2), .int x3, .long x4, .int x5]) (n := 9) (Nat.le_of_ble_eq_true rfl)
  rw [lg_entry_eq]
  generalize (lg_sl ([.ref (a h0), .int x0, .ref (a x1), .ref (a x2), .int x3, .long x4, .int x5]) ++ List.replicate (9 - (lg_sl ([.ref (a h0), .int x0, .ref (a x1), .ref (a x2), .int x3, .long x4, .int x5])).length) Slot.unset).toArray = ls at hl ⊢
  replace hl : lv_has ls 9 [(0, .ref (a h0)), (1, .int x0), (2, .ref (a x1)), (3, .ref (a x2)), (4, .int x3), (5, .long x4), (7, .int x5)] := hl
  unfold fn_X14_keep at hf
  refine de_start hS hP (fun H locs hS hP => ?_)
  refine lv_iconst (v := 0) hx hb dX14_keep_0 (by decide) ?_
  refine lv_istore (lv' := [(8, .int 0), (0, .ref (a h0)), (1, .int x0), (2, .ref (a x1)), (3, .ref (a x2)), (4, .int x3), (5, .long x4), (7, .int x5)]) hx hb dX14_keep_1 hl (by decide) rfl (fun ls hl2 => ?_)
  replace hl := hl2
  clear hl2
  have hl0 : lv_has ls 9 [(8, .int 0), (0, .ref (a h0)), (1, .int x0), (2, .ref (a x1)), (3, .ref (a x2)), (4, .int x3), (5, .long x4), (7, .int x5)] := lv_sub hl [0, 1, 2, 3, 4, 5, 6, 7] rfl
  refine de_loop (h := 3) (fun (x : St × Int32) ls H locs => lv_has ls 9 [(8, .int x.2), (0, .ref (a h0)), (1, .int x0), (2, .ref (a x1)), (3, .ref (a x2)), (4, .int x3), (5, .long x4), (7, .int x5)] ∧ va_P (dC, dI) vwCl (Wd cy a sh n x.1) H ∧ va_D A (Wd cy a sh n x.1) ∧ va_S A s.heap H locs) (fun f x => fn_X14_keep_L3 F sh n h0 x0 x3 x4 x5 x1 x2 f x.1 x.2) (z8, r8) ?_ (fun _ => rfl) F (z, 0) ls H locs ⟨hl0, hP, hD, hS⟩ hf
  intro f_3 x ls H locs ih3 hI hf
  obtain ⟨z_2, p_1⟩ := x
  obtain ⟨hl2, hP2, hD2, hS2⟩ := hI
  replace hl : lv_has ls 9 [(8, .int p_1), (0, .ref (a h0)), (1, .int x0), (2, .ref (a x1)), (3, .ref (a x2)), (4, .int x3), (5, .long x4), (7, .int x5)] := hl2
  replace hP := hP2
  replace hD := hD2
  replace hS := hS2
  clear hl2 hP2 hD2 hS2 hl0
  replace hf := fn_X14_keep_L3_s hf
  refine lv_iload hx hb dX14_keep_3 (lv_at hl 0 rfl) ?_
  refine lv_iconst (v := 4) hx hb dX14_keep_5 (by decide) ?_
  refine lv_icmp_ge (tgt := 45) hx hb dX14_keep_6 (by decide) (fun c_4 => ?_) (fun c_4 => ?_)
  · skip
    rw [if_pos c_4] at hf
    refine lv_aload_n hx hb dX14_keep_45 rfl (lv_at hl 1 rfl) ?_
    obtain ⟨g_5, hf⟩ := grd_some hf
    obtain ⟨kg_5, sg_5⟩ := okO_at g_5
    obtain ⟨k_6, ek_6, hf⟩ := lnk_some hf
    refine va_get (D := (dC, dI)) (ci := 14) (v := .ref (a k_6)) (C := RX14) (T := TX14) (N := 11) hx hb hts iwd_X14_keep_X14 hown hK hP h0 (Wd_ob kg_5 sg_5 (by decide)) rfl 2 (by decide) (hts _ md_X14_keep_3) (fun _ h9 => h9) (fl_q rfl ek_6) dX14_keep_46 ?_
    refine lv_iload_n hx hb dX14_keep_49 rfl (lv_at hl 2 rfl) ?_
    refine lv_iload hx hb dX14_keep_50 (lv_at hl 5 rfl) ?_
    obtain ⟨g_7, hf⟩ := grd_some hf
    obtain ⟨kg_7, sg_7, ig_7⟩ := okA_at g_7
    refine va_iast hx hb hK hP hD hS k_6 1 (Wd_ai kg_7 sg_7) rfl ig_7 dX14_keep_52 (fun H_8 locs hP2 hD2 hS2 => ?_)
    rw [Wd_ti sg_7] at hP2 hD2
    obtain ⟨z_9, ez_9⟩ : ∃ w, w = si z_2 k_6 x0.toNatClampNeg x3 := ⟨_, rfl⟩
    rw [← ez_9] at hP2 hD2
    replace hf := lt_at ez_9 hf
    clear ez_9
    replace hP := hP2
    replace hD := hD2
    replace hS := hS2
    clear hP2 hD2 hS2
    refine lv_aload_n hx hb dX14_keep_53 rfl (lv_at hl 1 rfl) ?_
    obtain ⟨k_10, ek_10, hf⟩ := lnk_some hf
    refine va_get (D := (dC, dI)) (ci := 14) (v := .ref (a k_10)) (C := RX14) (T := TX14) (N := 11) hx hb hts iwd_X14_keep_X14 hown hK hP h0 (Wd_ob kg_5 sg_5 (by decide)) rfl 3 (by decide) (hts _ md_X14_keep_4) (fun _ h9 => h9) (fl_q rfl ek_10) dX14_keep_54 ?_
    refine lv_iload_n hx hb dX14_keep_57 rfl (lv_at hl 2 rfl) ?_
    refine lv_lload hx hb dX14_keep_58 (lv_at hl 6 rfl) ?_
    obtain ⟨g_11, hf⟩ := grd_some hf
    obtain ⟨kg_11, sg_11, ig_11⟩ := okA_at g_11
    refine va_last hx hb hK hP hD hS k_10 2 (Wd_al kg_11 sg_11) rfl ig_11 dX14_keep_60 (fun H_12 locs hP2 hD2 hS2 => ?_)
    rw [Wd_tl sg_11] at hP2 hD2
    obtain ⟨z_13, ez_13⟩ : ∃ w, w = sl z_9 k_10 x0.toNatClampNeg x4 := ⟨_, rfl⟩
    rw [← ez_13] at hP2 hD2
    replace hf := lt_at ez_13 hf
    clear ez_13
    replace hP := hP2
    replace hD := hD2
    replace hS := hS2
    clear hP2 hD2 hS2
    refine lv_aload_n hx hb dX14_keep_61 rfl (lv_at hl 1 rfl) ?_
    obtain ⟨k_14, ek_14, hf⟩ := lnk_some hf
    refine va_get (D := (dC, dI)) (ci := 14) (v := .ref (a k_14)) (C := RX14) (T := TX14) (N := 11) hx hb hts iwd_X14_keep_X14 hown hK hP h0 (Wd_ob kg_5 sg_5 (by decide)) rfl 4 (by decide) (hts _ md_X14_keep_5) (fun _ h9 => h9) (fl_q rfl ek_14) dX14_keep_62 ?_
    refine lv_iload_n hx hb dX14_keep_65 rfl (lv_at hl 2 rfl) ?_
    refine lv_iload hx hb dX14_keep_66 (lv_at hl 7 rfl) ?_
    obtain ⟨g_15, hf⟩ := grd_some hf
    obtain ⟨kg_15, sg_15, ig_15⟩ := okA_at g_15
    refine va_iast hx hb hK hP hD hS k_14 1 (Wd_ai kg_15 sg_15) rfl ig_15 dX14_keep_68 (fun H_16 locs hP2 hD2 hS2 => ?_)
    rw [Wd_ti sg_15] at hP2 hD2
    obtain ⟨z_17, ez_17⟩ : ∃ w, w = si z_13 k_14 x0.toNatClampNeg x5 := ⟨_, rfl⟩
    rw [← ez_17] at hP2 hD2
    replace hf := lt_at ez_17 hf
    clear ez_17
    replace hP := hP2
    replace hD := hD2
    replace hS := hS2
    clear hP2 hD2 hS2
    obtain ⟨h8, h9⟩ := ret_some hf
    rw [h8]
    exact W.vret hx hb hr (fun t ht hW => ⟨⟨(), rfl, trivial, by rw [ht]; exact hP, va_K.moved hW.alike hK, hD⟩, hS.F ht⟩) hS.2.2 dX14_keep_69
  · skip
    rw [if_neg c_4] at hf
    refine lv_aload_n hx hb dX14_keep_9 rfl (lv_at hl 1 rfl) ?_
    obtain ⟨g_18, hf⟩ := grd_some hf
    obtain ⟨kg_18, sg_18⟩ := okO_at g_18
    obtain ⟨k_19, ek_19, hf⟩ := lnk_some hf
    refine va_get (D := (dC, dI)) (ci := 14) (v := .ref (a k_19)) (C := RX14) (T := TX14) (N := 11) hx hb hts iwd_X14_keep_X14 hown hK hP h0 (Wd_ob kg_18 sg_18 (by decide)) rfl 0 (by decide) (hts _ md_X14_keep_1) (fun _ h9 => h9) (fl_q rfl ek_19) dX14_keep_10 ?_
    refine lv_iconst (v := 4) hx hb dX14_keep_13 (by decide) ?_
    refine lv_iload_n hx hb dX14_keep_14 rfl (lv_at hl 2 rfl) ?_
    refine lv_imul hx hb dX14_keep_15 ?_
    refine lv_iload hx hb dX14_keep_16 (lv_at hl 0 rfl) ?_
    refine lv_iadd hx hb dX14_keep_18 ?_
    refine lv_aload_n hx hb dX14_keep_19 rfl (lv_at hl 3 rfl) ?_
    refine lv_iload hx hb dX14_keep_20 (lv_at hl 0 rfl) ?_
    obtain ⟨g_20, hf⟩ := grd_some hf
    obtain ⟨kg_20, sg_20, ig_20⟩ := okA_at g_20
    refine va_lald hx hb hK hP x1 2 (Wd_al kg_20 sg_20) rfl ig_20 dX14_keep_22 ?_
    obtain ⟨g_21, hf⟩ := grd_some hf
    obtain ⟨kg_21, sg_21, ig_21⟩ := okA_at g_21
    refine va_last hx hb hK hP hD hS k_19 2 (Wd_al kg_21 sg_21) rfl ig_21 dX14_keep_23 (fun H_22 locs hP2 hD2 hS2 => ?_)
    rw [Wd_tl sg_21] at hP2 hD2
    obtain ⟨z_23, ez_23⟩ : ∃ w, w = sl z_2 k_19 ((4 * x0) + p_1).toNatClampNeg (z_2.2.1 x1 p_1.toNatClampNeg) := ⟨_, rfl⟩
    rw [← ez_23] at hP2 hD2
    replace hf := lt_at ez_23 hf
    clear ez_23
    replace hP := hP2
    replace hD := hD2
    replace hS := hS2
    clear hP2 hD2 hS2
    refine lv_aload_n hx hb dX14_keep_24 rfl (lv_at hl 1 rfl) ?_
    obtain ⟨k_24, ek_24, hf⟩ := lnk_some hf
    refine va_get (D := (dC, dI)) (ci := 14) (v := .ref (a k_24)) (C := RX14) (T := TX14) (N := 11) hx hb hts iwd_X14_keep_X14 hown hK hP h0 (Wd_ob kg_18 sg_18 (by decide)) rfl 1 (by decide) (hts _ md_X14_keep_2) (fun _ h9 => h9) (fl_q rfl ek_24) dX14_keep_25 ?_
    refine lv_iconst (v := 4) hx hb dX14_keep_28 (by decide) ?_
    refine lv_iload_n hx hb dX14_keep_29 rfl (lv_at hl 2 rfl) ?_
    refine lv_imul hx hb dX14_keep_30 ?_
    refine lv_iload hx hb dX14_keep_31 (lv_at hl 0 rfl) ?_
    refine lv_iadd hx hb dX14_keep_33 ?_
    refine lv_aload_n hx hb dX14_keep_34 rfl (lv_at hl 4 rfl) ?_
    refine lv_iload hx hb dX14_keep_35 (lv_at hl 0 rfl) ?_
    obtain ⟨g_25, hf⟩ := grd_some hf
    obtain ⟨kg_25, sg_25, ig_25⟩ := okA_at g_25
    refine va_lald hx hb hK hP x2 2 (Wd_al kg_25 sg_25) rfl ig_25 dX14_keep_37 ?_
    obtain ⟨g_26, hf⟩ := grd_some hf
    obtain ⟨kg_26, sg_26, ig_26⟩ := okA_at g_26
    refine va_last hx hb hK hP hD hS k_24 2 (Wd_al kg_26 sg_26) rfl ig_26 dX14_keep_38 (fun H_27 locs hP2 hD2 hS2 => ?_)
    rw [Wd_tl sg_26] at hP2 hD2
    obtain ⟨z_28, ez_28⟩ : ∃ w, w = sl z_23 k_24 ((4 * x0) + p_1).toNatClampNeg (z_23.2.1 x2 p_1.toNatClampNeg) := ⟨_, rfl⟩
    rw [← ez_28] at hP2 hD2
    replace hf := lt_at ez_28 hf
    clear ez_28
    replace hP := hP2
    replace hD := hD2
    replace hS := hS2
    clear hP2 hD2 hS2
    refine lv_iinc (v := (p_1 + 1)) (lv' := [(8, .int (p_1 + 1)), (0, .ref (a h0)), (1, .int x0), (2, .ref (a x1)), (3, .ref (a x2)), (4, .int x3), (5, .long x4), (7, .int x5)]) hx hb dX14_keep_39 hl (k := 0) rfl rfl (by decide) rfl (fun ls hl2 => ?_)
    replace hl := hl2
    clear hl2
    refine lv_goto (tgt := 3) hx hb dX14_keep_42 (by decide) ?_
    exact ih3 (z_28, (p_1 + 1)) ls H_27 locs ⟨lv_sub hl [0, 1, 2, 3, 4, 5, 6, 7] rfl, hP, hD, hS⟩ hf

theorem md_X18_coinsIn_1 : (.fieldLink RX18 60 "ResourceLedgerModel" "rowParts" "[I" : Cond) ∈ wsX18_coinsIn := List.mem_of_getElem? (i := 1) rfl
theorem iwd_X18_coinsIn_X18 : ∀ w ∈ wsX180, w ∈ wsX18_coinsIn := fun _ h => List.mem_cons_of_mem _ (List.mem_append_right _ h)
theorem md_X18_coinsIn_2 : (.fieldLink RX18 44 "ResourceLedgerModel" "rowKinds" "[B" : Cond) ∈ wsX18_coinsIn := List.mem_of_getElem? (i := 2) rfl
theorem md_X18_coinsIn_3 : (.fieldLink RX18 51 "ResourceLedgerModel" "rowLows" "[J" : Cond) ∈ wsX18_coinsIn := List.mem_of_getElem? (i := 3) rfl
set_option maxHeartbeats 4000000 in
set_option maxRecDepth 100000 in
theorem de_X18_coinsIn (l : Launch) (dC : Nat → ClassId) (dI : Nat → Nat → Nat) (cy : Nat → ClassId) (a : Nat → Nat) (sh : Nat → Nat × Nat) (n sz : Nat) (F : Nat) (z : St) (h0 : Nat) (x0 : Int32) {z8 : St} {r8 : Int64} (hf : fn_X18_coinsIn F sh n z h0 x0 = some (z8, r8)) : Met l yX18_coinsIn wsX18_coinsIn ({ frames := 0, cells := 0, slots := 0, locals := 0 }) (va_Pc [.ref (a h0), .int x0] (fun U => U.heap.size = sz ∧ va_P (dC, dI) vwCl (Wd cy a sh n z) U.heap ∧ va_K (dC, dI) vwCl (TYS cy) U ∧ va_D (fun _ => True) (Wd cy a sh n z) ∧ NK U)) (va_Ql (fun (r9 : Int64) (u : Unit) => r9 = r8) (fun u t => va_P (dC, dI) vwCl (Wd cy a sh n z8) t.heap ∧ va_K (dC, dI) vwCl (TYS cy) t ∧ va_D (va_A (Wd cy a sh n z) sz) (Wd cy a sh n z8)) (va_A (Wd cy a sh n z) sz)) 0 0 (va_A (Wd cy a sh n z) sz) := by
  refine Met.ofW (cc := cX18_coinsIn) (maxL := 6) (ret := (some .long)) (by decide) rfl ?_
  intro p e s m args below meth c s₁ B hml hv
  obtain ⟨rfl, hsz, hP, hK, hD0, hN⟩ := hv
  have hx := B.exec
  have hb := B.bytes
  have hr := B.returns
  have hts := atoms_spec (ws := wsX18_coinsIn) B.pre
  have hown : s.vm.findClass RX18 = some m.cls := findClass_of_methodNamed B.named
  have hlocks := B.notSynchronized
  subst hsz
  have hD := hD0.self (sz := s.heap.size)
  clear hD0
  generalize hAe : va_A (Wd cy a sh n z) s.heap.size = A at hD ⊢
  have hA : ∀ q : Nat, s.heap.size ≤ q → A q := fun q h => by rw [← hAe]; exact Or.inr h
  clear hAe
  have hS : va_S A s.heap s.heap [] := va_S.rf
  have hl := lv_entry ([.ref (a h0), .int x0]) (n := 6) (Nat.le_of_ble_eq_true rfl)
  rw [lg_entry_eq]
  generalize (lg_sl ([.ref (a h0), .int x0]) ++ List.replicate (6 - (lg_sl ([.ref (a h0), .int x0])).length) Slot.unset).toArray = ls at hl ⊢
  replace hl : lv_has ls 6 [(0, .ref (a h0)), (1, .int x0)] := hl
  unfold fn_X18_coinsIn at hf
  refine de_start hS hP (fun H locs hS hP => ?_)
  refine lv_lconst (v := 0) hx hb dX18_coinsIn_0 (by decide) ?_
  refine lv_lstore_n (lv' := [(2, .long 0), (0, .ref (a h0)), (1, .int x0)]) hx hb dX18_coinsIn_1 rfl hl (by decide) rfl (fun ls hl2 => ?_)
  replace hl := hl2
  clear hl2
  refine lv_iconst (v := 1) hx hb dX18_coinsIn_2 (by decide) ?_
  refine lv_istore (lv' := [(4, .int 1), (2, .long 0), (0, .ref (a h0)), (1, .int x0)]) hx hb dX18_coinsIn_3 hl (by decide) rfl (fun ls hl2 => ?_)
  replace hl := hl2
  clear hl2
  refine lv_bipush (v := 64) hx hb dX18_coinsIn_5 (by decide) ?_
  refine lv_iload_n hx hb dX18_coinsIn_7 rfl (lv_at hl 3 rfl) ?_
  refine lv_imul hx hb dX18_coinsIn_8 ?_
  refine lv_topi (fun v_1 ev_1 => ?_)
  replace hf := lt_at ev_1 hf
  clear ev_1
  refine lv_istore (lv' := [(5, .int v_1), (4, .int 1), (2, .long 0), (0, .ref (a h0)), (1, .int x0)]) hx hb dX18_coinsIn_9 hl (by decide) rfl (fun ls hl2 => ?_)
  replace hl := hl2
  clear hl2
  have hl0 : lv_has ls 6 [(5, .int v_1), (4, .int 1), (2, .long 0), (0, .ref (a h0))] := lv_sub hl [0, 1, 2, 3] rfl
  refine de_loop (h := 11) (fun (x : St × Int64 × Int32 × Int32) ls H locs => lv_has ls 6 [(5, .int x.2.2.2), (4, .int x.2.2.1), (2, .long x.2.1), (0, .ref (a h0))] ∧ va_P (dC, dI) vwCl (Wd cy a sh n x.1) H ∧ va_D A (Wd cy a sh n x.1) ∧ va_S A s.heap H locs) (fun f x => fn_X18_coinsIn_L11 F sh n h0 f x.1 x.2.1 x.2.2.1 x.2.2.2) (z8, r8) ?_ (fun _ => rfl) F (z, 0, 1, v_1) ls H locs ⟨hl0, hP, hD, hS⟩ hf
  intro f_6 x ls H locs ih11 hI hf
  obtain ⟨z_5, p_2, p_3, p_4⟩ := x
  obtain ⟨hl2, hP2, hD2, hS2⟩ := hI
  replace hl : lv_has ls 6 [(5, .int p_4), (4, .int p_3), (2, .long p_2), (0, .ref (a h0))] := hl2
  replace hP := hP2
  replace hD := hD2
  replace hS := hS2
  clear hl2 hP2 hD2 hS2 hl0
  replace hf := fn_X18_coinsIn_L11_s hf
  refine lv_iload hx hb dX18_coinsIn_11 (lv_at hl 1 rfl) ?_
  refine lv_if_le (tgt := 72) hx hb dX18_coinsIn_13 (by decide) (fun c_7 => ?_) (fun c_7 => ?_)
  · skip
    rw [if_pos c_7] at hf
    refine lv_lload_n hx hb dX18_coinsIn_72 rfl (lv_at hl 2 rfl) ?_
    obtain ⟨h8, h9⟩ := ret_some hf
    rw [h8, h9]
    exact W.lret (v := p_2) hx hb hr (fun t ht hW => ⟨⟨p_2, (), rfl, rfl, by rw [ht]; exact hP, va_K.moved hW.alike hK, hD⟩, hS.F ht⟩) hS.2.2 dX18_coinsIn_73
  · skip
    rw [if_neg c_7] at hf
    refine lv_iload hx hb dX18_coinsIn_16 (lv_at hl 1 rfl) ?_
    refine lv_aload_n hx hb dX18_coinsIn_18 rfl (lv_at hl 3 rfl) ?_
    obtain ⟨g_8, hf⟩ := grd_some hf
    obtain ⟨kg_8, sg_8⟩ := okO_at g_8
    obtain ⟨k_9, ek_9, hf⟩ := lnk_some hf
    refine va_get (D := (dC, dI)) (ci := 18) (v := .ref (a k_9)) (C := RX18) (T := TX18) (N := 78) hx hb hts iwd_X18_coinsIn_X18 hown hK hP h0 (Wd_ob kg_8 sg_8 (by decide)) rfl 13 (by decide) (hts _ md_X18_coinsIn_1) (fun _ h9 => h9) (fl_q rfl ek_9) dX18_coinsIn_19 ?_
    refine lv_iload hx hb dX18_coinsIn_22 (lv_at hl 0 rfl) ?_
    obtain ⟨g_10, hf⟩ := grd_some hf
    obtain ⟨kg_10, sg_10, ig_10⟩ := okA_at g_10
    refine va_iald hx hb hK hP k_9 1 (Wd_ai kg_10 sg_10) rfl ig_10 dX18_coinsIn_24 ?_
    refine lv_iconst (v := 1) hx hb dX18_coinsIn_25 (by decide) ?_
    refine lv_isub hx hb dX18_coinsIn_26 ?_
    refine lv_iadd hx hb dX18_coinsIn_27 ?_
    refine lv_topi (fun v_11 ev_11 => ?_)
    replace hf := lt_at ev_11 hf
    clear ev_11
    refine lv_istore (lv' := [(4, .int v_11), (5, .int p_4), (2, .long p_2), (0, .ref (a h0))]) hx hb dX18_coinsIn_28 hl (by decide) rfl (fun ls hl2 => ?_)
    replace hl := hl2
    clear hl2
    refine lv_aload_n hx hb dX18_coinsIn_30 rfl (lv_at hl 3 rfl) ?_
    obtain ⟨k_12, ek_12, hf⟩ := lnk_some hf
    refine va_get (D := (dC, dI)) (ci := 18) (v := .ref (a k_12)) (C := RX18) (T := TX18) (N := 78) hx hb hts iwd_X18_coinsIn_X18 hown hK hP h0 (Wd_ob kg_8 sg_8 (by decide)) rfl 10 (by decide) (hts _ md_X18_coinsIn_2) (fun _ h9 => h9) (fl_q rfl ek_12) dX18_coinsIn_31 ?_
    refine lv_iload hx hb dX18_coinsIn_34 (lv_at hl 1 rfl) ?_
    obtain ⟨g_13, hf⟩ := grd_some hf
    obtain ⟨kg_13, sg_13, ig_13⟩ := okA_at g_13
    refine va_bald hx hb hK hP k_12 0 (Wd_ab kg_13 sg_13) rfl ig_13 dX18_coinsIn_36 ?_
    refine lv_bipush (v := 6) hx hb dX18_coinsIn_37 (by decide) ?_
    refine de_cut (h := 66) (fun (x : St × Int64) => []) (fun x ls H locs => lv_has ls 6 [(2, .long x.2), (4, .int v_11), (5, .int p_4), (0, .ref (a h0))] ∧ va_P (dC, dI) vwCl (Wd cy a sh n x.1) H ∧ va_D A (Wd cy a sh n x.1) ∧ va_S A s.heap H locs) (fun x => fn_X18_coinsIn_B66 F sh n v_11 p_4 (fun z9 q2 q4 q5 => fn_X18_coinsIn_L11 F sh n h0 f_6 z9 q2 q4 q5) x.1 x.2) (z8, r8) ?_ (fun B66 => ?_)
    · intro x ls H locs hI hf
      obtain ⟨z_15, p_14⟩ := x
      obtain ⟨hl2, hP2, hD2, hS2⟩ := hI
      replace hl : lv_has ls 6 [(2, .long p_14), (4, .int v_11), (5, .int p_4), (0, .ref (a h0))] := hl2
      replace hP := hP2
      replace hD := hD2
      replace hS := hS2
      clear hl2 hP2 hD2 hS2
      replace hf := fn_X18_coinsIn_B66_s hf
      refine W.eq (g2 := F0 m 66 ls []) rfl ?_
      refine lv_iinc (v := (p_4 + 1)) (lv' := [(5, .int (p_4 + 1)), (2, .long p_14), (4, .int v_11), (0, .ref (a h0))]) hx hb dX18_coinsIn_66 hl (k := 2) rfl rfl (by decide) rfl (fun ls hl2 => ?_)
      replace hl := hl2
      clear hl2
      refine lv_goto (tgt := 11) hx hb dX18_coinsIn_69 (by decide) ?_
      exact ih11 (z_15, p_14, v_11, (p_4 + 1)) ls H locs ⟨lv_sub hl [0, 2, 1, 3] rfl, hP, hD, hS⟩ hf
    refine lv_icmp_ne (tgt := 66) hx hb dX18_coinsIn_39 (by decide) (fun c_16 => ?_) (fun c_16 => ?_)
    · skip
      rw [if_neg c_16] at hf
      exact B66 (z_5, p_2) ls H locs ⟨lv_sub hl [2, 0, 1, 3] rfl, hP, hD, hS⟩ hf
    · skip
      rw [if_pos c_16] at hf
      refine lv_aload_n hx hb dX18_coinsIn_42 rfl (lv_at hl 3 rfl) ?_
      obtain ⟨k_17, ek_17, hf⟩ := lnk_some hf
      refine va_get (D := (dC, dI)) (ci := 18) (v := .ref (a k_17)) (C := RX18) (T := TX18) (N := 78) hx hb hts iwd_X18_coinsIn_X18 hown hK hP h0 (Wd_ob kg_8 sg_8 (by decide)) rfl 12 (by decide) (hts _ md_X18_coinsIn_3) (fun _ h9 => h9) (fl_q rfl ek_17) dX18_coinsIn_43 ?_
      refine lv_iload hx hb dX18_coinsIn_46 (lv_at hl 1 rfl) ?_
      obtain ⟨g_18, hf⟩ := grd_some hf
      obtain ⟨kg_18, sg_18, ig_18⟩ := okA_at g_18
      refine va_lald hx hb hK hP k_17 2 (Wd_al kg_18 sg_18) rfl ig_18 dX18_coinsIn_48 ?_
      refine lv_lconst (v := 0) hx hb dX18_coinsIn_49 (by decide) ?_
      refine W.lcmp hx hb dX18_coinsIn_50 ?_
      refine lv_if_ne (tgt := 66) hx hb dX18_coinsIn_51 (by decide) (fun c_19 => ?_) (fun c_19 => ?_)
      · skip
        rw [lg_cmp_eq] at c_19
        rw [if_neg c_19] at hf
        exact B66 (z_5, p_2) ls H locs ⟨lv_sub hl [2, 0, 1, 3] rfl, hP, hD, hS⟩ hf
      · skip
        rw [lg_cmp_eq] at c_19
        rw [if_pos c_19] at hf
        refine lv_lload_n hx hb dX18_coinsIn_54 rfl (lv_at hl 2 rfl) ?_
        refine lv_aload_n hx hb dX18_coinsIn_55 rfl (lv_at hl 3 rfl) ?_
        obtain ⟨k_20, ek_20, hf⟩ := lnk_some hf
        refine va_get (D := (dC, dI)) (ci := 18) (v := .ref (a k_20)) (C := RX18) (T := TX18) (N := 78) hx hb hts iwd_X18_coinsIn_X18 hown hK hP h0 (Wd_ob kg_8 sg_8 (by decide)) rfl 12 (by decide) (hts _ md_X18_coinsIn_3) (fun _ h9 => h9) (fl_q rfl ek_20) dX18_coinsIn_56 ?_
        refine lv_iload hx hb dX18_coinsIn_59 (lv_at hl 1 rfl) ?_
        refine lv_iconst (v := 1) hx hb dX18_coinsIn_61 (by decide) ?_
        refine lv_iadd hx hb dX18_coinsIn_62 ?_
        obtain ⟨g_21, hf⟩ := grd_some hf
        obtain ⟨kg_21, sg_21, ig_21⟩ := okA_at g_21
        refine va_lald hx hb hK hP k_20 2 (Wd_al kg_21 sg_21) rfl ig_21 dX18_coinsIn_63 ?_
        refine lv_ladd hx hb dX18_coinsIn_64 ?_
        refine lv_topl (fun v_22 ev_22 => ?_)
        replace hf := lt_at ev_22 hf
        clear ev_22
        refine lv_lstore_n (lv' := [(2, .long v_22), (4, .int v_11), (5, .int p_4), (0, .ref (a h0))]) hx hb dX18_coinsIn_65 rfl hl (by decide) rfl (fun ls hl2 => ?_)
        replace hl := hl2
        clear hl2
        exact B66 (z_5, v_22) ls H locs ⟨lv_sub hl [0, 1, 2, 3] rfl, hP, hD, hS⟩ hf

theorem md_X18_type_1 : (.fieldLink RX18 609 "ResourceLedgerModel" "tapeSize" "I" : Cond) ∈ wsX18_type := List.mem_of_getElem? (i := 1) rfl
theorem iwd_X18_type_X18 : ∀ w ∈ wsX180, w ∈ wsX18_type := fun _ h => List.mem_cons_of_mem _ (List.mem_append_right _ h)
theorem md_X18_type_2 : (.fieldLink RX18 535 "ResourceLedgerModel" "tape" "[B" : Cond) ∈ wsX18_type := List.mem_of_getElem? (i := 2) rfl
set_option maxHeartbeats 4000000 in
set_option maxRecDepth 100000 in
theorem de_X18_type (l : Launch) (dC : Nat → ClassId) (dI : Nat → Nat → Nat) (cy : Nat → ClassId) (a : Nat → Nat) (sh : Nat → Nat × Nat) (n sz : Nat) (F : Nat) (z : St) (h0 : Nat) (x0 : Int64) (x1 : Int32) {z8 : St} {r8 : Int32} (hf : fn_X18_type F sh n z h0 x0 x1 = some (z8, r8)) : Met l yX18_type wsX18_type ({ frames := 0, cells := 0, slots := 0, locals := 0 }) (va_Pc [.ref (a h0), .long x0, .int x1] (fun U => U.heap.size = sz ∧ va_P (dC, dI) vwCl (Wd cy a sh n z) U.heap ∧ va_K (dC, dI) vwCl (TYS cy) U ∧ va_D (fun _ => True) (Wd cy a sh n z) ∧ NK U)) (va_Qi (fun (r9 : Int32) (u : Unit) => r9 = r8) (fun u t => va_P (dC, dI) vwCl (Wd cy a sh n z8) t.heap ∧ va_K (dC, dI) vwCl (TYS cy) t ∧ va_D (va_A (Wd cy a sh n z) sz) (Wd cy a sh n z8)) (va_A (Wd cy a sh n z) sz)) 0 0 (va_A (Wd cy a sh n z) sz) := by
  refine Met.ofW (cc := cX18_type) (maxL := 5) (ret := (some .int)) (by decide) rfl ?_
  intro p e s m args below meth c s₁ B hml hv
  obtain ⟨rfl, hsz, hP, hK, hD0, hN⟩ := hv
  have hx := B.exec
  have hb := B.bytes
  have hr := B.returns
  have hts := atoms_spec (ws := wsX18_type) B.pre
  have hown : s.vm.findClass RX18 = some m.cls := findClass_of_methodNamed B.named
  have hlocks := B.notSynchronized
  subst hsz
  have hD := hD0.self (sz := s.heap.size)
  clear hD0
  generalize hAe : va_A (Wd cy a sh n z) s.heap.size = A at hD ⊢
  have hA : ∀ q : Nat, s.heap.size ≤ q → A q := fun q h => by rw [← hAe]; exact Or.inr h
  clear hAe
  have hS : va_S A s.heap s.heap [] := va_S.rf
  have hl := lv_entry ([.ref (a h0), .long x0, .int x1]) (n := 5) (Nat.le_of_ble_eq_true rfl)
  rw [lg_entry_eq]
  generalize (lg_sl ([.ref (a h0), .long x0, .int x1]) ++ List.replicate (5 - (lg_sl ([.ref (a h0), .long x0, .int x1])).length) Slot.unset).toArray = ls at hl ⊢
  replace hl : lv_has ls 5 [(0, .ref (a h0)), (1, .long x0), (3, .int x1)] := hl
  unfold fn_X18_type at hf
  refine de_start hS hP (fun H locs hS hP => ?_)
  refine lv_iload_n hx hb dX18_type_0 rfl (lv_at hl 2 rfl) ?_
  refine lv_iconst (v := 1) hx hb dX18_type_1 (by decide) ?_
  refine lv_icmp_lt (tgt := 11) hx hb dX18_type_2 (by decide) (fun c_1 => ?_) (fun c_1 => ?_)
  · skip
    rw [if_pos c_1] at hf
    refine lv_iconst (v := (-1)) hx hb dX18_type_11 (by decide) ?_
    obtain ⟨h8, h9⟩ := ret_some hf
    rw [h8, h9]
    exact W.iret (v := (-1)) hx hb hr (fun t ht hW => ⟨⟨(-1), (), rfl, rfl, by rw [ht]; exact hP, va_K.moved hW.alike hK, hD⟩, hS.F ht⟩) hS.2.2 dX18_type_12
  · skip
    rw [if_neg c_1] at hf
    refine lv_iload_n hx hb dX18_type_5 rfl (lv_at hl 2 rfl) ?_
    refine lv_bipush (v := 8) hx hb dX18_type_6 (by decide) ?_
    refine lv_icmp_le (tgt := 13) hx hb dX18_type_8 (by decide) (fun c_2 => ?_) (fun c_2 => ?_)
    · skip
      rw [if_pos c_2] at hf
      refine lv_aload_n hx hb dX18_type_13 rfl (lv_at hl 0 rfl) ?_
      obtain ⟨g_3, hf⟩ := grd_some hf
      obtain ⟨kg_3, sg_3⟩ := okO_at g_3
      refine va_get (D := (dC, dI)) (ci := 18) (v := .int (z.1 h0 50)) (C := RX18) (T := TX18) (N := 78) hx hb hts iwd_X18_type_X18 hown hK hP h0 (Wd_ob kg_3 sg_3 (by decide)) rfl 50 (by decide) (hts _ md_X18_type_1) (fun _ h9 => h9) (fl_at (t := 0) rfl) dX18_type_14 ?_
      refine lv_iload_n hx hb dX18_type_17 rfl (lv_at hl 2 rfl) ?_
      refine lv_iadd hx hb dX18_type_18 ?_
      refine lv_sipush (v := 2048) hx hb dX18_type_19 (by decide) ?_
      refine lv_icmp_le (tgt := 28) hx hb dX18_type_22 (by decide) (fun c_4 => ?_) (fun c_4 => ?_)
      · skip
        rw [if_pos c_4] at hf
        refine lv_iload_n hx hb dX18_type_28 rfl (lv_at hl 2 rfl) ?_
        refine lv_iconst (v := 1) hx hb dX18_type_29 (by decide) ?_
        refine lv_isub hx hb dX18_type_30 ?_
        refine lv_topi (fun v_5 ev_5 => ?_)
        replace hf := lt_at ev_5 hf
        clear ev_5
        refine lv_istore (lv' := [(4, .int v_5), (0, .ref (a h0)), (1, .long x0), (3, .int x1)]) hx hb dX18_type_31 hl (by decide) rfl (fun ls hl2 => ?_)
        replace hl := hl2
        clear hl2
        have hl0 : lv_has ls 5 [(4, .int v_5), (0, .ref (a h0)), (1, .long x0)] := lv_sub hl [0, 1, 2] rfl
        refine de_loop (h := 33) (fun (x : St × Int32) ls H locs => lv_has ls 5 [(4, .int x.2), (0, .ref (a h0)), (1, .long x0)] ∧ va_P (dC, dI) vwCl (Wd cy a sh n x.1) H ∧ va_D A (Wd cy a sh n x.1) ∧ va_S A s.heap H locs) (fun f x => fn_X18_type_L33 F sh n h0 x0 f x.1 x.2) (z8, r8) ?_ (fun _ => rfl) F (z, v_5) ls H locs ⟨hl0, hP, hD, hS⟩ hf
        intro f_8 x ls H locs ih33 hI hf
        obtain ⟨z_7, p_6⟩ := x
        obtain ⟨hl2, hP2, hD2, hS2⟩ := hI
        replace hl : lv_has ls 5 [(4, .int p_6), (0, .ref (a h0)), (1, .long x0)] := hl2
        replace hP := hP2
        replace hD := hD2
        replace hS := hS2
        clear hl2 hP2 hD2 hS2 hl0
        replace hf := fn_X18_type_L33_s hf
        refine lv_iload hx hb dX18_type_33 (lv_at hl 0 rfl) ?_
        refine lv_if_lt (tgt := 72) hx hb dX18_type_35 (by decide) (fun c_9 => ?_) (fun c_9 => ?_)
        · skip
          rw [if_pos c_9] at hf
          refine lv_aload_n hx hb dX18_type_72 rfl (lv_at hl 1 rfl) ?_
          refine va_get (D := (dC, dI)) (ci := 18) (v := .int (z_7.1 h0 50)) (C := RX18) (T := TX18) (N := 78) hx hb hts iwd_X18_type_X18 hown hK hP h0 (Wd_ob kg_3 sg_3 (by decide)) rfl 50 (by decide) (hts _ md_X18_type_1) (fun _ h9 => h9) (fl_at (t := 0) rfl) dX18_type_73 ?_
          obtain ⟨h8, h9⟩ := ret_some hf
          rw [h8, h9]
          exact W.iret (v := (z_7.1 h0 50)) hx hb hr (fun t ht hW => ⟨⟨(z_7.1 h0 50), (), rfl, rfl, by rw [ht]; exact hP, va_K.moved hW.alike hK, hD⟩, hS.F ht⟩) hS.2.2 dX18_type_76
        · skip
          rw [if_neg c_9] at hf
          refine lv_aload_n hx hb dX18_type_38 rfl (lv_at hl 1 rfl) ?_
          obtain ⟨k_10, ek_10, hf⟩ := lnk_some hf
          refine va_get (D := (dC, dI)) (ci := 18) (v := .ref (a k_10)) (C := RX18) (T := TX18) (N := 78) hx hb hts iwd_X18_type_X18 hown hK hP h0 (Wd_ob kg_3 sg_3 (by decide)) rfl 49 (by decide) (hts _ md_X18_type_2) (fun _ h9 => h9) (fl_q rfl ek_10) dX18_type_39 ?_
          refine lv_aload_n hx hb dX18_type_42 rfl (lv_at hl 1 rfl) ?_
          refine va_get (D := (dC, dI)) (ci := 18) (v := .int (z_7.1 h0 50)) (C := RX18) (T := TX18) (N := 78) hx hb hts iwd_X18_type_X18 hown hK hP h0 (Wd_ob kg_3 sg_3 (by decide)) rfl 50 (by decide) (hts _ md_X18_type_1) (fun _ h9 => h9) (fl_at (t := 0) rfl) dX18_type_43 ?_
          refine lv_lload_n hx hb dX18_type_46 rfl (lv_at hl 2 rfl) ?_
          refine lv_bipush (v := 8) hx hb dX18_type_47 (by decide) ?_
          refine lv_iload hx hb dX18_type_49 (lv_at hl 0 rfl) ?_
          refine lv_imul hx hb dX18_type_51 ?_
          refine lv_lshr (v := (x0 >>> (((8 * p_6) : Int32).toInt64 &&& 63))) hx hb dX18_type_52 rfl ?_
          refine lv_l2i (v := (((x0 >>> (((8 * p_6) : Int32).toInt64 &&& 63))) : Int64).toInt32) hx hb dX18_type_53 rfl ?_
          refine lv_i2b (v := (((((x0 >>> (((8 * p_6) : Int32).toInt64 &&& 63))) : Int64).toInt32) : Int32).toInt8.toInt32) hx hb dX18_type_54 rfl ?_
          obtain ⟨g_11, hf⟩ := grd_some hf
          obtain ⟨kg_11, sg_11, ig_11⟩ := okA_at g_11
          refine va_bast hx hb hK hP hD hS k_10 0 (Wd_ab kg_11 sg_11) rfl ig_11 dX18_type_55 (fun H_12 locs hP2 hD2 hS2 => ?_)
          rw [Wd_tb sg_11] at hP2 hD2
          obtain ⟨z_13, ez_13⟩ : ∃ w, w = si z_7 k_10 (z_7.1 h0 50).toNatClampNeg (vp_nar .byte ((((((x0 >>> (((8 * p_6) : Int32).toInt64 &&& 63))) : Int64).toInt32) : Int32).toInt8.toInt32)) := ⟨_, rfl⟩
          rw [← ez_13] at hP2 hD2
          replace hf := lt_at ez_13 hf
          clear ez_13
          replace hP := hP2
          replace hD := hD2
          replace hS := hS2
          clear hP2 hD2 hS2
          refine lv_aload_n hx hb dX18_type_56 rfl (lv_at hl 1 rfl) ?_
          refine lv_dup hx hb dX18_type_57 rfl ?_
          refine va_get (D := (dC, dI)) (ci := 18) (v := .int (z_13.1 h0 50)) (C := RX18) (T := TX18) (N := 78) hx hb hts iwd_X18_type_X18 hown hK hP h0 (Wd_ob kg_3 sg_3 (by decide)) rfl 50 (by decide) (hts _ md_X18_type_1) (fun _ h9 => h9) (fl_at (t := 0) rfl) dX18_type_58 ?_
          refine lv_iconst (v := 1) hx hb dX18_type_61 (by decide) ?_
          refine lv_iadd hx hb dX18_type_62 ?_
          refine va_put (D := (dC, dI)) (ci := 18) (v := .int ((z_13.1 h0 50) + 1)) (ty := .int) (C := RX18) (T := TX18) (N := 78) hx hb hts iwd_X18_type_X18 tyX18 tyX18_ok nmX18 hown hK hP hD hS h0 (Wd_ob kg_3 sg_3 (by decide)) rfl 50 (by decide) (hts _ md_X18_type_1) (fun _ h9 => h9) rfl (by decide +kernel) rfl rfl (by rw [fl_len]; decide) dX18_type_63 (fun H_14 locs hP2 hD2 hS2 => ?_)
          rw [Wd_si sg_3 (by decide) rfl] at hP2 hD2
          obtain ⟨z_15, ez_15⟩ : ∃ w, w = si z_13 h0 50 ((z_13.1 h0 50) + 1) := ⟨_, rfl⟩
          rw [← ez_15] at hP2 hD2
          replace hf := lt_at ez_15 hf
          clear ez_15
          replace hP := hP2
          replace hD := hD2
          replace hS := hS2
          clear hP2 hD2 hS2
          refine lv_iinc (v := (p_6 + (-1))) (lv' := [(4, .int (p_6 + (-1))), (0, .ref (a h0)), (1, .long x0)]) hx hb dX18_type_66 hl (k := 0) rfl rfl (by decide) rfl (fun ls hl2 => ?_)
          replace hl := hl2
          clear hl2
          refine lv_goto (tgt := 33) hx hb dX18_type_69 (by decide) ?_
          exact ih33 (z_15, (p_6 + (-1))) ls H_14 locs ⟨lv_sub hl [0, 1, 2] rfl, hP, hD, hS⟩ hf
      · skip
        rw [if_neg c_4] at hf
        refine lv_bipush (v := (-3)) hx hb dX18_type_25 (by decide) ?_
        obtain ⟨h8, h9⟩ := ret_some hf
        rw [h8, h9]
        exact W.iret (v := (-3)) hx hb hr (fun t ht hW => ⟨⟨(-3), (), rfl, rfl, by rw [ht]; exact hP, va_K.moved hW.alike hK, hD⟩, hS.F ht⟩) hS.2.2 dX18_type_27
    · skip
      rw [if_neg c_2] at hf
      refine lv_iconst (v := (-1)) hx hb dX18_type_11 (by decide) ?_
      obtain ⟨h8, h9⟩ := ret_some hf
      rw [h8, h9]
      exact W.iret (v := (-1)) hx hb hr (fun t ht hW => ⟨⟨(-1), (), rfl, rfl, by rw [ht]; exact hP, va_K.moved hW.alike hK, hD⟩, hS.F ht⟩) hS.2.2 dX18_type_12

theorem md_X1_prepend_2 : (.fieldLink RX1 30 "ResourceLedger$Heap" "slips" "I" : Cond) ∈ wsX1_prepend := List.mem_of_getElem? (i := 2) rfl
theorem iwd_X1_prepend_X1 : ∀ w ∈ wsX10, w ∈ wsX1_prepend := fun _ h => List.mem_cons_of_mem _ (List.mem_append_right _ h)
theorem md_X1_prepend_1 : (.fieldLink RX1 11 "ResourceLedger$Heap" "kind" "[B" : Cond) ∈ wsX1_prepend := List.mem_of_getElem? (i := 1) rfl
theorem md_X1_prepend_3 : (.fieldLink RX1 22 "ResourceLedger$Heap" "next" "[I" : Cond) ∈ wsX1_prepend := List.mem_of_getElem? (i := 3) rfl
theorem md_X1_prepend_4 : (.fieldLink RX1 15 "ResourceLedger$Heap" "low" "[J" : Cond) ∈ wsX1_prepend := List.mem_of_getElem? (i := 4) rfl
theorem md_X1_prepend_5 : (.fieldLink RX1 19 "ResourceLedger$Heap" "high" "[J" : Cond) ∈ wsX1_prepend := List.mem_of_getElem? (i := 5) rfl
set_option maxHeartbeats 4000000 in
set_option maxRecDepth 100000 in
theorem de_X1_prepend (l : Launch) (dC : Nat → ClassId) (dI : Nat → Nat → Nat) (cy : Nat → ClassId) (a : Nat → Nat) (sh : Nat → Nat × Nat) (n sz : Nat) (F : Nat) (z : St) (h0 : Nat) (x0 : Int32) (x1 : Int32) {z8 : St} {r8 : Unit} (hf : fn_X1_prepend F sh n z h0 x0 x1 = some (z8, r8)) : Met l yX1_prepend wsX1_prepend ({ frames := 0, cells := 0, slots := 0, locals := 0 }) (va_Pc [.ref (a h0), .int x0, .int x1] (fun U => U.heap.size = sz ∧ va_P (dC, dI) vwCl (Wd cy a sh n z) U.heap ∧ va_K (dC, dI) vwCl (TYS cy) U ∧ va_D (fun _ => True) (Wd cy a sh n z) ∧ NK U)) (va_Qv (fun u : Unit => True) (fun u t => va_P (dC, dI) vwCl (Wd cy a sh n z8) t.heap ∧ va_K (dC, dI) vwCl (TYS cy) t ∧ va_D (va_A (Wd cy a sh n z) sz) (Wd cy a sh n z8)) (va_A (Wd cy a sh n z) sz)) 0 0 (va_A (Wd cy a sh n z) sz) := by
  refine Met.ofW (cc := cX1_prepend) (maxL := 3) (ret := none) (by decide) rfl ?_
  intro p e s m args below meth c s₁ B hml hv
  obtain ⟨rfl, hsz, hP, hK, hD0, hN⟩ := hv
  have hx := B.exec
  have hb := B.bytes
  have hr := B.returns
  have hts := atoms_spec (ws := wsX1_prepend) B.pre
  have hown : s.vm.findClass RX1 = some m.cls := findClass_of_methodNamed B.named
  have hlocks := B.notSynchronized
  subst hsz
  have hD := hD0.self (sz := s.heap.size)
  clear hD0
  generalize hAe : va_A (Wd cy a sh n z) s.heap.size = A at hD ⊢
  have hA : ∀ q : Nat, s.heap.size ≤ q → A q := fun q h => by rw [← hAe]; exact Or.inr h
  clear hAe
  have hS : va_S A s.heap s.heap [] := va_S.rf
  have hl := lv_entry ([.ref (a h0), .int x0, .int x1]) (n := 3) (Nat.le_of_ble_eq_true rfl)
  rw [lg_entry_eq]
  generalize (lg_sl ([.ref (a h0), .int x0, .int x1]) ++ List.replicate (3 - (lg_sl ([.ref (a h0), .int x0, .int x1])).length) Slot.unset).toArray = ls at hl ⊢
  replace hl : lv_has ls 3 [(0, .ref (a h0)), (1, .int x0), (2, .int x1)] := hl
  unfold fn_X1_prepend at hf
  refine de_start hS hP (fun H locs hS hP => ?_)
  refine lv_iload_n hx hb dX1_prepend_0 rfl (lv_at hl 2 rfl) ?_
  refine lv_if_eq (tgt := 26) hx hb dX1_prepend_1 (by decide) (fun c_1 => ?_) (fun c_1 => ?_)
  · skip
    rw [if_pos c_1] at hf
    refine lv_aload_n hx hb dX1_prepend_26 rfl (lv_at hl 0 rfl) ?_
    refine lv_dup hx hb dX1_prepend_27 rfl ?_
    obtain ⟨g_2, hf⟩ := grd_some hf
    obtain ⟨kg_2, sg_2⟩ := okO_at g_2
    refine va_get (D := (dC, dI)) (ci := 1) (v := .int (z.1 h0 6)) (C := RX1) (T := TX1) (N := 7) hx hb hts iwd_X1_prepend_X1 hown hK hP h0 (Wd_ob kg_2 sg_2 (by decide)) rfl 6 (by decide) (hts _ md_X1_prepend_2) (fun _ h9 => h9) (fl_at (t := 0) rfl) dX1_prepend_28 ?_
    refine lv_iconst (v := 1) hx hb dX1_prepend_31 (by decide) ?_
    refine lv_iadd hx hb dX1_prepend_32 ?_
    refine va_put (D := (dC, dI)) (ci := 1) (v := .int ((z.1 h0 6) + 1)) (ty := .int) (C := RX1) (T := TX1) (N := 7) hx hb hts iwd_X1_prepend_X1 tyX1 tyX1_ok nmX1 hown hK hP hD hS h0 (Wd_ob kg_2 sg_2 (by decide)) rfl 6 (by decide) (hts _ md_X1_prepend_2) (fun _ h9 => h9) rfl (by decide +kernel) rfl rfl (by rw [fl_len]; decide) dX1_prepend_33 (fun H_3 locs hP2 hD2 hS2 => ?_)
    rw [Wd_si sg_2 (by decide) rfl] at hP2 hD2
    obtain ⟨z_4, ez_4⟩ : ∃ w, w = si z h0 6 ((z.1 h0 6) + 1) := ⟨_, rfl⟩
    rw [← ez_4] at hP2 hD2
    replace hf := lt_at ez_4 hf
    clear ez_4
    replace hP := hP2
    replace hD := hD2
    replace hS := hS2
    clear hP2 hD2 hS2
    obtain ⟨h8, h9⟩ := ret_some hf
    rw [h8]
    exact W.vret hx hb hr (fun t ht hW => ⟨⟨(), rfl, trivial, by rw [ht]; exact hP, va_K.moved hW.alike hK, hD⟩, hS.F ht⟩) hS.2.2 dX1_prepend_36
  · skip
    rw [if_neg c_1] at hf
    refine lv_aload_n hx hb dX1_prepend_4 rfl (lv_at hl 0 rfl) ?_
    obtain ⟨g_5, hf⟩ := grd_some hf
    obtain ⟨kg_5, sg_5⟩ := okO_at g_5
    obtain ⟨k_6, ek_6, hf⟩ := lnk_some hf
    refine va_get (D := (dC, dI)) (ci := 1) (v := .ref (a k_6)) (C := RX1) (T := TX1) (N := 7) hx hb hts iwd_X1_prepend_X1 hown hK hP h0 (Wd_ob kg_5 sg_5 (by decide)) rfl 0 (by decide) (hts _ md_X1_prepend_1) (fun _ h9 => h9) (fl_q rfl ek_6) dX1_prepend_5 ?_
    refine lv_iload_n hx hb dX1_prepend_8 rfl (lv_at hl 1 rfl) ?_
    obtain ⟨g_7, hf⟩ := grd_some hf
    obtain ⟨kg_7, sg_7, ig_7⟩ := okA_at g_7
    refine va_bald hx hb hK hP k_6 0 (Wd_ab kg_7 sg_7) rfl ig_7 dX1_prepend_9 ?_
    refine lv_bipush (v := 6) hx hb dX1_prepend_10 (by decide) ?_
    refine de_cut (h := 37) (fun (x : St) => []) (fun x ls H locs => lv_has ls 3 [(0, .ref (a h0)), (1, .int x0), (2, .int x1)] ∧ va_P (dC, dI) vwCl (Wd cy a sh n x) H ∧ va_D A (Wd cy a sh n x) ∧ va_S A s.heap H locs) (fun x => fn_X1_prepend_B37 F sh n h0 x0 x1 x) (z8, r8) ?_ (fun B37 => ?_)
    · intro x ls H locs hI hf
      obtain ⟨z_8, ez⟩ : ∃ w, w = x := ⟨_, rfl⟩
      subst ez
      obtain ⟨hl2, hP2, hD2, hS2⟩ := hI
      replace hl : lv_has ls 3 [(0, .ref (a h0)), (1, .int x0), (2, .int x1)] := hl2
      replace hP := hP2
      replace hD := hD2
      replace hS := hS2
      clear hl2 hP2 hD2 hS2
      replace hf := fn_X1_prepend_B37_s hf
      refine W.eq (g2 := F0 m 37 ls []) rfl ?_
      refine lv_aload_n hx hb dX1_prepend_37 rfl (lv_at hl 0 rfl) ?_
      obtain ⟨k_9, ek_9, hf⟩ := lnk_some hf
      refine va_get (D := (dC, dI)) (ci := 1) (v := .ref (a k_9)) (C := RX1) (T := TX1) (N := 7) hx hb hts iwd_X1_prepend_X1 hown hK hP h0 (Wd_ob kg_5 sg_5 (by decide)) rfl 3 (by decide) (hts _ md_X1_prepend_3) (fun _ h9 => h9) (fl_q rfl ek_9) dX1_prepend_38 ?_
      refine lv_iload_n hx hb dX1_prepend_41 rfl (lv_at hl 2 rfl) ?_
      refine lv_aload_n hx hb dX1_prepend_42 rfl (lv_at hl 0 rfl) ?_
      obtain ⟨k_10, ek_10, hf⟩ := lnk_some hf
      refine va_get (D := (dC, dI)) (ci := 1) (v := .ref (a k_10)) (C := RX1) (T := TX1) (N := 7) hx hb hts iwd_X1_prepend_X1 hown hK hP h0 (Wd_ob kg_5 sg_5 (by decide)) rfl 1 (by decide) (hts _ md_X1_prepend_4) (fun _ h9 => h9) (fl_q rfl ek_10) dX1_prepend_43 ?_
      refine lv_iload_n hx hb dX1_prepend_46 rfl (lv_at hl 1 rfl) ?_
      obtain ⟨g_11, hf⟩ := grd_some hf
      obtain ⟨kg_11, sg_11, ig_11⟩ := okA_at g_11
      refine va_lald hx hb hK hP k_10 2 (Wd_al kg_11 sg_11) rfl ig_11 dX1_prepend_47 ?_
      refine lv_l2i (v := ((z_8.2.1 k_10 x0.toNatClampNeg) : Int64).toInt32) hx hb dX1_prepend_48 rfl ?_
      obtain ⟨g_12, hf⟩ := grd_some hf
      obtain ⟨kg_12, sg_12, ig_12⟩ := okA_at g_12
      refine va_iast hx hb hK hP hD hS k_9 1 (Wd_ai kg_12 sg_12) rfl ig_12 dX1_prepend_49 (fun H_13 locs hP2 hD2 hS2 => ?_)
      rw [Wd_ti sg_12] at hP2 hD2
      obtain ⟨z_14, ez_14⟩ : ∃ w, w = si z_8 k_9 x1.toNatClampNeg (((z_8.2.1 k_10 x0.toNatClampNeg) : Int64).toInt32) := ⟨_, rfl⟩
      rw [← ez_14] at hP2 hD2
      replace hf := lt_at ez_14 hf
      clear ez_14
      replace hP := hP2
      replace hD := hD2
      replace hS := hS2
      clear hP2 hD2 hS2
      refine lv_aload_n hx hb dX1_prepend_50 rfl (lv_at hl 0 rfl) ?_
      obtain ⟨k_15, ek_15, hf⟩ := lnk_some hf
      refine va_get (D := (dC, dI)) (ci := 1) (v := .ref (a k_15)) (C := RX1) (T := TX1) (N := 7) hx hb hts iwd_X1_prepend_X1 hown hK hP h0 (Wd_ob kg_5 sg_5 (by decide)) rfl 1 (by decide) (hts _ md_X1_prepend_4) (fun _ h9 => h9) (fl_q rfl ek_15) dX1_prepend_51 ?_
      refine lv_iload_n hx hb dX1_prepend_54 rfl (lv_at hl 1 rfl) ?_
      refine lv_iload_n hx hb dX1_prepend_55 rfl (lv_at hl 2 rfl) ?_
      refine lv_i2l (v := (x1 : Int32).toInt64) hx hb dX1_prepend_56 rfl ?_
      obtain ⟨g_16, hf⟩ := grd_some hf
      obtain ⟨kg_16, sg_16, ig_16⟩ := okA_at g_16
      refine va_last hx hb hK hP hD hS k_15 2 (Wd_al kg_16 sg_16) rfl ig_16 dX1_prepend_57 (fun H_17 locs hP2 hD2 hS2 => ?_)
      rw [Wd_tl sg_16] at hP2 hD2
      obtain ⟨z_18, ez_18⟩ : ∃ w, w = sl z_14 k_15 x0.toNatClampNeg ((x1 : Int32).toInt64) := ⟨_, rfl⟩
      rw [← ez_18] at hP2 hD2
      replace hf := lt_at ez_18 hf
      clear ez_18
      replace hP := hP2
      replace hD := hD2
      replace hS := hS2
      clear hP2 hD2 hS2
      refine lv_aload_n hx hb dX1_prepend_58 rfl (lv_at hl 0 rfl) ?_
      obtain ⟨k_19, ek_19, hf⟩ := lnk_some hf
      refine va_get (D := (dC, dI)) (ci := 1) (v := .ref (a k_19)) (C := RX1) (T := TX1) (N := 7) hx hb hts iwd_X1_prepend_X1 hown hK hP h0 (Wd_ob kg_5 sg_5 (by decide)) rfl 2 (by decide) (hts _ md_X1_prepend_5) (fun _ h9 => h9) (fl_q rfl ek_19) dX1_prepend_59 ?_
      refine lv_iload_n hx hb dX1_prepend_62 rfl (lv_at hl 1 rfl) ?_
      refine lv_dup2_11 hx hb dX1_prepend_63 rfl rfl ?_
      obtain ⟨g_20, hf⟩ := grd_some hf
      obtain ⟨kg_20, sg_20, ig_20⟩ := okA_at g_20
      refine va_lald hx hb hK hP k_19 2 (Wd_al kg_20 sg_20) rfl ig_20 dX1_prepend_64 ?_
      refine lv_lconst (v := 1) hx hb dX1_prepend_65 (by decide) ?_
      refine lv_ladd hx hb dX1_prepend_66 ?_
      obtain ⟨g_21, hf⟩ := grd_some hf
      obtain ⟨kg_21, sg_21, ig_21⟩ := okA_at g_21
      refine va_last hx hb hK hP hD hS k_19 2 (Wd_al kg_21 sg_21) rfl ig_21 dX1_prepend_67 (fun H_22 locs hP2 hD2 hS2 => ?_)
      rw [Wd_tl sg_21] at hP2 hD2
      obtain ⟨z_23, ez_23⟩ : ∃ w, w = sl z_18 k_19 x0.toNatClampNeg ((z_18.2.1 k_19 x0.toNatClampNeg) + 1) := ⟨_, rfl⟩
      rw [← ez_23] at hP2 hD2
      replace hf := lt_at ez_23 hf
      clear ez_23
      replace hP := hP2
      replace hD := hD2
      replace hS := hS2
      clear hP2 hD2 hS2
      obtain ⟨h8, h9⟩ := ret_some hf
      rw [h8]
      exact W.vret hx hb hr (fun t ht hW => ⟨⟨(), rfl, trivial, by rw [ht]; exact hP, va_K.moved hW.alike hK, hD⟩, hS.F ht⟩) hS.2.2 dX1_prepend_68
    refine lv_icmp_eq (tgt := 37) hx hb dX1_prepend_12 (by decide) (fun c_24 => ?_) (fun c_24 => ?_)
    · skip
      rw [if_pos c_24] at hf
      exact B37 (z) ls H locs ⟨lv_sub hl [0, 1, 2] rfl, hP, hD, hS⟩ hf
    · skip
      rw [if_neg c_24] at hf
      refine lv_aload_n hx hb dX1_prepend_15 rfl (lv_at hl 0 rfl) ?_
      obtain ⟨k_25, ek_25, hf⟩ := lnk_some hf
      refine va_get (D := (dC, dI)) (ci := 1) (v := .ref (a k_25)) (C := RX1) (T := TX1) (N := 7) hx hb hts iwd_X1_prepend_X1 hown hK hP h0 (Wd_ob kg_5 sg_5 (by decide)) rfl 0 (by decide) (hts _ md_X1_prepend_1) (fun _ h9 => h9) (fl_q rfl ek_25) dX1_prepend_16 ?_
      refine lv_iload_n hx hb dX1_prepend_19 rfl (lv_at hl 1 rfl) ?_
      obtain ⟨g_26, hf⟩ := grd_some hf
      obtain ⟨kg_26, sg_26, ig_26⟩ := okA_at g_26
      refine va_bald hx hb hK hP k_25 0 (Wd_ab kg_26 sg_26) rfl ig_26 dX1_prepend_20 ?_
      refine lv_bipush (v := 7) hx hb dX1_prepend_21 (by decide) ?_
      refine lv_icmp_eq (tgt := 37) hx hb dX1_prepend_23 (by decide) (fun c_27 => ?_) (fun c_27 => ?_)
      · skip
        rw [if_pos c_27] at hf
        exact B37 (z) ls H locs ⟨lv_sub hl [0, 1, 2] rfl, hP, hD, hS⟩ hf
      · skip
        rw [if_neg c_27] at hf
        refine lv_aload_n hx hb dX1_prepend_26 rfl (lv_at hl 0 rfl) ?_
        refine lv_dup hx hb dX1_prepend_27 rfl ?_
        refine va_get (D := (dC, dI)) (ci := 1) (v := .int (z.1 h0 6)) (C := RX1) (T := TX1) (N := 7) hx hb hts iwd_X1_prepend_X1 hown hK hP h0 (Wd_ob kg_5 sg_5 (by decide)) rfl 6 (by decide) (hts _ md_X1_prepend_2) (fun _ h9 => h9) (fl_at (t := 0) rfl) dX1_prepend_28 ?_
        refine lv_iconst (v := 1) hx hb dX1_prepend_31 (by decide) ?_
        refine lv_iadd hx hb dX1_prepend_32 ?_
        refine va_put (D := (dC, dI)) (ci := 1) (v := .int ((z.1 h0 6) + 1)) (ty := .int) (C := RX1) (T := TX1) (N := 7) hx hb hts iwd_X1_prepend_X1 tyX1 tyX1_ok nmX1 hown hK hP hD hS h0 (Wd_ob kg_5 sg_5 (by decide)) rfl 6 (by decide) (hts _ md_X1_prepend_2) (fun _ h9 => h9) rfl (by decide +kernel) rfl rfl (by rw [fl_len]; decide) dX1_prepend_33 (fun H_28 locs hP2 hD2 hS2 => ?_)
        rw [Wd_si sg_5 (by decide) rfl] at hP2 hD2
        obtain ⟨z_29, ez_29⟩ : ∃ w, w = si z h0 6 ((z.1 h0 6) + 1) := ⟨_, rfl⟩
        rw [← ez_29] at hP2 hD2
        replace hf := lt_at ez_29 hf
        clear ez_29
        replace hP := hP2
        replace hD := hD2
        replace hS := hS2
        clear hP2 hD2 hS2
        obtain ⟨h8, h9⟩ := ret_some hf
        rw [h8]
        exact W.vret hx hb hr (fun t ht hW => ⟨⟨(), rfl, trivial, by rw [ht]; exact hP, va_K.moved hW.alike hK, hD⟩, hS.F ht⟩) hS.2.2 dX1_prepend_36

theorem md_X11_result_1 : (.fieldLink RX11 115 "ResourceLedger" "doneLength" "I" : Cond) ∈ wsX11_result := List.mem_of_getElem? (i := 1) rfl
theorem iwd_X11_result_X11 : ∀ w ∈ wsX110, w ∈ wsX11_result := fun _ h => List.mem_cons_of_mem _ (List.mem_append_left _ (List.mem_append_right _ h))
theorem md_X11_result_2 : (.fieldLink RX11 15 "ResourceLedger" "block" "[LResourceLedger$Transaction;" : Cond) ∈ wsX11_result := List.mem_of_getElem? (i := 2) rfl
theorem md_X11_result_3 : (.fieldLink RX11 245 "ResourceLedger$Transaction" "resultCount" "I" : Cond) ∈ wsX11_result := List.mem_of_getElem? (i := 3) rfl
theorem iwd_X11_result_X8 : ∀ w ∈ wsX80, w ∈ wsX11_result := fun _ h => List.mem_cons_of_mem _ (List.mem_append_right _ h)
theorem tbd_0_2 {x : Int32} (h0 : ¬ x = 0) (h1 : ¬ x = 1) (h2 : ¬ x = 2) : x.toInt < 0 ∨ 2 < x.toInt := by
  have a0 : x.toInt ≠ 0 := tbd_ne h0
  have a1 : x.toInt ≠ 1 := tbd_ne h1
  have a2 : x.toInt ≠ 2 := tbd_ne h2
  omega
theorem md_X11_result_4 : (.fieldLink RX11 251 "ResourceLedger$Transaction" "resultLow" "[J" : Cond) ∈ wsX11_result := List.mem_of_getElem? (i := 4) rfl
theorem md_X11_result_5 : (.fieldLink RX11 254 "ResourceLedger$Transaction" "resultHigh" "[J" : Cond) ∈ wsX11_result := List.mem_of_getElem? (i := 5) rfl
theorem md_X11_result_6 : (.fieldLink RX11 257 "ResourceLedger$Transaction" "resultType" "[I" : Cond) ∈ wsX11_result := List.mem_of_getElem? (i := 6) rfl
set_option maxHeartbeats 4000000 in
set_option maxRecDepth 100000 in
theorem de_X11_result (l : Launch) (dC : Nat → ClassId) (dI : Nat → Nat → Nat) (cy : Nat → ClassId) (a : Nat → Nat) (sh : Nat → Nat × Nat) (n sz : Nat) (F : Nat) (z : St) (h0 : Nat) (x0 : Int32) (x1 : Int32) (x2 : Int32) {z8 : St} {r8 : Int64} (hf : fn_X11_result F sh n z h0 x0 x1 x2 = some (z8, r8)) : Met l yX11_result wsX11_result ({ frames := 0, cells := 0, slots := 0, locals := 0 }) (va_Pc [.ref (a h0), .int x0, .int x1, .int x2] (fun U => U.heap.size = sz ∧ va_P (dC, dI) vwCl (Wd cy a sh n z) U.heap ∧ va_K (dC, dI) vwCl (TYS cy) U ∧ va_D (fun _ => True) (Wd cy a sh n z) ∧ NK U)) (va_Ql (fun (r9 : Int64) (u : Unit) => r9 = r8) (fun u t => va_P (dC, dI) vwCl (Wd cy a sh n z8) t.heap ∧ va_K (dC, dI) vwCl (TYS cy) t ∧ va_D (va_A (Wd cy a sh n z) sz) (Wd cy a sh n z8)) (va_A (Wd cy a sh n z) sz)) 0 0 (va_A (Wd cy a sh n z) sz) := by
  refine Met.ofW (cc := cX11_result) (maxL := 4) (ret := (some .long)) (by decide) rfl ?_
  intro p e s m args below meth c s₁ B hml hv
  obtain ⟨rfl, hsz, hP, hK, hD0, hN⟩ := hv
  have hx := B.exec
  have hb := B.bytes
  have hr := B.returns
  have hts := atoms_spec (ws := wsX11_result) B.pre
  have hown : s.vm.findClass RX11 = some m.cls := findClass_of_methodNamed B.named
  have hlocks := B.notSynchronized
  subst hsz
  have hD := hD0.self (sz := s.heap.size)
  clear hD0
  generalize hAe : va_A (Wd cy a sh n z) s.heap.size = A at hD ⊢
  have hA : ∀ q : Nat, s.heap.size ≤ q → A q := fun q h => by rw [← hAe]; exact Or.inr h
  clear hAe
  have hS : va_S A s.heap s.heap [] := va_S.rf
  have hl := lv_entry ([.ref (a h0), .int x0, .int x1, .int x2]) (n := 4) (Nat.le_of_ble_eq_true rfl)
  rw [lg_entry_eq]
  generalize (lg_sl ([.ref (a h0), .int x0, .int x1, .int x2]) ++ List.replicate (4 - (lg_sl ([.ref (a h0), .int x0, .int x1, .int x2])).length) Slot.unset).toArray = ls at hl ⊢
  replace hl : lv_has ls 4 [(0, .ref (a h0)), (1, .int x0), (2, .int x1), (3, .int x2)] := hl
  unfold fn_X11_result at hf
  refine de_start hS hP (fun H locs hS hP => ?_)
  refine lv_iload_n hx hb dX11_result_0 rfl (lv_at hl 1 rfl) ?_
  refine lv_if_lt (tgt := 29) hx hb dX11_result_1 (by decide) (fun c_1 => ?_) (fun c_1 => ?_)
  · skip
    rw [if_pos c_1] at hf
    refine lv_lconst (v := 0) hx hb dX11_result_29 (by decide) ?_
    obtain ⟨h8, h9⟩ := ret_some hf
    rw [h8, h9]
    exact W.lret (v := 0) hx hb hr (fun t ht hW => ⟨⟨0, (), rfl, rfl, by rw [ht]; exact hP, va_K.moved hW.alike hK, hD⟩, hS.F ht⟩) hS.2.2 dX11_result_30
  · skip
    rw [if_neg c_1] at hf
    refine lv_iload_n hx hb dX11_result_4 rfl (lv_at hl 1 rfl) ?_
    refine lv_aload_n hx hb dX11_result_5 rfl (lv_at hl 0 rfl) ?_
    obtain ⟨g_2, hf⟩ := grd_some hf
    obtain ⟨kg_2, sg_2⟩ := okO_at g_2
    refine va_get (D := (dC, dI)) (ci := 11) (v := .int (z.1 h0 5)) (C := RX11) (T := TX11) (N := 13) hx hb hts iwd_X11_result_X11 hown hK hP h0 (Wd_ob kg_2 sg_2 (by decide)) rfl 5 (by decide) (hts _ md_X11_result_1) (fun _ h9 => h9) (fl_at (t := 0) rfl) dX11_result_6 ?_
    refine lv_icmp_ge (tgt := 29) hx hb dX11_result_9 (by decide) (fun c_3 => ?_) (fun c_3 => ?_)
    · skip
      rw [if_pos c_3] at hf
      refine lv_lconst (v := 0) hx hb dX11_result_29 (by decide) ?_
      obtain ⟨h8, h9⟩ := ret_some hf
      rw [h8, h9]
      exact W.lret (v := 0) hx hb hr (fun t ht hW => ⟨⟨0, (), rfl, rfl, by rw [ht]; exact hP, va_K.moved hW.alike hK, hD⟩, hS.F ht⟩) hS.2.2 dX11_result_30
    · skip
      rw [if_neg c_3] at hf
      refine lv_iload_n hx hb dX11_result_12 rfl (lv_at hl 2 rfl) ?_
      refine lv_if_lt (tgt := 29) hx hb dX11_result_13 (by decide) (fun c_4 => ?_) (fun c_4 => ?_)
      · skip
        rw [if_pos c_4] at hf
        refine lv_lconst (v := 0) hx hb dX11_result_29 (by decide) ?_
        obtain ⟨h8, h9⟩ := ret_some hf
        rw [h8, h9]
        exact W.lret (v := 0) hx hb hr (fun t ht hW => ⟨⟨0, (), rfl, rfl, by rw [ht]; exact hP, va_K.moved hW.alike hK, hD⟩, hS.F ht⟩) hS.2.2 dX11_result_30
      · skip
        rw [if_neg c_4] at hf
        refine lv_iload_n hx hb dX11_result_16 rfl (lv_at hl 2 rfl) ?_
        refine lv_aload_n hx hb dX11_result_17 rfl (lv_at hl 0 rfl) ?_
        obtain ⟨k_5, ek_5, hf⟩ := lnk_some hf
        refine va_get (D := (dC, dI)) (ci := 11) (v := .ref (a k_5)) (C := RX11) (T := TX11) (N := 13) hx hb hts iwd_X11_result_X11 hown hK hP h0 (Wd_ob kg_2 sg_2 (by decide)) rfl 3 (by decide) (hts _ md_X11_result_2) (fun _ h9 => h9) (fl_q rfl ek_5) dX11_result_18 ?_
        refine lv_iload_n hx hb dX11_result_21 rfl (lv_at hl 1 rfl) ?_
        obtain ⟨g_6, hf⟩ := grd_some hf
        obtain ⟨kg_6, sg_6, ig_6⟩ := okA_at g_6
        obtain ⟨k_7, ek_7, hf⟩ := lnk_some hf
        refine va_aldq (C := RX8) hx hb hK hP k_5 5 (Wd_aq kg_6 sg_6 (by decide)) rfl ig_6 dX11_result_22 ?_
        refine W.eq (g2 := F0 m 23 ls [.ref (a k_7), .int x1]) (by rw [ek_7]; rfl) ?_
        obtain ⟨g_8, hf⟩ := grd_some hf
        obtain ⟨kg_8, sg_8⟩ := okO_at g_8
        refine va_get (D := (dC, dI)) (ci := 8) (v := .int (z.1 k_7 15)) (C := RX8) (T := TX8) (N := 19) hx hb hts iwd_X11_result_X8 hown hK hP k_7 (Wd_ob kg_8 sg_8 (by decide)) rfl 15 (by decide) (hts _ md_X11_result_3) (fun _ h9 => h9) (fl_at (t := 0) rfl) dX11_result_23 ?_
        refine lv_icmp_lt (tgt := 31) hx hb dX11_result_26 (by decide) (fun c_9 => ?_) (fun c_9 => ?_)
        · skip
          rw [if_pos c_9] at hf
          refine lv_iload_n hx hb dX11_result_31 rfl (lv_at hl 3 rfl) ?_
          by_cases c_10 : x2 = 0
          · skip
            rw [if_pos c_10] at hf
            refine lv_tableIn (tgt := 60) hx hb dX11_result_32 (by rw [c_10]; decide) (by rw [c_10]; decide) (by rw [c_10]; rfl) (by decide) ?_
            refine lv_aload_n hx hb dX11_result_60 rfl (lv_at hl 0 rfl) ?_
            obtain ⟨k_11, ek_11, hf⟩ := lnk_some hf
            refine va_get (D := (dC, dI)) (ci := 11) (v := .ref (a k_11)) (C := RX11) (T := TX11) (N := 13) hx hb hts iwd_X11_result_X11 hown hK hP h0 (Wd_ob kg_2 sg_2 (by decide)) rfl 3 (by decide) (hts _ md_X11_result_2) (fun _ h9 => h9) (fl_q rfl ek_11) dX11_result_61 ?_
            refine lv_iload_n hx hb dX11_result_64 rfl (lv_at hl 1 rfl) ?_
            obtain ⟨g_12, hf⟩ := grd_some hf
            obtain ⟨kg_12, sg_12, ig_12⟩ := okA_at g_12
            obtain ⟨k_13, ek_13, hf⟩ := lnk_some hf
            refine va_aldq (C := RX8) hx hb hK hP k_11 5 (Wd_aq kg_12 sg_12 (by decide)) rfl ig_12 dX11_result_65 ?_
            refine W.eq (g2 := F0 m 66 ls [.ref (a k_13)]) (by rw [ek_13]; rfl) ?_
            obtain ⟨g_14, hf⟩ := grd_some hf
            obtain ⟨kg_14, sg_14⟩ := okO_at g_14
            obtain ⟨k_15, ek_15, hf⟩ := lnk_some hf
            refine va_get (D := (dC, dI)) (ci := 8) (v := .ref (a k_15)) (C := RX8) (T := TX8) (N := 19) hx hb hts iwd_X11_result_X8 hown hK hP k_13 (Wd_ob kg_14 sg_14 (by decide)) rfl 18 (by decide) (hts _ md_X11_result_4) (fun _ h9 => h9) (fl_q rfl ek_15) dX11_result_66 ?_
            refine lv_iload_n hx hb dX11_result_69 rfl (lv_at hl 2 rfl) ?_
            obtain ⟨g_16, hf⟩ := grd_some hf
            obtain ⟨kg_16, sg_16, ig_16⟩ := okA_at g_16
            refine va_lald hx hb hK hP k_15 2 (Wd_al kg_16 sg_16) rfl ig_16 dX11_result_70 ?_
            obtain ⟨h8, h9⟩ := ret_some hf
            rw [h8, h9]
            exact W.lret (v := (z.2.1 k_15 x1.toNatClampNeg)) hx hb hr (fun t ht hW => ⟨⟨(z.2.1 k_15 x1.toNatClampNeg), (), rfl, rfl, by rw [ht]; exact hP, va_K.moved hW.alike hK, hD⟩, hS.F ht⟩) hS.2.2 dX11_result_71
          rw [if_neg c_10] at hf
          by_cases c_17 : x2 = 1
          · skip
            rw [if_pos c_17] at hf
            refine lv_tableIn (tgt := 72) hx hb dX11_result_32 (by rw [c_17]; decide) (by rw [c_17]; decide) (by rw [c_17]; rfl) (by decide) ?_
            refine lv_aload_n hx hb dX11_result_72 rfl (lv_at hl 0 rfl) ?_
            obtain ⟨k_18, ek_18, hf⟩ := lnk_some hf
            refine va_get (D := (dC, dI)) (ci := 11) (v := .ref (a k_18)) (C := RX11) (T := TX11) (N := 13) hx hb hts iwd_X11_result_X11 hown hK hP h0 (Wd_ob kg_2 sg_2 (by decide)) rfl 3 (by decide) (hts _ md_X11_result_2) (fun _ h9 => h9) (fl_q rfl ek_18) dX11_result_73 ?_
            refine lv_iload_n hx hb dX11_result_76 rfl (lv_at hl 1 rfl) ?_
            obtain ⟨g_19, hf⟩ := grd_some hf
            obtain ⟨kg_19, sg_19, ig_19⟩ := okA_at g_19
            obtain ⟨k_20, ek_20, hf⟩ := lnk_some hf
            refine va_aldq (C := RX8) hx hb hK hP k_18 5 (Wd_aq kg_19 sg_19 (by decide)) rfl ig_19 dX11_result_77 ?_
            refine W.eq (g2 := F0 m 78 ls [.ref (a k_20)]) (by rw [ek_20]; rfl) ?_
            obtain ⟨g_21, hf⟩ := grd_some hf
            obtain ⟨kg_21, sg_21⟩ := okO_at g_21
            obtain ⟨k_22, ek_22, hf⟩ := lnk_some hf
            refine va_get (D := (dC, dI)) (ci := 8) (v := .ref (a k_22)) (C := RX8) (T := TX8) (N := 19) hx hb hts iwd_X11_result_X8 hown hK hP k_20 (Wd_ob kg_21 sg_21 (by decide)) rfl 17 (by decide) (hts _ md_X11_result_5) (fun _ h9 => h9) (fl_q rfl ek_22) dX11_result_78 ?_
            refine lv_iload_n hx hb dX11_result_81 rfl (lv_at hl 2 rfl) ?_
            obtain ⟨g_23, hf⟩ := grd_some hf
            obtain ⟨kg_23, sg_23, ig_23⟩ := okA_at g_23
            refine va_lald hx hb hK hP k_22 2 (Wd_al kg_23 sg_23) rfl ig_23 dX11_result_82 ?_
            obtain ⟨h8, h9⟩ := ret_some hf
            rw [h8, h9]
            exact W.lret (v := (z.2.1 k_22 x1.toNatClampNeg)) hx hb hr (fun t ht hW => ⟨⟨(z.2.1 k_22 x1.toNatClampNeg), (), rfl, rfl, by rw [ht]; exact hP, va_K.moved hW.alike hK, hD⟩, hS.F ht⟩) hS.2.2 dX11_result_83
          rw [if_neg c_17] at hf
          by_cases c_24 : x2 = 2
          · skip
            rw [if_pos c_24] at hf
            refine lv_tableIn (tgt := 84) hx hb dX11_result_32 (by rw [c_24]; decide) (by rw [c_24]; decide) (by rw [c_24]; rfl) (by decide) ?_
            refine lv_aload_n hx hb dX11_result_84 rfl (lv_at hl 0 rfl) ?_
            obtain ⟨k_25, ek_25, hf⟩ := lnk_some hf
            refine va_get (D := (dC, dI)) (ci := 11) (v := .ref (a k_25)) (C := RX11) (T := TX11) (N := 13) hx hb hts iwd_X11_result_X11 hown hK hP h0 (Wd_ob kg_2 sg_2 (by decide)) rfl 3 (by decide) (hts _ md_X11_result_2) (fun _ h9 => h9) (fl_q rfl ek_25) dX11_result_85 ?_
            refine lv_iload_n hx hb dX11_result_88 rfl (lv_at hl 1 rfl) ?_
            obtain ⟨g_26, hf⟩ := grd_some hf
            obtain ⟨kg_26, sg_26, ig_26⟩ := okA_at g_26
            obtain ⟨k_27, ek_27, hf⟩ := lnk_some hf
            refine va_aldq (C := RX8) hx hb hK hP k_25 5 (Wd_aq kg_26 sg_26 (by decide)) rfl ig_26 dX11_result_89 ?_
            refine W.eq (g2 := F0 m 90 ls [.ref (a k_27)]) (by rw [ek_27]; rfl) ?_
            obtain ⟨g_28, hf⟩ := grd_some hf
            obtain ⟨kg_28, sg_28⟩ := okO_at g_28
            obtain ⟨k_29, ek_29, hf⟩ := lnk_some hf
            refine va_get (D := (dC, dI)) (ci := 8) (v := .ref (a k_29)) (C := RX8) (T := TX8) (N := 19) hx hb hts iwd_X11_result_X8 hown hK hP k_27 (Wd_ob kg_28 sg_28 (by decide)) rfl 16 (by decide) (hts _ md_X11_result_6) (fun _ h9 => h9) (fl_q rfl ek_29) dX11_result_90 ?_
            refine lv_iload_n hx hb dX11_result_93 rfl (lv_at hl 2 rfl) ?_
            obtain ⟨g_30, hf⟩ := grd_some hf
            obtain ⟨kg_30, sg_30, ig_30⟩ := okA_at g_30
            refine va_iald hx hb hK hP k_29 1 (Wd_ai kg_30 sg_30) rfl ig_30 dX11_result_94 ?_
            refine lv_i2l (v := ((z.1 k_29 x1.toNatClampNeg) : Int32).toInt64) hx hb dX11_result_95 rfl ?_
            obtain ⟨h8, h9⟩ := ret_some hf
            rw [h8, h9]
            exact W.lret (v := (((z.1 k_29 x1.toNatClampNeg) : Int32).toInt64)) hx hb hr (fun t ht hW => ⟨⟨(((z.1 k_29 x1.toNatClampNeg) : Int32).toInt64), (), rfl, rfl, by rw [ht]; exact hP, va_K.moved hW.alike hK, hD⟩, hS.F ht⟩) hS.2.2 dX11_result_96
          rw [if_neg c_24] at hf
          refine lv_tableOut (tgt := 97) hx hb dX11_result_32 (tbd_0_2 c_10 c_17 c_24) (by decide) ?_
          refine lv_lconst (v := 0) hx hb dX11_result_97 (by decide) ?_
          obtain ⟨h8, h9⟩ := ret_some hf
          rw [h8, h9]
          exact W.lret (v := 0) hx hb hr (fun t ht hW => ⟨⟨0, (), rfl, rfl, by rw [ht]; exact hP, va_K.moved hW.alike hK, hD⟩, hS.F ht⟩) hS.2.2 dX11_result_98
        · skip
          rw [if_neg c_9] at hf
          refine lv_lconst (v := 0) hx hb dX11_result_29 (by decide) ?_
          obtain ⟨h8, h9⟩ := ret_some hf
          rw [h8, h9]
          exact W.lret (v := 0) hx hb hr (fun t ht hW => ⟨⟨0, (), rfl, rfl, by rw [ht]; exact hP, va_K.moved hW.alike hK, hD⟩, hS.F ht⟩) hS.2.2 dX11_result_30

theorem md_X14_parting_1 : (.fieldLink RX14 7 "ResourceLedgerModel$Roots" "keys" "[J" : Cond) ∈ wsX14_parting := List.mem_of_getElem? (i := 1) rfl
theorem iwd_X14_parting_X14 : ∀ w ∈ wsX140, w ∈ wsX14_parting := fun _ h => List.mem_cons_of_mem _ (List.mem_append_right _ h)
set_option maxHeartbeats 4000000 in
set_option maxRecDepth 100000 in
theorem de_X14_parting (l : Launch) (dC : Nat → ClassId) (dI : Nat → Nat → Nat) (cy : Nat → ClassId) (a : Nat → Nat) (sh : Nat → Nat × Nat) (n sz : Nat) (F : Nat) (z : St) (h0 : Nat) (x0 : Int32) {z8 : St} {r8 : Int32} (hf : fn_X14_parting F sh n z h0 x0 = some (z8, r8)) : Met l yX14_parting wsX14_parting ({ frames := 0, cells := 0, slots := 0, locals := 0 }) (va_Pc [.ref (a h0), .int x0] (fun U => U.heap.size = sz ∧ va_P (dC, dI) vwCl (Wd cy a sh n z) U.heap ∧ va_K (dC, dI) vwCl (TYS cy) U ∧ va_D (fun _ => True) (Wd cy a sh n z) ∧ NK U)) (va_Qi (fun (r9 : Int32) (u : Unit) => r9 = r8) (fun u t => va_P (dC, dI) vwCl (Wd cy a sh n z8) t.heap ∧ va_K (dC, dI) vwCl (TYS cy) t ∧ va_D (va_A (Wd cy a sh n z) sz) (Wd cy a sh n z8)) (va_A (Wd cy a sh n z) sz)) 0 0 (va_A (Wd cy a sh n z) sz) := by
  refine Met.ofW (cc := cX14_parting) (maxL := 3) (ret := (some .int)) (by decide) rfl ?_
  intro p e s m args below meth c s₁ B hml hv
  obtain ⟨rfl, hsz, hP, hK, hD0, hN⟩ := hv
  have hx := B.exec
  have hb := B.bytes
  have hr := B.returns
  have hts := atoms_spec (ws := wsX14_parting) B.pre
  have hown : s.vm.findClass RX14 = some m.cls := findClass_of_methodNamed B.named
  have hlocks := B.notSynchronized
  subst hsz
  have hD := hD0.self (sz := s.heap.size)
  clear hD0
  generalize hAe : va_A (Wd cy a sh n z) s.heap.size = A at hD ⊢
  have hA : ∀ q : Nat, s.heap.size ≤ q → A q := fun q h => by rw [← hAe]; exact Or.inr h
  clear hAe
  have hS : va_S A s.heap s.heap [] := va_S.rf
  have hl := lv_entry ([.ref (a h0), .int x0]) (n := 3) (Nat.le_of_ble_eq_true rfl)
  rw [lg_entry_eq]
  generalize (lg_sl ([.ref (a h0), .int x0]) ++ List.replicate (3 - (lg_sl ([.ref (a h0), .int x0])).length) Slot.unset).toArray = ls at hl ⊢
  replace hl : lv_has ls 3 [(0, .ref (a h0)), (1, .int x0)] := hl
  unfold fn_X14_parting at hf
  refine de_start hS hP (fun H locs hS hP => ?_)
  refine lv_iconst (v := 0) hx hb dX14_parting_0 (by decide) ?_
  refine lv_istore_n (lv' := [(2, .int 0), (0, .ref (a h0)), (1, .int x0)]) hx hb dX14_parting_1 rfl hl (by decide) rfl (fun ls hl2 => ?_)
  replace hl := hl2
  clear hl2
  have hl0 : lv_has ls 3 [(2, .int 0), (0, .ref (a h0)), (1, .int x0)] := lv_sub hl [0, 1, 2] rfl
  refine de_loop (h := 2) (fun (x : St × Int32) ls H locs => lv_has ls 3 [(2, .int x.2), (0, .ref (a h0)), (1, .int x0)] ∧ va_P (dC, dI) vwCl (Wd cy a sh n x.1) H ∧ va_D A (Wd cy a sh n x.1) ∧ va_S A s.heap H locs) (fun f x => fn_X14_parting_L2 F sh n h0 x0 f x.1 x.2) (z8, r8) ?_ (fun _ => rfl) F (z, 0) ls H locs ⟨hl0, hP, hD, hS⟩ hf
  intro f_3 x ls H locs ih2 hI hf
  obtain ⟨z_2, p_1⟩ := x
  obtain ⟨hl2, hP2, hD2, hS2⟩ := hI
  replace hl : lv_has ls 3 [(2, .int p_1), (0, .ref (a h0)), (1, .int x0)] := hl2
  replace hP := hP2
  replace hD := hD2
  replace hS := hS2
  clear hl2 hP2 hD2 hS2 hl0
  replace hf := fn_X14_parting_L2_s hf
  refine lv_aload_n hx hb dX14_parting_2 rfl (lv_at hl 1 rfl) ?_
  obtain ⟨g_4, hf⟩ := grd_some hf
  obtain ⟨kg_4, sg_4⟩ := okO_at g_4
  obtain ⟨k_5, ek_5, hf⟩ := lnk_some hf
  refine va_get (D := (dC, dI)) (ci := 14) (v := .ref (a k_5)) (C := RX14) (T := TX14) (N := 11) hx hb hts iwd_X14_parting_X14 hown hK hP h0 (Wd_ob kg_4 sg_4 (by decide)) rfl 0 (by decide) (hts _ md_X14_parting_1) (fun _ h9 => h9) (fl_q rfl ek_5) dX14_parting_3 ?_
  refine lv_iconst (v := 4) hx hb dX14_parting_6 (by decide) ?_
  refine lv_iload_n hx hb dX14_parting_7 rfl (lv_at hl 2 rfl) ?_
  refine lv_imul hx hb dX14_parting_8 ?_
  refine lv_iload_n hx hb dX14_parting_9 rfl (lv_at hl 0 rfl) ?_
  refine lv_bipush (v := 64) hx hb dX14_parting_10 (by decide) ?_
  refine lv_idiv hx hb dX14_parting_12 (by decide) ?_
  refine lv_iadd hx hb dX14_parting_13 ?_
  obtain ⟨g_6, hf⟩ := grd_some hf
  obtain ⟨kg_6, sg_6, ig_6⟩ := okA_at g_6
  refine va_lald hx hb hK hP k_5 2 (Wd_al kg_6 sg_6) rfl ig_6 dX14_parting_14 ?_
  refine lv_bipush (v := 63) hx hb dX14_parting_15 (by decide) ?_
  refine lv_iload_n hx hb dX14_parting_17 rfl (lv_at hl 0 rfl) ?_
  refine lv_bipush (v := 64) hx hb dX14_parting_18 (by decide) ?_
  refine lv_irem hx hb dX14_parting_20 (by decide) ?_
  refine lv_isub hx hb dX14_parting_21 ?_
  refine lv_lshr (v := ((z_2.2.1 k_5 ((4 * x0) + (p_1 / 64)).toNatClampNeg) >>> (((63 - (p_1 - p_1 / 64 * 64)) : Int32).toInt64 &&& 63))) hx hb dX14_parting_22 rfl ?_
  refine lv_lconst (v := 1) hx hb dX14_parting_23 (by decide) ?_
  refine lv_land hx hb dX14_parting_24 ?_
  refine lv_aload_n hx hb dX14_parting_25 rfl (lv_at hl 1 rfl) ?_
  obtain ⟨k_7, ek_7, hf⟩ := lnk_some hf
  refine va_get (D := (dC, dI)) (ci := 14) (v := .ref (a k_7)) (C := RX14) (T := TX14) (N := 11) hx hb hts iwd_X14_parting_X14 hown hK hP h0 (Wd_ob kg_4 sg_4 (by decide)) rfl 0 (by decide) (hts _ md_X14_parting_1) (fun _ h9 => h9) (fl_q rfl ek_7) dX14_parting_26 ?_
  refine lv_iconst (v := 4) hx hb dX14_parting_29 (by decide) ?_
  refine lv_iload_n hx hb dX14_parting_30 rfl (lv_at hl 2 rfl) ?_
  refine lv_imul hx hb dX14_parting_31 ?_
  refine lv_iconst (v := 4) hx hb dX14_parting_32 (by decide) ?_
  refine lv_iadd hx hb dX14_parting_33 ?_
  refine lv_iload_n hx hb dX14_parting_34 rfl (lv_at hl 0 rfl) ?_
  refine lv_bipush (v := 64) hx hb dX14_parting_35 (by decide) ?_
  refine lv_idiv hx hb dX14_parting_37 (by decide) ?_
  refine lv_iadd hx hb dX14_parting_38 ?_
  obtain ⟨g_8, hf⟩ := grd_some hf
  obtain ⟨kg_8, sg_8, ig_8⟩ := okA_at g_8
  refine va_lald hx hb hK hP k_7 2 (Wd_al kg_8 sg_8) rfl ig_8 dX14_parting_39 ?_
  refine lv_bipush (v := 63) hx hb dX14_parting_40 (by decide) ?_
  refine lv_iload_n hx hb dX14_parting_42 rfl (lv_at hl 0 rfl) ?_
  refine lv_bipush (v := 64) hx hb dX14_parting_43 (by decide) ?_
  refine lv_irem hx hb dX14_parting_45 (by decide) ?_
  refine lv_isub hx hb dX14_parting_46 ?_
  refine lv_lshr (v := ((z_2.2.1 k_7 (((4 * x0) + 4) + (p_1 / 64)).toNatClampNeg) >>> (((63 - (p_1 - p_1 / 64 * 64)) : Int32).toInt64 &&& 63))) hx hb dX14_parting_47 rfl ?_
  refine lv_lconst (v := 1) hx hb dX14_parting_48 (by decide) ?_
  refine lv_land hx hb dX14_parting_49 ?_
  refine W.lcmp hx hb dX14_parting_50 ?_
  refine lv_if_ne (tgt := 60) hx hb dX14_parting_51 (by decide) (fun c_9 => ?_) (fun c_9 => ?_)
  · skip
    rw [lg_cmp_eq] at c_9
    rw [if_neg c_9] at hf
    refine lv_iload_n hx hb dX14_parting_60 rfl (lv_at hl 0 rfl) ?_
    obtain ⟨h8, h9⟩ := ret_some hf
    rw [h8, h9]
    exact W.iret (v := p_1) hx hb hr (fun t ht hW => ⟨⟨p_1, (), rfl, rfl, by rw [ht]; exact hP, va_K.moved hW.alike hK, hD⟩, hS.F ht⟩) hS.2.2 dX14_parting_61
  · skip
    rw [lg_cmp_eq] at c_9
    rw [if_pos c_9] at hf
    refine lv_iinc (v := (p_1 + 1)) (lv' := [(2, .int (p_1 + 1)), (0, .ref (a h0)), (1, .int x0)]) hx hb dX14_parting_54 hl (k := 0) rfl rfl (by decide) rfl (fun ls hl2 => ?_)
    replace hl := hl2
    clear hl2
    refine lv_goto (tgt := 2) hx hb dX14_parting_57 (by decide) ?_
    exact ih2 (z_2, (p_1 + 1)) ls H locs ⟨lv_sub hl [0, 1, 2] rfl, hP, hD, hS⟩ hf

theorem md_X11_isArgument_1 : (.constantLong RX11 148 (255) : Cond) ∈ wsX11_isArgument := List.mem_of_getElem? (i := 1) rfl
set_option maxHeartbeats 4000000 in
set_option maxRecDepth 100000 in
theorem de_X11_isArgument (l : Launch) (dC : Nat → ClassId) (dI : Nat → Nat → Nat) (cy : Nat → ClassId) (a : Nat → Nat) (sh : Nat → Nat × Nat) (n sz : Nat) (F : Nat) (z : St) (x0 : Int32) (x1 : Int64) (x2 : Int64) {z8 : St} {r8 : Int32} (hf : fn_X11_isArgument F sh n z x0 x1 x2 = some (z8, r8)) : Met l yX11_isArgument wsX11_isArgument ({ frames := 0, cells := 0, slots := 0, locals := 0 }) (va_Pc [.int x0, .long x1, .long x2] (fun U => U.heap.size = sz ∧ va_P (dC, dI) vwCl (Wd cy a sh n z) U.heap ∧ va_K (dC, dI) vwCl (TYS cy) U ∧ va_D (fun _ => True) (Wd cy a sh n z) ∧ NK U)) (va_Qi (fun (r9 : Int32) (u : Unit) => r9 = r8) (fun u t => va_P (dC, dI) vwCl (Wd cy a sh n z8) t.heap ∧ va_K (dC, dI) vwCl (TYS cy) t ∧ va_D (va_A (Wd cy a sh n z) sz) (Wd cy a sh n z8)) (va_A (Wd cy a sh n z) sz)) 0 0 (va_A (Wd cy a sh n z) sz) := by
  refine Met.ofW (cc := cX11_isArgument) (maxL := 5) (ret := (some .boolean)) (by decide) rfl ?_
  intro p e s m args below meth c s₁ B hml hv
  obtain ⟨rfl, hsz, hP, hK, hD0, hN⟩ := hv
  have hx := B.exec
  have hb := B.bytes
  have hr := B.returns
  have hts := atoms_spec (ws := wsX11_isArgument) B.pre
  have hown : s.vm.findClass RX11 = some m.cls := findClass_of_methodNamed B.named
  have hlocks := B.notSynchronized
  subst hsz
  have hD := hD0.self (sz := s.heap.size)
  clear hD0
  generalize hAe : va_A (Wd cy a sh n z) s.heap.size = A at hD ⊢
  have hA : ∀ q : Nat, s.heap.size ≤ q → A q := fun q h => by rw [← hAe]; exact Or.inr h
  clear hAe
  have hS : va_S A s.heap s.heap [] := va_S.rf
  have hl := lv_entry ([.int x0, .long x1, .long x2]) (n := 5) (Nat.le_of_ble_eq_true rfl)
  rw [lg_entry_eq]
  generalize (lg_sl ([.int x0, .long x1, .long x2]) ++ List.replicate (5 - (lg_sl ([.int x0, .long x1, .long x2])).length) Slot.unset).toArray = ls at hl ⊢
  replace hl : lv_has ls 5 [(0, .int x0), (1, .long x1), (3, .long x2)] := hl
  unfold fn_X11_isArgument at hf
  refine de_start hS hP (fun H locs hS hP => ?_)
  refine lv_iload_n hx hb dX11_isArgument_0 rfl (lv_at hl 0 rfl) ?_
  refine lv_iconst (v := 1) hx hb dX11_isArgument_1 (by decide) ?_
  refine lv_icmp_lt (tgt := 10) hx hb dX11_isArgument_2 (by decide) (fun c_1 => ?_) (fun c_1 => ?_)
  · skip
    rw [if_pos c_1] at hf
    refine lv_iconst (v := 0) hx hb dX11_isArgument_10 (by decide) ?_
    obtain ⟨h8, h9⟩ := ret_some hf
    rw [h8, h9]
    exact W.zret (v := 0) hx hb hr rfl (fun t ht hW => ⟨⟨0, (), rfl, rfl, by rw [ht]; exact hP, va_K.moved hW.alike hK, hD⟩, hS.F ht⟩) hS.2.2 dX11_isArgument_11
  · skip
    rw [if_neg c_1] at hf
    refine lv_iload_n hx hb dX11_isArgument_5 rfl (lv_at hl 0 rfl) ?_
    refine lv_iconst (v := 5) hx hb dX11_isArgument_6 (by decide) ?_
    refine lv_icmp_le (tgt := 12) hx hb dX11_isArgument_7 (by decide) (fun c_2 => ?_) (fun c_2 => ?_)
    · skip
      rw [if_pos c_2] at hf
      refine lv_iload_n hx hb dX11_isArgument_12 rfl (lv_at hl 0 rfl) ?_
      refine lv_iconst (v := 4) hx hb dX11_isArgument_13 (by decide) ?_
      refine de_cut (h := 25) (fun (x : St) => []) (fun x ls H locs => lv_has ls 5 [(0, .int x0), (3, .long x2)] ∧ va_P (dC, dI) vwCl (Wd cy a sh n x) H ∧ va_D A (Wd cy a sh n x) ∧ va_S A s.heap H locs) (fun x => fn_X11_isArgument_B25 F sh n x0 x2 x) (z8, r8) ?_ (fun B25 => ?_)
      · intro x ls H locs hI hf
        obtain ⟨z_3, ez⟩ : ∃ w, w = x := ⟨_, rfl⟩
        subst ez
        obtain ⟨hl2, hP2, hD2, hS2⟩ := hI
        replace hl : lv_has ls 5 [(0, .int x0), (3, .long x2)] := hl2
        replace hP := hP2
        replace hD := hD2
        replace hS := hS2
        clear hl2 hP2 hD2 hS2
        replace hf := fn_X11_isArgument_B25_s hf
        refine W.eq (g2 := F0 m 25 ls []) rfl ?_
        refine lv_iload_n hx hb dX11_isArgument_25 rfl (lv_at hl 0 rfl) ?_
        refine lv_iconst (v := 1) hx hb dX11_isArgument_26 (by decide) ?_
        refine lv_icmp_ne (tgt := 48) hx hb dX11_isArgument_27 (by decide) (fun c_4 => ?_) (fun c_4 => ?_)
        · skip
          rw [if_neg c_4] at hf
          refine lv_iload_n hx hb dX11_isArgument_48 rfl (lv_at hl 0 rfl) ?_
          refine lv_iconst (v := 2) hx hb dX11_isArgument_49 (by decide) ?_
          refine lv_icmp_ne (tgt := 67) hx hb dX11_isArgument_50 (by decide) (fun c_5 => ?_) (fun c_5 => ?_)
          · skip
            rw [if_neg c_5] at hf
            refine lv_iconst (v := 1) hx hb dX11_isArgument_67 (by decide) ?_
            refine lv_goto (tgt := 72) hx hb dX11_isArgument_68 (by decide) ?_
            obtain ⟨h8, h9⟩ := ret_some hf
            rw [h8, h9]
            exact W.zret (v := 1) hx hb hr rfl (fun t ht hW => ⟨⟨1, (), rfl, rfl, by rw [ht]; exact hP, va_K.moved hW.alike hK, hD⟩, hS.F ht⟩) hS.2.2 dX11_isArgument_72
          · skip
            rw [if_pos c_5] at hf
            refine lv_lload_n hx hb dX11_isArgument_53 rfl (lv_at hl 1 rfl) ?_
            refine lv_lconst (v := 0) hx hb dX11_isArgument_54 (by decide) ?_
            refine W.lcmp hx hb dX11_isArgument_55 ?_
            refine lv_if_lt (tgt := 71) hx hb dX11_isArgument_56 (by decide) (fun c_6 => ?_) (fun c_6 => ?_)
            · skip
              rw [lg_cmp_lt] at c_6
              rw [if_pos c_6] at hf
              refine lv_iconst (v := 0) hx hb dX11_isArgument_71 (by decide) ?_
              obtain ⟨h8, h9⟩ := ret_some hf
              rw [h8, h9]
              exact W.zret (v := 0) hx hb hr rfl (fun t ht hW => ⟨⟨0, (), rfl, rfl, by rw [ht]; exact hP, va_K.moved hW.alike hK, hD⟩, hS.F ht⟩) hS.2.2 dX11_isArgument_72
            · skip
              rw [lg_cmp_lt] at c_6
              rw [if_neg c_6] at hf
              refine lv_lload_n hx hb dX11_isArgument_59 rfl (lv_at hl 1 rfl) ?_
              refine lv_ldc2 hx hb hown (hts _ md_X11_isArgument_1) dX11_isArgument_60 ?_
              refine W.lcmp hx hb dX11_isArgument_63 ?_
              refine lv_if_gt (tgt := 71) hx hb dX11_isArgument_64 (by decide) (fun c_7 => ?_) (fun c_7 => ?_)
              · skip
                rw [lg_cmp_gt] at c_7
                rw [if_pos c_7] at hf
                refine lv_iconst (v := 0) hx hb dX11_isArgument_71 (by decide) ?_
                obtain ⟨h8, h9⟩ := ret_some hf
                rw [h8, h9]
                exact W.zret (v := 0) hx hb hr rfl (fun t ht hW => ⟨⟨0, (), rfl, rfl, by rw [ht]; exact hP, va_K.moved hW.alike hK, hD⟩, hS.F ht⟩) hS.2.2 dX11_isArgument_72
              · skip
                rw [lg_cmp_gt] at c_7
                rw [if_neg c_7] at hf
                refine lv_iconst (v := 1) hx hb dX11_isArgument_67 (by decide) ?_
                refine lv_goto (tgt := 72) hx hb dX11_isArgument_68 (by decide) ?_
                obtain ⟨h8, h9⟩ := ret_some hf
                rw [h8, h9]
                exact W.zret (v := 1) hx hb hr rfl (fun t ht hW => ⟨⟨1, (), rfl, rfl, by rw [ht]; exact hP, va_K.moved hW.alike hK, hD⟩, hS.F ht⟩) hS.2.2 dX11_isArgument_72
        · skip
          rw [if_pos c_4] at hf
          refine lv_lload_n hx hb dX11_isArgument_30 rfl (lv_at hl 1 rfl) ?_
          refine lv_lconst (v := 0) hx hb dX11_isArgument_31 (by decide) ?_
          refine W.lcmp hx hb dX11_isArgument_32 ?_
          refine lv_if_eq (tgt := 42) hx hb dX11_isArgument_33 (by decide) (fun c_8 => ?_) (fun c_8 => ?_)
          · skip
            rw [lg_cmp_eq] at c_8
            rw [if_pos c_8] at hf
            refine lv_iconst (v := 1) hx hb dX11_isArgument_42 (by decide) ?_
            refine lv_goto (tgt := 47) hx hb dX11_isArgument_43 (by decide) ?_
            obtain ⟨h8, h9⟩ := ret_some hf
            rw [h8, h9]
            exact W.zret (v := 1) hx hb hr rfl (fun t ht hW => ⟨⟨1, (), rfl, rfl, by rw [ht]; exact hP, va_K.moved hW.alike hK, hD⟩, hS.F ht⟩) hS.2.2 dX11_isArgument_47
          · skip
            rw [lg_cmp_eq] at c_8
            rw [if_neg c_8] at hf
            refine lv_lload_n hx hb dX11_isArgument_36 rfl (lv_at hl 1 rfl) ?_
            refine lv_lconst (v := 1) hx hb dX11_isArgument_37 (by decide) ?_
            refine W.lcmp hx hb dX11_isArgument_38 ?_
            refine lv_if_ne (tgt := 46) hx hb dX11_isArgument_39 (by decide) (fun c_9 => ?_) (fun c_9 => ?_)
            · skip
              rw [lg_cmp_eq] at c_9
              rw [if_neg c_9] at hf
              refine lv_iconst (v := 0) hx hb dX11_isArgument_46 (by decide) ?_
              obtain ⟨h8, h9⟩ := ret_some hf
              rw [h8, h9]
              exact W.zret (v := 0) hx hb hr rfl (fun t ht hW => ⟨⟨0, (), rfl, rfl, by rw [ht]; exact hP, va_K.moved hW.alike hK, hD⟩, hS.F ht⟩) hS.2.2 dX11_isArgument_47
            · skip
              rw [lg_cmp_eq] at c_9
              rw [if_pos c_9] at hf
              refine lv_iconst (v := 1) hx hb dX11_isArgument_42 (by decide) ?_
              refine lv_goto (tgt := 47) hx hb dX11_isArgument_43 (by decide) ?_
              obtain ⟨h8, h9⟩ := ret_some hf
              rw [h8, h9]
              exact W.zret (v := 1) hx hb hr rfl (fun t ht hW => ⟨⟨1, (), rfl, rfl, by rw [ht]; exact hP, va_K.moved hW.alike hK, hD⟩, hS.F ht⟩) hS.2.2 dX11_isArgument_47
      refine lv_icmp_eq (tgt := 25) hx hb dX11_isArgument_14 (by decide) (fun c_10 => ?_) (fun c_10 => ?_)
      · skip
        rw [if_pos c_10] at hf
        exact B25 (z) ls H locs ⟨lv_sub hl [0, 2] rfl, hP, hD, hS⟩ hf
      · skip
        rw [if_neg c_10] at hf
        refine lv_lload_n hx hb dX11_isArgument_17 rfl (lv_at hl 1 rfl) ?_
        refine lv_lconst (v := 0) hx hb dX11_isArgument_18 (by decide) ?_
        refine W.lcmp hx hb dX11_isArgument_19 ?_
        refine lv_if_eq (tgt := 25) hx hb dX11_isArgument_20 (by decide) (fun c_11 => ?_) (fun c_11 => ?_)
        · skip
          rw [lg_cmp_eq] at c_11
          rw [if_pos c_11] at hf
          exact B25 (z) ls H locs ⟨lv_sub hl [0, 2] rfl, hP, hD, hS⟩ hf
        · skip
          rw [lg_cmp_eq] at c_11
          rw [if_neg c_11] at hf
          refine lv_iconst (v := 0) hx hb dX11_isArgument_23 (by decide) ?_
          obtain ⟨h8, h9⟩ := ret_some hf
          rw [h8, h9]
          exact W.zret (v := 0) hx hb hr rfl (fun t ht hW => ⟨⟨0, (), rfl, rfl, by rw [ht]; exact hP, va_K.moved hW.alike hK, hD⟩, hS.F ht⟩) hS.2.2 dX11_isArgument_24
    · skip
      rw [if_neg c_2] at hf
      refine lv_iconst (v := 0) hx hb dX11_isArgument_10 (by decide) ?_
      obtain ⟨h8, h9⟩ := ret_some hf
      rw [h8, h9]
      exact W.zret (v := 0) hx hb hr rfl (fun t ht hW => ⟨⟨0, (), rfl, rfl, by rw [ht]; exact hP, va_K.moved hW.alike hK, hD⟩, hS.F ht⟩) hS.2.2 dX11_isArgument_11

theorem md_X10_upperProduct_1 : (.constantLong RX10 36 (4294967295) : Cond) ∈ wsX10_upperProduct := List.mem_of_getElem? (i := 1) rfl
set_option maxHeartbeats 4000000 in
set_option maxRecDepth 100000 in
theorem de_X10_upperProduct (l : Launch) (dC : Nat → ClassId) (dI : Nat → Nat → Nat) (cy : Nat → ClassId) (a : Nat → Nat) (sh : Nat → Nat × Nat) (n sz : Nat) (F : Nat) (z : St) (x0 : Int64) (x1 : Int64) {z8 : St} {r8 : Int64} (hf : fn_X10_upperProduct F sh n z x0 x1 = some (z8, r8)) : Met l yX10_upperProduct wsX10_upperProduct ({ frames := 0, cells := 0, slots := 0, locals := 0 }) (va_Pc [.long x0, .long x1] (fun U => U.heap.size = sz ∧ va_P (dC, dI) vwCl (Wd cy a sh n z) U.heap ∧ va_K (dC, dI) vwCl (TYS cy) U ∧ va_D (fun _ => True) (Wd cy a sh n z) ∧ NK U)) (va_Ql (fun (r9 : Int64) (u : Unit) => r9 = r8) (fun u t => va_P (dC, dI) vwCl (Wd cy a sh n z8) t.heap ∧ va_K (dC, dI) vwCl (TYS cy) t ∧ va_D (va_A (Wd cy a sh n z) sz) (Wd cy a sh n z8)) (va_A (Wd cy a sh n z) sz)) 0 0 (va_A (Wd cy a sh n z) sz) := by
  refine Met.ofW (cc := cX10_upperProduct) (maxL := 18) (ret := (some .long)) (by decide) rfl ?_
  intro p e s m args below meth c s₁ B hml hv
  obtain ⟨rfl, hsz, hP, hK, hD0, hN⟩ := hv
  have hx := B.exec
  have hb := B.bytes
  have hr := B.returns
  have hts := atoms_spec (ws := wsX10_upperProduct) B.pre
  have hown : s.vm.findClass RX10 = some m.cls := findClass_of_methodNamed B.named
  have hlocks := B.notSynchronized
  subst hsz
  have hD := hD0.self (sz := s.heap.size)
  clear hD0
  generalize hAe : va_A (Wd cy a sh n z) s.heap.size = A at hD ⊢
  have hA : ∀ q : Nat, s.heap.size ≤ q → A q := fun q h => by rw [← hAe]; exact Or.inr h
  clear hAe
  have hS : va_S A s.heap s.heap [] := va_S.rf
  have hl := lv_entry ([.long x0, .long x1]) (n := 18) (Nat.le_of_ble_eq_true rfl)
  rw [lg_entry_eq]
  generalize (lg_sl ([.long x0, .long x1]) ++ List.replicate (18 - (lg_sl ([.long x0, .long x1])).length) Slot.unset).toArray = ls at hl ⊢
  replace hl : lv_has ls 18 [(0, .long x0), (2, .long x1)] := hl
  unfold fn_X10_upperProduct at hf
  refine de_start hS hP (fun H locs hS hP => ?_)
  refine lv_ldc2 hx hb hown (hts _ md_X10_upperProduct_1) dX10_upperProduct_0 ?_
  refine lv_lstore (lv' := [(4, .long 4294967295), (0, .long x0), (2, .long x1)]) hx hb dX10_upperProduct_3 hl (by decide) rfl (fun ls hl2 => ?_)
  replace hl := hl2
  clear hl2
  refine lv_lload_n hx hb dX10_upperProduct_5 rfl (lv_at hl 1 rfl) ?_
  refine lv_bipush (v := 32) hx hb dX10_upperProduct_6 (by decide) ?_
  refine lv_lushr (v := ((x0 : Int64).toUInt64 >>> ((32 : Int32).toInt64.toUInt64 &&& Int64.toUInt64 63)).toInt64) hx hb dX10_upperProduct_8 rfl ?_
  refine lv_topl (fun v_1 ev_1 => ?_)
  replace hf := lt_at ev_1 hf
  clear ev_1
  refine lv_lstore (lv' := [(6, .long v_1), (4, .long 4294967295), (0, .long x0), (2, .long x1)]) hx hb dX10_upperProduct_9 hl (by decide) rfl (fun ls hl2 => ?_)
  replace hl := hl2
  clear hl2
  refine lv_lload_n hx hb dX10_upperProduct_11 rfl (lv_at hl 2 rfl) ?_
  refine lv_lload hx hb dX10_upperProduct_12 (lv_at hl 1 rfl) ?_
  refine lv_land hx hb dX10_upperProduct_14 ?_
  refine lv_topl (fun v_2 ev_2 => ?_)
  replace hf := lt_at ev_2 hf
  clear ev_2
  refine lv_lstore (lv' := [(8, .long v_2), (6, .long v_1), (4, .long 4294967295), (0, .long x0), (2, .long x1)]) hx hb dX10_upperProduct_15 hl (by decide) rfl (fun ls hl2 => ?_)
  replace hl := hl2
  clear hl2
  refine lv_lload_n hx hb dX10_upperProduct_17 rfl (lv_at hl 4 rfl) ?_
  refine lv_bipush (v := 32) hx hb dX10_upperProduct_18 (by decide) ?_
  refine lv_lushr (v := ((x1 : Int64).toUInt64 >>> ((32 : Int32).toInt64.toUInt64 &&& Int64.toUInt64 63)).toInt64) hx hb dX10_upperProduct_20 rfl ?_
  refine lv_topl (fun v_3 ev_3 => ?_)
  replace hf := lt_at ev_3 hf
  clear ev_3
  refine lv_lstore (lv' := [(10, .long v_3), (8, .long v_2), (6, .long v_1), (4, .long 4294967295), (0, .long x0), (2, .long x1)]) hx hb dX10_upperProduct_21 hl (by decide) rfl (fun ls hl2 => ?_)
  replace hl := hl2
  clear hl2
  refine lv_lload_n hx hb dX10_upperProduct_23 rfl (lv_at hl 5 rfl) ?_
  refine lv_lload hx hb dX10_upperProduct_24 (lv_at hl 3 rfl) ?_
  refine lv_land hx hb dX10_upperProduct_26 ?_
  refine lv_topl (fun v_4 ev_4 => ?_)
  replace hf := lt_at ev_4 hf
  clear ev_4
  refine lv_lstore (lv' := [(12, .long v_4), (10, .long v_3), (8, .long v_2), (6, .long v_1), (4, .long 4294967295), (0, .long x0), (2, .long x1)]) hx hb dX10_upperProduct_27 hl (by decide) rfl (fun ls hl2 => ?_)
  replace hl := hl2
  clear hl2
  refine lv_lload hx hb dX10_upperProduct_29 (lv_at hl 3 rfl) ?_
  refine lv_lload hx hb dX10_upperProduct_31 (lv_at hl 0 rfl) ?_
  refine lv_lmul hx hb dX10_upperProduct_33 ?_
  refine lv_lload hx hb dX10_upperProduct_34 (lv_at hl 2 rfl) ?_
  refine lv_lload hx hb dX10_upperProduct_36 (lv_at hl 0 rfl) ?_
  refine lv_lmul hx hb dX10_upperProduct_38 ?_
  refine lv_bipush (v := 32) hx hb dX10_upperProduct_39 (by decide) ?_
  refine lv_lushr (v := (((v_2 * v_4) : Int64).toUInt64 >>> ((32 : Int32).toInt64.toUInt64 &&& Int64.toUInt64 63)).toInt64) hx hb dX10_upperProduct_41 rfl ?_
  refine lv_ladd hx hb dX10_upperProduct_42 ?_
  refine lv_topl (fun v_5 ev_5 => ?_)
  replace hf := lt_at ev_5 hf
  clear ev_5
  refine lv_lstore (lv' := [(14, .long v_5), (12, .long v_4), (10, .long v_3), (8, .long v_2), (6, .long v_1), (4, .long 4294967295), (0, .long x0), (2, .long x1)]) hx hb dX10_upperProduct_43 hl (by decide) rfl (fun ls hl2 => ?_)
  replace hl := hl2
  clear hl2
  refine lv_lload hx hb dX10_upperProduct_45 (lv_at hl 3 rfl) ?_
  refine lv_lload hx hb dX10_upperProduct_47 (lv_at hl 2 rfl) ?_
  refine lv_lmul hx hb dX10_upperProduct_49 ?_
  refine lv_lload hx hb dX10_upperProduct_50 (lv_at hl 0 rfl) ?_
  refine lv_lload hx hb dX10_upperProduct_52 (lv_at hl 5 rfl) ?_
  refine lv_land hx hb dX10_upperProduct_54 ?_
  refine lv_ladd hx hb dX10_upperProduct_55 ?_
  refine lv_topl (fun v_6 ev_6 => ?_)
  replace hf := lt_at ev_6 hf
  clear ev_6
  refine lv_lstore (lv' := [(16, .long v_6), (14, .long v_5), (12, .long v_4), (10, .long v_3), (8, .long v_2), (6, .long v_1), (4, .long 4294967295), (0, .long x0), (2, .long x1)]) hx hb dX10_upperProduct_56 hl (by decide) rfl (fun ls hl2 => ?_)
  replace hl := hl2
  clear hl2
  refine lv_lload hx hb dX10_upperProduct_58 (lv_at hl 5 rfl) ?_
  refine lv_lload hx hb dX10_upperProduct_60 (lv_at hl 3 rfl) ?_
  refine lv_lmul hx hb dX10_upperProduct_62 ?_
  refine lv_lload hx hb dX10_upperProduct_63 (lv_at hl 1 rfl) ?_
  refine lv_bipush (v := 32) hx hb dX10_upperProduct_65 (by decide) ?_
  refine lv_lushr (v := ((v_5 : Int64).toUInt64 >>> ((32 : Int32).toInt64.toUInt64 &&& Int64.toUInt64 63)).toInt64) hx hb dX10_upperProduct_67 rfl ?_
  refine lv_ladd hx hb dX10_upperProduct_68 ?_
  refine lv_lload hx hb dX10_upperProduct_69 (lv_at hl 0 rfl) ?_
  refine lv_bipush (v := 32) hx hb dX10_upperProduct_71 (by decide) ?_
  refine lv_lushr (v := ((v_6 : Int64).toUInt64 >>> ((32 : Int32).toInt64.toUInt64 &&& Int64.toUInt64 63)).toInt64) hx hb dX10_upperProduct_73 rfl ?_
  refine lv_ladd hx hb dX10_upperProduct_74 ?_
  obtain ⟨h8, h9⟩ := ret_some hf
  rw [h8, h9]
  exact W.lret (v := (((v_1 * v_3) + (((v_5 : Int64).toUInt64 >>> ((32 : Int32).toInt64.toUInt64 &&& Int64.toUInt64 63)).toInt64)) + (((v_6 : Int64).toUInt64 >>> ((32 : Int32).toInt64.toUInt64 &&& Int64.toUInt64 63)).toInt64))) hx hb hr (fun t ht hW => ⟨⟨(((v_1 * v_3) + (((v_5 : Int64).toUInt64 >>> ((32 : Int32).toInt64.toUInt64 &&& Int64.toUInt64 63)).toInt64)) + (((v_6 : Int64).toUInt64 >>> ((32 : Int32).toInt64.toUInt64 &&& Int64.toUInt64 63)).toInt64)), (), rfl, rfl, by rw [ht]; exact hP, va_K.moved hW.alike hK, hD⟩, hS.F ht⟩) hS.2.2 dX10_upperProduct_75

theorem md_X4_pushFrame_1 : (.fieldLink RX4 100 "ResourceLedger$Machine" "top" "I" : Cond) ∈ wsX4_pushFrame := List.mem_of_getElem? (i := 1) rfl
theorem iwd_X4_pushFrame_X4 : ∀ w ∈ wsX40, w ∈ wsX4_pushFrame := fun _ h => List.mem_cons_of_mem _ (List.mem_append_right _ h)
theorem md_X4_pushFrame_2 : (.fieldLink RX4 38 "ResourceLedger$Machine" "programs" "[LResourceLedger$Program;" : Cond) ∈ wsX4_pushFrame := List.mem_of_getElem? (i := 2) rfl
theorem md_X4_pushFrame_3 : (.fieldLink RX4 42 "ResourceLedger$Machine" "functions" "[I" : Cond) ∈ wsX4_pushFrame := List.mem_of_getElem? (i := 3) rfl
theorem md_X4_pushFrame_4 : (.fieldLink RX4 46 "ResourceLedger$Machine" "nexts" "[I" : Cond) ∈ wsX4_pushFrame := List.mem_of_getElem? (i := 4) rfl
theorem md_X4_pushFrame_5 : (.fieldLink RX4 49 "ResourceLedger$Machine" "depths" "[I" : Cond) ∈ wsX4_pushFrame := List.mem_of_getElem? (i := 5) rfl
theorem md_X4_pushFrame_6 : (.fieldLink RX4 52 "ResourceLedger$Machine" "locals" "[I" : Cond) ∈ wsX4_pushFrame := List.mem_of_getElem? (i := 6) rfl
set_option maxHeartbeats 4000000 in
set_option maxRecDepth 100000 in
theorem de_X4_pushFrame (l : Launch) (dC : Nat → ClassId) (dI : Nat → Nat → Nat) (cy : Nat → ClassId) (a : Nat → Nat) (sh : Nat → Nat × Nat) (n sz : Nat) (F : Nat) (z : St) (h0 : Nat) (x0 : Nat) (x1 : Int32) {z8 : St} {r8 : Unit} (hf : fn_X4_pushFrame F sh n z h0 x0 x1 = some (z8, r8)) : Met l yX4_pushFrame wsX4_pushFrame ({ frames := 0, cells := 0, slots := 0, locals := 0 }) (va_Pc [.ref (a h0), .ref (a x0), .int x1] (fun U => U.heap.size = sz ∧ va_P (dC, dI) vwCl (Wd cy a sh n z) U.heap ∧ va_K (dC, dI) vwCl (TYS cy) U ∧ va_D (fun _ => True) (Wd cy a sh n z) ∧ NK U)) (va_Qv (fun u : Unit => True) (fun u t => va_P (dC, dI) vwCl (Wd cy a sh n z8) t.heap ∧ va_K (dC, dI) vwCl (TYS cy) t ∧ va_D (va_A (Wd cy a sh n z) sz) (Wd cy a sh n z8)) (va_A (Wd cy a sh n z) sz)) 0 0 (va_A (Wd cy a sh n z) sz) := by
  refine Met.ofW (cc := cX4_pushFrame) (maxL := 4) (ret := none) (by decide) rfl ?_
  intro p e s m args below meth c s₁ B hml hv
  obtain ⟨rfl, hsz, hP, hK, hD0, hN⟩ := hv
  have hx := B.exec
  have hb := B.bytes
  have hr := B.returns
  have hts := atoms_spec (ws := wsX4_pushFrame) B.pre
  have hown : s.vm.findClass RX4 = some m.cls := findClass_of_methodNamed B.named
  have hlocks := B.notSynchronized
  subst hsz
  have hD := hD0.self (sz := s.heap.size)
  clear hD0
  generalize hAe : va_A (Wd cy a sh n z) s.heap.size = A at hD ⊢
  have hA : ∀ q : Nat, s.heap.size ≤ q → A q := fun q h => by rw [← hAe]; exact Or.inr h
  clear hAe
  have hS : va_S A s.heap s.heap [] := va_S.rf
  have hl := lv_entry ([.ref (a h0), .ref (a x0), .int x1]) (n := 4) (Nat.le_of_ble_eq_true rfl)
  rw [lg_entry_eq]
  generalize (lg_sl ([.ref (a h0), .ref (a x0), .int x1]) ++ List.replicate (4 - (lg_sl ([.ref (a h0), .ref (a x0), .int x1])).length) Slot.unset).toArray = ls at hl ⊢
  replace hl : lv_has ls 4 [(0, .ref (a h0)), (1, .ref (a x0)), (2, .int x1)] := hl
  unfold fn_X4_pushFrame at hf
  refine de_start hS hP (fun H locs hS hP => ?_)
  refine lv_aload_n hx hb dX4_pushFrame_0 rfl (lv_at hl 0 rfl) ?_
  refine lv_dup hx hb dX4_pushFrame_1 rfl ?_
  obtain ⟨g_1, hf⟩ := grd_some hf
  obtain ⟨kg_1, sg_1⟩ := okO_at g_1
  refine va_get (D := (dC, dI)) (ci := 4) (v := .int (z.1 h0 12)) (C := RX4) (T := TX4) (N := 18) hx hb hts iwd_X4_pushFrame_X4 hown hK hP h0 (Wd_ob kg_1 sg_1 (by decide)) rfl 12 (by decide) (hts _ md_X4_pushFrame_1) (fun _ h9 => h9) (fl_at (t := 0) rfl) dX4_pushFrame_2 ?_
  refine lv_iconst (v := 1) hx hb dX4_pushFrame_5 (by decide) ?_
  refine lv_iadd hx hb dX4_pushFrame_6 ?_
  refine va_put (D := (dC, dI)) (ci := 4) (v := .int ((z.1 h0 12) + 1)) (ty := .int) (C := RX4) (T := TX4) (N := 18) hx hb hts iwd_X4_pushFrame_X4 tyX4 tyX4_ok nmX4 hown hK hP hD hS h0 (Wd_ob kg_1 sg_1 (by decide)) rfl 12 (by decide) (hts _ md_X4_pushFrame_1) (fun _ h9 => h9) rfl (by decide +kernel) rfl rfl (by rw [fl_len]; decide) dX4_pushFrame_7 (fun H_2 locs hP2 hD2 hS2 => ?_)
  rw [Wd_si sg_1 (by decide) rfl] at hP2 hD2
  obtain ⟨z_3, ez_3⟩ : ∃ w, w = si z h0 12 ((z.1 h0 12) + 1) := ⟨_, rfl⟩
  rw [← ez_3] at hP2 hD2
  replace hf := lt_at ez_3 hf
  clear ez_3
  replace hP := hP2
  replace hD := hD2
  replace hS := hS2
  clear hP2 hD2 hS2
  refine lv_aload_n hx hb dX4_pushFrame_10 rfl (lv_at hl 0 rfl) ?_
  obtain ⟨k_4, ek_4, hf⟩ := lnk_some hf
  refine va_get (D := (dC, dI)) (ci := 4) (v := .ref (a k_4)) (C := RX4) (T := TX4) (N := 18) hx hb hts iwd_X4_pushFrame_X4 hown hK hP h0 (Wd_ob kg_1 sg_1 (by decide)) rfl 6 (by decide) (hts _ md_X4_pushFrame_2) (fun _ h9 => h9) (fl_q rfl ek_4) dX4_pushFrame_11 ?_
  refine lv_aload_n hx hb dX4_pushFrame_14 rfl (lv_at hl 0 rfl) ?_
  refine va_get (D := (dC, dI)) (ci := 4) (v := .int (z_3.1 h0 12)) (C := RX4) (T := TX4) (N := 18) hx hb hts iwd_X4_pushFrame_X4 hown hK hP h0 (Wd_ob kg_1 sg_1 (by decide)) rfl 12 (by decide) (hts _ md_X4_pushFrame_1) (fun _ h9 => h9) (fl_at (t := 0) rfl) dX4_pushFrame_15 ?_
  refine lv_aload_n hx hb dX4_pushFrame_18 rfl (lv_at hl 1 rfl) ?_
  obtain ⟨g_5, hf⟩ := grd_some hf
  obtain ⟨kg_5, sg_5, ig_5⟩ := okA_at g_5
  obtain ⟨g_6, hf⟩ := grd_some hf
  obtain ⟨kg_6, sg_6⟩ := okO_at g_6
  refine va_astq hx hb hK hP hD hS k_4 4 x0 5 (Wd_aq kg_5 sg_5 (by decide)) rfl (Wd_ob kg_6 sg_6 (by decide)) rfl ig_5 dX4_pushFrame_19 (fun H_7 locs hP2 hD2 hS2 => ?_)
  rw [Wd_tq sg_5 (by decide)] at hP2 hD2
  obtain ⟨z_8, ez_8⟩ : ∃ w, w = sq z_3 k_4 (z_3.1 h0 12).toNatClampNeg (some x0) := ⟨_, rfl⟩
  rw [← ez_8] at hP2 hD2
  replace hf := lt_at ez_8 hf
  clear ez_8
  replace hP := hP2
  replace hD := hD2
  replace hS := hS2
  clear hP2 hD2 hS2
  refine lv_aload_n hx hb dX4_pushFrame_20 rfl (lv_at hl 0 rfl) ?_
  obtain ⟨k_9, ek_9, hf⟩ := lnk_some hf
  refine va_get (D := (dC, dI)) (ci := 4) (v := .ref (a k_9)) (C := RX4) (T := TX4) (N := 18) hx hb hts iwd_X4_pushFrame_X4 hown hK hP h0 (Wd_ob kg_1 sg_1 (by decide)) rfl 7 (by decide) (hts _ md_X4_pushFrame_3) (fun _ h9 => h9) (fl_q rfl ek_9) dX4_pushFrame_21 ?_
  refine lv_aload_n hx hb dX4_pushFrame_24 rfl (lv_at hl 0 rfl) ?_
  refine va_get (D := (dC, dI)) (ci := 4) (v := .int (z_8.1 h0 12)) (C := RX4) (T := TX4) (N := 18) hx hb hts iwd_X4_pushFrame_X4 hown hK hP h0 (Wd_ob kg_1 sg_1 (by decide)) rfl 12 (by decide) (hts _ md_X4_pushFrame_1) (fun _ h9 => h9) (fl_at (t := 0) rfl) dX4_pushFrame_25 ?_
  refine lv_iload_n hx hb dX4_pushFrame_28 rfl (lv_at hl 2 rfl) ?_
  obtain ⟨g_10, hf⟩ := grd_some hf
  obtain ⟨kg_10, sg_10, ig_10⟩ := okA_at g_10
  refine va_iast hx hb hK hP hD hS k_9 1 (Wd_ai kg_10 sg_10) rfl ig_10 dX4_pushFrame_29 (fun H_11 locs hP2 hD2 hS2 => ?_)
  rw [Wd_ti sg_10] at hP2 hD2
  obtain ⟨z_12, ez_12⟩ : ∃ w, w = si z_8 k_9 (z_8.1 h0 12).toNatClampNeg x1 := ⟨_, rfl⟩
  rw [← ez_12] at hP2 hD2
  replace hf := lt_at ez_12 hf
  clear ez_12
  replace hP := hP2
  replace hD := hD2
  replace hS := hS2
  clear hP2 hD2 hS2
  refine lv_aload_n hx hb dX4_pushFrame_30 rfl (lv_at hl 0 rfl) ?_
  obtain ⟨k_13, ek_13, hf⟩ := lnk_some hf
  refine va_get (D := (dC, dI)) (ci := 4) (v := .ref (a k_13)) (C := RX4) (T := TX4) (N := 18) hx hb hts iwd_X4_pushFrame_X4 hown hK hP h0 (Wd_ob kg_1 sg_1 (by decide)) rfl 8 (by decide) (hts _ md_X4_pushFrame_4) (fun _ h9 => h9) (fl_q rfl ek_13) dX4_pushFrame_31 ?_
  refine lv_aload_n hx hb dX4_pushFrame_34 rfl (lv_at hl 0 rfl) ?_
  refine va_get (D := (dC, dI)) (ci := 4) (v := .int (z_12.1 h0 12)) (C := RX4) (T := TX4) (N := 18) hx hb hts iwd_X4_pushFrame_X4 hown hK hP h0 (Wd_ob kg_1 sg_1 (by decide)) rfl 12 (by decide) (hts _ md_X4_pushFrame_1) (fun _ h9 => h9) (fl_at (t := 0) rfl) dX4_pushFrame_35 ?_
  refine lv_iconst (v := 0) hx hb dX4_pushFrame_38 (by decide) ?_
  obtain ⟨g_14, hf⟩ := grd_some hf
  obtain ⟨kg_14, sg_14, ig_14⟩ := okA_at g_14
  refine va_iast hx hb hK hP hD hS k_13 1 (Wd_ai kg_14 sg_14) rfl ig_14 dX4_pushFrame_39 (fun H_15 locs hP2 hD2 hS2 => ?_)
  rw [Wd_ti sg_14] at hP2 hD2
  obtain ⟨z_16, ez_16⟩ : ∃ w, w = si z_12 k_13 (z_12.1 h0 12).toNatClampNeg 0 := ⟨_, rfl⟩
  rw [← ez_16] at hP2 hD2
  replace hf := lt_at ez_16 hf
  clear ez_16
  replace hP := hP2
  replace hD := hD2
  replace hS := hS2
  clear hP2 hD2 hS2
  refine lv_aload_n hx hb dX4_pushFrame_40 rfl (lv_at hl 0 rfl) ?_
  obtain ⟨k_17, ek_17, hf⟩ := lnk_some hf
  refine va_get (D := (dC, dI)) (ci := 4) (v := .ref (a k_17)) (C := RX4) (T := TX4) (N := 18) hx hb hts iwd_X4_pushFrame_X4 hown hK hP h0 (Wd_ob kg_1 sg_1 (by decide)) rfl 9 (by decide) (hts _ md_X4_pushFrame_5) (fun _ h9 => h9) (fl_q rfl ek_17) dX4_pushFrame_41 ?_
  refine lv_aload_n hx hb dX4_pushFrame_44 rfl (lv_at hl 0 rfl) ?_
  refine va_get (D := (dC, dI)) (ci := 4) (v := .int (z_16.1 h0 12)) (C := RX4) (T := TX4) (N := 18) hx hb hts iwd_X4_pushFrame_X4 hown hK hP h0 (Wd_ob kg_1 sg_1 (by decide)) rfl 12 (by decide) (hts _ md_X4_pushFrame_1) (fun _ h9 => h9) (fl_at (t := 0) rfl) dX4_pushFrame_45 ?_
  refine lv_iconst (v := 0) hx hb dX4_pushFrame_48 (by decide) ?_
  obtain ⟨g_18, hf⟩ := grd_some hf
  obtain ⟨kg_18, sg_18, ig_18⟩ := okA_at g_18
  refine va_iast hx hb hK hP hD hS k_17 1 (Wd_ai kg_18 sg_18) rfl ig_18 dX4_pushFrame_49 (fun H_19 locs hP2 hD2 hS2 => ?_)
  rw [Wd_ti sg_18] at hP2 hD2
  obtain ⟨z_20, ez_20⟩ : ∃ w, w = si z_16 k_17 (z_16.1 h0 12).toNatClampNeg 0 := ⟨_, rfl⟩
  rw [← ez_20] at hP2 hD2
  replace hf := lt_at ez_20 hf
  clear ez_20
  replace hP := hP2
  replace hD := hD2
  replace hS := hS2
  clear hP2 hD2 hS2
  refine lv_iconst (v := 0) hx hb dX4_pushFrame_50 (by decide) ?_
  refine lv_istore_n (lv' := [(3, .int 0), (0, .ref (a h0)), (1, .ref (a x0)), (2, .int x1)]) hx hb dX4_pushFrame_51 rfl hl (by decide) rfl (fun ls hl2 => ?_)
  replace hl := hl2
  clear hl2
  have hl0 : lv_has ls 4 [(3, .int 0), (0, .ref (a h0))] := lv_sub hl [0, 1] rfl
  refine de_loop (h := 52) (fun (x : St × Int32) ls H locs => lv_has ls 4 [(3, .int x.2), (0, .ref (a h0))] ∧ va_P (dC, dI) vwCl (Wd cy a sh n x.1) H ∧ va_D A (Wd cy a sh n x.1) ∧ va_S A s.heap H locs) (fun f x => fn_X4_pushFrame_L52 F sh n h0 f x.1 x.2) (z8, r8) ?_ (fun _ => rfl) F (z_20, 0) ls H_19 locs ⟨hl0, hP, hD, hS⟩ hf
  intro f_23 x ls H locs ih52 hI hf
  obtain ⟨z_22, p_21⟩ := x
  obtain ⟨hl2, hP2, hD2, hS2⟩ := hI
  replace hl : lv_has ls 4 [(3, .int p_21), (0, .ref (a h0))] := hl2
  replace hP := hP2
  replace hD := hD2
  replace hS := hS2
  clear hl2 hP2 hD2 hS2 hl0
  replace hf := fn_X4_pushFrame_L52_s hf
  refine lv_iload_n hx hb dX4_pushFrame_52 rfl (lv_at hl 0 rfl) ?_
  refine lv_bipush (v := 40) hx hb dX4_pushFrame_53 (by decide) ?_
  refine lv_icmp_ge (tgt := 79) hx hb dX4_pushFrame_55 (by decide) (fun c_24 => ?_) (fun c_24 => ?_)
  · skip
    rw [if_pos c_24] at hf
    obtain ⟨h8, h9⟩ := ret_some hf
    rw [h8]
    exact W.vret hx hb hr (fun t ht hW => ⟨⟨(), rfl, trivial, by rw [ht]; exact hP, va_K.moved hW.alike hK, hD⟩, hS.F ht⟩) hS.2.2 dX4_pushFrame_79
  · skip
    rw [if_neg c_24] at hf
    refine lv_aload_n hx hb dX4_pushFrame_58 rfl (lv_at hl 1 rfl) ?_
    obtain ⟨k_25, ek_25, hf⟩ := lnk_some hf
    refine va_get (D := (dC, dI)) (ci := 4) (v := .ref (a k_25)) (C := RX4) (T := TX4) (N := 18) hx hb hts iwd_X4_pushFrame_X4 hown hK hP h0 (Wd_ob kg_1 sg_1 (by decide)) rfl 10 (by decide) (hts _ md_X4_pushFrame_6) (fun _ h9 => h9) (fl_q rfl ek_25) dX4_pushFrame_59 ?_
    refine lv_aload_n hx hb dX4_pushFrame_62 rfl (lv_at hl 1 rfl) ?_
    refine va_get (D := (dC, dI)) (ci := 4) (v := .int (z_22.1 h0 12)) (C := RX4) (T := TX4) (N := 18) hx hb hts iwd_X4_pushFrame_X4 hown hK hP h0 (Wd_ob kg_1 sg_1 (by decide)) rfl 12 (by decide) (hts _ md_X4_pushFrame_1) (fun _ h9 => h9) (fl_at (t := 0) rfl) dX4_pushFrame_63 ?_
    refine lv_bipush (v := 40) hx hb dX4_pushFrame_66 (by decide) ?_
    refine lv_imul hx hb dX4_pushFrame_68 ?_
    refine lv_iload_n hx hb dX4_pushFrame_69 rfl (lv_at hl 0 rfl) ?_
    refine lv_iadd hx hb dX4_pushFrame_70 ?_
    refine lv_iconst (v := 0) hx hb dX4_pushFrame_71 (by decide) ?_
    obtain ⟨g_26, hf⟩ := grd_some hf
    obtain ⟨kg_26, sg_26, ig_26⟩ := okA_at g_26
    refine va_iast hx hb hK hP hD hS k_25 1 (Wd_ai kg_26 sg_26) rfl ig_26 dX4_pushFrame_72 (fun H_27 locs hP2 hD2 hS2 => ?_)
    rw [Wd_ti sg_26] at hP2 hD2
    obtain ⟨z_28, ez_28⟩ : ∃ w, w = si z_22 k_25 (((z_22.1 h0 12) * 40) + p_21).toNatClampNeg 0 := ⟨_, rfl⟩
    rw [← ez_28] at hP2 hD2
    replace hf := lt_at ez_28 hf
    clear ez_28
    replace hP := hP2
    replace hD := hD2
    replace hS := hS2
    clear hP2 hD2 hS2
    refine lv_iinc (v := (p_21 + 1)) (lv' := [(3, .int (p_21 + 1)), (0, .ref (a h0))]) hx hb dX4_pushFrame_73 hl (k := 0) rfl rfl (by decide) rfl (fun ls hl2 => ?_)
    replace hl := hl2
    clear hl2
    refine lv_goto (tgt := 52) hx hb dX4_pushFrame_76 (by decide) ?_
    exact ih52 (z_28, (p_21 + 1)) ls H_27 locs ⟨lv_sub hl [0, 1] rfl, hP, hD, hS⟩ hf

theorem md_X1_make_1 : (.fieldLink RX1 26 "ResourceLedger$Heap" "used" "I" : Cond) ∈ wsX1_make := List.mem_of_getElem? (i := 1) rfl
theorem iwd_X1_make_X1 : ∀ w ∈ wsX10, w ∈ wsX1_make := fun _ h => List.mem_cons_of_mem _ (List.mem_append_right _ h)
theorem md_X1_make_2 : (.fieldLink RX1 30 "ResourceLedger$Heap" "slips" "I" : Cond) ∈ wsX1_make := List.mem_of_getElem? (i := 2) rfl
theorem md_X1_make_3 : (.fieldLink RX1 11 "ResourceLedger$Heap" "kind" "[B" : Cond) ∈ wsX1_make := List.mem_of_getElem? (i := 3) rfl
theorem md_X1_make_4 : (.fieldLink RX1 19 "ResourceLedger$Heap" "high" "[J" : Cond) ∈ wsX1_make := List.mem_of_getElem? (i := 4) rfl
theorem md_X1_make_5 : (.fieldLink RX1 15 "ResourceLedger$Heap" "low" "[J" : Cond) ∈ wsX1_make := List.mem_of_getElem? (i := 5) rfl
theorem md_X1_make_6 : (.fieldLink RX1 22 "ResourceLedger$Heap" "next" "[I" : Cond) ∈ wsX1_make := List.mem_of_getElem? (i := 6) rfl
set_option maxHeartbeats 4000000 in
set_option maxRecDepth 100000 in
theorem de_X1_make (l : Launch) (dC : Nat → ClassId) (dI : Nat → Nat → Nat) (cy : Nat → ClassId) (a : Nat → Nat) (sh : Nat → Nat × Nat) (n sz : Nat) (F : Nat) (z : St) (h0 : Nat) (x0 : Int32) (x1 : Int64) (x2 : Int64) {z8 : St} {r8 : Int32} (hf : fn_X1_make F sh n z h0 x0 x1 x2 = some (z8, r8)) : Met l yX1_make wsX1_make ({ frames := 0, cells := 0, slots := 0, locals := 0 }) (va_Pc [.ref (a h0), .int x0, .long x1, .long x2] (fun U => U.heap.size = sz ∧ va_P (dC, dI) vwCl (Wd cy a sh n z) U.heap ∧ va_K (dC, dI) vwCl (TYS cy) U ∧ va_D (fun _ => True) (Wd cy a sh n z) ∧ NK U)) (va_Qi (fun (r9 : Int32) (u : Unit) => r9 = r8) (fun u t => va_P (dC, dI) vwCl (Wd cy a sh n z8) t.heap ∧ va_K (dC, dI) vwCl (TYS cy) t ∧ va_D (va_A (Wd cy a sh n z) sz) (Wd cy a sh n z8)) (va_A (Wd cy a sh n z) sz)) 0 0 (va_A (Wd cy a sh n z) sz) := by
  refine Met.ofW (cc := cX1_make) (maxL := 6) (ret := (some .int)) (by decide) rfl ?_
  intro p e s m args below meth c s₁ B hml hv
  obtain ⟨rfl, hsz, hP, hK, hD0, hN⟩ := hv
  have hx := B.exec
  have hb := B.bytes
  have hr := B.returns
  have hts := atoms_spec (ws := wsX1_make) B.pre
  have hown : s.vm.findClass RX1 = some m.cls := findClass_of_methodNamed B.named
  have hlocks := B.notSynchronized
  subst hsz
  have hD := hD0.self (sz := s.heap.size)
  clear hD0
  generalize hAe : va_A (Wd cy a sh n z) s.heap.size = A at hD ⊢
  have hA : ∀ q : Nat, s.heap.size ≤ q → A q := fun q h => by rw [← hAe]; exact Or.inr h
  clear hAe
  have hS : va_S A s.heap s.heap [] := va_S.rf
  have hl := lv_entry ([.ref (a h0), .int x0, .long x1, .long x2]) (n := 6) (Nat.le_of_ble_eq_true rfl)
  rw [lg_entry_eq]
  generalize (lg_sl ([.ref (a h0), .int x0, .long x1, .long x2]) ++ List.replicate (6 - (lg_sl ([.ref (a h0), .int x0, .long x1, .long x2])).length) Slot.unset).toArray = ls at hl ⊢
  replace hl : lv_has ls 6 [(0, .ref (a h0)), (1, .int x0), (2, .long x1), (4, .long x2)] := hl
  unfold fn_X1_make at hf
  refine de_start hS hP (fun H locs hS hP => ?_)
  refine lv_aload_n hx hb dX1_make_0 rfl (lv_at hl 0 rfl) ?_
  obtain ⟨g_1, hf⟩ := grd_some hf
  obtain ⟨kg_1, sg_1⟩ := okO_at g_1
  refine va_get (D := (dC, dI)) (ci := 1) (v := .int (z.1 h0 4)) (C := RX1) (T := TX1) (N := 7) hx hb hts iwd_X1_make_X1 hown hK hP h0 (Wd_ob kg_1 sg_1 (by decide)) rfl 4 (by decide) (hts _ md_X1_make_1) (fun _ h9 => h9) (fl_at (t := 0) rfl) dX1_make_1 ?_
  refine lv_iconst (v := 1) hx hb dX1_make_4 (by decide) ?_
  refine de_cut (h := 18) (fun (x : St) => []) (fun x ls H locs => lv_has ls 6 [(0, .ref (a h0))] ∧ va_P (dC, dI) vwCl (Wd cy a sh n x) H ∧ va_D A (Wd cy a sh n x) ∧ va_S A s.heap H locs) (fun x => fn_X1_make_B18 F sh n h0 x) (z8, r8) ?_ (fun B18 => ?_)
  · intro x ls H locs hI hf
    obtain ⟨z_2, ez⟩ : ∃ w, w = x := ⟨_, rfl⟩
    subst ez
    obtain ⟨hl2, hP2, hD2, hS2⟩ := hI
    replace hl : lv_has ls 6 [(0, .ref (a h0))] := hl2
    replace hP := hP2
    replace hD := hD2
    replace hS := hS2
    clear hl2 hP2 hD2 hS2
    replace hf := fn_X1_make_B18_s hf
    refine W.eq (g2 := F0 m 18 ls []) rfl ?_
    refine lv_aload_n hx hb dX1_make_18 rfl (lv_at hl 0 rfl) ?_
    refine lv_dup hx hb dX1_make_19 rfl ?_
    refine va_get (D := (dC, dI)) (ci := 1) (v := .int (z_2.1 h0 6)) (C := RX1) (T := TX1) (N := 7) hx hb hts iwd_X1_make_X1 hown hK hP h0 (Wd_ob kg_1 sg_1 (by decide)) rfl 6 (by decide) (hts _ md_X1_make_2) (fun _ h9 => h9) (fl_at (t := 0) rfl) dX1_make_20 ?_
    refine lv_iconst (v := 1) hx hb dX1_make_23 (by decide) ?_
    refine lv_iadd hx hb dX1_make_24 ?_
    refine va_put (D := (dC, dI)) (ci := 1) (v := .int ((z_2.1 h0 6) + 1)) (ty := .int) (C := RX1) (T := TX1) (N := 7) hx hb hts iwd_X1_make_X1 tyX1 tyX1_ok nmX1 hown hK hP hD hS h0 (Wd_ob kg_1 sg_1 (by decide)) rfl 6 (by decide) (hts _ md_X1_make_2) (fun _ h9 => h9) rfl (by decide +kernel) rfl rfl (by rw [fl_len]; decide) dX1_make_25 (fun H_3 locs hP2 hD2 hS2 => ?_)
    rw [Wd_si sg_1 (by decide) rfl] at hP2 hD2
    obtain ⟨z_4, ez_4⟩ : ∃ w, w = si z_2 h0 6 ((z_2.1 h0 6) + 1) := ⟨_, rfl⟩
    rw [← ez_4] at hP2 hD2
    replace hf := lt_at ez_4 hf
    clear ez_4
    replace hP := hP2
    replace hD := hD2
    replace hS := hS2
    clear hP2 hD2 hS2
    refine lv_iconst (v := 0) hx hb dX1_make_28 (by decide) ?_
    obtain ⟨h8, h9⟩ := ret_some hf
    rw [h8, h9]
    exact W.iret (v := 0) hx hb hr (fun t ht hW => ⟨⟨0, (), rfl, rfl, by rw [ht]; exact hP, va_K.moved hW.alike hK, hD⟩, hS.F ht⟩) hS.2.2 dX1_make_29
  refine lv_icmp_lt (tgt := 18) hx hb dX1_make_5 (by decide) (fun c_5 => ?_) (fun c_5 => ?_)
  · skip
    rw [if_pos c_5] at hf
    exact B18 (z) ls H locs ⟨lv_sub hl [0] rfl, hP, hD, hS⟩ hf
  · skip
    rw [if_neg c_5] at hf
    refine lv_aload_n hx hb dX1_make_8 rfl (lv_at hl 0 rfl) ?_
    refine va_get (D := (dC, dI)) (ci := 1) (v := .int (z.1 h0 4)) (C := RX1) (T := TX1) (N := 7) hx hb hts iwd_X1_make_X1 hown hK hP h0 (Wd_ob kg_1 sg_1 (by decide)) rfl 4 (by decide) (hts _ md_X1_make_1) (fun _ h9 => h9) (fl_at (t := 0) rfl) dX1_make_9 ?_
    refine lv_sipush (v := 21600) hx hb dX1_make_12 (by decide) ?_
    refine lv_icmp_lt (tgt := 30) hx hb dX1_make_15 (by decide) (fun c_6 => ?_) (fun c_6 => ?_)
    · skip
      rw [if_pos c_6] at hf
      refine lv_aload_n hx hb dX1_make_30 rfl (lv_at hl 0 rfl) ?_
      obtain ⟨k_7, ek_7, hf⟩ := lnk_some hf
      refine va_get (D := (dC, dI)) (ci := 1) (v := .ref (a k_7)) (C := RX1) (T := TX1) (N := 7) hx hb hts iwd_X1_make_X1 hown hK hP h0 (Wd_ob kg_1 sg_1 (by decide)) rfl 0 (by decide) (hts _ md_X1_make_3) (fun _ h9 => h9) (fl_q rfl ek_7) dX1_make_31 ?_
      refine lv_aload_n hx hb dX1_make_34 rfl (lv_at hl 0 rfl) ?_
      refine va_get (D := (dC, dI)) (ci := 1) (v := .int (z.1 h0 4)) (C := RX1) (T := TX1) (N := 7) hx hb hts iwd_X1_make_X1 hown hK hP h0 (Wd_ob kg_1 sg_1 (by decide)) rfl 4 (by decide) (hts _ md_X1_make_1) (fun _ h9 => h9) (fl_at (t := 0) rfl) dX1_make_35 ?_
      refine lv_iload_n hx hb dX1_make_38 rfl (lv_at hl 1 rfl) ?_
      refine lv_i2b (v := (x0 : Int32).toInt8.toInt32) hx hb dX1_make_39 rfl ?_
      obtain ⟨g_8, hf⟩ := grd_some hf
      obtain ⟨kg_8, sg_8, ig_8⟩ := okA_at g_8
      refine va_bast hx hb hK hP hD hS k_7 0 (Wd_ab kg_8 sg_8) rfl ig_8 dX1_make_40 (fun H_9 locs hP2 hD2 hS2 => ?_)
      rw [Wd_tb sg_8] at hP2 hD2
      obtain ⟨z_10, ez_10⟩ : ∃ w, w = si z k_7 (z.1 h0 4).toNatClampNeg (vp_nar .byte ((x0 : Int32).toInt8.toInt32)) := ⟨_, rfl⟩
      rw [← ez_10] at hP2 hD2
      replace hf := lt_at ez_10 hf
      clear ez_10
      replace hP := hP2
      replace hD := hD2
      replace hS := hS2
      clear hP2 hD2 hS2
      refine lv_aload_n hx hb dX1_make_41 rfl (lv_at hl 0 rfl) ?_
      obtain ⟨k_11, ek_11, hf⟩ := lnk_some hf
      refine va_get (D := (dC, dI)) (ci := 1) (v := .ref (a k_11)) (C := RX1) (T := TX1) (N := 7) hx hb hts iwd_X1_make_X1 hown hK hP h0 (Wd_ob kg_1 sg_1 (by decide)) rfl 2 (by decide) (hts _ md_X1_make_4) (fun _ h9 => h9) (fl_q rfl ek_11) dX1_make_42 ?_
      refine lv_aload_n hx hb dX1_make_45 rfl (lv_at hl 0 rfl) ?_
      refine va_get (D := (dC, dI)) (ci := 1) (v := .int (z_10.1 h0 4)) (C := RX1) (T := TX1) (N := 7) hx hb hts iwd_X1_make_X1 hown hK hP h0 (Wd_ob kg_1 sg_1 (by decide)) rfl 4 (by decide) (hts _ md_X1_make_1) (fun _ h9 => h9) (fl_at (t := 0) rfl) dX1_make_46 ?_
      refine lv_lload_n hx hb dX1_make_49 rfl (lv_at hl 2 rfl) ?_
      obtain ⟨g_12, hf⟩ := grd_some hf
      obtain ⟨kg_12, sg_12, ig_12⟩ := okA_at g_12
      refine va_last hx hb hK hP hD hS k_11 2 (Wd_al kg_12 sg_12) rfl ig_12 dX1_make_50 (fun H_13 locs hP2 hD2 hS2 => ?_)
      rw [Wd_tl sg_12] at hP2 hD2
      obtain ⟨z_14, ez_14⟩ : ∃ w, w = sl z_10 k_11 (z_10.1 h0 4).toNatClampNeg x1 := ⟨_, rfl⟩
      rw [← ez_14] at hP2 hD2
      replace hf := lt_at ez_14 hf
      clear ez_14
      replace hP := hP2
      replace hD := hD2
      replace hS := hS2
      clear hP2 hD2 hS2
      refine lv_aload_n hx hb dX1_make_51 rfl (lv_at hl 0 rfl) ?_
      obtain ⟨k_15, ek_15, hf⟩ := lnk_some hf
      refine va_get (D := (dC, dI)) (ci := 1) (v := .ref (a k_15)) (C := RX1) (T := TX1) (N := 7) hx hb hts iwd_X1_make_X1 hown hK hP h0 (Wd_ob kg_1 sg_1 (by decide)) rfl 1 (by decide) (hts _ md_X1_make_5) (fun _ h9 => h9) (fl_q rfl ek_15) dX1_make_52 ?_
      refine lv_aload_n hx hb dX1_make_55 rfl (lv_at hl 0 rfl) ?_
      refine va_get (D := (dC, dI)) (ci := 1) (v := .int (z_14.1 h0 4)) (C := RX1) (T := TX1) (N := 7) hx hb hts iwd_X1_make_X1 hown hK hP h0 (Wd_ob kg_1 sg_1 (by decide)) rfl 4 (by decide) (hts _ md_X1_make_1) (fun _ h9 => h9) (fl_at (t := 0) rfl) dX1_make_56 ?_
      refine lv_lload hx hb dX1_make_59 (lv_at hl 3 rfl) ?_
      obtain ⟨g_16, hf⟩ := grd_some hf
      obtain ⟨kg_16, sg_16, ig_16⟩ := okA_at g_16
      refine va_last hx hb hK hP hD hS k_15 2 (Wd_al kg_16 sg_16) rfl ig_16 dX1_make_61 (fun H_17 locs hP2 hD2 hS2 => ?_)
      rw [Wd_tl sg_16] at hP2 hD2
      obtain ⟨z_18, ez_18⟩ : ∃ w, w = sl z_14 k_15 (z_14.1 h0 4).toNatClampNeg x2 := ⟨_, rfl⟩
      rw [← ez_18] at hP2 hD2
      replace hf := lt_at ez_18 hf
      clear ez_18
      replace hP := hP2
      replace hD := hD2
      replace hS := hS2
      clear hP2 hD2 hS2
      refine lv_aload_n hx hb dX1_make_62 rfl (lv_at hl 0 rfl) ?_
      obtain ⟨k_19, ek_19, hf⟩ := lnk_some hf
      refine va_get (D := (dC, dI)) (ci := 1) (v := .ref (a k_19)) (C := RX1) (T := TX1) (N := 7) hx hb hts iwd_X1_make_X1 hown hK hP h0 (Wd_ob kg_1 sg_1 (by decide)) rfl 3 (by decide) (hts _ md_X1_make_6) (fun _ h9 => h9) (fl_q rfl ek_19) dX1_make_63 ?_
      refine lv_aload_n hx hb dX1_make_66 rfl (lv_at hl 0 rfl) ?_
      refine va_get (D := (dC, dI)) (ci := 1) (v := .int (z_18.1 h0 4)) (C := RX1) (T := TX1) (N := 7) hx hb hts iwd_X1_make_X1 hown hK hP h0 (Wd_ob kg_1 sg_1 (by decide)) rfl 4 (by decide) (hts _ md_X1_make_1) (fun _ h9 => h9) (fl_at (t := 0) rfl) dX1_make_67 ?_
      refine lv_iconst (v := 0) hx hb dX1_make_70 (by decide) ?_
      obtain ⟨g_20, hf⟩ := grd_some hf
      obtain ⟨kg_20, sg_20, ig_20⟩ := okA_at g_20
      refine va_iast hx hb hK hP hD hS k_19 1 (Wd_ai kg_20 sg_20) rfl ig_20 dX1_make_71 (fun H_21 locs hP2 hD2 hS2 => ?_)
      rw [Wd_ti sg_20] at hP2 hD2
      obtain ⟨z_22, ez_22⟩ : ∃ w, w = si z_18 k_19 (z_18.1 h0 4).toNatClampNeg 0 := ⟨_, rfl⟩
      rw [← ez_22] at hP2 hD2
      replace hf := lt_at ez_22 hf
      clear ez_22
      replace hP := hP2
      replace hD := hD2
      replace hS := hS2
      clear hP2 hD2 hS2
      refine lv_aload_n hx hb dX1_make_72 rfl (lv_at hl 0 rfl) ?_
      refine lv_dup hx hb dX1_make_73 rfl ?_
      refine va_get (D := (dC, dI)) (ci := 1) (v := .int (z_22.1 h0 4)) (C := RX1) (T := TX1) (N := 7) hx hb hts iwd_X1_make_X1 hown hK hP h0 (Wd_ob kg_1 sg_1 (by decide)) rfl 4 (by decide) (hts _ md_X1_make_1) (fun _ h9 => h9) (fl_at (t := 0) rfl) dX1_make_74 ?_
      refine lv_topi (fun v_23 ev_23 => ?_)
      replace hf := lt_at ev_23 hf
      clear ev_23
      refine lv_dup_x1 hx hb dX1_make_77 rfl rfl ?_
      refine lv_iconst (v := 1) hx hb dX1_make_78 (by decide) ?_
      refine lv_iadd hx hb dX1_make_79 ?_
      refine va_put (D := (dC, dI)) (ci := 1) (v := .int (v_23 + 1)) (ty := .int) (C := RX1) (T := TX1) (N := 7) hx hb hts iwd_X1_make_X1 tyX1 tyX1_ok nmX1 hown hK hP hD hS h0 (Wd_ob kg_1 sg_1 (by decide)) rfl 4 (by decide) (hts _ md_X1_make_1) (fun _ h9 => h9) rfl (by decide +kernel) rfl rfl (by rw [fl_len]; decide) dX1_make_80 (fun H_24 locs hP2 hD2 hS2 => ?_)
      rw [Wd_si sg_1 (by decide) rfl] at hP2 hD2
      obtain ⟨z_25, ez_25⟩ : ∃ w, w = si z_22 h0 4 (v_23 + 1) := ⟨_, rfl⟩
      rw [← ez_25] at hP2 hD2
      replace hf := lt_at ez_25 hf
      clear ez_25
      replace hP := hP2
      replace hD := hD2
      replace hS := hS2
      clear hP2 hD2 hS2
      obtain ⟨h8, h9⟩ := ret_some hf
      rw [h8, h9]
      exact W.iret (v := v_23) hx hb hr (fun t ht hW => ⟨⟨v_23, (), rfl, rfl, by rw [ht]; exact hP, va_K.moved hW.alike hK, hD⟩, hS.F ht⟩) hS.2.2 dX1_make_83
    · skip
      rw [if_neg c_6] at hf
      exact B18 (z) ls H locs ⟨lv_sub hl [0] rfl, hP, hD, hS⟩ hf

theorem md_X9_firstDifference_1 : (.fieldLink RX9 22 "ResourceLedger$Tree" "rows" "[J" : Cond) ∈ wsX9_firstDifference := List.mem_of_getElem? (i := 1) rfl
theorem iwd_X9_firstDifference_X9 : ∀ w ∈ wsX90, w ∈ wsX9_firstDifference := fun _ h => List.mem_cons_of_mem _ (List.mem_append_right _ h)
set_option maxHeartbeats 4000000 in
set_option maxRecDepth 100000 in
theorem de_X9_firstDifference (l : Launch) (dC : Nat → ClassId) (dI : Nat → Nat → Nat) (cy : Nat → ClassId) (a : Nat → Nat) (sh : Nat → Nat × Nat) (n sz : Nat) (F : Nat) (z : St) (h0 : Nat) (x0 : Int32) (x1 : Int32) {z8 : St} {r8 : Int32} (hf : fn_X9_firstDifference F sh n z h0 x0 x1 = some (z8, r8)) : Met l yX9_firstDifference wsX9_firstDifference ({ frames := 0, cells := 0, slots := 0, locals := 0 }) (va_Pc [.ref (a h0), .int x0, .int x1] (fun U => U.heap.size = sz ∧ va_P (dC, dI) vwCl (Wd cy a sh n z) U.heap ∧ va_K (dC, dI) vwCl (TYS cy) U ∧ va_D (fun _ => True) (Wd cy a sh n z) ∧ NK U)) (va_Qi (fun (r9 : Int32) (u : Unit) => r9 = r8) (fun u t => va_P (dC, dI) vwCl (Wd cy a sh n z8) t.heap ∧ va_K (dC, dI) vwCl (TYS cy) t ∧ va_D (va_A (Wd cy a sh n z) sz) (Wd cy a sh n z8)) (va_A (Wd cy a sh n z) sz)) 0 0 (va_A (Wd cy a sh n z) sz) := by
  refine Met.ofW (cc := cX9_firstDifference) (maxL := 7) (ret := (some .int)) (by decide) rfl ?_
  intro p e s m args below meth c s₁ B hml hv
  obtain ⟨rfl, hsz, hP, hK, hD0, hN⟩ := hv
  have hx := B.exec
  have hb := B.bytes
  have hr := B.returns
  have hts := atoms_spec (ws := wsX9_firstDifference) B.pre
  have hown : s.vm.findClass RX9 = some m.cls := findClass_of_methodNamed B.named
  have hlocks := B.notSynchronized
  subst hsz
  have hD := hD0.self (sz := s.heap.size)
  clear hD0
  generalize hAe : va_A (Wd cy a sh n z) s.heap.size = A at hD ⊢
  have hA : ∀ q : Nat, s.heap.size ≤ q → A q := fun q h => by rw [← hAe]; exact Or.inr h
  clear hAe
  have hS : va_S A s.heap s.heap [] := va_S.rf
  have hl := lv_entry ([.ref (a h0), .int x0, .int x1]) (n := 7) (Nat.le_of_ble_eq_true rfl)
  rw [lg_entry_eq]
  generalize (lg_sl ([.ref (a h0), .int x0, .int x1]) ++ List.replicate (7 - (lg_sl ([.ref (a h0), .int x0, .int x1])).length) Slot.unset).toArray = ls at hl ⊢
  replace hl : lv_has ls 7 [(0, .ref (a h0)), (1, .int x0), (2, .int x1)] := hl
  unfold fn_X9_firstDifference at hf
  refine de_start hS hP (fun H locs hS hP => ?_)
  refine lv_iconst (v := 0) hx hb dX9_firstDifference_0 (by decide) ?_
  refine lv_istore_n (lv' := [(3, .int 0), (0, .ref (a h0)), (1, .int x0), (2, .int x1)]) hx hb dX9_firstDifference_1 rfl hl (by decide) rfl (fun ls hl2 => ?_)
  replace hl := hl2
  clear hl2
  have hl0 : lv_has ls 7 [(3, .int 0), (0, .ref (a h0)), (1, .int x0), (2, .int x1)] := lv_sub hl [0, 1, 2, 3] rfl
  refine de_loop (h := 2) (fun (x : St × Int32) ls H locs => lv_has ls 7 [(3, .int x.2), (0, .ref (a h0)), (1, .int x0), (2, .int x1)] ∧ va_P (dC, dI) vwCl (Wd cy a sh n x.1) H ∧ va_D A (Wd cy a sh n x.1) ∧ va_S A s.heap H locs) (fun f x => fn_X9_firstDifference_L2 F sh n h0 x0 x1 f x.1 x.2) (z8, r8) ?_ (fun _ => rfl) F (z, 0) ls H locs ⟨hl0, hP, hD, hS⟩ hf
  intro f_3 x ls H locs ih2 hI hf
  obtain ⟨z_2, p_1⟩ := x
  obtain ⟨hl2, hP2, hD2, hS2⟩ := hI
  replace hl : lv_has ls 7 [(3, .int p_1), (0, .ref (a h0)), (1, .int x0), (2, .int x1)] := hl2
  replace hP := hP2
  replace hD := hD2
  replace hS := hS2
  clear hl2 hP2 hD2 hS2 hl0
  replace hf := fn_X9_firstDifference_L2_s hf
  refine lv_iload_n hx hb dX9_firstDifference_2 rfl (lv_at hl 0 rfl) ?_
  refine lv_iconst (v := 4) hx hb dX9_firstDifference_3 (by decide) ?_
  refine lv_icmp_ge (tgt := 79) hx hb dX9_firstDifference_4 (by decide) (fun c_4 => ?_) (fun c_4 => ?_)
  · skip
    rw [if_pos c_4] at hf
    refine lv_sipush (v := 256) hx hb dX9_firstDifference_79 (by decide) ?_
    obtain ⟨h8, h9⟩ := ret_some hf
    rw [h8, h9]
    exact W.iret (v := 256) hx hb hr (fun t ht hW => ⟨⟨256, (), rfl, rfl, by rw [ht]; exact hP, va_K.moved hW.alike hK, hD⟩, hS.F ht⟩) hS.2.2 dX9_firstDifference_82
  · skip
    rw [if_neg c_4] at hf
    refine lv_aload_n hx hb dX9_firstDifference_7 rfl (lv_at hl 1 rfl) ?_
    obtain ⟨g_5, hf⟩ := grd_some hf
    obtain ⟨kg_5, sg_5⟩ := okO_at g_5
    obtain ⟨k_6, ek_6, hf⟩ := lnk_some hf
    refine va_get (D := (dC, dI)) (ci := 9) (v := .ref (a k_6)) (C := RX9) (T := TX9) (N := 13) hx hb hts iwd_X9_firstDifference_X9 hown hK hP h0 (Wd_ob kg_5 sg_5 (by decide)) rfl 3 (by decide) (hts _ md_X9_firstDifference_1) (fun _ h9 => h9) (fl_q rfl ek_6) dX9_firstDifference_8 ?_
    refine lv_iload_n hx hb dX9_firstDifference_11 rfl (lv_at hl 2 rfl) ?_
    refine lv_bipush (v := 7) hx hb dX9_firstDifference_12 (by decide) ?_
    refine lv_imul hx hb dX9_firstDifference_14 ?_
    refine lv_iload_n hx hb dX9_firstDifference_15 rfl (lv_at hl 0 rfl) ?_
    refine lv_iadd hx hb dX9_firstDifference_16 ?_
    obtain ⟨g_7, hf⟩ := grd_some hf
    obtain ⟨kg_7, sg_7, ig_7⟩ := okA_at g_7
    refine va_lald hx hb hK hP k_6 2 (Wd_al kg_7 sg_7) rfl ig_7 dX9_firstDifference_17 ?_
    refine lv_aload_n hx hb dX9_firstDifference_18 rfl (lv_at hl 1 rfl) ?_
    obtain ⟨k_8, ek_8, hf⟩ := lnk_some hf
    refine va_get (D := (dC, dI)) (ci := 9) (v := .ref (a k_8)) (C := RX9) (T := TX9) (N := 13) hx hb hts iwd_X9_firstDifference_X9 hown hK hP h0 (Wd_ob kg_5 sg_5 (by decide)) rfl 3 (by decide) (hts _ md_X9_firstDifference_1) (fun _ h9 => h9) (fl_q rfl ek_8) dX9_firstDifference_19 ?_
    refine lv_iload_n hx hb dX9_firstDifference_22 rfl (lv_at hl 3 rfl) ?_
    refine lv_bipush (v := 7) hx hb dX9_firstDifference_23 (by decide) ?_
    refine lv_imul hx hb dX9_firstDifference_25 ?_
    refine lv_iload_n hx hb dX9_firstDifference_26 rfl (lv_at hl 0 rfl) ?_
    refine lv_iadd hx hb dX9_firstDifference_27 ?_
    obtain ⟨g_9, hf⟩ := grd_some hf
    obtain ⟨kg_9, sg_9, ig_9⟩ := okA_at g_9
    refine va_lald hx hb hK hP k_8 2 (Wd_al kg_9 sg_9) rfl ig_9 dX9_firstDifference_28 ?_
    refine lv_lxor hx hb dX9_firstDifference_29 ?_
    refine lv_topl (fun v_10 ev_10 => ?_)
    replace hf := lt_at ev_10 hf
    clear ev_10
    refine lv_lstore (lv' := [(4, .long v_10), (3, .int p_1), (0, .ref (a h0)), (1, .int x0), (2, .int x1)]) hx hb dX9_firstDifference_30 hl (by decide) rfl (fun ls hl2 => ?_)
    replace hl := hl2
    clear hl2
    refine lv_iconst (v := 0) hx hb dX9_firstDifference_32 (by decide) ?_
    refine lv_istore (lv' := [(6, .int 0), (4, .long v_10), (3, .int p_1), (0, .ref (a h0)), (1, .int x0), (2, .int x1)]) hx hb dX9_firstDifference_33 hl (by decide) rfl (fun ls hl2 => ?_)
    replace hl := hl2
    clear hl2
    have hl0 : lv_has ls 7 [(6, .int 0), (4, .long v_10), (3, .int p_1), (0, .ref (a h0)), (1, .int x0), (2, .int x1)] := lv_sub hl [0, 1, 2, 3, 4, 5] rfl
    refine de_loop (h := 35) (fun (x : St × Int32) ls H locs => lv_has ls 7 [(6, .int x.2), (4, .long v_10), (3, .int p_1), (0, .ref (a h0)), (1, .int x0), (2, .int x1)] ∧ va_P (dC, dI) vwCl (Wd cy a sh n x.1) H ∧ va_D A (Wd cy a sh n x.1) ∧ va_S A s.heap H locs) (fun f x => fn_X9_firstDifference_L35 F sh n p_1 v_10 (fun z9 q3 => fn_X9_firstDifference_L2 F sh n h0 x0 x1 f_3 z9 q3) f x.1 x.2) (z8, r8) ?_ (fun _ => rfl) F (z_2, 0) ls H locs ⟨hl0, hP, hD, hS⟩ hf
    intro f_13 x ls H locs ih35 hI hf
    obtain ⟨z_12, p_11⟩ := x
    obtain ⟨hl2, hP2, hD2, hS2⟩ := hI
    replace hl : lv_has ls 7 [(6, .int p_11), (4, .long v_10), (3, .int p_1), (0, .ref (a h0)), (1, .int x0), (2, .int x1)] := hl2
    replace hP := hP2
    replace hD := hD2
    replace hS := hS2
    clear hl2 hP2 hD2 hS2 hl0
    replace hf := fn_X9_firstDifference_L35_s hf
    refine lv_iload hx hb dX9_firstDifference_35 (lv_at hl 0 rfl) ?_
    refine lv_bipush (v := 64) hx hb dX9_firstDifference_37 (by decide) ?_
    refine de_cut (h := 73) (fun (x : St) => []) (fun x ls H locs => lv_has ls 7 [(3, .int p_1), (0, .ref (a h0)), (1, .int x0), (2, .int x1)] ∧ va_P (dC, dI) vwCl (Wd cy a sh n x) H ∧ va_D A (Wd cy a sh n x) ∧ va_S A s.heap H locs) (fun x => fn_X9_firstDifference_B73 F sh n p_1 (fun z9 q3 => fn_X9_firstDifference_L2 F sh n h0 x0 x1 f_3 z9 q3) x) (z8, r8) ?_ (fun B73 => ?_)
    · intro x ls H locs hI hf
      obtain ⟨z_14, ez⟩ : ∃ w, w = x := ⟨_, rfl⟩
      subst ez
      obtain ⟨hl2, hP2, hD2, hS2⟩ := hI
      replace hl : lv_has ls 7 [(3, .int p_1), (0, .ref (a h0)), (1, .int x0), (2, .int x1)] := hl2
      replace hP := hP2
      replace hD := hD2
      replace hS := hS2
      clear hl2 hP2 hD2 hS2
      replace hf := fn_X9_firstDifference_B73_s hf
      refine W.eq (g2 := F0 m 73 ls []) rfl ?_
      refine lv_iinc (v := (p_1 + 1)) (lv' := [(3, .int (p_1 + 1)), (0, .ref (a h0)), (1, .int x0), (2, .int x1)]) hx hb dX9_firstDifference_73 hl (k := 0) rfl rfl (by decide) rfl (fun ls hl2 => ?_)
      replace hl := hl2
      clear hl2
      refine lv_goto (tgt := 2) hx hb dX9_firstDifference_76 (by decide) ?_
      exact ih2 (z_14, (p_1 + 1)) ls H locs ⟨lv_sub hl [0, 1, 2, 3] rfl, hP, hD, hS⟩ hf
    refine lv_icmp_ge (tgt := 73) hx hb dX9_firstDifference_39 (by decide) (fun c_15 => ?_) (fun c_15 => ?_)
    · skip
      rw [if_pos c_15] at hf
      exact B73 (z_12) ls H locs ⟨lv_sub hl [2, 3, 4, 5] rfl, hP, hD, hS⟩ hf
    · skip
      rw [if_neg c_15] at hf
      refine lv_lload hx hb dX9_firstDifference_42 (lv_at hl 1 rfl) ?_
      refine lv_lconst (v := 0) hx hb dX9_firstDifference_44 (by decide) ?_
      refine W.lcmp hx hb dX9_firstDifference_45 ?_
      refine lv_if_eq (tgt := 73) hx hb dX9_firstDifference_46 (by decide) (fun c_16 => ?_) (fun c_16 => ?_)
      · skip
        rw [lg_cmp_eq] at c_16
        rw [if_pos c_16] at hf
        exact B73 (z_12) ls H locs ⟨lv_sub hl [2, 3, 4, 5] rfl, hP, hD, hS⟩ hf
      · skip
        rw [lg_cmp_eq] at c_16
        rw [if_neg c_16] at hf
        refine lv_lload hx hb dX9_firstDifference_49 (lv_at hl 1 rfl) ?_
        refine lv_iload hx hb dX9_firstDifference_51 (lv_at hl 0 rfl) ?_
        refine lv_lshl (v := (v_10 <<< ((p_11 : Int32).toInt64 &&& 63))) hx hb dX9_firstDifference_53 rfl ?_
        refine lv_lconst (v := 0) hx hb dX9_firstDifference_54 (by decide) ?_
        refine W.lcmp hx hb dX9_firstDifference_55 ?_
        refine lv_if_ge (tgt := 67) hx hb dX9_firstDifference_56 (by decide) (fun c_17 => ?_) (fun c_17 => ?_)
        · skip
          rw [lg_cmp_ge] at c_17
          rw [if_pos c_17] at hf
          refine lv_iinc (v := (p_11 + 1)) (lv' := [(6, .int (p_11 + 1)), (4, .long v_10), (3, .int p_1), (0, .ref (a h0)), (1, .int x0), (2, .int x1)]) hx hb dX9_firstDifference_67 hl (k := 0) rfl rfl (by decide) rfl (fun ls hl2 => ?_)
          replace hl := hl2
          clear hl2
          refine lv_goto (tgt := 35) hx hb dX9_firstDifference_70 (by decide) ?_
          exact ih35 (z_12, (p_11 + 1)) ls H locs ⟨lv_sub hl [0, 1, 2, 3, 4, 5] rfl, hP, hD, hS⟩ hf
        · skip
          rw [lg_cmp_ge] at c_17
          rw [if_neg c_17] at hf
          refine lv_iload_n hx hb dX9_firstDifference_59 rfl (lv_at hl 2 rfl) ?_
          refine lv_bipush (v := 64) hx hb dX9_firstDifference_60 (by decide) ?_
          refine lv_imul hx hb dX9_firstDifference_62 ?_
          refine lv_iload hx hb dX9_firstDifference_63 (lv_at hl 0 rfl) ?_
          refine lv_iadd hx hb dX9_firstDifference_65 ?_
          obtain ⟨h8, h9⟩ := ret_some hf
          rw [h8, h9]
          exact W.iret (v := ((p_1 * 64) + p_11)) hx hb hr (fun t ht hW => ⟨⟨((p_1 * 64) + p_11), (), rfl, rfl, by rw [ht]; exact hP, va_K.moved hW.alike hK, hD⟩, hS.F ht⟩) hS.2.2 dX9_firstDifference_66

theorem md_X14_agree_1 : (.fieldLink RX14 7 "ResourceLedgerModel$Roots" "keys" "[J" : Cond) ∈ wsX14_agree := List.mem_of_getElem? (i := 1) rfl
theorem iwd_X14_agree_X14 : ∀ w ∈ wsX140, w ∈ wsX14_agree := fun _ h => List.mem_cons_of_mem _ (List.mem_append_right _ h)
set_option maxHeartbeats 4000000 in
set_option maxRecDepth 100000 in
theorem de_X14_agree (l : Launch) (dC : Nat → ClassId) (dI : Nat → Nat → Nat) (cy : Nat → ClassId) (a : Nat → Nat) (sh : Nat → Nat × Nat) (n sz : Nat) (F : Nat) (z : St) (h0 : Nat) (x0 : Int32) (x1 : Int32) (x2 : Int32) {z8 : St} {r8 : Int32} (hf : fn_X14_agree F sh n z h0 x0 x1 x2 = some (z8, r8)) : Met l yX14_agree wsX14_agree ({ frames := 0, cells := 0, slots := 0, locals := 0 }) (va_Pc [.ref (a h0), .int x0, .int x1, .int x2] (fun U => U.heap.size = sz ∧ va_P (dC, dI) vwCl (Wd cy a sh n z) U.heap ∧ va_K (dC, dI) vwCl (TYS cy) U ∧ va_D (fun _ => True) (Wd cy a sh n z) ∧ NK U)) (va_Qi (fun (r9 : Int32) (u : Unit) => r9 = r8) (fun u t => va_P (dC, dI) vwCl (Wd cy a sh n z8) t.heap ∧ va_K (dC, dI) vwCl (TYS cy) t ∧ va_D (va_A (Wd cy a sh n z) sz) (Wd cy a sh n z8)) (va_A (Wd cy a sh n z) sz)) 0 0 (va_A (Wd cy a sh n z) sz) := by
  refine Met.ofW (cc := cX14_agree) (maxL := 8) (ret := (some .boolean)) (by decide) rfl ?_
  intro p e s m args below meth c s₁ B hml hv
  obtain ⟨rfl, hsz, hP, hK, hD0, hN⟩ := hv
  have hx := B.exec
  have hb := B.bytes
  have hr := B.returns
  have hts := atoms_spec (ws := wsX14_agree) B.pre
  have hown : s.vm.findClass RX14 = some m.cls := findClass_of_methodNamed B.named
  have hlocks := B.notSynchronized
  subst hsz
  have hD := hD0.self (sz := s.heap.size)
  clear hD0
  generalize hAe : va_A (Wd cy a sh n z) s.heap.size = A at hD ⊢
  have hA : ∀ q : Nat, s.heap.size ≤ q → A q := fun q h => by rw [← hAe]; exact Or.inr h
  clear hAe
  have hS : va_S A s.heap s.heap [] := va_S.rf
  have hl := lv_entry ([.ref (a h0), .int x0, .int x1, .int x2]) (n := 8) (Nat.le_of_ble_eq_true rfl)
  rw [lg_entry_eq]
  generalize (lg_sl ([.ref (a h0), .int x0, .int x1, .int x2]) ++ List.replicate (8 - (lg_sl ([.ref (a h0), .int x0, .int x1, .int x2])).length) Slot.unset).toArray = ls at hl ⊢
  replace hl : lv_has ls 8 [(0, .ref (a h0)), (1, .int x0), (2, .int x1), (3, .int x2)] := hl
  unfold fn_X14_agree at hf
  refine de_start hS hP (fun H locs hS hP => ?_)
  refine lv_iconst (v := 0) hx hb dX14_agree_0 (by decide) ?_
  refine lv_istore (lv' := [(4, .int 0), (0, .ref (a h0)), (1, .int x0), (2, .int x1), (3, .int x2)]) hx hb dX14_agree_1 hl (by decide) rfl (fun ls hl2 => ?_)
  replace hl := hl2
  clear hl2
  have hl0 : lv_has ls 8 [(4, .int 0), (0, .ref (a h0)), (1, .int x0), (2, .int x1), (3, .int x2)] := lv_sub hl [0, 1, 2, 3, 4] rfl
  refine de_loop (h := 3) (fun (x : St × Int32) ls H locs => lv_has ls 8 [(4, .int x.2), (0, .ref (a h0)), (1, .int x0), (2, .int x1), (3, .int x2)] ∧ va_P (dC, dI) vwCl (Wd cy a sh n x.1) H ∧ va_D A (Wd cy a sh n x.1) ∧ va_S A s.heap H locs) (fun f x => fn_X14_agree_L3 F sh n x2 h0 x0 x1 f x.1 x.2) (z8, r8) ?_ (fun _ => rfl) F (z, 0) ls H locs ⟨hl0, hP, hD, hS⟩ hf
  intro f_3 x ls H locs ih3 hI hf
  obtain ⟨z_2, p_1⟩ := x
  obtain ⟨hl2, hP2, hD2, hS2⟩ := hI
  replace hl : lv_has ls 8 [(4, .int p_1), (0, .ref (a h0)), (1, .int x0), (2, .int x1), (3, .int x2)] := hl2
  replace hP := hP2
  replace hD := hD2
  replace hS := hS2
  clear hl2 hP2 hD2 hS2 hl0
  replace hf := fn_X14_agree_L3_s hf
  refine lv_iload hx hb dX14_agree_3 (lv_at hl 0 rfl) ?_
  refine lv_iload_n hx hb dX14_agree_5 rfl (lv_at hl 4 rfl) ?_
  refine lv_icmp_ge (tgt := 84) hx hb dX14_agree_6 (by decide) (fun c_4 => ?_) (fun c_4 => ?_)
  · skip
    rw [if_pos c_4] at hf
    refine lv_iconst (v := 1) hx hb dX14_agree_84 (by decide) ?_
    obtain ⟨h8, h9⟩ := ret_some hf
    rw [h8, h9]
    exact W.zret (v := 1) hx hb hr rfl (fun t ht hW => ⟨⟨1, (), rfl, rfl, by rw [ht]; exact hP, va_K.moved hW.alike hK, hD⟩, hS.F ht⟩) hS.2.2 dX14_agree_85
  · skip
    rw [if_neg c_4] at hf
    refine lv_aload_n hx hb dX14_agree_9 rfl (lv_at hl 1 rfl) ?_
    obtain ⟨g_5, hf⟩ := grd_some hf
    obtain ⟨kg_5, sg_5⟩ := okO_at g_5
    obtain ⟨k_6, ek_6, hf⟩ := lnk_some hf
    refine va_get (D := (dC, dI)) (ci := 14) (v := .ref (a k_6)) (C := RX14) (T := TX14) (N := 11) hx hb hts iwd_X14_agree_X14 hown hK hP h0 (Wd_ob kg_5 sg_5 (by decide)) rfl 0 (by decide) (hts _ md_X14_agree_1) (fun _ h9 => h9) (fl_q rfl ek_6) dX14_agree_10 ?_
    refine lv_iconst (v := 4) hx hb dX14_agree_13 (by decide) ?_
    refine lv_iload_n hx hb dX14_agree_14 rfl (lv_at hl 2 rfl) ?_
    refine lv_imul hx hb dX14_agree_15 ?_
    refine lv_iload hx hb dX14_agree_16 (lv_at hl 0 rfl) ?_
    refine lv_bipush (v := 64) hx hb dX14_agree_18 (by decide) ?_
    refine lv_idiv hx hb dX14_agree_20 (by decide) ?_
    refine lv_iadd hx hb dX14_agree_21 ?_
    obtain ⟨g_7, hf⟩ := grd_some hf
    obtain ⟨kg_7, sg_7, ig_7⟩ := okA_at g_7
    refine va_lald hx hb hK hP k_6 2 (Wd_al kg_7 sg_7) rfl ig_7 dX14_agree_22 ?_
    refine lv_aload_n hx hb dX14_agree_23 rfl (lv_at hl 1 rfl) ?_
    obtain ⟨k_8, ek_8, hf⟩ := lnk_some hf
    refine va_get (D := (dC, dI)) (ci := 14) (v := .ref (a k_8)) (C := RX14) (T := TX14) (N := 11) hx hb hts iwd_X14_agree_X14 hown hK hP h0 (Wd_ob kg_5 sg_5 (by decide)) rfl 0 (by decide) (hts _ md_X14_agree_1) (fun _ h9 => h9) (fl_q rfl ek_8) dX14_agree_24 ?_
    refine lv_iconst (v := 4) hx hb dX14_agree_27 (by decide) ?_
    refine lv_iload_n hx hb dX14_agree_28 rfl (lv_at hl 3 rfl) ?_
    refine lv_imul hx hb dX14_agree_29 ?_
    refine lv_iload hx hb dX14_agree_30 (lv_at hl 0 rfl) ?_
    refine lv_bipush (v := 64) hx hb dX14_agree_32 (by decide) ?_
    refine lv_idiv hx hb dX14_agree_34 (by decide) ?_
    refine lv_iadd hx hb dX14_agree_35 ?_
    obtain ⟨g_9, hf⟩ := grd_some hf
    obtain ⟨kg_9, sg_9, ig_9⟩ := okA_at g_9
    refine va_lald hx hb hK hP k_8 2 (Wd_al kg_9 sg_9) rfl ig_9 dX14_agree_36 ?_
    refine lv_lxor hx hb dX14_agree_37 ?_
    refine lv_topl (fun v_10 ev_10 => ?_)
    replace hf := lt_at ev_10 hf
    clear ev_10
    refine lv_lstore (lv' := [(5, .long v_10), (4, .int p_1), (0, .ref (a h0)), (1, .int x0), (2, .int x1), (3, .int x2)]) hx hb dX14_agree_38 hl (by decide) rfl (fun ls hl2 => ?_)
    replace hl := hl2
    clear hl2
    refine lv_iload_n hx hb dX14_agree_40 rfl (lv_at hl 5 rfl) ?_
    refine lv_iload hx hb dX14_agree_41 (lv_at hl 1 rfl) ?_
    refine lv_isub hx hb dX14_agree_43 ?_
    refine lv_topi (fun v_11 ev_11 => ?_)
    replace hf := lt_at ev_11 hf
    clear ev_11
    refine lv_istore (lv' := [(7, .int v_11), (5, .long v_10), (4, .int p_1), (0, .ref (a h0)), (1, .int x0), (2, .int x1), (3, .int x2)]) hx hb dX14_agree_44 hl (by decide) rfl (fun ls hl2 => ?_)
    replace hl := hl2
    clear hl2
    refine lv_iload hx hb dX14_agree_46 (lv_at hl 0 rfl) ?_
    refine lv_bipush (v := 64) hx hb dX14_agree_48 (by decide) ?_
    refine de_cut (h := 78) (fun (x : St) => []) (fun x ls H locs => lv_has ls 8 [(4, .int p_1), (0, .ref (a h0)), (1, .int x0), (2, .int x1), (3, .int x2)] ∧ va_P (dC, dI) vwCl (Wd cy a sh n x) H ∧ va_D A (Wd cy a sh n x) ∧ va_S A s.heap H locs) (fun x => fn_X14_agree_B78 F sh n p_1 (fun z9 q4 => fn_X14_agree_L3 F sh n x2 h0 x0 x1 f_3 z9 q4) x) (z8, r8) ?_ (fun B78 => ?_)
    · intro x ls H locs hI hf
      obtain ⟨z_12, ez⟩ : ∃ w, w = x := ⟨_, rfl⟩
      subst ez
      obtain ⟨hl2, hP2, hD2, hS2⟩ := hI
      replace hl : lv_has ls 8 [(4, .int p_1), (0, .ref (a h0)), (1, .int x0), (2, .int x1), (3, .int x2)] := hl2
      replace hP := hP2
      replace hD := hD2
      replace hS := hS2
      clear hl2 hP2 hD2 hS2
      replace hf := fn_X14_agree_B78_s hf
      refine W.eq (g2 := F0 m 78 ls []) rfl ?_
      refine lv_iinc (v := (p_1 + 64)) (lv' := [(4, .int (p_1 + 64)), (0, .ref (a h0)), (1, .int x0), (2, .int x1), (3, .int x2)]) hx hb dX14_agree_78 hl (k := 0) rfl rfl (by decide) rfl (fun ls hl2 => ?_)
      replace hl := hl2
      clear hl2
      refine lv_goto (tgt := 3) hx hb dX14_agree_81 (by decide) ?_
      exact ih3 (z_12, (p_1 + 64)) ls H locs ⟨lv_sub hl [0, 1, 2, 3, 4] rfl, hP, hD, hS⟩ hf
    refine lv_icmp_lt (tgt := 63) hx hb dX14_agree_50 (by decide) (fun c_13 => ?_) (fun c_13 => ?_)
    · skip
      rw [if_pos c_13] at hf
      refine lv_lload hx hb dX14_agree_63 (lv_at hl 1 rfl) ?_
      refine lv_bipush (v := 64) hx hb dX14_agree_65 (by decide) ?_
      refine lv_iload hx hb dX14_agree_67 (lv_at hl 0 rfl) ?_
      refine lv_isub hx hb dX14_agree_69 ?_
      refine lv_lushr (v := ((v_10 : Int64).toUInt64 >>> (((64 - v_11) : Int32).toInt64.toUInt64 &&& Int64.toUInt64 63)).toInt64) hx hb dX14_agree_70 rfl ?_
      refine lv_lconst (v := 0) hx hb dX14_agree_71 (by decide) ?_
      refine W.lcmp hx hb dX14_agree_72 ?_
      refine lv_if_eq (tgt := 78) hx hb dX14_agree_73 (by decide) (fun c_14 => ?_) (fun c_14 => ?_)
      · skip
        rw [lg_cmp_eq] at c_14
        rw [if_pos c_14] at hf
        exact B78 (z_2) ls H locs ⟨lv_sub hl [2, 3, 4, 5, 6] rfl, hP, hD, hS⟩ hf
      · skip
        rw [lg_cmp_eq] at c_14
        rw [if_neg c_14] at hf
        refine lv_iconst (v := 0) hx hb dX14_agree_76 (by decide) ?_
        obtain ⟨h8, h9⟩ := ret_some hf
        rw [h8, h9]
        exact W.zret (v := 0) hx hb hr rfl (fun t ht hW => ⟨⟨0, (), rfl, rfl, by rw [ht]; exact hP, va_K.moved hW.alike hK, hD⟩, hS.F ht⟩) hS.2.2 dX14_agree_77
    · skip
      rw [if_neg c_13] at hf
      refine lv_lload hx hb dX14_agree_53 (lv_at hl 1 rfl) ?_
      refine lv_lconst (v := 0) hx hb dX14_agree_55 (by decide) ?_
      refine W.lcmp hx hb dX14_agree_56 ?_
      refine lv_if_eq (tgt := 78) hx hb dX14_agree_57 (by decide) (fun c_15 => ?_) (fun c_15 => ?_)
      · skip
        rw [lg_cmp_eq] at c_15
        rw [if_pos c_15] at hf
        exact B78 (z_2) ls H locs ⟨lv_sub hl [2, 3, 4, 5, 6] rfl, hP, hD, hS⟩ hf
      · skip
        rw [lg_cmp_eq] at c_15
        rw [if_neg c_15] at hf
        refine lv_goto (tgt := 76) hx hb dX14_agree_60 (by decide) ?_
        refine lv_iconst (v := 0) hx hb dX14_agree_76 (by decide) ?_
        obtain ⟨h8, h9⟩ := ret_some hf
        rw [h8, h9]
        exact W.zret (v := 0) hx hb hr rfl (fun t ht hW => ⟨⟨0, (), rfl, rfl, by rw [ht]; exact hP, va_K.moved hW.alike hK, hD⟩, hS.F ht⟩) hS.2.2 dX14_agree_77

theorem md_X11_told_1 : (.fieldLink RX11 112 "ResourceLedger" "blockLength" "I" : Cond) ∈ wsX11_told := List.mem_of_getElem? (i := 1) rfl
theorem iwd_X11_told_X11 : ∀ w ∈ wsX110, w ∈ wsX11_told := fun _ h => List.mem_cons_of_mem _ (List.mem_append_left _ (List.mem_append_right _ h))
theorem md_X11_told_2 : (.fieldLink RX11 115 "ResourceLedger" "doneLength" "I" : Cond) ∈ wsX11_told := List.mem_of_getElem? (i := 2) rfl
theorem md_X11_told_3 : (.fieldLink RX11 15 "ResourceLedger" "block" "[LResourceLedger$Transaction;" : Cond) ∈ wsX11_told := List.mem_of_getElem? (i := 3) rfl
theorem md_X11_told_4 : (.fieldLink RX11 174 "ResourceLedger$Transaction" "outcome" "I" : Cond) ∈ wsX11_told := List.mem_of_getElem? (i := 4) rfl
theorem iwd_X11_told_X8 : ∀ w ∈ wsX80, w ∈ wsX11_told := fun _ h => List.mem_cons_of_mem _ (List.mem_append_right _ h)
theorem md_X11_told_5 : (.fieldLink RX11 242 "ResourceLedger$Transaction" "gas" "I" : Cond) ∈ wsX11_told := List.mem_of_getElem? (i := 5) rfl
theorem md_X11_told_6 : (.fieldLink RX11 245 "ResourceLedger$Transaction" "resultCount" "I" : Cond) ∈ wsX11_told := List.mem_of_getElem? (i := 6) rfl
theorem md_X11_told_7 : (.fieldLink RX11 217 "ResourceLedger$Transaction" "place" "I" : Cond) ∈ wsX11_told := List.mem_of_getElem? (i := 7) rfl
set_option maxHeartbeats 4000000 in
set_option maxRecDepth 100000 in
theorem de_X11_told (l : Launch) (dC : Nat → ClassId) (dI : Nat → Nat → Nat) (cy : Nat → ClassId) (a : Nat → Nat) (sh : Nat → Nat × Nat) (n sz : Nat) (F : Nat) (z : St) (h0 : Nat) (x0 : Int32) (x1 : Int32) {z8 : St} {r8 : Int32} (hf : fn_X11_told F sh n z h0 x0 x1 = some (z8, r8)) : Met l yX11_told wsX11_told ({ frames := 0, cells := 0, slots := 0, locals := 0 }) (va_Pc [.ref (a h0), .int x0, .int x1] (fun U => U.heap.size = sz ∧ va_P (dC, dI) vwCl (Wd cy a sh n z) U.heap ∧ va_K (dC, dI) vwCl (TYS cy) U ∧ va_D (fun _ => True) (Wd cy a sh n z) ∧ NK U)) (va_Qi (fun (r9 : Int32) (u : Unit) => r9 = r8) (fun u t => va_P (dC, dI) vwCl (Wd cy a sh n z8) t.heap ∧ va_K (dC, dI) vwCl (TYS cy) t ∧ va_D (va_A (Wd cy a sh n z) sz) (Wd cy a sh n z8)) (va_A (Wd cy a sh n z) sz)) 0 0 (va_A (Wd cy a sh n z) sz) := by
  refine Met.ofW (cc := cX11_told) (maxL := 3) (ret := (some .int)) (by decide) rfl ?_
  intro p e s m args below meth c s₁ B hml hv
  obtain ⟨rfl, hsz, hP, hK, hD0, hN⟩ := hv
  have hx := B.exec
  have hb := B.bytes
  have hr := B.returns
  have hts := atoms_spec (ws := wsX11_told) B.pre
  have hown : s.vm.findClass RX11 = some m.cls := findClass_of_methodNamed B.named
  have hlocks := B.notSynchronized
  subst hsz
  have hD := hD0.self (sz := s.heap.size)
  clear hD0
  generalize hAe : va_A (Wd cy a sh n z) s.heap.size = A at hD ⊢
  have hA : ∀ q : Nat, s.heap.size ≤ q → A q := fun q h => by rw [← hAe]; exact Or.inr h
  clear hAe
  have hS : va_S A s.heap s.heap [] := va_S.rf
  have hl := lv_entry ([.ref (a h0), .int x0, .int x1]) (n := 3) (Nat.le_of_ble_eq_true rfl)
  rw [lg_entry_eq]
  generalize (lg_sl ([.ref (a h0), .int x0, .int x1]) ++ List.replicate (3 - (lg_sl ([.ref (a h0), .int x0, .int x1])).length) Slot.unset).toArray = ls at hl ⊢
  replace hl : lv_has ls 3 [(0, .ref (a h0)), (1, .int x0), (2, .int x1)] := hl
  unfold fn_X11_told at hf
  refine de_start hS hP (fun H locs hS hP => ?_)
  refine lv_iload_n hx hb dX11_told_0 rfl (lv_at hl 1 rfl) ?_
  refine lv_if_lt (tgt := 21) hx hb dX11_told_1 (by decide) (fun c_1 => ?_) (fun c_1 => ?_)
  · skip
    rw [if_pos c_1] at hf
    refine lv_iconst (v := (-1)) hx hb dX11_told_21 (by decide) ?_
    obtain ⟨h8, h9⟩ := ret_some hf
    rw [h8, h9]
    exact W.iret (v := (-1)) hx hb hr (fun t ht hW => ⟨⟨(-1), (), rfl, rfl, by rw [ht]; exact hP, va_K.moved hW.alike hK, hD⟩, hS.F ht⟩) hS.2.2 dX11_told_22
  · skip
    rw [if_neg c_1] at hf
    refine lv_iload_n hx hb dX11_told_4 rfl (lv_at hl 1 rfl) ?_
    refine lv_aload_n hx hb dX11_told_5 rfl (lv_at hl 0 rfl) ?_
    obtain ⟨g_2, hf⟩ := grd_some hf
    obtain ⟨kg_2, sg_2⟩ := okO_at g_2
    refine va_get (D := (dC, dI)) (ci := 11) (v := .int (z.1 h0 4)) (C := RX11) (T := TX11) (N := 13) hx hb hts iwd_X11_told_X11 hown hK hP h0 (Wd_ob kg_2 sg_2 (by decide)) rfl 4 (by decide) (hts _ md_X11_told_1) (fun _ h9 => h9) (fl_at (t := 0) rfl) dX11_told_6 ?_
    refine lv_icmp_ge (tgt := 21) hx hb dX11_told_9 (by decide) (fun c_3 => ?_) (fun c_3 => ?_)
    · skip
      rw [if_pos c_3] at hf
      refine lv_iconst (v := (-1)) hx hb dX11_told_21 (by decide) ?_
      obtain ⟨h8, h9⟩ := ret_some hf
      rw [h8, h9]
      exact W.iret (v := (-1)) hx hb hr (fun t ht hW => ⟨⟨(-1), (), rfl, rfl, by rw [ht]; exact hP, va_K.moved hW.alike hK, hD⟩, hS.F ht⟩) hS.2.2 dX11_told_22
    · skip
      rw [if_neg c_3] at hf
      refine lv_iload_n hx hb dX11_told_12 rfl (lv_at hl 2 rfl) ?_
      refine lv_if_lt (tgt := 21) hx hb dX11_told_13 (by decide) (fun c_4 => ?_) (fun c_4 => ?_)
      · skip
        rw [if_pos c_4] at hf
        refine lv_iconst (v := (-1)) hx hb dX11_told_21 (by decide) ?_
        obtain ⟨h8, h9⟩ := ret_some hf
        rw [h8, h9]
        exact W.iret (v := (-1)) hx hb hr (fun t ht hW => ⟨⟨(-1), (), rfl, rfl, by rw [ht]; exact hP, va_K.moved hW.alike hK, hD⟩, hS.F ht⟩) hS.2.2 dX11_told_22
      · skip
        rw [if_neg c_4] at hf
        refine lv_iload_n hx hb dX11_told_16 rfl (lv_at hl 2 rfl) ?_
        refine lv_iconst (v := 3) hx hb dX11_told_17 (by decide) ?_
        refine lv_icmp_le (tgt := 23) hx hb dX11_told_18 (by decide) (fun c_5 => ?_) (fun c_5 => ?_)
        · skip
          rw [if_pos c_5] at hf
          refine lv_iload_n hx hb dX11_told_23 rfl (lv_at hl 1 rfl) ?_
          refine lv_aload_n hx hb dX11_told_24 rfl (lv_at hl 0 rfl) ?_
          refine va_get (D := (dC, dI)) (ci := 11) (v := .int (z.1 h0 5)) (C := RX11) (T := TX11) (N := 13) hx hb hts iwd_X11_told_X11 hown hK hP h0 (Wd_ob kg_2 sg_2 (by decide)) rfl 5 (by decide) (hts _ md_X11_told_2) (fun _ h9 => h9) (fl_at (t := 0) rfl) dX11_told_25 ?_
          refine lv_icmp_lt (tgt := 34) hx hb dX11_told_28 (by decide) (fun c_6 => ?_) (fun c_6 => ?_)
          · skip
            rw [if_pos c_6] at hf
            refine lv_iload_n hx hb dX11_told_34 rfl (lv_at hl 2 rfl) ?_
            by_cases c_7 : x1 = 0
            · skip
              rw [if_pos c_7] at hf
              refine lv_tableIn (tgt := 60) hx hb dX11_told_35 (by rw [c_7]; decide) (by rw [c_7]; decide) (by rw [c_7]; rfl) (by decide) ?_
              refine lv_aload_n hx hb dX11_told_60 rfl (lv_at hl 0 rfl) ?_
              obtain ⟨k_8, ek_8, hf⟩ := lnk_some hf
              refine va_get (D := (dC, dI)) (ci := 11) (v := .ref (a k_8)) (C := RX11) (T := TX11) (N := 13) hx hb hts iwd_X11_told_X11 hown hK hP h0 (Wd_ob kg_2 sg_2 (by decide)) rfl 3 (by decide) (hts _ md_X11_told_3) (fun _ h9 => h9) (fl_q rfl ek_8) dX11_told_61 ?_
              refine lv_iload_n hx hb dX11_told_64 rfl (lv_at hl 1 rfl) ?_
              obtain ⟨g_9, hf⟩ := grd_some hf
              obtain ⟨kg_9, sg_9, ig_9⟩ := okA_at g_9
              obtain ⟨k_10, ek_10, hf⟩ := lnk_some hf
              refine va_aldq (C := RX8) hx hb hK hP k_8 5 (Wd_aq kg_9 sg_9 (by decide)) rfl ig_9 dX11_told_65 ?_
              refine W.eq (g2 := F0 m 66 ls [.ref (a k_10)]) (by rw [ek_10]; rfl) ?_
              obtain ⟨g_11, hf⟩ := grd_some hf
              obtain ⟨kg_11, sg_11⟩ := okO_at g_11
              refine va_get (D := (dC, dI)) (ci := 8) (v := .int (z.1 k_10 11)) (C := RX8) (T := TX8) (N := 19) hx hb hts iwd_X11_told_X8 hown hK hP k_10 (Wd_ob kg_11 sg_11 (by decide)) rfl 11 (by decide) (hts _ md_X11_told_4) (fun _ h9 => h9) (fl_at (t := 0) rfl) dX11_told_66 ?_
              obtain ⟨h8, h9⟩ := ret_some hf
              rw [h8, h9]
              exact W.iret (v := (z.1 k_10 11)) hx hb hr (fun t ht hW => ⟨⟨(z.1 k_10 11), (), rfl, rfl, by rw [ht]; exact hP, va_K.moved hW.alike hK, hD⟩, hS.F ht⟩) hS.2.2 dX11_told_69
            rw [if_neg c_7] at hf
            by_cases c_12 : x1 = 1
            · skip
              rw [if_pos c_12] at hf
              refine lv_tableIn (tgt := 70) hx hb dX11_told_35 (by rw [c_12]; decide) (by rw [c_12]; decide) (by rw [c_12]; rfl) (by decide) ?_
              refine lv_aload_n hx hb dX11_told_70 rfl (lv_at hl 0 rfl) ?_
              obtain ⟨k_13, ek_13, hf⟩ := lnk_some hf
              refine va_get (D := (dC, dI)) (ci := 11) (v := .ref (a k_13)) (C := RX11) (T := TX11) (N := 13) hx hb hts iwd_X11_told_X11 hown hK hP h0 (Wd_ob kg_2 sg_2 (by decide)) rfl 3 (by decide) (hts _ md_X11_told_3) (fun _ h9 => h9) (fl_q rfl ek_13) dX11_told_71 ?_
              refine lv_iload_n hx hb dX11_told_74 rfl (lv_at hl 1 rfl) ?_
              obtain ⟨g_14, hf⟩ := grd_some hf
              obtain ⟨kg_14, sg_14, ig_14⟩ := okA_at g_14
              obtain ⟨k_15, ek_15, hf⟩ := lnk_some hf
              refine va_aldq (C := RX8) hx hb hK hP k_13 5 (Wd_aq kg_14 sg_14 (by decide)) rfl ig_14 dX11_told_75 ?_
              refine W.eq (g2 := F0 m 76 ls [.ref (a k_15)]) (by rw [ek_15]; rfl) ?_
              obtain ⟨g_16, hf⟩ := grd_some hf
              obtain ⟨kg_16, sg_16⟩ := okO_at g_16
              refine va_get (D := (dC, dI)) (ci := 8) (v := .int (z.1 k_15 13)) (C := RX8) (T := TX8) (N := 19) hx hb hts iwd_X11_told_X8 hown hK hP k_15 (Wd_ob kg_16 sg_16 (by decide)) rfl 13 (by decide) (hts _ md_X11_told_5) (fun _ h9 => h9) (fl_at (t := 0) rfl) dX11_told_76 ?_
              obtain ⟨h8, h9⟩ := ret_some hf
              rw [h8, h9]
              exact W.iret (v := (z.1 k_15 13)) hx hb hr (fun t ht hW => ⟨⟨(z.1 k_15 13), (), rfl, rfl, by rw [ht]; exact hP, va_K.moved hW.alike hK, hD⟩, hS.F ht⟩) hS.2.2 dX11_told_79
            rw [if_neg c_12] at hf
            by_cases c_17 : x1 = 2
            · skip
              rw [if_pos c_17] at hf
              refine lv_tableIn (tgt := 80) hx hb dX11_told_35 (by rw [c_17]; decide) (by rw [c_17]; decide) (by rw [c_17]; rfl) (by decide) ?_
              refine lv_aload_n hx hb dX11_told_80 rfl (lv_at hl 0 rfl) ?_
              obtain ⟨k_18, ek_18, hf⟩ := lnk_some hf
              refine va_get (D := (dC, dI)) (ci := 11) (v := .ref (a k_18)) (C := RX11) (T := TX11) (N := 13) hx hb hts iwd_X11_told_X11 hown hK hP h0 (Wd_ob kg_2 sg_2 (by decide)) rfl 3 (by decide) (hts _ md_X11_told_3) (fun _ h9 => h9) (fl_q rfl ek_18) dX11_told_81 ?_
              refine lv_iload_n hx hb dX11_told_84 rfl (lv_at hl 1 rfl) ?_
              obtain ⟨g_19, hf⟩ := grd_some hf
              obtain ⟨kg_19, sg_19, ig_19⟩ := okA_at g_19
              obtain ⟨k_20, ek_20, hf⟩ := lnk_some hf
              refine va_aldq (C := RX8) hx hb hK hP k_18 5 (Wd_aq kg_19 sg_19 (by decide)) rfl ig_19 dX11_told_85 ?_
              refine W.eq (g2 := F0 m 86 ls [.ref (a k_20)]) (by rw [ek_20]; rfl) ?_
              obtain ⟨g_21, hf⟩ := grd_some hf
              obtain ⟨kg_21, sg_21⟩ := okO_at g_21
              refine va_get (D := (dC, dI)) (ci := 8) (v := .int (z.1 k_20 15)) (C := RX8) (T := TX8) (N := 19) hx hb hts iwd_X11_told_X8 hown hK hP k_20 (Wd_ob kg_21 sg_21 (by decide)) rfl 15 (by decide) (hts _ md_X11_told_6) (fun _ h9 => h9) (fl_at (t := 0) rfl) dX11_told_86 ?_
              obtain ⟨h8, h9⟩ := ret_some hf
              rw [h8, h9]
              exact W.iret (v := (z.1 k_20 15)) hx hb hr (fun t ht hW => ⟨⟨(z.1 k_20 15), (), rfl, rfl, by rw [ht]; exact hP, va_K.moved hW.alike hK, hD⟩, hS.F ht⟩) hS.2.2 dX11_told_89
            rw [if_neg c_17] at hf
            refine lv_tableOut (tgt := 90) hx hb dX11_told_35 (tbd_0_2 c_7 c_12 c_17) (by decide) ?_
            refine lv_aload_n hx hb dX11_told_90 rfl (lv_at hl 0 rfl) ?_
            obtain ⟨k_22, ek_22, hf⟩ := lnk_some hf
            refine va_get (D := (dC, dI)) (ci := 11) (v := .ref (a k_22)) (C := RX11) (T := TX11) (N := 13) hx hb hts iwd_X11_told_X11 hown hK hP h0 (Wd_ob kg_2 sg_2 (by decide)) rfl 3 (by decide) (hts _ md_X11_told_3) (fun _ h9 => h9) (fl_q rfl ek_22) dX11_told_91 ?_
            refine lv_iload_n hx hb dX11_told_94 rfl (lv_at hl 1 rfl) ?_
            obtain ⟨g_23, hf⟩ := grd_some hf
            obtain ⟨kg_23, sg_23, ig_23⟩ := okA_at g_23
            obtain ⟨k_24, ek_24, hf⟩ := lnk_some hf
            refine va_aldq (C := RX8) hx hb hK hP k_22 5 (Wd_aq kg_23 sg_23 (by decide)) rfl ig_23 dX11_told_95 ?_
            refine W.eq (g2 := F0 m 96 ls [.ref (a k_24)]) (by rw [ek_24]; rfl) ?_
            obtain ⟨g_25, hf⟩ := grd_some hf
            obtain ⟨kg_25, sg_25⟩ := okO_at g_25
            refine va_get (D := (dC, dI)) (ci := 8) (v := .int (z.1 k_24 11)) (C := RX8) (T := TX8) (N := 19) hx hb hts iwd_X11_told_X8 hown hK hP k_24 (Wd_ob kg_25 sg_25 (by decide)) rfl 11 (by decide) (hts _ md_X11_told_4) (fun _ h9 => h9) (fl_at (t := 0) rfl) dX11_told_96 ?_
            refine lv_iconst (v := 4) hx hb dX11_told_99 (by decide) ?_
            refine lv_icmp_ne (tgt := 115) hx hb dX11_told_100 (by decide) (fun c_26 => ?_) (fun c_26 => ?_)
            · skip
              rw [if_neg c_26] at hf
              refine lv_iconst (v := 0) hx hb dX11_told_115 (by decide) ?_
              obtain ⟨h8, h9⟩ := ret_some hf
              rw [h8, h9]
              exact W.iret (v := 0) hx hb hr (fun t ht hW => ⟨⟨0, (), rfl, rfl, by rw [ht]; exact hP, va_K.moved hW.alike hK, hD⟩, hS.F ht⟩) hS.2.2 dX11_told_116
            · skip
              rw [if_pos c_26] at hf
              refine lv_aload_n hx hb dX11_told_103 rfl (lv_at hl 0 rfl) ?_
              obtain ⟨k_27, ek_27, hf⟩ := lnk_some hf
              refine va_get (D := (dC, dI)) (ci := 11) (v := .ref (a k_27)) (C := RX11) (T := TX11) (N := 13) hx hb hts iwd_X11_told_X11 hown hK hP h0 (Wd_ob kg_2 sg_2 (by decide)) rfl 3 (by decide) (hts _ md_X11_told_3) (fun _ h9 => h9) (fl_q rfl ek_27) dX11_told_104 ?_
              refine lv_iload_n hx hb dX11_told_107 rfl (lv_at hl 1 rfl) ?_
              obtain ⟨g_28, hf⟩ := grd_some hf
              obtain ⟨kg_28, sg_28, ig_28⟩ := okA_at g_28
              obtain ⟨k_29, ek_29, hf⟩ := lnk_some hf
              refine va_aldq (C := RX8) hx hb hK hP k_27 5 (Wd_aq kg_28 sg_28 (by decide)) rfl ig_28 dX11_told_108 ?_
              refine W.eq (g2 := F0 m 109 ls [.ref (a k_29)]) (by rw [ek_29]; rfl) ?_
              obtain ⟨g_30, hf⟩ := grd_some hf
              obtain ⟨kg_30, sg_30⟩ := okO_at g_30
              refine va_get (D := (dC, dI)) (ci := 8) (v := .int (z.1 k_29 14)) (C := RX8) (T := TX8) (N := 19) hx hb hts iwd_X11_told_X8 hown hK hP k_29 (Wd_ob kg_30 sg_30 (by decide)) rfl 14 (by decide) (hts _ md_X11_told_7) (fun _ h9 => h9) (fl_at (t := 0) rfl) dX11_told_109 ?_
              refine lv_goto (tgt := 116) hx hb dX11_told_112 (by decide) ?_
              obtain ⟨h8, h9⟩ := ret_some hf
              rw [h8, h9]
              exact W.iret (v := (z.1 k_29 14)) hx hb hr (fun t ht hW => ⟨⟨(z.1 k_29 14), (), rfl, rfl, by rw [ht]; exact hP, va_K.moved hW.alike hK, hD⟩, hS.F ht⟩) hS.2.2 dX11_told_116
          · skip
            rw [if_neg c_6] at hf
            refine lv_bipush (v := (-2)) hx hb dX11_told_31 (by decide) ?_
            obtain ⟨h8, h9⟩ := ret_some hf
            rw [h8, h9]
            exact W.iret (v := (-2)) hx hb hr (fun t ht hW => ⟨⟨(-2), (), rfl, rfl, by rw [ht]; exact hP, va_K.moved hW.alike hK, hD⟩, hS.F ht⟩) hS.2.2 dX11_told_33
        · skip
          rw [if_neg c_5] at hf
          refine lv_iconst (v := (-1)) hx hb dX11_told_21 (by decide) ?_
          obtain ⟨h8, h9⟩ := ret_some hf
          rw [h8, h9]
          exact W.iret (v := (-1)) hx hb hr (fun t ht hW => ⟨⟨(-1), (), rfl, rfl, by rw [ht]; exact hP, va_K.moved hW.alike hK, hD⟩, hS.F ht⟩) hS.2.2 dX11_told_22

theorem md_X18_coinType_3 : (.constantLong RX18 122 (5) : Cond) ∈ wsX18_coinType := List.mem_of_getElem? (i := 3) rfl
theorem md_X18_coinType_2 : (.constantLong RX18 120 (3) : Cond) ∈ wsX18_coinType := List.mem_of_getElem? (i := 2) rfl
theorem md_X18_coinType_1 : (.constantLong RX18 118 (1536) : Cond) ∈ wsX18_coinType := List.mem_of_getElem? (i := 1) rfl
theorem md_X18_coinType_4 : (.constantLong RX18 124 (525824) : Cond) ∈ wsX18_coinType := List.mem_of_getElem? (i := 4) rfl
set_option maxHeartbeats 4000000 in
set_option maxRecDepth 100000 in
theorem de_X18_coinType (l : Launch) (dC : Nat → ClassId) (dI : Nat → Nat → Nat) (cy : Nat → ClassId) (a : Nat → Nat) (sh : Nat → Nat × Nat) (n sz : Nat) (F : Nat) (z : St) (x0 : Int32) (x1 : Int32) (x2 : Int32) {z8 : St} {r8 : Int64} (hf : fn_X18_coinType F sh n z x0 x1 x2 = some (z8, r8)) : Met l yX18_coinType wsX18_coinType ({ frames := 0, cells := 0, slots := 0, locals := 0 }) (va_Pc [.int x0, .int x1, .int x2] (fun U => U.heap.size = sz ∧ va_P (dC, dI) vwCl (Wd cy a sh n z) U.heap ∧ va_K (dC, dI) vwCl (TYS cy) U ∧ va_D (fun _ => True) (Wd cy a sh n z) ∧ NK U)) (va_Ql (fun (r9 : Int64) (u : Unit) => r9 = r8) (fun u t => va_P (dC, dI) vwCl (Wd cy a sh n z8) t.heap ∧ va_K (dC, dI) vwCl (TYS cy) t ∧ va_D (va_A (Wd cy a sh n z) sz) (Wd cy a sh n z8)) (va_A (Wd cy a sh n z) sz)) 0 0 (va_A (Wd cy a sh n z) sz) := by
  refine Met.ofW (cc := cX18_coinType) (maxL := 3) (ret := (some .long)) (by decide) rfl ?_
  intro p e s m args below meth c s₁ B hml hv
  obtain ⟨rfl, hsz, hP, hK, hD0, hN⟩ := hv
  have hx := B.exec
  have hb := B.bytes
  have hr := B.returns
  have hts := atoms_spec (ws := wsX18_coinType) B.pre
  have hown : s.vm.findClass RX18 = some m.cls := findClass_of_methodNamed B.named
  have hlocks := B.notSynchronized
  subst hsz
  have hD := hD0.self (sz := s.heap.size)
  clear hD0
  generalize hAe : va_A (Wd cy a sh n z) s.heap.size = A at hD ⊢
  have hA : ∀ q : Nat, s.heap.size ≤ q → A q := fun q h => by rw [← hAe]; exact Or.inr h
  clear hAe
  have hS : va_S A s.heap s.heap [] := va_S.rf
  have hl := lv_entry ([.int x0, .int x1, .int x2]) (n := 3) (Nat.le_of_ble_eq_true rfl)
  rw [lg_entry_eq]
  generalize (lg_sl ([.int x0, .int x1, .int x2]) ++ List.replicate (3 - (lg_sl ([.int x0, .int x1, .int x2])).length) Slot.unset).toArray = ls at hl ⊢
  replace hl : lv_has ls 3 [(0, .int x0), (1, .int x1), (2, .int x2)] := hl
  unfold fn_X18_coinType at hf
  refine de_start hS hP (fun H locs hS hP => ?_)
  refine lv_iload_n hx hb dX18_coinType_0 rfl (lv_at hl 1 rfl) ?_
  refine lv_iconst (v := 1) hx hb dX18_coinType_1 (by decide) ?_
  refine lv_icmp_ne (tgt := 43) hx hb dX18_coinType_2 (by decide) (fun c_1 => ?_) (fun c_1 => ?_)
  · skip
    rw [if_neg c_1] at hf
    refine lv_iload_n hx hb dX18_coinType_43 rfl (lv_at hl 0 rfl) ?_
    refine lv_if_ne (tgt := 53) hx hb dX18_coinType_44 (by decide) (fun c_2 => ?_) (fun c_2 => ?_)
    · skip
      rw [if_neg c_2] at hf
      refine lv_iload_n hx hb dX18_coinType_53 rfl (lv_at hl 0 rfl) ?_
      refine lv_iconst (v := 1) hx hb dX18_coinType_54 (by decide) ?_
      refine lv_icmp_ne (tgt := 74) hx hb dX18_coinType_55 (by decide) (fun c_3 => ?_) (fun c_3 => ?_)
      · skip
        rw [if_neg c_3] at hf
        refine lv_iload_n hx hb dX18_coinType_74 rfl (lv_at hl 0 rfl) ?_
        refine lv_iconst (v := 2) hx hb dX18_coinType_75 (by decide) ?_
        refine lv_icmp_ne (tgt := 85) hx hb dX18_coinType_76 (by decide) (fun c_4 => ?_) (fun c_4 => ?_)
        · skip
          rw [if_neg c_4] at hf
          refine lv_iload_n hx hb dX18_coinType_85 rfl (lv_at hl 0 rfl) ?_
          refine lv_iconst (v := 3) hx hb dX18_coinType_86 (by decide) ?_
          refine lv_icmp_ne (tgt := 96) hx hb dX18_coinType_87 (by decide) (fun c_5 => ?_) (fun c_5 => ?_)
          · skip
            rw [if_neg c_5] at hf
            refine lv_iload_n hx hb dX18_coinType_96 rfl (lv_at hl 0 rfl) ?_
            refine lv_iconst (v := 4) hx hb dX18_coinType_97 (by decide) ?_
            refine lv_icmp_ne (tgt := 117) hx hb dX18_coinType_98 (by decide) (fun c_6 => ?_) (fun c_6 => ?_)
            · skip
              rw [if_neg c_6] at hf
              refine lv_ldc2 hx hb hown (hts _ md_X18_coinType_3) dX18_coinType_117 ?_
              obtain ⟨h8, h9⟩ := ret_some hf
              rw [h8, h9]
              exact W.lret (v := 5) hx hb hr (fun t ht hW => ⟨⟨5, (), rfl, rfl, by rw [ht]; exact hP, va_K.moved hW.alike hK, hD⟩, hS.F ht⟩) hS.2.2 dX18_coinType_120
            · skip
              rw [if_pos c_6] at hf
              refine lv_iload_n hx hb dX18_coinType_101 rfl (lv_at hl 2 rfl) ?_
              refine lv_if_ne (tgt := 111) hx hb dX18_coinType_102 (by decide) (fun c_7 => ?_) (fun c_7 => ?_)
              · skip
                rw [if_neg c_7] at hf
                refine lv_ldc2 hx hb hown (hts _ md_X18_coinType_2) dX18_coinType_111 ?_
                refine lv_goto (tgt := 120) hx hb dX18_coinType_114 (by decide) ?_
                obtain ⟨h8, h9⟩ := ret_some hf
                rw [h8, h9]
                exact W.lret (v := 3) hx hb hr (fun t ht hW => ⟨⟨3, (), rfl, rfl, by rw [ht]; exact hP, va_K.moved hW.alike hK, hD⟩, hS.F ht⟩) hS.2.2 dX18_coinType_120
              · skip
                rw [if_pos c_7] at hf
                refine lv_ldc2 hx hb hown (hts _ md_X18_coinType_1) dX18_coinType_105 ?_
                refine lv_goto (tgt := 120) hx hb dX18_coinType_108 (by decide) ?_
                obtain ⟨h8, h9⟩ := ret_some hf
                rw [h8, h9]
                exact W.lret (v := 1536) hx hb hr (fun t ht hW => ⟨⟨1536, (), rfl, rfl, by rw [ht]; exact hP, va_K.moved hW.alike hK, hD⟩, hS.F ht⟩) hS.2.2 dX18_coinType_120
          · skip
            rw [if_pos c_5] at hf
            refine lv_ldc2 hx hb hown (hts _ md_X18_coinType_1) dX18_coinType_90 ?_
            refine lv_goto (tgt := 120) hx hb dX18_coinType_93 (by decide) ?_
            obtain ⟨h8, h9⟩ := ret_some hf
            rw [h8, h9]
            exact W.lret (v := 1536) hx hb hr (fun t ht hW => ⟨⟨1536, (), rfl, rfl, by rw [ht]; exact hP, va_K.moved hW.alike hK, hD⟩, hS.F ht⟩) hS.2.2 dX18_coinType_120
        · skip
          rw [if_pos c_4] at hf
          refine lv_ldc2 hx hb hown (hts _ md_X18_coinType_4) dX18_coinType_79 ?_
          refine lv_goto (tgt := 120) hx hb dX18_coinType_82 (by decide) ?_
          obtain ⟨h8, h9⟩ := ret_some hf
          rw [h8, h9]
          exact W.lret (v := 525824) hx hb hr (fun t ht hW => ⟨⟨525824, (), rfl, rfl, by rw [ht]; exact hP, va_K.moved hW.alike hK, hD⟩, hS.F ht⟩) hS.2.2 dX18_coinType_120
      · skip
        rw [if_pos c_3] at hf
        refine lv_iload_n hx hb dX18_coinType_58 rfl (lv_at hl 2 rfl) ?_
        refine lv_if_ne (tgt := 68) hx hb dX18_coinType_59 (by decide) (fun c_8 => ?_) (fun c_8 => ?_)
        · skip
          rw [if_neg c_8] at hf
          refine lv_ldc2 hx hb hown (hts _ md_X18_coinType_1) dX18_coinType_68 ?_
          refine lv_goto (tgt := 120) hx hb dX18_coinType_71 (by decide) ?_
          obtain ⟨h8, h9⟩ := ret_some hf
          rw [h8, h9]
          exact W.lret (v := 1536) hx hb hr (fun t ht hW => ⟨⟨1536, (), rfl, rfl, by rw [ht]; exact hP, va_K.moved hW.alike hK, hD⟩, hS.F ht⟩) hS.2.2 dX18_coinType_120
        · skip
          rw [if_pos c_8] at hf
          refine lv_ldc2 hx hb hown (hts _ md_X18_coinType_3) dX18_coinType_62 ?_
          refine lv_goto (tgt := 120) hx hb dX18_coinType_65 (by decide) ?_
          obtain ⟨h8, h9⟩ := ret_some hf
          rw [h8, h9]
          exact W.lret (v := 5) hx hb hr (fun t ht hW => ⟨⟨5, (), rfl, rfl, by rw [ht]; exact hP, va_K.moved hW.alike hK, hD⟩, hS.F ht⟩) hS.2.2 dX18_coinType_120
    · skip
      rw [if_pos c_2] at hf
      refine lv_ldc2 hx hb hown (hts _ md_X18_coinType_2) dX18_coinType_47 ?_
      refine lv_goto (tgt := 120) hx hb dX18_coinType_50 (by decide) ?_
      obtain ⟨h8, h9⟩ := ret_some hf
      rw [h8, h9]
      exact W.lret (v := 3) hx hb hr (fun t ht hW => ⟨⟨3, (), rfl, rfl, by rw [ht]; exact hP, va_K.moved hW.alike hK, hD⟩, hS.F ht⟩) hS.2.2 dX18_coinType_120
  · skip
    rw [if_pos c_1] at hf
    refine lv_iload_n hx hb dX18_coinType_5 rfl (lv_at hl 0 rfl) ?_
    refine lv_if_eq (tgt := 19) hx hb dX18_coinType_6 (by decide) (fun c_9 => ?_) (fun c_9 => ?_)
    · skip
      rw [if_pos c_9] at hf
      refine lv_ldc2 hx hb hown (hts _ md_X18_coinType_1) dX18_coinType_19 ?_
      refine lv_goto (tgt := 42) hx hb dX18_coinType_22 (by decide) ?_
      obtain ⟨h8, h9⟩ := ret_some hf
      rw [h8, h9]
      exact W.lret (v := 1536) hx hb hr (fun t ht hW => ⟨⟨1536, (), rfl, rfl, by rw [ht]; exact hP, va_K.moved hW.alike hK, hD⟩, hS.F ht⟩) hS.2.2 dX18_coinType_42
    · skip
      rw [if_neg c_9] at hf
      refine lv_iload_n hx hb dX18_coinType_9 rfl (lv_at hl 0 rfl) ?_
      refine lv_iconst (v := 3) hx hb dX18_coinType_10 (by decide) ?_
      refine lv_icmp_eq (tgt := 19) hx hb dX18_coinType_11 (by decide) (fun c_10 => ?_) (fun c_10 => ?_)
      · skip
        rw [if_pos c_10] at hf
        refine lv_ldc2 hx hb hown (hts _ md_X18_coinType_1) dX18_coinType_19 ?_
        refine lv_goto (tgt := 42) hx hb dX18_coinType_22 (by decide) ?_
        obtain ⟨h8, h9⟩ := ret_some hf
        rw [h8, h9]
        exact W.lret (v := 1536) hx hb hr (fun t ht hW => ⟨⟨1536, (), rfl, rfl, by rw [ht]; exact hP, va_K.moved hW.alike hK, hD⟩, hS.F ht⟩) hS.2.2 dX18_coinType_42
      · skip
        rw [if_neg c_10] at hf
        refine lv_iload_n hx hb dX18_coinType_14 rfl (lv_at hl 0 rfl) ?_
        refine lv_iconst (v := 4) hx hb dX18_coinType_15 (by decide) ?_
        refine lv_icmp_ne (tgt := 25) hx hb dX18_coinType_16 (by decide) (fun c_11 => ?_) (fun c_11 => ?_)
        · skip
          rw [if_neg c_11] at hf
          refine lv_iload_n hx hb dX18_coinType_25 rfl (lv_at hl 0 rfl) ?_
          refine lv_iconst (v := 2) hx hb dX18_coinType_26 (by decide) ?_
          refine lv_icmp_eq (tgt := 35) hx hb dX18_coinType_27 (by decide) (fun c_12 => ?_) (fun c_12 => ?_)
          · skip
            rw [if_pos c_12] at hf
            refine lv_ldc2 hx hb hown (hts _ md_X18_coinType_2) dX18_coinType_35 ?_
            refine lv_goto (tgt := 42) hx hb dX18_coinType_38 (by decide) ?_
            obtain ⟨h8, h9⟩ := ret_some hf
            rw [h8, h9]
            exact W.lret (v := 3) hx hb hr (fun t ht hW => ⟨⟨3, (), rfl, rfl, by rw [ht]; exact hP, va_K.moved hW.alike hK, hD⟩, hS.F ht⟩) hS.2.2 dX18_coinType_42
          · skip
            rw [if_neg c_12] at hf
            refine lv_iload_n hx hb dX18_coinType_30 rfl (lv_at hl 0 rfl) ?_
            refine lv_iconst (v := 5) hx hb dX18_coinType_31 (by decide) ?_
            refine lv_icmp_ne (tgt := 41) hx hb dX18_coinType_32 (by decide) (fun c_13 => ?_) (fun c_13 => ?_)
            · skip
              rw [if_neg c_13] at hf
              refine lv_lconst (v := 0) hx hb dX18_coinType_41 (by decide) ?_
              obtain ⟨h8, h9⟩ := ret_some hf
              rw [h8, h9]
              exact W.lret (v := 0) hx hb hr (fun t ht hW => ⟨⟨0, (), rfl, rfl, by rw [ht]; exact hP, va_K.moved hW.alike hK, hD⟩, hS.F ht⟩) hS.2.2 dX18_coinType_42
            · skip
              rw [if_pos c_13] at hf
              refine lv_ldc2 hx hb hown (hts _ md_X18_coinType_2) dX18_coinType_35 ?_
              refine lv_goto (tgt := 42) hx hb dX18_coinType_38 (by decide) ?_
              obtain ⟨h8, h9⟩ := ret_some hf
              rw [h8, h9]
              exact W.lret (v := 3) hx hb hr (fun t ht hW => ⟨⟨3, (), rfl, rfl, by rw [ht]; exact hP, va_K.moved hW.alike hK, hD⟩, hS.F ht⟩) hS.2.2 dX18_coinType_42
        · skip
          rw [if_pos c_11] at hf
          refine lv_ldc2 hx hb hown (hts _ md_X18_coinType_1) dX18_coinType_19 ?_
          refine lv_goto (tgt := 42) hx hb dX18_coinType_22 (by decide) ?_
          obtain ⟨h8, h9⟩ := ret_some hf
          rw [h8, h9]
          exact W.lret (v := 1536) hx hb hr (fun t ht hW => ⟨⟨1536, (), rfl, rfl, by rw [ht]; exact hP, va_K.moved hW.alike hK, hD⟩, hS.F ht⟩) hS.2.2 dX18_coinType_42

set_option maxHeartbeats 4000000 in
set_option maxRecDepth 100000 in
theorem de_X16_operandBytes (l : Launch) (dC : Nat → ClassId) (dI : Nat → Nat → Nat) (cy : Nat → ClassId) (a : Nat → Nat) (sh : Nat → Nat × Nat) (n sz : Nat) (F : Nat) (z : St) (x0 : Int32) {z8 : St} {r8 : Int32} (hf : fn_X16_operandBytes F sh n z x0 = some (z8, r8)) : Met l yX16_operandBytes wsX16_operandBytes ({ frames := 0, cells := 0, slots := 0, locals := 0 }) (va_Pc [.int x0] (fun U => U.heap.size = sz ∧ va_P (dC, dI) vwCl (Wd cy a sh n z) U.heap ∧ va_K (dC, dI) vwCl (TYS cy) U ∧ va_D (fun _ => True) (Wd cy a sh n z) ∧ NK U)) (va_Qi (fun (r9 : Int32) (u : Unit) => r9 = r8) (fun u t => va_P (dC, dI) vwCl (Wd cy a sh n z8) t.heap ∧ va_K (dC, dI) vwCl (TYS cy) t ∧ va_D (va_A (Wd cy a sh n z) sz) (Wd cy a sh n z8)) (va_A (Wd cy a sh n z) sz)) 0 0 (va_A (Wd cy a sh n z) sz) := by
  refine Met.ofW (cc := cX16_operandBytes) (maxL := 1) (ret := (some .int)) (by decide) rfl ?_
  intro p e s m args below meth c s₁ B hml hv
  obtain ⟨rfl, hsz, hP, hK, hD0, hN⟩ := hv
  have hx := B.exec
  have hb := B.bytes
  have hr := B.returns
  have hts := atoms_spec (ws := wsX16_operandBytes) B.pre
  have hown : s.vm.findClass RX16 = some m.cls := findClass_of_methodNamed B.named
  have hlocks := B.notSynchronized
  subst hsz
  have hD := hD0.self (sz := s.heap.size)
  clear hD0
  generalize hAe : va_A (Wd cy a sh n z) s.heap.size = A at hD ⊢
  have hA : ∀ q : Nat, s.heap.size ≤ q → A q := fun q h => by rw [← hAe]; exact Or.inr h
  clear hAe
  have hS : va_S A s.heap s.heap [] := va_S.rf
  have hl := lv_entry ([.int x0]) (n := 1) (Nat.le_of_ble_eq_true rfl)
  rw [lg_entry_eq]
  generalize (lg_sl ([.int x0]) ++ List.replicate (1 - (lg_sl ([.int x0])).length) Slot.unset).toArray = ls at hl ⊢
  replace hl : lv_has ls 1 [(0, .int x0)] := hl
  unfold fn_X16_operandBytes at hf
  refine de_start hS hP (fun H locs hS hP => ?_)
  refine lv_iload_n hx hb dX16_operandBytes_0 rfl (lv_at hl 0 rfl) ?_
  refine lv_iconst (v := 5) hx hb dX16_operandBytes_1 (by decide) ?_
  refine lv_icmp_eq (tgt := 53) hx hb dX16_operandBytes_2 (by decide) (fun c_1 => ?_) (fun c_1 => ?_)
  · skip
    rw [if_pos c_1] at hf
    refine lv_iconst (v := 1) hx hb dX16_operandBytes_53 (by decide) ?_
    obtain ⟨h8, h9⟩ := ret_some hf
    rw [h8, h9]
    exact W.iret (v := 1) hx hb hr (fun t ht hW => ⟨⟨1, (), rfl, rfl, by rw [ht]; exact hP, va_K.moved hW.alike hK, hD⟩, hS.F ht⟩) hS.2.2 dX16_operandBytes_54
  · skip
    rw [if_neg c_1] at hf
    refine lv_iload_n hx hb dX16_operandBytes_5 rfl (lv_at hl 0 rfl) ?_
    refine lv_bipush (v := 10) hx hb dX16_operandBytes_6 (by decide) ?_
    refine de_cut (h := 17) (fun (x : St) => []) (fun x ls H locs => lv_has ls 1 [(0, .int x0)] ∧ va_P (dC, dI) vwCl (Wd cy a sh n x) H ∧ va_D A (Wd cy a sh n x) ∧ va_S A s.heap H locs) (fun x => fn_X16_operandBytes_B17 F sh n x0 x) (z8, r8) ?_ (fun B17 => ?_)
    · intro x ls H locs hI hf
      obtain ⟨z_2, ez⟩ : ∃ w, w = x := ⟨_, rfl⟩
      subst ez
      obtain ⟨hl2, hP2, hD2, hS2⟩ := hI
      replace hl : lv_has ls 1 [(0, .int x0)] := hl2
      replace hP := hP2
      replace hD := hD2
      replace hS := hS2
      clear hl2 hP2 hD2 hS2
      replace hf := fn_X16_operandBytes_B17_s hf
      refine W.eq (g2 := F0 m 17 ls []) rfl ?_
      refine lv_iload_n hx hb dX16_operandBytes_17 rfl (lv_at hl 0 rfl) ?_
      refine lv_bipush (v := 20) hx hb dX16_operandBytes_18 (by decide) ?_
      refine de_cut (h := 29) (fun (x : St) => []) (fun x ls H locs => lv_has ls 1 [(0, .int x0)] ∧ va_P (dC, dI) vwCl (Wd cy a sh n x) H ∧ va_D A (Wd cy a sh n x) ∧ va_S A s.heap H locs) (fun x => fn_X16_operandBytes_B29 F sh n x0 x) (z8, r8) ?_ (fun B29 => ?_)
      · intro x ls H locs hI hf
        obtain ⟨z_3, ez⟩ : ∃ w, w = x := ⟨_, rfl⟩
        subst ez
        obtain ⟨hl2, hP2, hD2, hS2⟩ := hI
        replace hl : lv_has ls 1 [(0, .int x0)] := hl2
        replace hP := hP2
        replace hD := hD2
        replace hS := hS2
        clear hl2 hP2 hD2 hS2
        replace hf := fn_X16_operandBytes_B29_s hf
        refine W.eq (g2 := F0 m 29 ls []) rfl ?_
        refine lv_iload_n hx hb dX16_operandBytes_29 rfl (lv_at hl 0 rfl) ?_
        refine lv_bipush (v := 46) hx hb dX16_operandBytes_30 (by decide) ?_
        refine de_cut (h := 41) (fun (x : St) => []) (fun x ls H locs => lv_has ls 1 [(0, .int x0)] ∧ va_P (dC, dI) vwCl (Wd cy a sh n x) H ∧ va_D A (Wd cy a sh n x) ∧ va_S A s.heap H locs) (fun x => fn_X16_operandBytes_B41 F sh n x0 x) (z8, r8) ?_ (fun B41 => ?_)
        · intro x ls H locs hI hf
          obtain ⟨z_4, ez⟩ : ∃ w, w = x := ⟨_, rfl⟩
          subst ez
          obtain ⟨hl2, hP2, hD2, hS2⟩ := hI
          replace hl : lv_has ls 1 [(0, .int x0)] := hl2
          replace hP := hP2
          replace hD := hD2
          replace hS := hS2
          clear hl2 hP2 hD2 hS2
          replace hf := fn_X16_operandBytes_B41_s hf
          refine W.eq (g2 := F0 m 41 ls []) rfl ?_
          refine lv_iload_n hx hb dX16_operandBytes_41 rfl (lv_at hl 0 rfl) ?_
          refine lv_bipush (v := 52) hx hb dX16_operandBytes_42 (by decide) ?_
          refine de_cut (h := 55) (fun (x : St) => []) (fun x ls H locs => lv_has ls 1 [(0, .int x0)] ∧ va_P (dC, dI) vwCl (Wd cy a sh n x) H ∧ va_D A (Wd cy a sh n x) ∧ va_S A s.heap H locs) (fun x => fn_X16_operandBytes_B55 F sh n x0 x) (z8, r8) ?_ (fun B55 => ?_)
          · intro x ls H locs hI hf
            obtain ⟨z_5, ez⟩ : ∃ w, w = x := ⟨_, rfl⟩
            subst ez
            obtain ⟨hl2, hP2, hD2, hS2⟩ := hI
            replace hl : lv_has ls 1 [(0, .int x0)] := hl2
            replace hP := hP2
            replace hD := hD2
            replace hS := hS2
            clear hl2 hP2 hD2 hS2
            replace hf := fn_X16_operandBytes_B55_s hf
            refine W.eq (g2 := F0 m 55 ls []) rfl ?_
            refine lv_iload_n hx hb dX16_operandBytes_55 rfl (lv_at hl 0 rfl) ?_
            refine lv_bipush (v := 16) hx hb dX16_operandBytes_56 (by decide) ?_
            refine lv_icmp_eq (tgt := 83) hx hb dX16_operandBytes_58 (by decide) (fun c_6 => ?_) (fun c_6 => ?_)
            · skip
              rw [if_pos c_6] at hf
              refine lv_iconst (v := 2) hx hb dX16_operandBytes_83 (by decide) ?_
              obtain ⟨h8, h9⟩ := ret_some hf
              rw [h8, h9]
              exact W.iret (v := 2) hx hb hr (fun t ht hW => ⟨⟨2, (), rfl, rfl, by rw [ht]; exact hP, va_K.moved hW.alike hK, hD⟩, hS.F ht⟩) hS.2.2 dX16_operandBytes_84
            · skip
              rw [if_neg c_6] at hf
              refine lv_iload_n hx hb dX16_operandBytes_61 rfl (lv_at hl 0 rfl) ?_
              refine lv_bipush (v := 17) hx hb dX16_operandBytes_62 (by decide) ?_
              refine lv_icmp_eq (tgt := 83) hx hb dX16_operandBytes_64 (by decide) (fun c_7 => ?_) (fun c_7 => ?_)
              · skip
                rw [if_pos c_7] at hf
                refine lv_iconst (v := 2) hx hb dX16_operandBytes_83 (by decide) ?_
                obtain ⟨h8, h9⟩ := ret_some hf
                rw [h8, h9]
                exact W.iret (v := 2) hx hb hr (fun t ht hW => ⟨⟨2, (), rfl, rfl, by rw [ht]; exact hP, va_K.moved hW.alike hK, hD⟩, hS.F ht⟩) hS.2.2 dX16_operandBytes_84
              · skip
                rw [if_neg c_7] at hf
                refine lv_iload_n hx hb dX16_operandBytes_67 rfl (lv_at hl 0 rfl) ?_
                refine lv_bipush (v := 52) hx hb dX16_operandBytes_68 (by decide) ?_
                refine lv_icmp_eq (tgt := 83) hx hb dX16_operandBytes_70 (by decide) (fun c_8 => ?_) (fun c_8 => ?_)
                · skip
                  rw [if_pos c_8] at hf
                  refine lv_iconst (v := 2) hx hb dX16_operandBytes_83 (by decide) ?_
                  obtain ⟨h8, h9⟩ := ret_some hf
                  rw [h8, h9]
                  exact W.iret (v := 2) hx hb hr (fun t ht hW => ⟨⟨2, (), rfl, rfl, by rw [ht]; exact hP, va_K.moved hW.alike hK, hD⟩, hS.F ht⟩) hS.2.2 dX16_operandBytes_84
                · skip
                  rw [if_neg c_8] at hf
                  refine lv_iload_n hx hb dX16_operandBytes_73 rfl (lv_at hl 0 rfl) ?_
                  refine lv_iconst (v := 1) hx hb dX16_operandBytes_74 (by decide) ?_
                  refine de_cut (h := 85) (fun (x : St) => []) (fun x ls H locs => lv_has ls 1 [(0, .int x0)] ∧ va_P (dC, dI) vwCl (Wd cy a sh n x) H ∧ va_D A (Wd cy a sh n x) ∧ va_S A s.heap H locs) (fun x => fn_X16_operandBytes_B85 F sh n x0 x) (z8, r8) ?_ (fun B85 => ?_)
                  · intro x ls H locs hI hf
                    obtain ⟨z_9, ez⟩ : ∃ w, w = x := ⟨_, rfl⟩
                    subst ez
                    obtain ⟨hl2, hP2, hD2, hS2⟩ := hI
                    replace hl : lv_has ls 1 [(0, .int x0)] := hl2
                    replace hP := hP2
                    replace hD := hD2
                    replace hS := hS2
                    clear hl2 hP2 hD2 hS2
                    replace hf := fn_X16_operandBytes_B85_s hf
                    refine W.eq (g2 := F0 m 85 ls []) rfl ?_
                    refine lv_iload_n hx hb dX16_operandBytes_85 rfl (lv_at hl 0 rfl) ?_
                    refine lv_bipush (v := 6) hx hb dX16_operandBytes_86 (by decide) ?_
                    refine lv_icmp_eq (tgt := 97) hx hb dX16_operandBytes_88 (by decide) (fun c_10 => ?_) (fun c_10 => ?_)
                    · skip
                      rw [if_pos c_10] at hf
                      refine lv_bipush (v := 8) hx hb dX16_operandBytes_97 (by decide) ?_
                      refine lv_goto (tgt := 114) hx hb dX16_operandBytes_99 (by decide) ?_
                      obtain ⟨h8, h9⟩ := ret_some hf
                      rw [h8, h9]
                      exact W.iret (v := 8) hx hb hr (fun t ht hW => ⟨⟨8, (), rfl, rfl, by rw [ht]; exact hP, va_K.moved hW.alike hK, hD⟩, hS.F ht⟩) hS.2.2 dX16_operandBytes_114
                    · skip
                      rw [if_neg c_10] at hf
                      refine lv_iload_n hx hb dX16_operandBytes_91 rfl (lv_at hl 0 rfl) ?_
                      refine lv_bipush (v := 10) hx hb dX16_operandBytes_92 (by decide) ?_
                      refine lv_icmp_ne (tgt := 102) hx hb dX16_operandBytes_94 (by decide) (fun c_11 => ?_) (fun c_11 => ?_)
                      · skip
                        rw [if_neg c_11] at hf
                        refine lv_iload_n hx hb dX16_operandBytes_102 rfl (lv_at hl 0 rfl) ?_
                        refine lv_bipush (v := 7) hx hb dX16_operandBytes_103 (by decide) ?_
                        refine lv_icmp_ne (tgt := 113) hx hb dX16_operandBytes_105 (by decide) (fun c_12 => ?_) (fun c_12 => ?_)
                        · skip
                          rw [if_neg c_12] at hf
                          refine lv_iconst (v := 0) hx hb dX16_operandBytes_113 (by decide) ?_
                          obtain ⟨h8, h9⟩ := ret_some hf
                          rw [h8, h9]
                          exact W.iret (v := 0) hx hb hr (fun t ht hW => ⟨⟨0, (), rfl, rfl, by rw [ht]; exact hP, va_K.moved hW.alike hK, hD⟩, hS.F ht⟩) hS.2.2 dX16_operandBytes_114
                        · skip
                          rw [if_pos c_12] at hf
                          refine lv_bipush (v := 16) hx hb dX16_operandBytes_108 (by decide) ?_
                          refine lv_goto (tgt := 114) hx hb dX16_operandBytes_110 (by decide) ?_
                          obtain ⟨h8, h9⟩ := ret_some hf
                          rw [h8, h9]
                          exact W.iret (v := 16) hx hb hr (fun t ht hW => ⟨⟨16, (), rfl, rfl, by rw [ht]; exact hP, va_K.moved hW.alike hK, hD⟩, hS.F ht⟩) hS.2.2 dX16_operandBytes_114
                      · skip
                        rw [if_pos c_11] at hf
                        refine lv_bipush (v := 8) hx hb dX16_operandBytes_97 (by decide) ?_
                        refine lv_goto (tgt := 114) hx hb dX16_operandBytes_99 (by decide) ?_
                        obtain ⟨h8, h9⟩ := ret_some hf
                        rw [h8, h9]
                        exact W.iret (v := 8) hx hb hr (fun t ht hW => ⟨⟨8, (), rfl, rfl, by rw [ht]; exact hP, va_K.moved hW.alike hK, hD⟩, hS.F ht⟩) hS.2.2 dX16_operandBytes_114
                  refine lv_icmp_le (tgt := 85) hx hb dX16_operandBytes_75 (by decide) (fun c_13 => ?_) (fun c_13 => ?_)
                  · skip
                    rw [if_pos c_13] at hf
                    exact B85 (z_5) ls H locs ⟨lv_sub hl [0] rfl, hP, hD, hS⟩ hf
                  · skip
                    rw [if_neg c_13] at hf
                    refine lv_iload_n hx hb dX16_operandBytes_78 rfl (lv_at hl 0 rfl) ?_
                    refine lv_iconst (v := 5) hx hb dX16_operandBytes_79 (by decide) ?_
                    refine lv_icmp_ge (tgt := 85) hx hb dX16_operandBytes_80 (by decide) (fun c_14 => ?_) (fun c_14 => ?_)
                    · skip
                      rw [if_pos c_14] at hf
                      exact B85 (z_5) ls H locs ⟨lv_sub hl [0] rfl, hP, hD, hS⟩ hf
                    · skip
                      rw [if_neg c_14] at hf
                      refine lv_iconst (v := 2) hx hb dX16_operandBytes_83 (by decide) ?_
                      obtain ⟨h8, h9⟩ := ret_some hf
                      rw [h8, h9]
                      exact W.iret (v := 2) hx hb hr (fun t ht hW => ⟨⟨2, (), rfl, rfl, by rw [ht]; exact hP, va_K.moved hW.alike hK, hD⟩, hS.F ht⟩) hS.2.2 dX16_operandBytes_84
          refine lv_icmp_le (tgt := 55) hx hb dX16_operandBytes_44 (by decide) (fun c_15 => ?_) (fun c_15 => ?_)
          · skip
            rw [if_pos c_15] at hf
            exact B55 (z_4) ls H locs ⟨lv_sub hl [0] rfl, hP, hD, hS⟩ hf
          · skip
            rw [if_neg c_15] at hf
            refine lv_iload_n hx hb dX16_operandBytes_47 rfl (lv_at hl 0 rfl) ?_
            refine lv_bipush (v := 59) hx hb dX16_operandBytes_48 (by decide) ?_
            refine lv_icmp_ge (tgt := 55) hx hb dX16_operandBytes_50 (by decide) (fun c_16 => ?_) (fun c_16 => ?_)
            · skip
              rw [if_pos c_16] at hf
              exact B55 (z_4) ls H locs ⟨lv_sub hl [0] rfl, hP, hD, hS⟩ hf
            · skip
              rw [if_neg c_16] at hf
              refine lv_iconst (v := 1) hx hb dX16_operandBytes_53 (by decide) ?_
              obtain ⟨h8, h9⟩ := ret_some hf
              rw [h8, h9]
              exact W.iret (v := 1) hx hb hr (fun t ht hW => ⟨⟨1, (), rfl, rfl, by rw [ht]; exact hP, va_K.moved hW.alike hK, hD⟩, hS.F ht⟩) hS.2.2 dX16_operandBytes_54
        refine lv_icmp_le (tgt := 41) hx hb dX16_operandBytes_32 (by decide) (fun c_17 => ?_) (fun c_17 => ?_)
        · skip
          rw [if_pos c_17] at hf
          exact B41 (z_3) ls H locs ⟨lv_sub hl [0] rfl, hP, hD, hS⟩ hf
        · skip
          rw [if_neg c_17] at hf
          refine lv_iload_n hx hb dX16_operandBytes_35 rfl (lv_at hl 0 rfl) ?_
          refine lv_bipush (v := 52) hx hb dX16_operandBytes_36 (by decide) ?_
          refine lv_icmp_lt (tgt := 53) hx hb dX16_operandBytes_38 (by decide) (fun c_18 => ?_) (fun c_18 => ?_)
          · skip
            rw [if_pos c_18] at hf
            refine lv_iconst (v := 1) hx hb dX16_operandBytes_53 (by decide) ?_
            obtain ⟨h8, h9⟩ := ret_some hf
            rw [h8, h9]
            exact W.iret (v := 1) hx hb hr (fun t ht hW => ⟨⟨1, (), rfl, rfl, by rw [ht]; exact hP, va_K.moved hW.alike hK, hD⟩, hS.F ht⟩) hS.2.2 dX16_operandBytes_54
          · skip
            rw [if_neg c_18] at hf
            exact B41 (z_3) ls H locs ⟨lv_sub hl [0] rfl, hP, hD, hS⟩ hf
      refine lv_icmp_le (tgt := 29) hx hb dX16_operandBytes_20 (by decide) (fun c_19 => ?_) (fun c_19 => ?_)
      · skip
        rw [if_pos c_19] at hf
        exact B29 (z_2) ls H locs ⟨lv_sub hl [0] rfl, hP, hD, hS⟩ hf
      · skip
        rw [if_neg c_19] at hf
        refine lv_iload_n hx hb dX16_operandBytes_23 rfl (lv_at hl 0 rfl) ?_
        refine lv_bipush (v := 24) hx hb dX16_operandBytes_24 (by decide) ?_
        refine lv_icmp_lt (tgt := 53) hx hb dX16_operandBytes_26 (by decide) (fun c_20 => ?_) (fun c_20 => ?_)
        · skip
          rw [if_pos c_20] at hf
          refine lv_iconst (v := 1) hx hb dX16_operandBytes_53 (by decide) ?_
          obtain ⟨h8, h9⟩ := ret_some hf
          rw [h8, h9]
          exact W.iret (v := 1) hx hb hr (fun t ht hW => ⟨⟨1, (), rfl, rfl, by rw [ht]; exact hP, va_K.moved hW.alike hK, hD⟩, hS.F ht⟩) hS.2.2 dX16_operandBytes_54
        · skip
          rw [if_neg c_20] at hf
          exact B29 (z_2) ls H locs ⟨lv_sub hl [0] rfl, hP, hD, hS⟩ hf
    refine lv_icmp_le (tgt := 17) hx hb dX16_operandBytes_8 (by decide) (fun c_21 => ?_) (fun c_21 => ?_)
    · skip
      rw [if_pos c_21] at hf
      exact B17 (z) ls H locs ⟨lv_sub hl [0] rfl, hP, hD, hS⟩ hf
    · skip
      rw [if_neg c_21] at hf
      refine lv_iload_n hx hb dX16_operandBytes_11 rfl (lv_at hl 0 rfl) ?_
      refine lv_bipush (v := 16) hx hb dX16_operandBytes_12 (by decide) ?_
      refine lv_icmp_lt (tgt := 53) hx hb dX16_operandBytes_14 (by decide) (fun c_22 => ?_) (fun c_22 => ?_)
      · skip
        rw [if_pos c_22] at hf
        refine lv_iconst (v := 1) hx hb dX16_operandBytes_53 (by decide) ?_
        obtain ⟨h8, h9⟩ := ret_some hf
        rw [h8, h9]
        exact W.iret (v := 1) hx hb hr (fun t ht hW => ⟨⟨1, (), rfl, rfl, by rw [ht]; exact hP, va_K.moved hW.alike hK, hD⟩, hS.F ht⟩) hS.2.2 dX16_operandBytes_54
      · skip
        rw [if_neg c_22] at hf
        exact B17 (z) ls H locs ⟨lv_sub hl [0] rfl, hP, hD, hS⟩ hf

theorem md_X17_shift_1 : (.fieldLink RX17 25 "ResourceLedgerModel$Wide" "high" "J" : Cond) ∈ wsX17_shift := List.mem_of_getElem? (i := 1) rfl
theorem iwd_X17_shift_X17 : ∀ w ∈ wsX170, w ∈ wsX17_shift := fun _ h => List.mem_cons_of_mem _ (List.mem_append_right _ h)
theorem md_X17_shift_2 : (.fieldLink RX17 29 "ResourceLedgerModel$Wide" "low" "J" : Cond) ∈ wsX17_shift := List.mem_of_getElem? (i := 2) rfl
theorem md_X17_shift_3 : (.constantLong RX17 69 (255) : Cond) ∈ wsX17_shift := List.mem_of_getElem? (i := 3) rfl
set_option maxHeartbeats 4000000 in
set_option maxRecDepth 100000 in
theorem de_X17_shift (l : Launch) (dC : Nat → ClassId) (dI : Nat → Nat → Nat) (cy : Nat → ClassId) (a : Nat → Nat) (sh : Nat → Nat × Nat) (n sz : Nat) (F : Nat) (z : St) (h0 : Nat) (x0 : Int32) (x1 : Int64) (x2 : Int64) (x3 : Int32) (x4 : Int32) {z8 : St} {r8 : Unit} (hf : fn_X17_shift F sh n z h0 x0 x1 x2 x3 x4 = some (z8, r8)) : Met l yX17_shift wsX17_shift ({ frames := 0, cells := 0, slots := 0, locals := 0 }) (va_Pc [.ref (a h0), .int x0, .long x1, .long x2, .int x3, .int x4] (fun U => U.heap.size = sz ∧ va_P (dC, dI) vwCl (Wd cy a sh n z) U.heap ∧ va_K (dC, dI) vwCl (TYS cy) U ∧ va_D (fun _ => True) (Wd cy a sh n z) ∧ NK U)) (va_Qv (fun u : Unit => True) (fun u t => va_P (dC, dI) vwCl (Wd cy a sh n z8) t.heap ∧ va_K (dC, dI) vwCl (TYS cy) t ∧ va_D (va_A (Wd cy a sh n z) sz) (Wd cy a sh n z8)) (va_A (Wd cy a sh n z) sz)) 0 0 (va_A (Wd cy a sh n z) sz) := by
  refine Met.ofW (cc := cX17_shift) (maxL := 9) (ret := none) (by decide) rfl ?_
  intro p e s m args below meth c s₁ B hml hv
  obtain ⟨rfl, hsz, hP, hK, hD0, hN⟩ := hv
  have hx := B.exec
  have hb := B.bytes
  have hr := B.returns
  have hts := atoms_spec (ws := wsX17_shift) B.pre
  have hown : s.vm.findClass RX17 = some m.cls := findClass_of_methodNamed B.named
  have hlocks := B.notSynchronized
  subst hsz
  have hD := hD0.self (sz := s.heap.size)
  clear hD0
  generalize hAe : va_A (Wd cy a sh n z) s.heap.size = A at hD ⊢
  have hA : ∀ q : Nat, s.heap.size ≤ q → A q := fun q h => by rw [← hAe]; exact Or.inr h
  clear hAe
  have hS : va_S A s.heap s.heap [] := va_S.rf
  have hl := lv_entry ([.ref (a h0), .int x0, .long x1, .long x2, .int x3, .int x4]) (n := 9) (Nat.le_of_ble_eq_true rfl)
  rw [lg_entry_eq]
  generalize (lg_sl ([.ref (a h0), .int x0, .long x1, .long x2, .int x3, .int x4]) ++ List.replicate (9 - (lg_sl ([.ref (a h0), .int x0, .long x1, .long x2, .int x3, .int x4])).length) Slot.unset).toArray = ls at hl ⊢
  replace hl : lv_has ls 9 [(0, .ref (a h0)), (1, .int x0), (2, .long x1), (4, .long x2), (6, .int x3), (7, .int x4)] := hl
  unfold fn_X17_shift at hf
  refine de_start hS hP (fun H locs hS hP => ?_)
  refine lv_aload_n hx hb dX17_shift_0 rfl (lv_at hl 0 rfl) ?_
  refine lv_lload_n hx hb dX17_shift_1 rfl (lv_at hl 2 rfl) ?_
  obtain ⟨g_1, hf⟩ := grd_some hf
  obtain ⟨kg_1, sg_1⟩ := okO_at g_1
  refine va_put (D := (dC, dI)) (ci := 17) (v := .long x1) (ty := .long) (C := RX17) (T := TX17) (N := 5) hx hb hts iwd_X17_shift_X17 tyX17 tyX17_ok nmX17 hown hK hP hD hS h0 (Wd_ob kg_1 sg_1 (by decide)) rfl 3 (by decide) (hts _ md_X17_shift_1) (fun _ h9 => h9) rfl (by decide +kernel) rfl rfl (by rw [fl_len]; decide) dX17_shift_2 (fun H_2 locs hP2 hD2 hS2 => ?_)
  rw [Wd_sl sg_1 (by decide) rfl] at hP2 hD2
  obtain ⟨z_3, ez_3⟩ : ∃ w, w = sl z h0 3 x1 := ⟨_, rfl⟩
  rw [← ez_3] at hP2 hD2
  replace hf := lt_at ez_3 hf
  clear ez_3
  replace hP := hP2
  replace hD := hD2
  replace hS := hS2
  clear hP2 hD2 hS2
  refine lv_aload_n hx hb dX17_shift_5 rfl (lv_at hl 0 rfl) ?_
  refine lv_lload hx hb dX17_shift_6 (lv_at hl 3 rfl) ?_
  refine va_put (D := (dC, dI)) (ci := 17) (v := .long x2) (ty := .long) (C := RX17) (T := TX17) (N := 5) hx hb hts iwd_X17_shift_X17 tyX17 tyX17_ok nmX17 hown hK hP hD hS h0 (Wd_ob kg_1 sg_1 (by decide)) rfl 4 (by decide) (hts _ md_X17_shift_2) (fun _ h9 => h9) rfl (by decide +kernel) rfl rfl (by rw [fl_len]; decide) dX17_shift_8 (fun H_4 locs hP2 hD2 hS2 => ?_)
  rw [Wd_sl sg_1 (by decide) rfl] at hP2 hD2
  obtain ⟨z_5, ez_5⟩ : ∃ w, w = sl z_3 h0 4 x2 := ⟨_, rfl⟩
  rw [← ez_5] at hP2 hD2
  replace hf := lt_at ez_5 hf
  clear ez_5
  replace hP := hP2
  replace hD := hD2
  replace hS := hS2
  clear hP2 hD2 hS2
  refine lv_iconst (v := 0) hx hb dX17_shift_11 (by decide) ?_
  refine lv_istore (lv' := [(8, .int 0), (0, .ref (a h0)), (1, .int x0), (2, .long x1), (4, .long x2), (6, .int x3), (7, .int x4)]) hx hb dX17_shift_12 hl (by decide) rfl (fun ls hl2 => ?_)
  replace hl := hl2
  clear hl2
  have hl0 : lv_has ls 9 [(8, .int 0), (0, .ref (a h0)), (1, .int x0), (6, .int x3), (7, .int x4)] := lv_sub hl [0, 1, 2, 5, 6] rfl
  refine de_loop (h := 14) (fun (x : St × Int32) ls H locs => lv_has ls 9 [(8, .int x.2), (0, .ref (a h0)), (1, .int x0), (6, .int x3), (7, .int x4)] ∧ va_P (dC, dI) vwCl (Wd cy a sh n x.1) H ∧ va_D A (Wd cy a sh n x.1) ∧ va_S A s.heap H locs) (fun f x => fn_X17_shift_L14 F sh n x3 x4 h0 x0 f x.1 x.2) (z8, r8) ?_ (fun _ => rfl) F (z_5, 0) ls H_4 locs ⟨hl0, hP, hD, hS⟩ hf
  intro f_8 x ls H locs ih14 hI hf
  obtain ⟨z_7, p_6⟩ := x
  obtain ⟨hl2, hP2, hD2, hS2⟩ := hI
  replace hl : lv_has ls 9 [(8, .int p_6), (0, .ref (a h0)), (1, .int x0), (6, .int x3), (7, .int x4)] := hl2
  replace hP := hP2
  replace hD := hD2
  replace hS := hS2
  clear hl2 hP2 hD2 hS2 hl0
  replace hf := fn_X17_shift_L14_s hf
  refine lv_iload hx hb dX17_shift_14 (lv_at hl 0 rfl) ?_
  refine lv_iload hx hb dX17_shift_16 (lv_at hl 3 rfl) ?_
  refine lv_icmp_ge (tgt := 90) hx hb dX17_shift_18 (by decide) (fun c_9 => ?_) (fun c_9 => ?_)
  · skip
    rw [if_pos c_9] at hf
    refine lv_iload hx hb dX17_shift_90 (lv_at hl 4 rfl) ?_
    refine lv_sipush (v := 128) hx hb dX17_shift_92 (by decide) ?_
    refine lv_icmp_ne (tgt := 99) hx hb dX17_shift_95 (by decide) (fun c_10 => ?_) (fun c_10 => ?_)
    · skip
      rw [if_neg c_10] at hf
      refine lv_aload_n hx hb dX17_shift_99 rfl (lv_at hl 1 rfl) ?_
      refine lv_lconst (v := 0) hx hb dX17_shift_100 (by decide) ?_
      refine va_put (D := (dC, dI)) (ci := 17) (v := .long 0) (ty := .long) (C := RX17) (T := TX17) (N := 5) hx hb hts iwd_X17_shift_X17 tyX17 tyX17_ok nmX17 hown hK hP hD hS h0 (Wd_ob kg_1 sg_1 (by decide)) rfl 3 (by decide) (hts _ md_X17_shift_1) (fun _ h9 => h9) rfl (by decide +kernel) rfl rfl (by rw [fl_len]; decide) dX17_shift_101 (fun H_11 locs hP2 hD2 hS2 => ?_)
      rw [Wd_sl sg_1 (by decide) rfl] at hP2 hD2
      obtain ⟨z_12, ez_12⟩ : ∃ w, w = sl z_7 h0 3 0 := ⟨_, rfl⟩
      rw [← ez_12] at hP2 hD2
      replace hf := lt_at ez_12 hf
      clear ez_12
      replace hP := hP2
      replace hD := hD2
      replace hS := hS2
      clear hP2 hD2 hS2
      refine lv_aload_n hx hb dX17_shift_104 rfl (lv_at hl 1 rfl) ?_
      refine lv_iload hx hb dX17_shift_105 (lv_at hl 4 rfl) ?_
      refine lv_bipush (v := 8) hx hb dX17_shift_107 (by decide) ?_
      refine lv_icmp_ne (tgt := 123) hx hb dX17_shift_109 (by decide) (fun c_13 => ?_) (fun c_13 => ?_)
      · skip
        rw [if_neg c_13] at hf
        refine lv_aload_n hx hb dX17_shift_123 rfl (lv_at hl 1 rfl) ?_
        refine va_get (D := (dC, dI)) (ci := 17) (v := .long (z_12.2.1 h0 4)) (C := RX17) (T := TX17) (N := 5) hx hb hts iwd_X17_shift_X17 hown hK hP h0 (Wd_ob kg_1 sg_1 (by decide)) rfl 4 (by decide) (hts _ md_X17_shift_2) (fun _ h9 => h9) (fl_at (t := 1) rfl) dX17_shift_124 ?_
        refine va_put (D := (dC, dI)) (ci := 17) (v := .long (z_12.2.1 h0 4)) (ty := .long) (C := RX17) (T := TX17) (N := 5) hx hb hts iwd_X17_shift_X17 tyX17 tyX17_ok nmX17 hown hK hP hD hS h0 (Wd_ob kg_1 sg_1 (by decide)) rfl 4 (by decide) (hts _ md_X17_shift_2) (fun _ h9 => h9) rfl (by decide +kernel) rfl rfl (by rw [fl_len]; decide) dX17_shift_127 (fun H_14 locs hP2 hD2 hS2 => ?_)
        rw [Wd_sl sg_1 (by decide) rfl] at hP2 hD2
        obtain ⟨z_15, ez_15⟩ : ∃ w, w = sl z_12 h0 4 (z_12.2.1 h0 4) := ⟨_, rfl⟩
        rw [← ez_15] at hP2 hD2
        replace hf := lt_at ez_15 hf
        clear ez_15
        replace hP := hP2
        replace hD := hD2
        replace hS := hS2
        clear hP2 hD2 hS2
        obtain ⟨h8, h9⟩ := ret_some hf
        rw [h8]
        exact W.vret hx hb hr (fun t ht hW => ⟨⟨(), rfl, trivial, by rw [ht]; exact hP, va_K.moved hW.alike hK, hD⟩, hS.F ht⟩) hS.2.2 dX17_shift_130
      · skip
        rw [if_pos c_13] at hf
        refine lv_aload_n hx hb dX17_shift_112 rfl (lv_at hl 1 rfl) ?_
        refine va_get (D := (dC, dI)) (ci := 17) (v := .long (z_12.2.1 h0 4)) (C := RX17) (T := TX17) (N := 5) hx hb hts iwd_X17_shift_X17 hown hK hP h0 (Wd_ob kg_1 sg_1 (by decide)) rfl 4 (by decide) (hts _ md_X17_shift_2) (fun _ h9 => h9) (fl_at (t := 1) rfl) dX17_shift_113 ?_
        refine lv_ldc2 hx hb hown (hts _ md_X17_shift_3) dX17_shift_116 ?_
        refine lv_land hx hb dX17_shift_119 ?_
        refine lv_goto (tgt := 127) hx hb dX17_shift_120 (by decide) ?_
        refine va_put (D := (dC, dI)) (ci := 17) (v := .long ((z_12.2.1 h0 4) &&& 255)) (ty := .long) (C := RX17) (T := TX17) (N := 5) hx hb hts iwd_X17_shift_X17 tyX17 tyX17_ok nmX17 hown hK hP hD hS h0 (Wd_ob kg_1 sg_1 (by decide)) rfl 4 (by decide) (hts _ md_X17_shift_2) (fun _ h9 => h9) rfl (by decide +kernel) rfl rfl (by rw [fl_len]; decide) dX17_shift_127 (fun H_16 locs hP2 hD2 hS2 => ?_)
        rw [Wd_sl sg_1 (by decide) rfl] at hP2 hD2
        obtain ⟨z_17, ez_17⟩ : ∃ w, w = sl z_12 h0 4 ((z_12.2.1 h0 4) &&& 255) := ⟨_, rfl⟩
        rw [← ez_17] at hP2 hD2
        replace hf := lt_at ez_17 hf
        clear ez_17
        replace hP := hP2
        replace hD := hD2
        replace hS := hS2
        clear hP2 hD2 hS2
        obtain ⟨h8, h9⟩ := ret_some hf
        rw [h8]
        exact W.vret hx hb hr (fun t ht hW => ⟨⟨(), rfl, trivial, by rw [ht]; exact hP, va_K.moved hW.alike hK, hD⟩, hS.F ht⟩) hS.2.2 dX17_shift_130
    · skip
      rw [if_pos c_10] at hf
      obtain ⟨h8, h9⟩ := ret_some hf
      rw [h8]
      exact W.vret hx hb hr (fun t ht hW => ⟨⟨(), rfl, trivial, by rw [ht]; exact hP, va_K.moved hW.alike hK, hD⟩, hS.F ht⟩) hS.2.2 dX17_shift_98
  · skip
    rw [if_neg c_9] at hf
    refine lv_iload_n hx hb dX17_shift_21 rfl (lv_at hl 2 rfl) ?_
    refine de_cut (h := 84) (fun (x : St) => []) (fun x ls H locs => lv_has ls 9 [(8, .int p_6), (0, .ref (a h0)), (1, .int x0), (6, .int x3), (7, .int x4)] ∧ va_P (dC, dI) vwCl (Wd cy a sh n x) H ∧ va_D A (Wd cy a sh n x) ∧ va_S A s.heap H locs) (fun x => fn_X17_shift_B84 F sh n p_6 (fun z9 q8 => fn_X17_shift_L14 F sh n x3 x4 h0 x0 f_8 z9 q8) x) (z8, r8) ?_ (fun B84 => ?_)
    · intro x ls H locs hI hf
      obtain ⟨z_18, ez⟩ : ∃ w, w = x := ⟨_, rfl⟩
      subst ez
      obtain ⟨hl2, hP2, hD2, hS2⟩ := hI
      replace hl : lv_has ls 9 [(8, .int p_6), (0, .ref (a h0)), (1, .int x0), (6, .int x3), (7, .int x4)] := hl2
      replace hP := hP2
      replace hD := hD2
      replace hS := hS2
      clear hl2 hP2 hD2 hS2
      replace hf := fn_X17_shift_B84_s hf
      refine W.eq (g2 := F0 m 84 ls []) rfl ?_
      refine lv_iinc (v := (p_6 + 1)) (lv' := [(8, .int (p_6 + 1)), (0, .ref (a h0)), (1, .int x0), (6, .int x3), (7, .int x4)]) hx hb dX17_shift_84 hl (k := 0) rfl rfl (by decide) rfl (fun ls hl2 => ?_)
      replace hl := hl2
      clear hl2
      refine lv_goto (tgt := 14) hx hb dX17_shift_87 (by decide) ?_
      exact ih14 (z_18, (p_6 + 1)) ls H locs ⟨lv_sub hl [0, 1, 2, 3, 4] rfl, hP, hD, hS⟩ hf
    refine lv_if_eq (tgt := 56) hx hb dX17_shift_22 (by decide) (fun c_19 => ?_) (fun c_19 => ?_)
    · skip
      rw [if_pos c_19] at hf
      refine lv_aload_n hx hb dX17_shift_56 rfl (lv_at hl 1 rfl) ?_
      refine lv_aload_n hx hb dX17_shift_57 rfl (lv_at hl 1 rfl) ?_
      refine va_get (D := (dC, dI)) (ci := 17) (v := .long (z_7.2.1 h0 4)) (C := RX17) (T := TX17) (N := 5) hx hb hts iwd_X17_shift_X17 hown hK hP h0 (Wd_ob kg_1 sg_1 (by decide)) rfl 4 (by decide) (hts _ md_X17_shift_2) (fun _ h9 => h9) (fl_at (t := 1) rfl) dX17_shift_58 ?_
      refine lv_iconst (v := 1) hx hb dX17_shift_61 (by decide) ?_
      refine lv_lushr (v := (((z_7.2.1 h0 4) : Int64).toUInt64 >>> ((1 : Int32).toInt64.toUInt64 &&& Int64.toUInt64 63)).toInt64) hx hb dX17_shift_62 rfl ?_
      refine lv_aload_n hx hb dX17_shift_63 rfl (lv_at hl 1 rfl) ?_
      refine va_get (D := (dC, dI)) (ci := 17) (v := .long (z_7.2.1 h0 3)) (C := RX17) (T := TX17) (N := 5) hx hb hts iwd_X17_shift_X17 hown hK hP h0 (Wd_ob kg_1 sg_1 (by decide)) rfl 3 (by decide) (hts _ md_X17_shift_1) (fun _ h9 => h9) (fl_at (t := 1) rfl) dX17_shift_64 ?_
      refine lv_bipush (v := 63) hx hb dX17_shift_67 (by decide) ?_
      refine lv_lshl (v := ((z_7.2.1 h0 3) <<< ((63 : Int32).toInt64 &&& 63))) hx hb dX17_shift_69 rfl ?_
      refine lv_lor hx hb dX17_shift_70 ?_
      refine va_put (D := (dC, dI)) (ci := 17) (v := .long (((((z_7.2.1 h0 4) : Int64).toUInt64 >>> ((1 : Int32).toInt64.toUInt64 &&& Int64.toUInt64 63)).toInt64) ||| (((z_7.2.1 h0 3) <<< ((63 : Int32).toInt64 &&& 63))))) (ty := .long) (C := RX17) (T := TX17) (N := 5) hx hb hts iwd_X17_shift_X17 tyX17 tyX17_ok nmX17 hown hK hP hD hS h0 (Wd_ob kg_1 sg_1 (by decide)) rfl 4 (by decide) (hts _ md_X17_shift_2) (fun _ h9 => h9) rfl (by decide +kernel) rfl rfl (by rw [fl_len]; decide) dX17_shift_71 (fun H_20 locs hP2 hD2 hS2 => ?_)
      rw [Wd_sl sg_1 (by decide) rfl] at hP2 hD2
      obtain ⟨z_21, ez_21⟩ : ∃ w, w = sl z_7 h0 4 (((((z_7.2.1 h0 4) : Int64).toUInt64 >>> ((1 : Int32).toInt64.toUInt64 &&& Int64.toUInt64 63)).toInt64) ||| (((z_7.2.1 h0 3) <<< ((63 : Int32).toInt64 &&& 63)))) := ⟨_, rfl⟩
      rw [← ez_21] at hP2 hD2
      replace hf := lt_at ez_21 hf
      clear ez_21
      replace hP := hP2
      replace hD := hD2
      replace hS := hS2
      clear hP2 hD2 hS2
      refine lv_aload_n hx hb dX17_shift_74 rfl (lv_at hl 1 rfl) ?_
      refine lv_aload_n hx hb dX17_shift_75 rfl (lv_at hl 1 rfl) ?_
      refine va_get (D := (dC, dI)) (ci := 17) (v := .long (z_21.2.1 h0 3)) (C := RX17) (T := TX17) (N := 5) hx hb hts iwd_X17_shift_X17 hown hK hP h0 (Wd_ob kg_1 sg_1 (by decide)) rfl 3 (by decide) (hts _ md_X17_shift_1) (fun _ h9 => h9) (fl_at (t := 1) rfl) dX17_shift_76 ?_
      refine lv_iconst (v := 1) hx hb dX17_shift_79 (by decide) ?_
      refine lv_lushr (v := (((z_21.2.1 h0 3) : Int64).toUInt64 >>> ((1 : Int32).toInt64.toUInt64 &&& Int64.toUInt64 63)).toInt64) hx hb dX17_shift_80 rfl ?_
      refine va_put (D := (dC, dI)) (ci := 17) (v := .long ((((z_21.2.1 h0 3) : Int64).toUInt64 >>> ((1 : Int32).toInt64.toUInt64 &&& Int64.toUInt64 63)).toInt64)) (ty := .long) (C := RX17) (T := TX17) (N := 5) hx hb hts iwd_X17_shift_X17 tyX17 tyX17_ok nmX17 hown hK hP hD hS h0 (Wd_ob kg_1 sg_1 (by decide)) rfl 3 (by decide) (hts _ md_X17_shift_1) (fun _ h9 => h9) rfl (by decide +kernel) rfl rfl (by rw [fl_len]; decide) dX17_shift_81 (fun H_22 locs hP2 hD2 hS2 => ?_)
      rw [Wd_sl sg_1 (by decide) rfl] at hP2 hD2
      obtain ⟨z_23, ez_23⟩ : ∃ w, w = sl z_21 h0 3 ((((z_21.2.1 h0 3) : Int64).toUInt64 >>> ((1 : Int32).toInt64.toUInt64 &&& Int64.toUInt64 63)).toInt64) := ⟨_, rfl⟩
      rw [← ez_23] at hP2 hD2
      replace hf := lt_at ez_23 hf
      clear ez_23
      replace hP := hP2
      replace hD := hD2
      replace hS := hS2
      clear hP2 hD2 hS2
      exact B84 (z_23) ls H_22 locs ⟨lv_sub hl [0, 1, 2, 3, 4] rfl, hP, hD, hS⟩ hf
    · skip
      rw [if_neg c_19] at hf
      refine lv_aload_n hx hb dX17_shift_25 rfl (lv_at hl 1 rfl) ?_
      refine lv_aload_n hx hb dX17_shift_26 rfl (lv_at hl 1 rfl) ?_
      refine va_get (D := (dC, dI)) (ci := 17) (v := .long (z_7.2.1 h0 3)) (C := RX17) (T := TX17) (N := 5) hx hb hts iwd_X17_shift_X17 hown hK hP h0 (Wd_ob kg_1 sg_1 (by decide)) rfl 3 (by decide) (hts _ md_X17_shift_1) (fun _ h9 => h9) (fl_at (t := 1) rfl) dX17_shift_27 ?_
      refine lv_iconst (v := 1) hx hb dX17_shift_30 (by decide) ?_
      refine lv_lshl (v := ((z_7.2.1 h0 3) <<< ((1 : Int32).toInt64 &&& 63))) hx hb dX17_shift_31 rfl ?_
      refine lv_aload_n hx hb dX17_shift_32 rfl (lv_at hl 1 rfl) ?_
      refine va_get (D := (dC, dI)) (ci := 17) (v := .long (z_7.2.1 h0 4)) (C := RX17) (T := TX17) (N := 5) hx hb hts iwd_X17_shift_X17 hown hK hP h0 (Wd_ob kg_1 sg_1 (by decide)) rfl 4 (by decide) (hts _ md_X17_shift_2) (fun _ h9 => h9) (fl_at (t := 1) rfl) dX17_shift_33 ?_
      refine lv_bipush (v := 63) hx hb dX17_shift_36 (by decide) ?_
      refine lv_lushr (v := (((z_7.2.1 h0 4) : Int64).toUInt64 >>> ((63 : Int32).toInt64.toUInt64 &&& Int64.toUInt64 63)).toInt64) hx hb dX17_shift_38 rfl ?_
      refine lv_lor hx hb dX17_shift_39 ?_
      refine va_put (D := (dC, dI)) (ci := 17) (v := .long ((((z_7.2.1 h0 3) <<< ((1 : Int32).toInt64 &&& 63))) ||| ((((z_7.2.1 h0 4) : Int64).toUInt64 >>> ((63 : Int32).toInt64.toUInt64 &&& Int64.toUInt64 63)).toInt64))) (ty := .long) (C := RX17) (T := TX17) (N := 5) hx hb hts iwd_X17_shift_X17 tyX17 tyX17_ok nmX17 hown hK hP hD hS h0 (Wd_ob kg_1 sg_1 (by decide)) rfl 3 (by decide) (hts _ md_X17_shift_1) (fun _ h9 => h9) rfl (by decide +kernel) rfl rfl (by rw [fl_len]; decide) dX17_shift_40 (fun H_24 locs hP2 hD2 hS2 => ?_)
      rw [Wd_sl sg_1 (by decide) rfl] at hP2 hD2
      obtain ⟨z_25, ez_25⟩ : ∃ w, w = sl z_7 h0 3 ((((z_7.2.1 h0 3) <<< ((1 : Int32).toInt64 &&& 63))) ||| ((((z_7.2.1 h0 4) : Int64).toUInt64 >>> ((63 : Int32).toInt64.toUInt64 &&& Int64.toUInt64 63)).toInt64)) := ⟨_, rfl⟩
      rw [← ez_25] at hP2 hD2
      replace hf := lt_at ez_25 hf
      clear ez_25
      replace hP := hP2
      replace hD := hD2
      replace hS := hS2
      clear hP2 hD2 hS2
      refine lv_aload_n hx hb dX17_shift_43 rfl (lv_at hl 1 rfl) ?_
      refine lv_aload_n hx hb dX17_shift_44 rfl (lv_at hl 1 rfl) ?_
      refine va_get (D := (dC, dI)) (ci := 17) (v := .long (z_25.2.1 h0 4)) (C := RX17) (T := TX17) (N := 5) hx hb hts iwd_X17_shift_X17 hown hK hP h0 (Wd_ob kg_1 sg_1 (by decide)) rfl 4 (by decide) (hts _ md_X17_shift_2) (fun _ h9 => h9) (fl_at (t := 1) rfl) dX17_shift_45 ?_
      refine lv_iconst (v := 1) hx hb dX17_shift_48 (by decide) ?_
      refine lv_lshl (v := ((z_25.2.1 h0 4) <<< ((1 : Int32).toInt64 &&& 63))) hx hb dX17_shift_49 rfl ?_
      refine va_put (D := (dC, dI)) (ci := 17) (v := .long (((z_25.2.1 h0 4) <<< ((1 : Int32).toInt64 &&& 63)))) (ty := .long) (C := RX17) (T := TX17) (N := 5) hx hb hts iwd_X17_shift_X17 tyX17 tyX17_ok nmX17 hown hK hP hD hS h0 (Wd_ob kg_1 sg_1 (by decide)) rfl 4 (by decide) (hts _ md_X17_shift_2) (fun _ h9 => h9) rfl (by decide +kernel) rfl rfl (by rw [fl_len]; decide) dX17_shift_50 (fun H_26 locs hP2 hD2 hS2 => ?_)
      rw [Wd_sl sg_1 (by decide) rfl] at hP2 hD2
      obtain ⟨z_27, ez_27⟩ : ∃ w, w = sl z_25 h0 4 (((z_25.2.1 h0 4) <<< ((1 : Int32).toInt64 &&& 63))) := ⟨_, rfl⟩
      rw [← ez_27] at hP2 hD2
      replace hf := lt_at ez_27 hf
      clear ez_27
      replace hP := hP2
      replace hD := hD2
      replace hS := hS2
      clear hP2 hD2 hS2
      refine lv_goto (tgt := 84) hx hb dX17_shift_53 (by decide) ?_
      exact B84 (z_27) ls H_26 locs ⟨lv_sub hl [0, 1, 2, 3, 4] rfl, hP, hD, hS⟩ hf

theorem md_X15_isAlike_1 : (.fieldLink RX15 7 "ResourceLedgerModel$Trees" "kinds" "[B" : Cond) ∈ wsX15_isAlike := List.mem_of_getElem? (i := 1) rfl
theorem iwd_X15_isAlike_X15 : ∀ w ∈ wsX150, w ∈ wsX15_isAlike := fun _ h => List.mem_cons_of_mem _ (List.mem_append_right _ h)
theorem md_X15_isAlike_2 : (.fieldLink RX15 13 "ResourceLedgerModel$Trees" "highs" "[J" : Cond) ∈ wsX15_isAlike := List.mem_of_getElem? (i := 2) rfl
theorem md_X15_isAlike_3 : (.fieldLink RX15 17 "ResourceLedgerModel$Trees" "lows" "[J" : Cond) ∈ wsX15_isAlike := List.mem_of_getElem? (i := 3) rfl
theorem md_X15_isAlike_4 : (.fieldLink RX15 20 "ResourceLedgerModel$Trees" "firsts" "[I" : Cond) ∈ wsX15_isAlike := List.mem_of_getElem? (i := 4) rfl
theorem md_X15_isAlike_5 : (.fieldLink RX15 24 "ResourceLedgerModel$Trees" "nexts" "[I" : Cond) ∈ wsX15_isAlike := List.mem_of_getElem? (i := 5) rfl
set_option maxHeartbeats 4000000 in
set_option maxRecDepth 100000 in
theorem de_X15_isAlike (l : Launch) (dC : Nat → ClassId) (dI : Nat → Nat → Nat) (cy : Nat → ClassId) (a : Nat → Nat) (sh : Nat → Nat × Nat) (n F : Nat) : ∀ (d sz : Nat) (z : St) (h0 : Nat) (x0 : Int32) (x1 : Int32) {z8 : St} {r8 : Int32} (_ : fn_X15_isAlike F sh n d z h0 x0 x1 = some (z8, r8)), Met l yX15_isAlike wsX15_isAlike ({ frames := d + 0, cells := 0, slots := 0, locals := d * 24 + 0 }) (va_Pc [.ref (a h0), .int x0, .int x1] (fun U => U.heap.size = sz ∧ va_P (dC, dI) vwCl (Wd cy a sh n z) U.heap ∧ va_K (dC, dI) vwCl (TYS cy) U ∧ va_D (fun _ => True) (Wd cy a sh n z) ∧ NK U)) (va_Qi (fun (r9 : Int32) (u : Unit) => r9 = r8) (fun u t => va_P (dC, dI) vwCl (Wd cy a sh n z8) t.heap ∧ va_K (dC, dI) vwCl (TYS cy) t ∧ va_D (va_A (Wd cy a sh n z) sz) (Wd cy a sh n z8)) (va_A (Wd cy a sh n z) sz)) 0 0 (va_A (Wd cy a sh n z) sz) := by
  intro d
  induction d with
  | zero => intro sz z h0 x0 x1 z8 r8 hf; exact absurd hf (by simp [fn_X15_isAlike])
  | succ d ihd =>
  intro sz z h0 x0 x1 z8 r8 hf
  refine Met.ofW (cc := cX15_isAlike) (maxL := 5) (ret := (some .boolean)) (by decide) rfl ?_
  intro p e s m args below meth c s₁ B hml hv
  obtain ⟨rfl, hsz, hP, hK, hD0, hN⟩ := hv
  have hx := B.exec
  have hb := B.bytes
  have hr := B.returns
  have hts := atoms_spec (ws := wsX15_isAlike) B.pre
  have hown : s.vm.findClass RX15 = some m.cls := findClass_of_methodNamed B.named
  have hlocks := B.notSynchronized
  subst hsz
  have hD := hD0.self (sz := s.heap.size)
  clear hD0
  generalize hAe : va_A (Wd cy a sh n z) s.heap.size = A at hD ⊢
  have hA : ∀ q : Nat, s.heap.size ≤ q → A q := fun q h => by rw [← hAe]; exact Or.inr h
  clear hAe
  have hS : va_S A s.heap s.heap [] := va_S.rf
  have hl := lv_entry ([.ref (a h0), .int x0, .int x1]) (n := 5) (Nat.le_of_ble_eq_true rfl)
  rw [lg_entry_eq]
  generalize (lg_sl ([.ref (a h0), .int x0, .int x1]) ++ List.replicate (5 - (lg_sl ([.ref (a h0), .int x0, .int x1])).length) Slot.unset).toArray = ls at hl ⊢
  replace hl : lv_has ls 5 [(0, .ref (a h0)), (1, .int x0), (2, .int x1)] := hl
  replace hf := fn_X15_isAlike_s hf
  refine de_start hS hP (fun H locs hS hP => ?_)
  refine lv_aload_n hx hb dX15_isAlike_0 rfl (lv_at hl 0 rfl) ?_
  obtain ⟨g_1, hf⟩ := grd_some hf
  obtain ⟨kg_1, sg_1⟩ := okO_at g_1
  obtain ⟨k_2, ek_2, hf⟩ := lnk_some hf
  refine va_get (D := (dC, dI)) (ci := 15) (v := .ref (a k_2)) (C := RX15) (T := TX15) (N := 6) hx hb hts iwd_X15_isAlike_X15 hown hK hP h0 (Wd_ob kg_1 sg_1 (by decide)) rfl 0 (by decide) (hts _ md_X15_isAlike_1) (fun _ h9 => h9) (fl_q rfl ek_2) dX15_isAlike_1 ?_
  refine lv_iload_n hx hb dX15_isAlike_4 rfl (lv_at hl 1 rfl) ?_
  obtain ⟨g_3, hf⟩ := grd_some hf
  obtain ⟨kg_3, sg_3, ig_3⟩ := okA_at g_3
  refine va_bald hx hb hK hP k_2 0 (Wd_ab kg_3 sg_3) rfl ig_3 dX15_isAlike_5 ?_
  refine lv_aload_n hx hb dX15_isAlike_6 rfl (lv_at hl 0 rfl) ?_
  obtain ⟨k_4, ek_4, hf⟩ := lnk_some hf
  refine va_get (D := (dC, dI)) (ci := 15) (v := .ref (a k_4)) (C := RX15) (T := TX15) (N := 6) hx hb hts iwd_X15_isAlike_X15 hown hK hP h0 (Wd_ob kg_1 sg_1 (by decide)) rfl 0 (by decide) (hts _ md_X15_isAlike_1) (fun _ h9 => h9) (fl_q rfl ek_4) dX15_isAlike_7 ?_
  refine lv_iload_n hx hb dX15_isAlike_10 rfl (lv_at hl 2 rfl) ?_
  obtain ⟨g_5, hf⟩ := grd_some hf
  obtain ⟨kg_5, sg_5, ig_5⟩ := okA_at g_5
  refine va_bald hx hb hK hP k_4 0 (Wd_ab kg_5 sg_5) rfl ig_5 dX15_isAlike_11 ?_
  refine lv_icmp_ne (tgt := 47) hx hb dX15_isAlike_12 (by decide) (fun c_6 => ?_) (fun c_6 => ?_)
  · skip
    rw [if_neg c_6] at hf
    refine lv_iconst (v := 0) hx hb dX15_isAlike_47 (by decide) ?_
    obtain ⟨h8, h9⟩ := ret_some hf
    rw [h8, h9]
    exact W.zret (v := 0) hx hb hr rfl (fun t ht hW => ⟨⟨0, (), rfl, rfl, by rw [ht]; exact hP, va_K.moved hW.alike hK, hD⟩, hS.F ht⟩) hS.2.2 dX15_isAlike_48
  · skip
    rw [if_pos c_6] at hf
    refine lv_aload_n hx hb dX15_isAlike_15 rfl (lv_at hl 0 rfl) ?_
    obtain ⟨k_7, ek_7, hf⟩ := lnk_some hf
    refine va_get (D := (dC, dI)) (ci := 15) (v := .ref (a k_7)) (C := RX15) (T := TX15) (N := 6) hx hb hts iwd_X15_isAlike_X15 hown hK hP h0 (Wd_ob kg_1 sg_1 (by decide)) rfl 1 (by decide) (hts _ md_X15_isAlike_2) (fun _ h9 => h9) (fl_q rfl ek_7) dX15_isAlike_16 ?_
    refine lv_iload_n hx hb dX15_isAlike_19 rfl (lv_at hl 1 rfl) ?_
    obtain ⟨g_8, hf⟩ := grd_some hf
    obtain ⟨kg_8, sg_8, ig_8⟩ := okA_at g_8
    refine va_lald hx hb hK hP k_7 2 (Wd_al kg_8 sg_8) rfl ig_8 dX15_isAlike_20 ?_
    refine lv_aload_n hx hb dX15_isAlike_21 rfl (lv_at hl 0 rfl) ?_
    obtain ⟨k_9, ek_9, hf⟩ := lnk_some hf
    refine va_get (D := (dC, dI)) (ci := 15) (v := .ref (a k_9)) (C := RX15) (T := TX15) (N := 6) hx hb hts iwd_X15_isAlike_X15 hown hK hP h0 (Wd_ob kg_1 sg_1 (by decide)) rfl 1 (by decide) (hts _ md_X15_isAlike_2) (fun _ h9 => h9) (fl_q rfl ek_9) dX15_isAlike_22 ?_
    refine lv_iload_n hx hb dX15_isAlike_25 rfl (lv_at hl 2 rfl) ?_
    obtain ⟨g_10, hf⟩ := grd_some hf
    obtain ⟨kg_10, sg_10, ig_10⟩ := okA_at g_10
    refine va_lald hx hb hK hP k_9 2 (Wd_al kg_10 sg_10) rfl ig_10 dX15_isAlike_26 ?_
    refine W.lcmp hx hb dX15_isAlike_27 ?_
    refine lv_if_ne (tgt := 47) hx hb dX15_isAlike_28 (by decide) (fun c_11 => ?_) (fun c_11 => ?_)
    · skip
      rw [lg_cmp_eq] at c_11
      rw [if_neg c_11] at hf
      refine lv_iconst (v := 0) hx hb dX15_isAlike_47 (by decide) ?_
      obtain ⟨h8, h9⟩ := ret_some hf
      rw [h8, h9]
      exact W.zret (v := 0) hx hb hr rfl (fun t ht hW => ⟨⟨0, (), rfl, rfl, by rw [ht]; exact hP, va_K.moved hW.alike hK, hD⟩, hS.F ht⟩) hS.2.2 dX15_isAlike_48
    · skip
      rw [lg_cmp_eq] at c_11
      rw [if_pos c_11] at hf
      refine lv_aload_n hx hb dX15_isAlike_31 rfl (lv_at hl 0 rfl) ?_
      obtain ⟨k_12, ek_12, hf⟩ := lnk_some hf
      refine va_get (D := (dC, dI)) (ci := 15) (v := .ref (a k_12)) (C := RX15) (T := TX15) (N := 6) hx hb hts iwd_X15_isAlike_X15 hown hK hP h0 (Wd_ob kg_1 sg_1 (by decide)) rfl 2 (by decide) (hts _ md_X15_isAlike_3) (fun _ h9 => h9) (fl_q rfl ek_12) dX15_isAlike_32 ?_
      refine lv_iload_n hx hb dX15_isAlike_35 rfl (lv_at hl 1 rfl) ?_
      obtain ⟨g_13, hf⟩ := grd_some hf
      obtain ⟨kg_13, sg_13, ig_13⟩ := okA_at g_13
      refine va_lald hx hb hK hP k_12 2 (Wd_al kg_13 sg_13) rfl ig_13 dX15_isAlike_36 ?_
      refine lv_aload_n hx hb dX15_isAlike_37 rfl (lv_at hl 0 rfl) ?_
      obtain ⟨k_14, ek_14, hf⟩ := lnk_some hf
      refine va_get (D := (dC, dI)) (ci := 15) (v := .ref (a k_14)) (C := RX15) (T := TX15) (N := 6) hx hb hts iwd_X15_isAlike_X15 hown hK hP h0 (Wd_ob kg_1 sg_1 (by decide)) rfl 2 (by decide) (hts _ md_X15_isAlike_3) (fun _ h9 => h9) (fl_q rfl ek_14) dX15_isAlike_38 ?_
      refine lv_iload_n hx hb dX15_isAlike_41 rfl (lv_at hl 2 rfl) ?_
      obtain ⟨g_15, hf⟩ := grd_some hf
      obtain ⟨kg_15, sg_15, ig_15⟩ := okA_at g_15
      refine va_lald hx hb hK hP k_14 2 (Wd_al kg_15 sg_15) rfl ig_15 dX15_isAlike_42 ?_
      refine W.lcmp hx hb dX15_isAlike_43 ?_
      refine lv_if_eq (tgt := 49) hx hb dX15_isAlike_44 (by decide) (fun c_16 => ?_) (fun c_16 => ?_)
      · skip
        rw [lg_cmp_eq] at c_16
        rw [if_pos c_16] at hf
        refine lv_aload_n hx hb dX15_isAlike_49 rfl (lv_at hl 0 rfl) ?_
        obtain ⟨k_17, ek_17, hf⟩ := lnk_some hf
        refine va_get (D := (dC, dI)) (ci := 15) (v := .ref (a k_17)) (C := RX15) (T := TX15) (N := 6) hx hb hts iwd_X15_isAlike_X15 hown hK hP h0 (Wd_ob kg_1 sg_1 (by decide)) rfl 3 (by decide) (hts _ md_X15_isAlike_4) (fun _ h9 => h9) (fl_q rfl ek_17) dX15_isAlike_50 ?_
        refine lv_iload_n hx hb dX15_isAlike_53 rfl (lv_at hl 1 rfl) ?_
        obtain ⟨g_18, hf⟩ := grd_some hf
        obtain ⟨kg_18, sg_18, ig_18⟩ := okA_at g_18
        refine va_iald hx hb hK hP k_17 1 (Wd_ai kg_18 sg_18) rfl ig_18 dX15_isAlike_54 ?_
        refine lv_topi (fun v_19 ev_19 => ?_)
        replace hf := lt_at ev_19 hf
        clear ev_19
        refine lv_istore_n (lv' := [(3, .int v_19), (0, .ref (a h0)), (1, .int x0), (2, .int x1)]) hx hb dX15_isAlike_55 rfl hl (by decide) rfl (fun ls hl2 => ?_)
        replace hl := hl2
        clear hl2
        refine lv_aload_n hx hb dX15_isAlike_56 rfl (lv_at hl 1 rfl) ?_
        obtain ⟨k_20, ek_20, hf⟩ := lnk_some hf
        refine va_get (D := (dC, dI)) (ci := 15) (v := .ref (a k_20)) (C := RX15) (T := TX15) (N := 6) hx hb hts iwd_X15_isAlike_X15 hown hK hP h0 (Wd_ob kg_1 sg_1 (by decide)) rfl 3 (by decide) (hts _ md_X15_isAlike_4) (fun _ h9 => h9) (fl_q rfl ek_20) dX15_isAlike_57 ?_
        refine lv_iload_n hx hb dX15_isAlike_60 rfl (lv_at hl 3 rfl) ?_
        obtain ⟨g_21, hf⟩ := grd_some hf
        obtain ⟨kg_21, sg_21, ig_21⟩ := okA_at g_21
        refine va_iald hx hb hK hP k_20 1 (Wd_ai kg_21 sg_21) rfl ig_21 dX15_isAlike_61 ?_
        refine lv_topi (fun v_22 ev_22 => ?_)
        replace hf := lt_at ev_22 hf
        clear ev_22
        refine lv_istore (lv' := [(4, .int v_22), (3, .int v_19), (0, .ref (a h0)), (1, .int x0), (2, .int x1)]) hx hb dX15_isAlike_62 hl (by decide) rfl (fun ls hl2 => ?_)
        replace hl := hl2
        clear hl2
        have hl0 : lv_has ls 5 [(4, .int v_22), (3, .int v_19), (0, .ref (a h0))] := lv_sub hl [0, 1, 2] rfl
        refine de_loop (h := 64) (fun (x : St × Int32 × Int32) ls H locs => lv_has ls 5 [(4, .int x.2.2), (3, .int x.2.1), (0, .ref (a h0))] ∧ va_P (dC, dI) vwCl (Wd cy a sh n x.1) H ∧ va_D A (Wd cy a sh n x.1) ∧ va_S A s.heap H locs) (fun f x => fn_X15_isAlike_L64 F sh n (fn_X15_isAlike F sh n d) h0 f x.1 x.2.1 x.2.2) (z8, r8) ?_ (fun _ => rfl) F (z, v_19, v_22) ls H locs ⟨hl0, hP, hD, hS⟩ hf
        intro f_26 x ls H locs ih64 hI hf
        obtain ⟨z_25, p_23, p_24⟩ := x
        obtain ⟨hl2, hP2, hD2, hS2⟩ := hI
        replace hl : lv_has ls 5 [(4, .int p_24), (3, .int p_23), (0, .ref (a h0))] := hl2
        replace hP := hP2
        replace hD := hD2
        replace hS := hS2
        clear hl2 hP2 hD2 hS2 hl0
        replace hf := fn_X15_isAlike_L64_s hf
        refine lv_iload_n hx hb dX15_isAlike_64 rfl (lv_at hl 1 rfl) ?_
        refine lv_iconst (v := (-1)) hx hb dX15_isAlike_65 (by decide) ?_
        refine de_cut (h := 104) (fun (x : St × Int32 × Int32) => []) (fun x ls H locs => lv_has ls 5 [(3, .int x.2.1), (4, .int x.2.2)] ∧ va_P (dC, dI) vwCl (Wd cy a sh n x.1) H ∧ va_D A (Wd cy a sh n x.1) ∧ va_S A s.heap H locs) (fun x => fn_X15_isAlike_B104 F sh n x.1 x.2.1 x.2.2) (z8, r8) ?_ (fun B104 => ?_)
        · intro x ls H locs hI hf
          obtain ⟨z_29, p_27, p_28⟩ := x
          obtain ⟨hl2, hP2, hD2, hS2⟩ := hI
          replace hl : lv_has ls 5 [(3, .int p_27), (4, .int p_28)] := hl2
          replace hP := hP2
          replace hD := hD2
          replace hS := hS2
          clear hl2 hP2 hD2 hS2
          replace hf := fn_X15_isAlike_B104_s hf
          refine W.eq (g2 := F0 m 104 ls []) rfl ?_
          refine lv_iload_n hx hb dX15_isAlike_104 rfl (lv_at hl 0 rfl) ?_
          refine lv_iconst (v := (-1)) hx hb dX15_isAlike_105 (by decide) ?_
          refine lv_icmp_ne (tgt := 119) hx hb dX15_isAlike_106 (by decide) (fun c_30 => ?_) (fun c_30 => ?_)
          · skip
            rw [if_neg c_30] at hf
            refine lv_iconst (v := 0) hx hb dX15_isAlike_119 (by decide) ?_
            obtain ⟨h8, h9⟩ := ret_some hf
            rw [h8, h9]
            exact W.zret (v := 0) hx hb hr rfl (fun t ht hW => ⟨⟨0, (), rfl, rfl, by rw [ht]; exact hP, va_K.moved hW.alike hK, hD⟩, hS.F ht⟩) hS.2.2 dX15_isAlike_120
          · skip
            rw [if_pos c_30] at hf
            refine lv_iload hx hb dX15_isAlike_109 (lv_at hl 1 rfl) ?_
            refine lv_iconst (v := (-1)) hx hb dX15_isAlike_111 (by decide) ?_
            refine lv_icmp_ne (tgt := 119) hx hb dX15_isAlike_112 (by decide) (fun c_31 => ?_) (fun c_31 => ?_)
            · skip
              rw [if_neg c_31] at hf
              refine lv_iconst (v := 0) hx hb dX15_isAlike_119 (by decide) ?_
              obtain ⟨h8, h9⟩ := ret_some hf
              rw [h8, h9]
              exact W.zret (v := 0) hx hb hr rfl (fun t ht hW => ⟨⟨0, (), rfl, rfl, by rw [ht]; exact hP, va_K.moved hW.alike hK, hD⟩, hS.F ht⟩) hS.2.2 dX15_isAlike_120
            · skip
              rw [if_pos c_31] at hf
              refine lv_iconst (v := 1) hx hb dX15_isAlike_115 (by decide) ?_
              refine lv_goto (tgt := 120) hx hb dX15_isAlike_116 (by decide) ?_
              obtain ⟨h8, h9⟩ := ret_some hf
              rw [h8, h9]
              exact W.zret (v := 1) hx hb hr rfl (fun t ht hW => ⟨⟨1, (), rfl, rfl, by rw [ht]; exact hP, va_K.moved hW.alike hK, hD⟩, hS.F ht⟩) hS.2.2 dX15_isAlike_120
        refine lv_icmp_eq (tgt := 104) hx hb dX15_isAlike_66 (by decide) (fun c_32 => ?_) (fun c_32 => ?_)
        · skip
          rw [if_pos c_32] at hf
          exact B104 (z_25, p_23, p_24) ls H locs ⟨lv_sub hl [1, 0] rfl, hP, hD, hS⟩ hf
        · skip
          rw [if_neg c_32] at hf
          refine lv_iload hx hb dX15_isAlike_69 (lv_at hl 0 rfl) ?_
          refine lv_iconst (v := (-1)) hx hb dX15_isAlike_71 (by decide) ?_
          refine lv_icmp_eq (tgt := 104) hx hb dX15_isAlike_72 (by decide) (fun c_33 => ?_) (fun c_33 => ?_)
          · skip
            rw [if_pos c_33] at hf
            exact B104 (z_25, p_23, p_24) ls H locs ⟨lv_sub hl [1, 0] rfl, hP, hD, hS⟩ hf
          · skip
            rw [if_neg c_33] at hf
            refine lv_aload_n hx hb dX15_isAlike_75 rfl (lv_at hl 2 rfl) ?_
            refine lv_iload_n hx hb dX15_isAlike_76 rfl (lv_at hl 1 rfl) ?_
            refine lv_iload hx hb dX15_isAlike_77 (lv_at hl 0 rfl) ?_
            obtain ⟨z_34, r_35, hfc, hf⟩ := cal_some hf
            have hFc := de_free hD hS hA
            refine va_calli (va_runV (As := [.int p_23, .int p_24]) (rest := []) ⟨hx, hb, hml, hown, hts⟩ (ihd H.size z_25 h0 p_23 p_24 hfc) (cwV 2 hts gX15_isAlike_X15_isAlike rfl rfl rfl (by decide +kernel) ⟨by show _ ≤ d + 1 + 0; (try dsimp only); omega, by show _ ≤ (d + 1) * 24 + 0; (try dsimp only); omega⟩) ⟨fun a U g mk q => by obtain ⟨q0, q1, qP, qK, qD, qN⟩ := q; exact ⟨q0, q1, qP, va_K.moved (u := U) (U := U.calling g mk a) (Vm.Alike.refl U.vm) qK, qD, qN.same rfl⟩, va_recv hK hP (ci := 15) (q0 := h0) rfl (Wd_ob kg_1 sg_1 (by decide)), fun U hU hW => ⟨rfl, by rw [hU], by rw [hU]; exact hP, va_K.moved hW.alike hK, hD.weaken (fun _ _ _ _ => trivial), hN.warm hW⟩⟩ rfl rfl hl.1 rfl (lv_room (Nat.le_of_ble_eq_true rfl)) dX15_isAlike_79 ⟨Nat.le_of_ble_eq_true rfl, Nat.le_of_ble_eq_true rfl⟩) hS (fun q _ h => hFc q h) hFc (fun rr u t H_36 locs ht hvm hw hB hz1 hk1 hS2 => ?_)
            rw [hw]
            clear hw
            obtain ⟨hP1, -, hD1⟩ := hB
            rw [ht] at hP1
            replace hD := hD1.weaken (fun _ _ _ h => hFc _ h)
            replace hP := hP1
            replace hS := hS2
            clear hP1 hD1 hS2 hFc hfc hz1 hk1 hvm ht
            refine lv_if_eq (tgt := 104) hx hb dX15_isAlike_82 (by decide) (fun c_37 => ?_) (fun c_37 => ?_)
            · skip
              rw [if_pos c_37] at hf
              exact B104 (z_34, p_23, p_24) ls H_36 locs ⟨lv_sub hl [1, 0] rfl, hP, hD, hS⟩ hf
            · skip
              rw [if_neg c_37] at hf
              refine lv_aload_n hx hb dX15_isAlike_85 rfl (lv_at hl 2 rfl) ?_
              obtain ⟨k_38, ek_38, hf⟩ := lnk_some hf
              refine va_get (D := (dC, dI)) (ci := 15) (v := .ref (a k_38)) (C := RX15) (T := TX15) (N := 6) hx hb hts iwd_X15_isAlike_X15 hown hK hP h0 (Wd_ob kg_1 sg_1 (by decide)) rfl 4 (by decide) (hts _ md_X15_isAlike_5) (fun _ h9 => h9) (fl_q rfl ek_38) dX15_isAlike_86 ?_
              refine lv_iload_n hx hb dX15_isAlike_89 rfl (lv_at hl 1 rfl) ?_
              obtain ⟨g_39, hf⟩ := grd_some hf
              obtain ⟨kg_39, sg_39, ig_39⟩ := okA_at g_39
              refine va_iald hx hb hK hP k_38 1 (Wd_ai kg_39 sg_39) rfl ig_39 dX15_isAlike_90 ?_
              refine lv_topi (fun v_40 ev_40 => ?_)
              replace hf := lt_at ev_40 hf
              clear ev_40
              refine lv_istore_n (lv' := [(3, .int v_40), (4, .int p_24), (0, .ref (a h0))]) hx hb dX15_isAlike_91 rfl hl (by decide) rfl (fun ls hl2 => ?_)
              replace hl := hl2
              clear hl2
              refine lv_aload_n hx hb dX15_isAlike_92 rfl (lv_at hl 2 rfl) ?_
              obtain ⟨k_41, ek_41, hf⟩ := lnk_some hf
              refine va_get (D := (dC, dI)) (ci := 15) (v := .ref (a k_41)) (C := RX15) (T := TX15) (N := 6) hx hb hts iwd_X15_isAlike_X15 hown hK hP h0 (Wd_ob kg_1 sg_1 (by decide)) rfl 4 (by decide) (hts _ md_X15_isAlike_5) (fun _ h9 => h9) (fl_q rfl ek_41) dX15_isAlike_93 ?_
              refine lv_iload hx hb dX15_isAlike_96 (lv_at hl 1 rfl) ?_
              obtain ⟨g_42, hf⟩ := grd_some hf
              obtain ⟨kg_42, sg_42, ig_42⟩ := okA_at g_42
              refine va_iald hx hb hK hP k_41 1 (Wd_ai kg_42 sg_42) rfl ig_42 dX15_isAlike_98 ?_
              refine lv_topi (fun v_43 ev_43 => ?_)
              replace hf := lt_at ev_43 hf
              clear ev_43
              refine lv_istore (lv' := [(4, .int v_43), (3, .int v_40), (0, .ref (a h0))]) hx hb dX15_isAlike_99 hl (by decide) rfl (fun ls hl2 => ?_)
              replace hl := hl2
              clear hl2
              refine lv_goto (tgt := 64) hx hb dX15_isAlike_101 (by decide) ?_
              exact ih64 (z_34, v_40, v_43) ls H_36 locs ⟨lv_sub hl [0, 1, 2] rfl, hP, hD, hS⟩ hf
      · skip
        rw [lg_cmp_eq] at c_16
        rw [if_neg c_16] at hf
        refine lv_iconst (v := 0) hx hb dX15_isAlike_47 (by decide) ?_
        obtain ⟨h8, h9⟩ := ret_some hf
        rw [h8, h9]
        exact W.zret (v := 0) hx hb hr rfl (fun t ht hW => ⟨⟨0, (), rfl, rfl, by rw [ht]; exact hP, va_K.moved hW.alike hK, hD⟩, hS.F ht⟩) hS.2.2 dX15_isAlike_48

theorem md_X18_removeResource_1 : (.fieldLink RX18 10 "ResourceLedgerModel" "resources" "I" : Cond) ∈ wsX18_removeResource := List.mem_of_getElem? (i := 1) rfl
theorem iwd_X18_removeResource_X18 : ∀ w ∈ wsX180, w ∈ wsX18_removeResource := fun _ h => List.mem_cons_of_mem _ (List.mem_append_right _ h)
theorem md_X18_removeResource_2 : (.fieldLink RX18 27 "ResourceLedgerModel" "owners" "[J" : Cond) ∈ wsX18_removeResource := List.mem_of_getElem? (i := 2) rfl
theorem md_X18_removeResource_3 : (.fieldLink RX18 30 "ResourceLedgerModel" "kindsOf" "[I" : Cond) ∈ wsX18_removeResource := List.mem_of_getElem? (i := 3) rfl
theorem md_X18_removeResource_4 : (.fieldLink RX18 44 "ResourceLedgerModel" "rowKinds" "[B" : Cond) ∈ wsX18_removeResource := List.mem_of_getElem? (i := 4) rfl
theorem md_X18_removeResource_5 : (.fieldLink RX18 48 "ResourceLedgerModel" "rowHighs" "[J" : Cond) ∈ wsX18_removeResource := List.mem_of_getElem? (i := 5) rfl
theorem md_X18_removeResource_6 : (.fieldLink RX18 51 "ResourceLedgerModel" "rowLows" "[J" : Cond) ∈ wsX18_removeResource := List.mem_of_getElem? (i := 6) rfl
theorem md_X18_removeResource_7 : (.fieldLink RX18 60 "ResourceLedgerModel" "rowParts" "[I" : Cond) ∈ wsX18_removeResource := List.mem_of_getElem? (i := 7) rfl
set_option maxHeartbeats 4000000 in
set_option maxRecDepth 100000 in
theorem de_X18_removeResource (l : Launch) (dC : Nat → ClassId) (dI : Nat → Nat → Nat) (cy : Nat → ClassId) (a : Nat → Nat) (sh : Nat → Nat × Nat) (n sz : Nat) (F : Nat) (z : St) (h0 : Nat) (x0 : Int32) {z8 : St} {r8 : Unit} (hf : fn_X18_removeResource F sh n z h0 x0 = some (z8, r8)) : Met l yX18_removeResource wsX18_removeResource ({ frames := 0, cells := 0, slots := 0, locals := 0 }) (va_Pc [.ref (a h0), .int x0] (fun U => U.heap.size = sz ∧ va_P (dC, dI) vwCl (Wd cy a sh n z) U.heap ∧ va_K (dC, dI) vwCl (TYS cy) U ∧ va_D (fun _ => True) (Wd cy a sh n z) ∧ NK U)) (va_Qv (fun u : Unit => True) (fun u t => va_P (dC, dI) vwCl (Wd cy a sh n z8) t.heap ∧ va_K (dC, dI) vwCl (TYS cy) t ∧ va_D (va_A (Wd cy a sh n z) sz) (Wd cy a sh n z8)) (va_A (Wd cy a sh n z) sz)) 0 0 (va_A (Wd cy a sh n z) sz) := by
  refine Met.ofW (cc := cX18_removeResource) (maxL := 3) (ret := none) (by decide) rfl ?_
  intro p e s m args below meth c s₁ B hml hv
  obtain ⟨rfl, hsz, hP, hK, hD0, hN⟩ := hv
  have hx := B.exec
  have hb := B.bytes
  have hr := B.returns
  have hts := atoms_spec (ws := wsX18_removeResource) B.pre
  have hown : s.vm.findClass RX18 = some m.cls := findClass_of_methodNamed B.named
  have hlocks := B.notSynchronized
  subst hsz
  have hD := hD0.self (sz := s.heap.size)
  clear hD0
  generalize hAe : va_A (Wd cy a sh n z) s.heap.size = A at hD ⊢
  have hA : ∀ q : Nat, s.heap.size ≤ q → A q := fun q h => by rw [← hAe]; exact Or.inr h
  clear hAe
  have hS : va_S A s.heap s.heap [] := va_S.rf
  have hl := lv_entry ([.ref (a h0), .int x0]) (n := 3) (Nat.le_of_ble_eq_true rfl)
  rw [lg_entry_eq]
  generalize (lg_sl ([.ref (a h0), .int x0]) ++ List.replicate (3 - (lg_sl ([.ref (a h0), .int x0])).length) Slot.unset).toArray = ls at hl ⊢
  replace hl : lv_has ls 3 [(0, .ref (a h0)), (1, .int x0)] := hl
  unfold fn_X18_removeResource at hf
  refine de_start hS hP (fun H locs hS hP => ?_)
  refine lv_aload_n hx hb dX18_removeResource_0 rfl (lv_at hl 0 rfl) ?_
  refine lv_dup hx hb dX18_removeResource_1 rfl ?_
  obtain ⟨g_1, hf⟩ := grd_some hf
  obtain ⟨kg_1, sg_1⟩ := okO_at g_1
  refine va_get (D := (dC, dI)) (ci := 18) (v := .int (z.1 h0 9)) (C := RX18) (T := TX18) (N := 78) hx hb hts iwd_X18_removeResource_X18 hown hK hP h0 (Wd_ob kg_1 sg_1 (by decide)) rfl 9 (by decide) (hts _ md_X18_removeResource_1) (fun _ h9 => h9) (fl_at (t := 0) rfl) dX18_removeResource_2 ?_
  refine lv_iconst (v := 1) hx hb dX18_removeResource_5 (by decide) ?_
  refine lv_isub hx hb dX18_removeResource_6 ?_
  refine va_put (D := (dC, dI)) (ci := 18) (v := .int ((z.1 h0 9) - 1)) (ty := .int) (C := RX18) (T := TX18) (N := 78) hx hb hts iwd_X18_removeResource_X18 tyX18 tyX18_ok nmX18 hown hK hP hD hS h0 (Wd_ob kg_1 sg_1 (by decide)) rfl 9 (by decide) (hts _ md_X18_removeResource_1) (fun _ h9 => h9) rfl (by decide +kernel) rfl rfl (by rw [fl_len]; decide) dX18_removeResource_7 (fun H_2 locs hP2 hD2 hS2 => ?_)
  rw [Wd_si sg_1 (by decide) rfl] at hP2 hD2
  obtain ⟨z_3, ez_3⟩ : ∃ w, w = si z h0 9 ((z.1 h0 9) - 1) := ⟨_, rfl⟩
  rw [← ez_3] at hP2 hD2
  replace hf := lt_at ez_3 hf
  clear ez_3
  replace hP := hP2
  replace hD := hD2
  replace hS := hS2
  clear hP2 hD2 hS2
  refine lv_aload_n hx hb dX18_removeResource_10 rfl (lv_at hl 0 rfl) ?_
  obtain ⟨k_4, ek_4, hf⟩ := lnk_some hf
  refine va_get (D := (dC, dI)) (ci := 18) (v := .ref (a k_4)) (C := RX18) (T := TX18) (N := 78) hx hb hts iwd_X18_removeResource_X18 hown hK hP h0 (Wd_ob kg_1 sg_1 (by decide)) rfl 7 (by decide) (hts _ md_X18_removeResource_2) (fun _ h9 => h9) (fl_q rfl ek_4) dX18_removeResource_11 ?_
  refine lv_iload_n hx hb dX18_removeResource_14 rfl (lv_at hl 1 rfl) ?_
  refine lv_aload_n hx hb dX18_removeResource_15 rfl (lv_at hl 0 rfl) ?_
  obtain ⟨k_5, ek_5, hf⟩ := lnk_some hf
  refine va_get (D := (dC, dI)) (ci := 18) (v := .ref (a k_5)) (C := RX18) (T := TX18) (N := 78) hx hb hts iwd_X18_removeResource_X18 hown hK hP h0 (Wd_ob kg_1 sg_1 (by decide)) rfl 7 (by decide) (hts _ md_X18_removeResource_2) (fun _ h9 => h9) (fl_q rfl ek_5) dX18_removeResource_16 ?_
  refine lv_aload_n hx hb dX18_removeResource_19 rfl (lv_at hl 0 rfl) ?_
  refine va_get (D := (dC, dI)) (ci := 18) (v := .int (z_3.1 h0 9)) (C := RX18) (T := TX18) (N := 78) hx hb hts iwd_X18_removeResource_X18 hown hK hP h0 (Wd_ob kg_1 sg_1 (by decide)) rfl 9 (by decide) (hts _ md_X18_removeResource_1) (fun _ h9 => h9) (fl_at (t := 0) rfl) dX18_removeResource_20 ?_
  obtain ⟨g_6, hf⟩ := grd_some hf
  obtain ⟨kg_6, sg_6, ig_6⟩ := okA_at g_6
  refine va_lald hx hb hK hP k_5 2 (Wd_al kg_6 sg_6) rfl ig_6 dX18_removeResource_23 ?_
  obtain ⟨g_7, hf⟩ := grd_some hf
  obtain ⟨kg_7, sg_7, ig_7⟩ := okA_at g_7
  refine va_last hx hb hK hP hD hS k_4 2 (Wd_al kg_7 sg_7) rfl ig_7 dX18_removeResource_24 (fun H_8 locs hP2 hD2 hS2 => ?_)
  rw [Wd_tl sg_7] at hP2 hD2
  obtain ⟨z_9, ez_9⟩ : ∃ w, w = sl z_3 k_4 x0.toNatClampNeg (z_3.2.1 k_5 (z_3.1 h0 9).toNatClampNeg) := ⟨_, rfl⟩
  rw [← ez_9] at hP2 hD2
  replace hf := lt_at ez_9 hf
  clear ez_9
  replace hP := hP2
  replace hD := hD2
  replace hS := hS2
  clear hP2 hD2 hS2
  refine lv_aload_n hx hb dX18_removeResource_25 rfl (lv_at hl 0 rfl) ?_
  obtain ⟨k_10, ek_10, hf⟩ := lnk_some hf
  refine va_get (D := (dC, dI)) (ci := 18) (v := .ref (a k_10)) (C := RX18) (T := TX18) (N := 78) hx hb hts iwd_X18_removeResource_X18 hown hK hP h0 (Wd_ob kg_1 sg_1 (by decide)) rfl 8 (by decide) (hts _ md_X18_removeResource_3) (fun _ h9 => h9) (fl_q rfl ek_10) dX18_removeResource_26 ?_
  refine lv_iload_n hx hb dX18_removeResource_29 rfl (lv_at hl 1 rfl) ?_
  refine lv_aload_n hx hb dX18_removeResource_30 rfl (lv_at hl 0 rfl) ?_
  obtain ⟨k_11, ek_11, hf⟩ := lnk_some hf
  refine va_get (D := (dC, dI)) (ci := 18) (v := .ref (a k_11)) (C := RX18) (T := TX18) (N := 78) hx hb hts iwd_X18_removeResource_X18 hown hK hP h0 (Wd_ob kg_1 sg_1 (by decide)) rfl 8 (by decide) (hts _ md_X18_removeResource_3) (fun _ h9 => h9) (fl_q rfl ek_11) dX18_removeResource_31 ?_
  refine lv_aload_n hx hb dX18_removeResource_34 rfl (lv_at hl 0 rfl) ?_
  refine va_get (D := (dC, dI)) (ci := 18) (v := .int (z_9.1 h0 9)) (C := RX18) (T := TX18) (N := 78) hx hb hts iwd_X18_removeResource_X18 hown hK hP h0 (Wd_ob kg_1 sg_1 (by decide)) rfl 9 (by decide) (hts _ md_X18_removeResource_1) (fun _ h9 => h9) (fl_at (t := 0) rfl) dX18_removeResource_35 ?_
  obtain ⟨g_12, hf⟩ := grd_some hf
  obtain ⟨kg_12, sg_12, ig_12⟩ := okA_at g_12
  refine va_iald hx hb hK hP k_11 1 (Wd_ai kg_12 sg_12) rfl ig_12 dX18_removeResource_38 ?_
  obtain ⟨g_13, hf⟩ := grd_some hf
  obtain ⟨kg_13, sg_13, ig_13⟩ := okA_at g_13
  refine va_iast hx hb hK hP hD hS k_10 1 (Wd_ai kg_13 sg_13) rfl ig_13 dX18_removeResource_39 (fun H_14 locs hP2 hD2 hS2 => ?_)
  rw [Wd_ti sg_13] at hP2 hD2
  obtain ⟨z_15, ez_15⟩ : ∃ w, w = si z_9 k_10 x0.toNatClampNeg (z_9.1 k_11 (z_9.1 h0 9).toNatClampNeg) := ⟨_, rfl⟩
  rw [← ez_15] at hP2 hD2
  replace hf := lt_at ez_15 hf
  clear ez_15
  replace hP := hP2
  replace hD := hD2
  replace hS := hS2
  clear hP2 hD2 hS2
  refine lv_iconst (v := 0) hx hb dX18_removeResource_40 (by decide) ?_
  refine lv_istore_n (lv' := [(2, .int 0), (0, .ref (a h0)), (1, .int x0)]) hx hb dX18_removeResource_41 rfl hl (by decide) rfl (fun ls hl2 => ?_)
  replace hl := hl2
  clear hl2
  have hl0 : lv_has ls 3 [(2, .int 0), (0, .ref (a h0)), (1, .int x0)] := lv_sub hl [0, 1, 2] rfl
  refine de_loop (h := 42) (fun (x : St × Int32) ls H locs => lv_has ls 3 [(2, .int x.2), (0, .ref (a h0)), (1, .int x0)] ∧ va_P (dC, dI) vwCl (Wd cy a sh n x.1) H ∧ va_D A (Wd cy a sh n x.1) ∧ va_S A s.heap H locs) (fun f x => fn_X18_removeResource_L42 F sh n h0 x0 f x.1 x.2) (z8, r8) ?_ (fun _ => rfl) F (z_15, 0) ls H_14 locs ⟨hl0, hP, hD, hS⟩ hf
  intro f_18 x ls H locs ih42 hI hf
  obtain ⟨z_17, p_16⟩ := x
  obtain ⟨hl2, hP2, hD2, hS2⟩ := hI
  replace hl : lv_has ls 3 [(2, .int p_16), (0, .ref (a h0)), (1, .int x0)] := hl2
  replace hP := hP2
  replace hD := hD2
  replace hS := hS2
  clear hl2 hP2 hD2 hS2 hl0
  replace hf := fn_X18_removeResource_L42_s hf
  refine lv_iload_n hx hb dX18_removeResource_42 rfl (lv_at hl 0 rfl) ?_
  refine lv_bipush (v := 64) hx hb dX18_removeResource_43 (by decide) ?_
  refine lv_icmp_ge (tgt := 154) hx hb dX18_removeResource_45 (by decide) (fun c_19 => ?_) (fun c_19 => ?_)
  · skip
    rw [if_pos c_19] at hf
    obtain ⟨h8, h9⟩ := ret_some hf
    rw [h8]
    exact W.vret hx hb hr (fun t ht hW => ⟨⟨(), rfl, trivial, by rw [ht]; exact hP, va_K.moved hW.alike hK, hD⟩, hS.F ht⟩) hS.2.2 dX18_removeResource_154
  · skip
    rw [if_neg c_19] at hf
    refine lv_aload_n hx hb dX18_removeResource_48 rfl (lv_at hl 1 rfl) ?_
    obtain ⟨k_20, ek_20, hf⟩ := lnk_some hf
    refine va_get (D := (dC, dI)) (ci := 18) (v := .ref (a k_20)) (C := RX18) (T := TX18) (N := 78) hx hb hts iwd_X18_removeResource_X18 hown hK hP h0 (Wd_ob kg_1 sg_1 (by decide)) rfl 10 (by decide) (hts _ md_X18_removeResource_4) (fun _ h9 => h9) (fl_q rfl ek_20) dX18_removeResource_49 ?_
    refine lv_bipush (v := 64) hx hb dX18_removeResource_52 (by decide) ?_
    refine lv_iload_n hx hb dX18_removeResource_54 rfl (lv_at hl 2 rfl) ?_
    refine lv_imul hx hb dX18_removeResource_55 ?_
    refine lv_iload_n hx hb dX18_removeResource_56 rfl (lv_at hl 0 rfl) ?_
    refine lv_iadd hx hb dX18_removeResource_57 ?_
    refine lv_aload_n hx hb dX18_removeResource_58 rfl (lv_at hl 1 rfl) ?_
    obtain ⟨k_21, ek_21, hf⟩ := lnk_some hf
    refine va_get (D := (dC, dI)) (ci := 18) (v := .ref (a k_21)) (C := RX18) (T := TX18) (N := 78) hx hb hts iwd_X18_removeResource_X18 hown hK hP h0 (Wd_ob kg_1 sg_1 (by decide)) rfl 10 (by decide) (hts _ md_X18_removeResource_4) (fun _ h9 => h9) (fl_q rfl ek_21) dX18_removeResource_59 ?_
    refine lv_bipush (v := 64) hx hb dX18_removeResource_62 (by decide) ?_
    refine lv_aload_n hx hb dX18_removeResource_64 rfl (lv_at hl 1 rfl) ?_
    refine va_get (D := (dC, dI)) (ci := 18) (v := .int (z_17.1 h0 9)) (C := RX18) (T := TX18) (N := 78) hx hb hts iwd_X18_removeResource_X18 hown hK hP h0 (Wd_ob kg_1 sg_1 (by decide)) rfl 9 (by decide) (hts _ md_X18_removeResource_1) (fun _ h9 => h9) (fl_at (t := 0) rfl) dX18_removeResource_65 ?_
    refine lv_imul hx hb dX18_removeResource_68 ?_
    refine lv_iload_n hx hb dX18_removeResource_69 rfl (lv_at hl 0 rfl) ?_
    refine lv_iadd hx hb dX18_removeResource_70 ?_
    obtain ⟨g_22, hf⟩ := grd_some hf
    obtain ⟨kg_22, sg_22, ig_22⟩ := okA_at g_22
    refine va_bald hx hb hK hP k_21 0 (Wd_ab kg_22 sg_22) rfl ig_22 dX18_removeResource_71 ?_
    obtain ⟨g_23, hf⟩ := grd_some hf
    obtain ⟨kg_23, sg_23, ig_23⟩ := okA_at g_23
    refine va_bast hx hb hK hP hD hS k_20 0 (Wd_ab kg_23 sg_23) rfl ig_23 dX18_removeResource_72 (fun H_24 locs hP2 hD2 hS2 => ?_)
    rw [Wd_tb sg_23] at hP2 hD2
    obtain ⟨z_25, ez_25⟩ : ∃ w, w = si z_17 k_20 ((64 * x0) + p_16).toNatClampNeg (vp_nar .byte (z_17.1 k_21 ((64 * (z_17.1 h0 9)) + p_16).toNatClampNeg)) := ⟨_, rfl⟩
    rw [← ez_25] at hP2 hD2
    replace hf := lt_at ez_25 hf
    clear ez_25
    replace hP := hP2
    replace hD := hD2
    replace hS := hS2
    clear hP2 hD2 hS2
    refine lv_aload_n hx hb dX18_removeResource_73 rfl (lv_at hl 1 rfl) ?_
    obtain ⟨k_26, ek_26, hf⟩ := lnk_some hf
    refine va_get (D := (dC, dI)) (ci := 18) (v := .ref (a k_26)) (C := RX18) (T := TX18) (N := 78) hx hb hts iwd_X18_removeResource_X18 hown hK hP h0 (Wd_ob kg_1 sg_1 (by decide)) rfl 11 (by decide) (hts _ md_X18_removeResource_5) (fun _ h9 => h9) (fl_q rfl ek_26) dX18_removeResource_74 ?_
    refine lv_bipush (v := 64) hx hb dX18_removeResource_77 (by decide) ?_
    refine lv_iload_n hx hb dX18_removeResource_79 rfl (lv_at hl 2 rfl) ?_
    refine lv_imul hx hb dX18_removeResource_80 ?_
    refine lv_iload_n hx hb dX18_removeResource_81 rfl (lv_at hl 0 rfl) ?_
    refine lv_iadd hx hb dX18_removeResource_82 ?_
    refine lv_aload_n hx hb dX18_removeResource_83 rfl (lv_at hl 1 rfl) ?_
    obtain ⟨k_27, ek_27, hf⟩ := lnk_some hf
    refine va_get (D := (dC, dI)) (ci := 18) (v := .ref (a k_27)) (C := RX18) (T := TX18) (N := 78) hx hb hts iwd_X18_removeResource_X18 hown hK hP h0 (Wd_ob kg_1 sg_1 (by decide)) rfl 11 (by decide) (hts _ md_X18_removeResource_5) (fun _ h9 => h9) (fl_q rfl ek_27) dX18_removeResource_84 ?_
    refine lv_bipush (v := 64) hx hb dX18_removeResource_87 (by decide) ?_
    refine lv_aload_n hx hb dX18_removeResource_89 rfl (lv_at hl 1 rfl) ?_
    refine va_get (D := (dC, dI)) (ci := 18) (v := .int (z_25.1 h0 9)) (C := RX18) (T := TX18) (N := 78) hx hb hts iwd_X18_removeResource_X18 hown hK hP h0 (Wd_ob kg_1 sg_1 (by decide)) rfl 9 (by decide) (hts _ md_X18_removeResource_1) (fun _ h9 => h9) (fl_at (t := 0) rfl) dX18_removeResource_90 ?_
    refine lv_imul hx hb dX18_removeResource_93 ?_
    refine lv_iload_n hx hb dX18_removeResource_94 rfl (lv_at hl 0 rfl) ?_
    refine lv_iadd hx hb dX18_removeResource_95 ?_
    obtain ⟨g_28, hf⟩ := grd_some hf
    obtain ⟨kg_28, sg_28, ig_28⟩ := okA_at g_28
    refine va_lald hx hb hK hP k_27 2 (Wd_al kg_28 sg_28) rfl ig_28 dX18_removeResource_96 ?_
    obtain ⟨g_29, hf⟩ := grd_some hf
    obtain ⟨kg_29, sg_29, ig_29⟩ := okA_at g_29
    refine va_last hx hb hK hP hD hS k_26 2 (Wd_al kg_29 sg_29) rfl ig_29 dX18_removeResource_97 (fun H_30 locs hP2 hD2 hS2 => ?_)
    rw [Wd_tl sg_29] at hP2 hD2
    obtain ⟨z_31, ez_31⟩ : ∃ w, w = sl z_25 k_26 ((64 * x0) + p_16).toNatClampNeg (z_25.2.1 k_27 ((64 * (z_25.1 h0 9)) + p_16).toNatClampNeg) := ⟨_, rfl⟩
    rw [← ez_31] at hP2 hD2
    replace hf := lt_at ez_31 hf
    clear ez_31
    replace hP := hP2
    replace hD := hD2
    replace hS := hS2
    clear hP2 hD2 hS2
    refine lv_aload_n hx hb dX18_removeResource_98 rfl (lv_at hl 1 rfl) ?_
    obtain ⟨k_32, ek_32, hf⟩ := lnk_some hf
    refine va_get (D := (dC, dI)) (ci := 18) (v := .ref (a k_32)) (C := RX18) (T := TX18) (N := 78) hx hb hts iwd_X18_removeResource_X18 hown hK hP h0 (Wd_ob kg_1 sg_1 (by decide)) rfl 12 (by decide) (hts _ md_X18_removeResource_6) (fun _ h9 => h9) (fl_q rfl ek_32) dX18_removeResource_99 ?_
    refine lv_bipush (v := 64) hx hb dX18_removeResource_102 (by decide) ?_
    refine lv_iload_n hx hb dX18_removeResource_104 rfl (lv_at hl 2 rfl) ?_
    refine lv_imul hx hb dX18_removeResource_105 ?_
    refine lv_iload_n hx hb dX18_removeResource_106 rfl (lv_at hl 0 rfl) ?_
    refine lv_iadd hx hb dX18_removeResource_107 ?_
    refine lv_aload_n hx hb dX18_removeResource_108 rfl (lv_at hl 1 rfl) ?_
    obtain ⟨k_33, ek_33, hf⟩ := lnk_some hf
    refine va_get (D := (dC, dI)) (ci := 18) (v := .ref (a k_33)) (C := RX18) (T := TX18) (N := 78) hx hb hts iwd_X18_removeResource_X18 hown hK hP h0 (Wd_ob kg_1 sg_1 (by decide)) rfl 12 (by decide) (hts _ md_X18_removeResource_6) (fun _ h9 => h9) (fl_q rfl ek_33) dX18_removeResource_109 ?_
    refine lv_bipush (v := 64) hx hb dX18_removeResource_112 (by decide) ?_
    refine lv_aload_n hx hb dX18_removeResource_114 rfl (lv_at hl 1 rfl) ?_
    refine va_get (D := (dC, dI)) (ci := 18) (v := .int (z_31.1 h0 9)) (C := RX18) (T := TX18) (N := 78) hx hb hts iwd_X18_removeResource_X18 hown hK hP h0 (Wd_ob kg_1 sg_1 (by decide)) rfl 9 (by decide) (hts _ md_X18_removeResource_1) (fun _ h9 => h9) (fl_at (t := 0) rfl) dX18_removeResource_115 ?_
    refine lv_imul hx hb dX18_removeResource_118 ?_
    refine lv_iload_n hx hb dX18_removeResource_119 rfl (lv_at hl 0 rfl) ?_
    refine lv_iadd hx hb dX18_removeResource_120 ?_
    obtain ⟨g_34, hf⟩ := grd_some hf
    obtain ⟨kg_34, sg_34, ig_34⟩ := okA_at g_34
    refine va_lald hx hb hK hP k_33 2 (Wd_al kg_34 sg_34) rfl ig_34 dX18_removeResource_121 ?_
    obtain ⟨g_35, hf⟩ := grd_some hf
    obtain ⟨kg_35, sg_35, ig_35⟩ := okA_at g_35
    refine va_last hx hb hK hP hD hS k_32 2 (Wd_al kg_35 sg_35) rfl ig_35 dX18_removeResource_122 (fun H_36 locs hP2 hD2 hS2 => ?_)
    rw [Wd_tl sg_35] at hP2 hD2
    obtain ⟨z_37, ez_37⟩ : ∃ w, w = sl z_31 k_32 ((64 * x0) + p_16).toNatClampNeg (z_31.2.1 k_33 ((64 * (z_31.1 h0 9)) + p_16).toNatClampNeg) := ⟨_, rfl⟩
    rw [← ez_37] at hP2 hD2
    replace hf := lt_at ez_37 hf
    clear ez_37
    replace hP := hP2
    replace hD := hD2
    replace hS := hS2
    clear hP2 hD2 hS2
    refine lv_aload_n hx hb dX18_removeResource_123 rfl (lv_at hl 1 rfl) ?_
    obtain ⟨k_38, ek_38, hf⟩ := lnk_some hf
    refine va_get (D := (dC, dI)) (ci := 18) (v := .ref (a k_38)) (C := RX18) (T := TX18) (N := 78) hx hb hts iwd_X18_removeResource_X18 hown hK hP h0 (Wd_ob kg_1 sg_1 (by decide)) rfl 13 (by decide) (hts _ md_X18_removeResource_7) (fun _ h9 => h9) (fl_q rfl ek_38) dX18_removeResource_124 ?_
    refine lv_bipush (v := 64) hx hb dX18_removeResource_127 (by decide) ?_
    refine lv_iload_n hx hb dX18_removeResource_129 rfl (lv_at hl 2 rfl) ?_
    refine lv_imul hx hb dX18_removeResource_130 ?_
    refine lv_iload_n hx hb dX18_removeResource_131 rfl (lv_at hl 0 rfl) ?_
    refine lv_iadd hx hb dX18_removeResource_132 ?_
    refine lv_aload_n hx hb dX18_removeResource_133 rfl (lv_at hl 1 rfl) ?_
    obtain ⟨k_39, ek_39, hf⟩ := lnk_some hf
    refine va_get (D := (dC, dI)) (ci := 18) (v := .ref (a k_39)) (C := RX18) (T := TX18) (N := 78) hx hb hts iwd_X18_removeResource_X18 hown hK hP h0 (Wd_ob kg_1 sg_1 (by decide)) rfl 13 (by decide) (hts _ md_X18_removeResource_7) (fun _ h9 => h9) (fl_q rfl ek_39) dX18_removeResource_134 ?_
    refine lv_bipush (v := 64) hx hb dX18_removeResource_137 (by decide) ?_
    refine lv_aload_n hx hb dX18_removeResource_139 rfl (lv_at hl 1 rfl) ?_
    refine va_get (D := (dC, dI)) (ci := 18) (v := .int (z_37.1 h0 9)) (C := RX18) (T := TX18) (N := 78) hx hb hts iwd_X18_removeResource_X18 hown hK hP h0 (Wd_ob kg_1 sg_1 (by decide)) rfl 9 (by decide) (hts _ md_X18_removeResource_1) (fun _ h9 => h9) (fl_at (t := 0) rfl) dX18_removeResource_140 ?_
    refine lv_imul hx hb dX18_removeResource_143 ?_
    refine lv_iload_n hx hb dX18_removeResource_144 rfl (lv_at hl 0 rfl) ?_
    refine lv_iadd hx hb dX18_removeResource_145 ?_
    obtain ⟨g_40, hf⟩ := grd_some hf
    obtain ⟨kg_40, sg_40, ig_40⟩ := okA_at g_40
    refine va_iald hx hb hK hP k_39 1 (Wd_ai kg_40 sg_40) rfl ig_40 dX18_removeResource_146 ?_
    obtain ⟨g_41, hf⟩ := grd_some hf
    obtain ⟨kg_41, sg_41, ig_41⟩ := okA_at g_41
    refine va_iast hx hb hK hP hD hS k_38 1 (Wd_ai kg_41 sg_41) rfl ig_41 dX18_removeResource_147 (fun H_42 locs hP2 hD2 hS2 => ?_)
    rw [Wd_ti sg_41] at hP2 hD2
    obtain ⟨z_43, ez_43⟩ : ∃ w, w = si z_37 k_38 ((64 * x0) + p_16).toNatClampNeg (z_37.1 k_39 ((64 * (z_37.1 h0 9)) + p_16).toNatClampNeg) := ⟨_, rfl⟩
    rw [← ez_43] at hP2 hD2
    replace hf := lt_at ez_43 hf
    clear ez_43
    replace hP := hP2
    replace hD := hD2
    replace hS := hS2
    clear hP2 hD2 hS2
    refine lv_iinc (v := (p_16 + 1)) (lv' := [(2, .int (p_16 + 1)), (0, .ref (a h0)), (1, .int x0)]) hx hb dX18_removeResource_148 hl (k := 0) rfl rfl (by decide) rfl (fun ls hl2 => ?_)
    replace hl := hl2
    clear hl2
    refine lv_goto (tgt := 42) hx hb dX18_removeResource_151 (by decide) ?_
    exact ih42 (z_43, (p_16 + 1)) ls H_42 locs ⟨lv_sub hl [0, 1, 2] rfl, hP, hD, hS⟩ hf

theorem md_X18_argument_2 : (.fieldLink RX18 626 "ResourceLedgerModel" "count" "I" : Cond) ∈ wsX18_argument := List.mem_of_getElem? (i := 2) rfl
theorem iwd_X18_argument_X18 : ∀ w ∈ wsX180, w ∈ wsX18_argument := fun _ h => List.mem_cons_of_mem _ (List.mem_append_right _ h)
theorem md_X18_argument_3 : (.fieldLink RX18 628 "ResourceLedgerModel" "done" "I" : Cond) ∈ wsX18_argument := List.mem_of_getElem? (i := 3) rfl
theorem md_X18_argument_4 : (.fieldLink RX18 538 "ResourceLedgerModel" "sorts" "[I" : Cond) ∈ wsX18_argument := List.mem_of_getElem? (i := 4) rfl
theorem md_X18_argument_5 : (.fieldLink RX18 556 "ResourceLedgerModel" "argumentCounts" "[I" : Cond) ∈ wsX18_argument := List.mem_of_getElem? (i := 5) rfl
theorem md_X18_argument_6 : (.fieldLink RX18 559 "ResourceLedgerModel" "argumentTypes" "[B" : Cond) ∈ wsX18_argument := List.mem_of_getElem? (i := 6) rfl
theorem md_X18_argument_7 : (.fieldLink RX18 562 "ResourceLedgerModel" "argumentHighs" "[J" : Cond) ∈ wsX18_argument := List.mem_of_getElem? (i := 7) rfl
theorem md_X18_argument_8 : (.fieldLink RX18 565 "ResourceLedgerModel" "argumentLows" "[J" : Cond) ∈ wsX18_argument := List.mem_of_getElem? (i := 8) rfl
theorem md_X18_argument_1 : (.constantLong RX18 638 (256) : Cond) ∈ wsX18_argument := List.mem_of_getElem? (i := 1) rfl
set_option maxHeartbeats 4000000 in
set_option maxRecDepth 100000 in
theorem de_X18_argument (l : Launch) (dC : Nat → ClassId) (dI : Nat → Nat → Nat) (cy : Nat → ClassId) (a : Nat → Nat) (sh : Nat → Nat × Nat) (n sz : Nat) (F : Nat) (z : St) (h0 : Nat) (x0 : Int32) (x1 : Int64) (x2 : Int64) {z8 : St} {r8 : Int32} (hf : fn_X18_argument F sh n z h0 x0 x1 x2 = some (z8, r8)) : Met l yX18_argument wsX18_argument ({ frames := 0, cells := 0, slots := 0, locals := 0 }) (va_Pc [.ref (a h0), .int x0, .long x1, .long x2] (fun U => U.heap.size = sz ∧ va_P (dC, dI) vwCl (Wd cy a sh n z) U.heap ∧ va_K (dC, dI) vwCl (TYS cy) U ∧ va_D (fun _ => True) (Wd cy a sh n z) ∧ NK U)) (va_Qi (fun (r9 : Int32) (u : Unit) => r9 = r8) (fun u t => va_P (dC, dI) vwCl (Wd cy a sh n z8) t.heap ∧ va_K (dC, dI) vwCl (TYS cy) t ∧ va_D (va_A (Wd cy a sh n z) sz) (Wd cy a sh n z8)) (va_A (Wd cy a sh n z) sz)) 0 0 (va_A (Wd cy a sh n z) sz) := by
  refine Met.ofW (cc := cX18_argument) (maxL := 9) (ret := (some .int)) (by decide) rfl ?_
  intro p e s m args below meth c s₁ B hml hv
  obtain ⟨rfl, hsz, hP, hK, hD0, hN⟩ := hv
  have hx := B.exec
  have hb := B.bytes
  have hr := B.returns
  have hts := atoms_spec (ws := wsX18_argument) B.pre
  have hown : s.vm.findClass RX18 = some m.cls := findClass_of_methodNamed B.named
  have hlocks := B.notSynchronized
  subst hsz
  have hD := hD0.self (sz := s.heap.size)
  clear hD0
  generalize hAe : va_A (Wd cy a sh n z) s.heap.size = A at hD ⊢
  have hA : ∀ q : Nat, s.heap.size ≤ q → A q := fun q h => by rw [← hAe]; exact Or.inr h
  clear hAe
  have hS : va_S A s.heap s.heap [] := va_S.rf
  have hl := lv_entry ([.ref (a h0), .int x0, .long x1, .long x2]) (n := 9) (Nat.le_of_ble_eq_true rfl)
  rw [lg_entry_eq]
  generalize (lg_sl ([.ref (a h0), .int x0, .long x1, .long x2]) ++ List.replicate (9 - (lg_sl ([.ref (a h0), .int x0, .long x1, .long x2])).length) Slot.unset).toArray = ls at hl ⊢
  replace hl : lv_has ls 9 [(0, .ref (a h0)), (1, .int x0), (2, .long x1), (4, .long x2)] := hl
  unfold fn_X18_argument at hf
  refine de_start hS hP (fun H locs hS hP => ?_)
  refine lv_iload_n hx hb dX18_argument_0 rfl (lv_at hl 1 rfl) ?_
  refine lv_iconst (v := 1) hx hb dX18_argument_1 (by decide) ?_
  refine de_cut (h := 71) (fun (x : St × Int32) => [.int x.2]) (fun x ls H locs => lv_has ls 9 [(0, .ref (a h0)), (1, .int x0), (2, .long x1), (4, .long x2)] ∧ va_P (dC, dI) vwCl (Wd cy a sh n x.1) H ∧ va_D A (Wd cy a sh n x.1) ∧ va_S A s.heap H locs) (fun x => fn_X18_argument_B71 F sh n x0 h0 x1 x2 x.1 x.2) (z8, r8) ?_ (fun B71 => ?_)
  · intro x ls H locs hI hf
    obtain ⟨z_2, p_1⟩ := x
    obtain ⟨hl2, hP2, hD2, hS2⟩ := hI
    replace hl : lv_has ls 9 [(0, .ref (a h0)), (1, .int x0), (2, .long x1), (4, .long x2)] := hl2
    replace hP := hP2
    replace hD := hD2
    replace hS := hS2
    clear hl2 hP2 hD2 hS2
    replace hf := fn_X18_argument_B71_s hf
    refine W.eq (g2 := F0 m 71 ls [.int p_1]) rfl ?_
    refine lv_istore (lv' := [(6, .int p_1), (0, .ref (a h0)), (1, .int x0), (2, .long x1), (4, .long x2)]) hx hb dX18_argument_71 hl (by decide) rfl (fun ls hl2 => ?_)
    replace hl := hl2
    clear hl2
    refine lv_iload hx hb dX18_argument_73 (lv_at hl 0 rfl) ?_
    refine lv_if_eq (tgt := 89) hx hb dX18_argument_75 (by decide) (fun c_3 => ?_) (fun c_3 => ?_)
    · skip
      rw [if_pos c_3] at hf
      refine lv_iconst (v := (-1)) hx hb dX18_argument_89 (by decide) ?_
      obtain ⟨h8, h9⟩ := ret_some hf
      rw [h8, h9]
      exact W.iret (v := (-1)) hx hb hr (fun t ht hW => ⟨⟨(-1), (), rfl, rfl, by rw [ht]; exact hP, va_K.moved hW.alike hK, hD⟩, hS.F ht⟩) hS.2.2 dX18_argument_90
    · skip
      rw [if_neg c_3] at hf
      refine lv_iload_n hx hb dX18_argument_78 rfl (lv_at hl 2 rfl) ?_
      refine lv_iconst (v := 4) hx hb dX18_argument_79 (by decide) ?_
      refine de_cut (h := 91) (fun (x : St) => []) (fun x ls H locs => lv_has ls 9 [(0, .ref (a h0)), (1, .int x0), (2, .long x1), (4, .long x2)] ∧ va_P (dC, dI) vwCl (Wd cy a sh n x) H ∧ va_D A (Wd cy a sh n x) ∧ va_S A s.heap H locs) (fun x => fn_X18_argument_B91 F sh n h0 x0 x1 x2 x) (z8, r8) ?_ (fun B91 => ?_)
      · intro x ls H locs hI hf
        obtain ⟨z_4, ez⟩ : ∃ w, w = x := ⟨_, rfl⟩
        subst ez
        obtain ⟨hl2, hP2, hD2, hS2⟩ := hI
        replace hl : lv_has ls 9 [(0, .ref (a h0)), (1, .int x0), (2, .long x1), (4, .long x2)] := hl2
        replace hP := hP2
        replace hD := hD2
        replace hS := hS2
        clear hl2 hP2 hD2 hS2
        replace hf := fn_X18_argument_B91_s hf
        refine W.eq (g2 := F0 m 91 ls []) rfl ?_
        refine lv_aload_n hx hb dX18_argument_91 rfl (lv_at hl 0 rfl) ?_
        obtain ⟨g_5, hf⟩ := grd_some hf
        obtain ⟨kg_5, sg_5⟩ := okO_at g_5
        refine va_get (D := (dC, dI)) (ci := 18) (v := .int (z_4.1 h0 52)) (C := RX18) (T := TX18) (N := 78) hx hb hts iwd_X18_argument_X18 hown hK hP h0 (Wd_ob kg_5 sg_5 (by decide)) rfl 52 (by decide) (hts _ md_X18_argument_2) (fun _ h9 => h9) (fl_at (t := 0) rfl) dX18_argument_92 ?_
        refine lv_iconst (v := 1) hx hb dX18_argument_95 (by decide) ?_
        refine lv_isub hx hb dX18_argument_96 ?_
        refine lv_topi (fun v_6 ev_6 => ?_)
        replace hf := lt_at ev_6 hf
        clear ev_6
        refine lv_istore (lv' := [(7, .int v_6), (0, .ref (a h0)), (1, .int x0), (2, .long x1), (4, .long x2)]) hx hb dX18_argument_97 hl (by decide) rfl (fun ls hl2 => ?_)
        replace hl := hl2
        clear hl2
        refine lv_iload hx hb dX18_argument_99 (lv_at hl 0 rfl) ?_
        refine lv_aload_n hx hb dX18_argument_101 rfl (lv_at hl 1 rfl) ?_
        refine va_get (D := (dC, dI)) (ci := 18) (v := .int (z_4.1 h0 53)) (C := RX18) (T := TX18) (N := 78) hx hb hts iwd_X18_argument_X18 hown hK hP h0 (Wd_ob kg_5 sg_5 (by decide)) rfl 53 (by decide) (hts _ md_X18_argument_3) (fun _ h9 => h9) (fl_at (t := 0) rfl) dX18_argument_102 ?_
        refine lv_icmp_lt (tgt := 119) hx hb dX18_argument_105 (by decide) (fun c_7 => ?_) (fun c_7 => ?_)
        · skip
          rw [if_pos c_7] at hf
          refine lv_bipush (v := (-2)) hx hb dX18_argument_119 (by decide) ?_
          obtain ⟨h8, h9⟩ := ret_some hf
          rw [h8, h9]
          exact W.iret (v := (-2)) hx hb hr (fun t ht hW => ⟨⟨(-2), (), rfl, rfl, by rw [ht]; exact hP, va_K.moved hW.alike hK, hD⟩, hS.F ht⟩) hS.2.2 dX18_argument_121
        · skip
          rw [if_neg c_7] at hf
          refine lv_aload_n hx hb dX18_argument_108 rfl (lv_at hl 1 rfl) ?_
          obtain ⟨k_8, ek_8, hf⟩ := lnk_some hf
          refine va_get (D := (dC, dI)) (ci := 18) (v := .ref (a k_8)) (C := RX18) (T := TX18) (N := 78) hx hb hts iwd_X18_argument_X18 hown hK hP h0 (Wd_ob kg_5 sg_5 (by decide)) rfl 54 (by decide) (hts _ md_X18_argument_4) (fun _ h9 => h9) (fl_q rfl ek_8) dX18_argument_109 ?_
          refine lv_iload hx hb dX18_argument_112 (lv_at hl 0 rfl) ?_
          obtain ⟨g_9, hf⟩ := grd_some hf
          obtain ⟨kg_9, sg_9, ig_9⟩ := okA_at g_9
          refine va_iald hx hb hK hP k_8 1 (Wd_ai kg_9 sg_9) rfl ig_9 dX18_argument_114 ?_
          refine lv_iconst (v := 2) hx hb dX18_argument_115 (by decide) ?_
          refine lv_icmp_eq (tgt := 122) hx hb dX18_argument_116 (by decide) (fun c_10 => ?_) (fun c_10 => ?_)
          · skip
            rw [if_pos c_10] at hf
            refine lv_aload_n hx hb dX18_argument_122 rfl (lv_at hl 1 rfl) ?_
            obtain ⟨k_11, ek_11, hf⟩ := lnk_some hf
            refine va_get (D := (dC, dI)) (ci := 18) (v := .ref (a k_11)) (C := RX18) (T := TX18) (N := 78) hx hb hts iwd_X18_argument_X18 hown hK hP h0 (Wd_ob kg_5 sg_5 (by decide)) rfl 60 (by decide) (hts _ md_X18_argument_5) (fun _ h9 => h9) (fl_q rfl ek_11) dX18_argument_123 ?_
            refine lv_iload hx hb dX18_argument_126 (lv_at hl 0 rfl) ?_
            obtain ⟨g_12, hf⟩ := grd_some hf
            obtain ⟨kg_12, sg_12, ig_12⟩ := okA_at g_12
            refine va_iald hx hb hK hP k_11 1 (Wd_ai kg_12 sg_12) rfl ig_12 dX18_argument_128 ?_
            refine lv_bipush (v := 8) hx hb dX18_argument_129 (by decide) ?_
            refine lv_icmp_ne (tgt := 137) hx hb dX18_argument_131 (by decide) (fun c_13 => ?_) (fun c_13 => ?_)
            · skip
              rw [if_neg c_13] at hf
              refine lv_bipush (v := 8) hx hb dX18_argument_137 (by decide) ?_
              refine lv_iload hx hb dX18_argument_139 (lv_at hl 0 rfl) ?_
              refine lv_imul hx hb dX18_argument_141 ?_
              refine lv_aload_n hx hb dX18_argument_142 rfl (lv_at hl 1 rfl) ?_
              obtain ⟨k_14, ek_14, hf⟩ := lnk_some hf
              refine va_get (D := (dC, dI)) (ci := 18) (v := .ref (a k_14)) (C := RX18) (T := TX18) (N := 78) hx hb hts iwd_X18_argument_X18 hown hK hP h0 (Wd_ob kg_5 sg_5 (by decide)) rfl 60 (by decide) (hts _ md_X18_argument_5) (fun _ h9 => h9) (fl_q rfl ek_14) dX18_argument_143 ?_
              refine lv_iload hx hb dX18_argument_146 (lv_at hl 0 rfl) ?_
              obtain ⟨g_15, hf⟩ := grd_some hf
              obtain ⟨kg_15, sg_15, ig_15⟩ := okA_at g_15
              refine va_iald hx hb hK hP k_14 1 (Wd_ai kg_15 sg_15) rfl ig_15 dX18_argument_148 ?_
              refine lv_iadd hx hb dX18_argument_149 ?_
              refine lv_topi (fun v_16 ev_16 => ?_)
              replace hf := lt_at ev_16 hf
              clear ev_16
              refine lv_istore (lv' := [(8, .int v_16), (7, .int v_6), (0, .ref (a h0)), (1, .int x0), (2, .long x1), (4, .long x2)]) hx hb dX18_argument_150 hl (by decide) rfl (fun ls hl2 => ?_)
              replace hl := hl2
              clear hl2
              refine lv_aload_n hx hb dX18_argument_152 rfl (lv_at hl 2 rfl) ?_
              obtain ⟨k_17, ek_17, hf⟩ := lnk_some hf
              refine va_get (D := (dC, dI)) (ci := 18) (v := .ref (a k_17)) (C := RX18) (T := TX18) (N := 78) hx hb hts iwd_X18_argument_X18 hown hK hP h0 (Wd_ob kg_5 sg_5 (by decide)) rfl 61 (by decide) (hts _ md_X18_argument_6) (fun _ h9 => h9) (fl_q rfl ek_17) dX18_argument_153 ?_
              refine lv_iload hx hb dX18_argument_156 (lv_at hl 0 rfl) ?_
              refine lv_iload_n hx hb dX18_argument_158 rfl (lv_at hl 3 rfl) ?_
              refine lv_i2b (v := (x0 : Int32).toInt8.toInt32) hx hb dX18_argument_159 rfl ?_
              obtain ⟨g_18, hf⟩ := grd_some hf
              obtain ⟨kg_18, sg_18, ig_18⟩ := okA_at g_18
              refine va_bast hx hb hK hP hD hS k_17 0 (Wd_ab kg_18 sg_18) rfl ig_18 dX18_argument_160 (fun H_19 locs hP2 hD2 hS2 => ?_)
              rw [Wd_tb sg_18] at hP2 hD2
              obtain ⟨z_20, ez_20⟩ : ∃ w, w = si z_4 k_17 v_16.toNatClampNeg (vp_nar .byte ((x0 : Int32).toInt8.toInt32)) := ⟨_, rfl⟩
              rw [← ez_20] at hP2 hD2
              replace hf := lt_at ez_20 hf
              clear ez_20
              replace hP := hP2
              replace hD := hD2
              replace hS := hS2
              clear hP2 hD2 hS2
              refine lv_aload_n hx hb dX18_argument_161 rfl (lv_at hl 2 rfl) ?_
              obtain ⟨k_21, ek_21, hf⟩ := lnk_some hf
              refine va_get (D := (dC, dI)) (ci := 18) (v := .ref (a k_21)) (C := RX18) (T := TX18) (N := 78) hx hb hts iwd_X18_argument_X18 hown hK hP h0 (Wd_ob kg_5 sg_5 (by decide)) rfl 62 (by decide) (hts _ md_X18_argument_7) (fun _ h9 => h9) (fl_q rfl ek_21) dX18_argument_162 ?_
              refine lv_iload hx hb dX18_argument_165 (lv_at hl 0 rfl) ?_
              refine lv_lload_n hx hb dX18_argument_167 rfl (lv_at hl 4 rfl) ?_
              obtain ⟨g_22, hf⟩ := grd_some hf
              obtain ⟨kg_22, sg_22, ig_22⟩ := okA_at g_22
              refine va_last hx hb hK hP hD hS k_21 2 (Wd_al kg_22 sg_22) rfl ig_22 dX18_argument_168 (fun H_23 locs hP2 hD2 hS2 => ?_)
              rw [Wd_tl sg_22] at hP2 hD2
              obtain ⟨z_24, ez_24⟩ : ∃ w, w = sl z_20 k_21 v_16.toNatClampNeg x1 := ⟨_, rfl⟩
              rw [← ez_24] at hP2 hD2
              replace hf := lt_at ez_24 hf
              clear ez_24
              replace hP := hP2
              replace hD := hD2
              replace hS := hS2
              clear hP2 hD2 hS2
              refine lv_aload_n hx hb dX18_argument_169 rfl (lv_at hl 2 rfl) ?_
              obtain ⟨k_25, ek_25, hf⟩ := lnk_some hf
              refine va_get (D := (dC, dI)) (ci := 18) (v := .ref (a k_25)) (C := RX18) (T := TX18) (N := 78) hx hb hts iwd_X18_argument_X18 hown hK hP h0 (Wd_ob kg_5 sg_5 (by decide)) rfl 63 (by decide) (hts _ md_X18_argument_8) (fun _ h9 => h9) (fl_q rfl ek_25) dX18_argument_170 ?_
              refine lv_iload hx hb dX18_argument_173 (lv_at hl 0 rfl) ?_
              refine lv_lload hx hb dX18_argument_175 (lv_at hl 5 rfl) ?_
              obtain ⟨g_26, hf⟩ := grd_some hf
              obtain ⟨kg_26, sg_26, ig_26⟩ := okA_at g_26
              refine va_last hx hb hK hP hD hS k_25 2 (Wd_al kg_26 sg_26) rfl ig_26 dX18_argument_177 (fun H_27 locs hP2 hD2 hS2 => ?_)
              rw [Wd_tl sg_26] at hP2 hD2
              obtain ⟨z_28, ez_28⟩ : ∃ w, w = sl z_24 k_25 v_16.toNatClampNeg x2 := ⟨_, rfl⟩
              rw [← ez_28] at hP2 hD2
              replace hf := lt_at ez_28 hf
              clear ez_28
              replace hP := hP2
              replace hD := hD2
              replace hS := hS2
              clear hP2 hD2 hS2
              refine lv_aload_n hx hb dX18_argument_178 rfl (lv_at hl 2 rfl) ?_
              obtain ⟨k_29, ek_29, hf⟩ := lnk_some hf
              refine va_get (D := (dC, dI)) (ci := 18) (v := .ref (a k_29)) (C := RX18) (T := TX18) (N := 78) hx hb hts iwd_X18_argument_X18 hown hK hP h0 (Wd_ob kg_5 sg_5 (by decide)) rfl 60 (by decide) (hts _ md_X18_argument_5) (fun _ h9 => h9) (fl_q rfl ek_29) dX18_argument_179 ?_
              refine lv_iload hx hb dX18_argument_182 (lv_at hl 1 rfl) ?_
              refine lv_dup2_11 hx hb dX18_argument_184 rfl rfl ?_
              obtain ⟨g_30, hf⟩ := grd_some hf
              obtain ⟨kg_30, sg_30, ig_30⟩ := okA_at g_30
              refine va_iald hx hb hK hP k_29 1 (Wd_ai kg_30 sg_30) rfl ig_30 dX18_argument_185 ?_
              refine lv_iconst (v := 1) hx hb dX18_argument_186 (by decide) ?_
              refine lv_iadd hx hb dX18_argument_187 ?_
              obtain ⟨g_31, hf⟩ := grd_some hf
              obtain ⟨kg_31, sg_31, ig_31⟩ := okA_at g_31
              refine va_iast hx hb hK hP hD hS k_29 1 (Wd_ai kg_31 sg_31) rfl ig_31 dX18_argument_188 (fun H_32 locs hP2 hD2 hS2 => ?_)
              rw [Wd_ti sg_31] at hP2 hD2
              obtain ⟨z_33, ez_33⟩ : ∃ w, w = si z_28 k_29 v_6.toNatClampNeg ((z_28.1 k_29 v_6.toNatClampNeg) + 1) := ⟨_, rfl⟩
              rw [← ez_33] at hP2 hD2
              replace hf := lt_at ez_33 hf
              clear ez_33
              replace hP := hP2
              replace hD := hD2
              replace hS := hS2
              clear hP2 hD2 hS2
              refine lv_aload_n hx hb dX18_argument_189 rfl (lv_at hl 2 rfl) ?_
              obtain ⟨k_34, ek_34, hf⟩ := lnk_some hf
              refine va_get (D := (dC, dI)) (ci := 18) (v := .ref (a k_34)) (C := RX18) (T := TX18) (N := 78) hx hb hts iwd_X18_argument_X18 hown hK hP h0 (Wd_ob kg_5 sg_5 (by decide)) rfl 60 (by decide) (hts _ md_X18_argument_5) (fun _ h9 => h9) (fl_q rfl ek_34) dX18_argument_190 ?_
              refine lv_iload hx hb dX18_argument_193 (lv_at hl 1 rfl) ?_
              obtain ⟨g_35, hf⟩ := grd_some hf
              obtain ⟨kg_35, sg_35, ig_35⟩ := okA_at g_35
              refine va_iald hx hb hK hP k_34 1 (Wd_ai kg_35 sg_35) rfl ig_35 dX18_argument_195 ?_
              obtain ⟨h8, h9⟩ := ret_some hf
              rw [h8, h9]
              exact W.iret (v := (z_33.1 k_34 v_6.toNatClampNeg)) hx hb hr (fun t ht hW => ⟨⟨(z_33.1 k_34 v_6.toNatClampNeg), (), rfl, rfl, by rw [ht]; exact hP, va_K.moved hW.alike hK, hD⟩, hS.F ht⟩) hS.2.2 dX18_argument_196
            · skip
              rw [if_pos c_13] at hf
              refine lv_bipush (v := (-3)) hx hb dX18_argument_134 (by decide) ?_
              obtain ⟨h8, h9⟩ := ret_some hf
              rw [h8, h9]
              exact W.iret (v := (-3)) hx hb hr (fun t ht hW => ⟨⟨(-3), (), rfl, rfl, by rw [ht]; exact hP, va_K.moved hW.alike hK, hD⟩, hS.F ht⟩) hS.2.2 dX18_argument_136
          · skip
            rw [if_neg c_10] at hf
            refine lv_bipush (v := (-2)) hx hb dX18_argument_119 (by decide) ?_
            obtain ⟨h8, h9⟩ := ret_some hf
            rw [h8, h9]
            exact W.iret (v := (-2)) hx hb hr (fun t ht hW => ⟨⟨(-2), (), rfl, rfl, by rw [ht]; exact hP, va_K.moved hW.alike hK, hD⟩, hS.F ht⟩) hS.2.2 dX18_argument_121
      refine lv_icmp_eq (tgt := 91) hx hb dX18_argument_80 (by decide) (fun c_36 => ?_) (fun c_36 => ?_)
      · skip
        rw [if_pos c_36] at hf
        exact B91 (z_2) ls H locs ⟨lv_sub hl [1, 2, 3, 4] rfl, hP, hD, hS⟩ hf
      · skip
        rw [if_neg c_36] at hf
        refine lv_lload_n hx hb dX18_argument_83 rfl (lv_at hl 3 rfl) ?_
        refine lv_lconst (v := 0) hx hb dX18_argument_84 (by decide) ?_
        refine W.lcmp hx hb dX18_argument_85 ?_
        refine lv_if_eq (tgt := 91) hx hb dX18_argument_86 (by decide) (fun c_37 => ?_) (fun c_37 => ?_)
        · skip
          rw [lg_cmp_eq] at c_37
          rw [if_pos c_37] at hf
          exact B91 (z_2) ls H locs ⟨lv_sub hl [1, 2, 3, 4] rfl, hP, hD, hS⟩ hf
        · skip
          rw [lg_cmp_eq] at c_37
          rw [if_neg c_37] at hf
          refine lv_iconst (v := (-1)) hx hb dX18_argument_89 (by decide) ?_
          obtain ⟨h8, h9⟩ := ret_some hf
          rw [h8, h9]
          exact W.iret (v := (-1)) hx hb hr (fun t ht hW => ⟨⟨(-1), (), rfl, rfl, by rw [ht]; exact hP, va_K.moved hW.alike hK, hD⟩, hS.F ht⟩) hS.2.2 dX18_argument_90
  refine lv_icmp_ne (tgt := 27) hx hb dX18_argument_2 (by decide) (fun c_38 => ?_) (fun c_38 => ?_)
  · skip
    rw [if_neg c_38] at hf
    refine lv_iload_n hx hb dX18_argument_27 rfl (lv_at hl 1 rfl) ?_
    refine lv_iconst (v := 2) hx hb dX18_argument_28 (by decide) ?_
    refine lv_icmp_ne (tgt := 56) hx hb dX18_argument_29 (by decide) (fun c_39 => ?_) (fun c_39 => ?_)
    · skip
      rw [if_neg c_39] at hf
      refine lv_iload_n hx hb dX18_argument_56 rfl (lv_at hl 1 rfl) ?_
      refine lv_iconst (v := 3) hx hb dX18_argument_57 (by decide) ?_
      refine de_cut (h := 70) (fun (x : St) => []) (fun x ls H locs => lv_has ls 9 [(0, .ref (a h0)), (1, .int x0), (2, .long x1), (4, .long x2)] ∧ va_P (dC, dI) vwCl (Wd cy a sh n x) H ∧ va_D A (Wd cy a sh n x) ∧ va_S A s.heap H locs) (fun x => fn_X18_argument_B70 F sh n x0 h0 x1 x2 x) (z8, r8) ?_ (fun B70 => ?_)
      · intro x ls H locs hI hf
        obtain ⟨z_40, ez⟩ : ∃ w, w = x := ⟨_, rfl⟩
        subst ez
        obtain ⟨hl2, hP2, hD2, hS2⟩ := hI
        replace hl : lv_has ls 9 [(0, .ref (a h0)), (1, .int x0), (2, .long x1), (4, .long x2)] := hl2
        replace hP := hP2
        replace hD := hD2
        replace hS := hS2
        clear hl2 hP2 hD2 hS2
        replace hf := fn_X18_argument_B70_s hf
        refine W.eq (g2 := F0 m 70 ls []) rfl ?_
        refine lv_iconst (v := 0) hx hb dX18_argument_70 (by decide) ?_
        exact B71 (z_40, 0) ls H locs ⟨lv_sub hl [0, 1, 2, 3] rfl, hP, hD, hS⟩ hf
      refine lv_icmp_lt (tgt := 70) hx hb dX18_argument_58 (by decide) (fun c_41 => ?_) (fun c_41 => ?_)
      · skip
        rw [if_pos c_41] at hf
        exact B70 (z) ls H locs ⟨lv_sub hl [0, 1, 2, 3] rfl, hP, hD, hS⟩ hf
      · skip
        rw [if_neg c_41] at hf
        refine lv_iload_n hx hb dX18_argument_61 rfl (lv_at hl 1 rfl) ?_
        refine lv_iconst (v := 5) hx hb dX18_argument_62 (by decide) ?_
        refine lv_icmp_gt (tgt := 70) hx hb dX18_argument_63 (by decide) (fun c_42 => ?_) (fun c_42 => ?_)
        · skip
          rw [if_pos c_42] at hf
          exact B70 (z) ls H locs ⟨lv_sub hl [0, 1, 2, 3] rfl, hP, hD, hS⟩ hf
        · skip
          rw [if_neg c_42] at hf
          refine lv_iconst (v := 1) hx hb dX18_argument_66 (by decide) ?_
          refine lv_goto (tgt := 71) hx hb dX18_argument_67 (by decide) ?_
          exact B71 (z, 1) ls H locs ⟨lv_sub hl [0, 1, 2, 3] rfl, hP, hD, hS⟩ hf
    · skip
      rw [if_pos c_39] at hf
      refine lv_lload hx hb dX18_argument_32 (lv_at hl 3 rfl) ?_
      refine lv_lconst (v := 0) hx hb dX18_argument_34 (by decide) ?_
      refine W.lcmp hx hb dX18_argument_35 ?_
      refine de_cut (h := 52) (fun (x : St) => []) (fun x ls H locs => lv_has ls 9 [(0, .ref (a h0)), (1, .int x0), (2, .long x1), (4, .long x2)] ∧ va_P (dC, dI) vwCl (Wd cy a sh n x) H ∧ va_D A (Wd cy a sh n x) ∧ va_S A s.heap H locs) (fun x => fn_X18_argument_B52 F sh n x0 h0 x1 x2 x) (z8, r8) ?_ (fun B52 => ?_)
      · intro x ls H locs hI hf
        obtain ⟨z_43, ez⟩ : ∃ w, w = x := ⟨_, rfl⟩
        subst ez
        obtain ⟨hl2, hP2, hD2, hS2⟩ := hI
        replace hl : lv_has ls 9 [(0, .ref (a h0)), (1, .int x0), (2, .long x1), (4, .long x2)] := hl2
        replace hP := hP2
        replace hD := hD2
        replace hS := hS2
        clear hl2 hP2 hD2 hS2
        replace hf := fn_X18_argument_B52_s hf
        refine W.eq (g2 := F0 m 52 ls []) rfl ?_
        refine lv_iconst (v := 0) hx hb dX18_argument_52 (by decide) ?_
        refine lv_goto (tgt := 71) hx hb dX18_argument_53 (by decide) ?_
        exact B71 (z_43, 0) ls H locs ⟨lv_sub hl [0, 1, 2, 3] rfl, hP, hD, hS⟩ hf
      refine lv_if_lt (tgt := 52) hx hb dX18_argument_36 (by decide) (fun c_44 => ?_) (fun c_44 => ?_)
      · skip
        rw [lg_cmp_lt] at c_44
        rw [if_pos c_44] at hf
        exact B52 (z) ls H locs ⟨lv_sub hl [0, 1, 2, 3] rfl, hP, hD, hS⟩ hf
      · skip
        rw [lg_cmp_lt] at c_44
        rw [if_neg c_44] at hf
        refine lv_lload hx hb dX18_argument_39 (lv_at hl 3 rfl) ?_
        refine lv_ldc2 hx hb hown (hts _ md_X18_argument_1) dX18_argument_41 ?_
        refine W.lcmp hx hb dX18_argument_44 ?_
        refine lv_if_ge (tgt := 52) hx hb dX18_argument_45 (by decide) (fun c_45 => ?_) (fun c_45 => ?_)
        · skip
          rw [lg_cmp_ge] at c_45
          rw [if_pos c_45] at hf
          exact B52 (z) ls H locs ⟨lv_sub hl [0, 1, 2, 3] rfl, hP, hD, hS⟩ hf
        · skip
          rw [lg_cmp_ge] at c_45
          rw [if_neg c_45] at hf
          refine lv_iconst (v := 1) hx hb dX18_argument_48 (by decide) ?_
          refine lv_goto (tgt := 71) hx hb dX18_argument_49 (by decide) ?_
          exact B71 (z, 1) ls H locs ⟨lv_sub hl [0, 1, 2, 3] rfl, hP, hD, hS⟩ hf
  · skip
    rw [if_pos c_38] at hf
    refine lv_lload hx hb dX18_argument_5 (lv_at hl 3 rfl) ?_
    refine lv_lconst (v := 0) hx hb dX18_argument_7 (by decide) ?_
    refine W.lcmp hx hb dX18_argument_8 ?_
    refine de_cut (h := 19) (fun (x : St) => []) (fun x ls H locs => lv_has ls 9 [(0, .ref (a h0)), (1, .int x0), (2, .long x1), (4, .long x2)] ∧ va_P (dC, dI) vwCl (Wd cy a sh n x) H ∧ va_D A (Wd cy a sh n x) ∧ va_S A s.heap H locs) (fun x => fn_X18_argument_B19 F sh n x0 h0 x1 x2 x) (z8, r8) ?_ (fun B19 => ?_)
    · intro x ls H locs hI hf
      obtain ⟨z_46, ez⟩ : ∃ w, w = x := ⟨_, rfl⟩
      subst ez
      obtain ⟨hl2, hP2, hD2, hS2⟩ := hI
      replace hl : lv_has ls 9 [(0, .ref (a h0)), (1, .int x0), (2, .long x1), (4, .long x2)] := hl2
      replace hP := hP2
      replace hD := hD2
      replace hS := hS2
      clear hl2 hP2 hD2 hS2
      replace hf := fn_X18_argument_B19_s hf
      refine W.eq (g2 := F0 m 19 ls []) rfl ?_
      refine lv_iconst (v := 1) hx hb dX18_argument_19 (by decide) ?_
      refine lv_goto (tgt := 71) hx hb dX18_argument_20 (by decide) ?_
      exact B71 (z_46, 1) ls H locs ⟨lv_sub hl [0, 1, 2, 3] rfl, hP, hD, hS⟩ hf
    refine lv_if_eq (tgt := 19) hx hb dX18_argument_9 (by decide) (fun c_47 => ?_) (fun c_47 => ?_)
    · skip
      rw [lg_cmp_eq] at c_47
      rw [if_pos c_47] at hf
      exact B19 (z) ls H locs ⟨lv_sub hl [0, 1, 2, 3] rfl, hP, hD, hS⟩ hf
    · skip
      rw [lg_cmp_eq] at c_47
      rw [if_neg c_47] at hf
      refine lv_lload hx hb dX18_argument_12 (lv_at hl 3 rfl) ?_
      refine lv_lconst (v := 1) hx hb dX18_argument_14 (by decide) ?_
      refine W.lcmp hx hb dX18_argument_15 ?_
      refine lv_if_ne (tgt := 23) hx hb dX18_argument_16 (by decide) (fun c_48 => ?_) (fun c_48 => ?_)
      · skip
        rw [lg_cmp_eq] at c_48
        rw [if_neg c_48] at hf
        refine lv_iconst (v := 0) hx hb dX18_argument_23 (by decide) ?_
        refine lv_goto (tgt := 71) hx hb dX18_argument_24 (by decide) ?_
        exact B71 (z, 0) ls H locs ⟨lv_sub hl [0, 1, 2, 3] rfl, hP, hD, hS⟩ hf
      · skip
        rw [lg_cmp_eq] at c_48
        rw [if_pos c_48] at hf
        exact B19 (z) ls H locs ⟨lv_sub hl [0, 1, 2, 3] rfl, hP, hD, hS⟩ hf

theorem md_X0_mix_2 : (.fieldLink RX0 7 "ResourceLedger$Digest" "words" "[I" : Cond) ∈ wsX0_mix := List.mem_of_getElem? (i := 2) rfl
theorem iwd_X0_mix_X0 : ∀ w ∈ wsX00, w ∈ wsX0_mix := fun _ h => List.mem_cons_of_mem _ (List.mem_append_right _ h)
theorem md_X0_mix_3 : (.fieldLink RX0 52 "ResourceLedger$Digest" "K" "[I" : Cond) ∈ wsX0_mix := List.mem_of_getElem? (i := 3) rfl
theorem md_X0_mix_1 : (.fieldLink RX0 13 "ResourceLedger$Digest" "w" "[I" : Cond) ∈ wsX0_mix := List.mem_of_getElem? (i := 1) rfl
set_option maxHeartbeats 4000000 in
set_option maxRecDepth 100000 in
theorem de_X0_mix (l : Launch) (dC : Nat → ClassId) (dI : Nat → Nat → Nat) (cy : Nat → ClassId) (a : Nat → Nat) (sh : Nat → Nat × Nat) (n sz : Nat) (F : Nat) (sk : Nat → Nat) (z : St) (h0 : Nat) {z8 : St} {r8 : Unit} (hf : fn_X0_mix F sh n z h0 = some (z8, r8)) : Met l yX0_mix wsX0_mix ({ frames := 0, cells := 0, slots := 0, locals := 0 }) (va_Pc [.ref (a h0)] (fun U => U.heap.size = sz ∧ va_P (dC, dI) vwCl (Wd cy a sh n z) U.heap ∧ va_K (dC, dI) vwCl (TYS cy) U ∧ va_D (fun _ => True) (Wd cy a sh n z) ∧ NK U ∧ SKs sk (a CBK) (va_A (Wd cy a sh n z) sz) U U.heap)) (va_Qv (fun u : Unit => True) (fun u t => va_P (dC, dI) vwCl (Wd cy a sh n z8) t.heap ∧ va_K (dC, dI) vwCl (TYS cy) t ∧ va_D (va_A (Wd cy a sh n z) sz) (Wd cy a sh n z8)) (va_A (Wd cy a sh n z) sz)) 0 0 (va_A (Wd cy a sh n z) sz) := by
  refine Met.ofW (cc := cX0_mix) (maxL := 12) (ret := none) (by decide) rfl ?_
  intro p e s m args below meth c s₁ B hml hv
  obtain ⟨rfl, hsz, hP, hK, hD0, hN, hSK⟩ := hv
  have hx := B.exec
  have hb := B.bytes
  have hr := B.returns
  have hts := atoms_spec (ws := wsX0_mix) B.pre
  have hown : s.vm.findClass RX0 = some m.cls := findClass_of_methodNamed B.named
  have hlocks := B.notSynchronized
  subst hsz
  have hD := hD0.self (sz := s.heap.size)
  clear hD0
  generalize hAe : va_A (Wd cy a sh n z) s.heap.size = A at hD hSK ⊢
  have hA : ∀ q : Nat, s.heap.size ≤ q → A q := fun q h => by rw [← hAe]; exact Or.inr h
  clear hAe
  have hS : va_S A s.heap s.heap [] := va_S.rf
  have hl := lv_entry ([.ref (a h0)]) (n := 12) (Nat.le_of_ble_eq_true rfl)
  rw [lg_entry_eq]
  generalize (lg_sl ([.ref (a h0)]) ++ List.replicate (12 - (lg_sl ([.ref (a h0)])).length) Slot.unset).toArray = ls at hl ⊢
  replace hl : lv_has ls 12 [(0, .ref (a h0))] := hl
  unfold fn_X0_mix at hf
  refine de_start hS hP (fun H locs hS hP => ?_)
  refine lv_bipush (v := 16) hx hb dX0_mix_0 (by decide) ?_
  refine lv_istore_n (lv' := [(1, .int 16), (0, .ref (a h0))]) hx hb dX0_mix_2 rfl hl (by decide) rfl (fun ls hl2 => ?_)
  replace hl := hl2
  clear hl2
  have hl0 : lv_has ls 12 [(1, .int 16), (0, .ref (a h0))] := lv_sub hl [0, 1] rfl
  refine de_loop (h := 3) (fun (x : St × Int32) ls H locs => lv_has ls 12 [(1, .int x.2), (0, .ref (a h0))] ∧ va_P (dC, dI) vwCl (Wd cy a sh n x.1) H ∧ va_D A (Wd cy a sh n x.1) ∧ va_S A s.heap H locs) (fun f x => fn_X0_mix_L3 F sh n h0 f x.1 x.2) (z8, r8) ?_ (fun _ => rfl) F (z, 16) ls H locs ⟨hl0, hP, hD, hS⟩ hf
  intro f_3 x ls H locs ih3 hI hf
  obtain ⟨z_2, p_1⟩ := x
  obtain ⟨hl2, hP2, hD2, hS2⟩ := hI
  replace hl : lv_has ls 12 [(1, .int p_1), (0, .ref (a h0))] := hl2
  replace hP := hP2
  replace hD := hD2
  replace hS := hS2
  clear hl2 hP2 hD2 hS2 hl0
  replace hf := fn_X0_mix_L3_s hf
  refine lv_iload_n hx hb dX0_mix_3 rfl (lv_at hl 0 rfl) ?_
  refine lv_bipush (v := 64) hx hb dX0_mix_4 (by decide) ?_
  refine lv_icmp_ge (tgt := 116) hx hb dX0_mix_6 (by decide) (fun c_4 => ?_) (fun c_4 => ?_)
  · skip
    rw [if_pos c_4] at hf
    refine lv_aload_n hx hb dX0_mix_116 rfl (lv_at hl 1 rfl) ?_
    obtain ⟨g_5, hf⟩ := grd_some hf
    obtain ⟨kg_5, sg_5⟩ := okO_at g_5
    obtain ⟨k_6, ek_6, hf⟩ := lnk_some hf
    refine va_get (D := (dC, dI)) (ci := 0) (v := .ref (a k_6)) (C := RX0) (T := TX0) (N := 4) hx hb hts iwd_X0_mix_X0 hown hK hP h0 (Wd_ob kg_5 sg_5 (by decide)) rfl 0 (by decide) (hts _ md_X0_mix_2) (fun _ h9 => h9) (fl_q rfl ek_6) dX0_mix_117 ?_
    refine lv_iconst (v := 0) hx hb dX0_mix_120 (by decide) ?_
    obtain ⟨g_7, hf⟩ := grd_some hf
    obtain ⟨kg_7, sg_7, ig_7⟩ := okA_at g_7
    refine va_iald hx hb hK hP k_6 1 (Wd_ai kg_7 sg_7) rfl ig_7 dX0_mix_121 ?_
    refine lv_topi (fun v_8 ev_8 => ?_)
    replace hf := lt_at ev_8 hf
    clear ev_8
    refine lv_istore_n (lv' := [(1, .int v_8), (0, .ref (a h0))]) hx hb dX0_mix_122 rfl hl (by decide) rfl (fun ls hl2 => ?_)
    replace hl := hl2
    clear hl2
    refine lv_aload_n hx hb dX0_mix_123 rfl (lv_at hl 1 rfl) ?_
    obtain ⟨k_9, ek_9, hf⟩ := lnk_some hf
    refine va_get (D := (dC, dI)) (ci := 0) (v := .ref (a k_9)) (C := RX0) (T := TX0) (N := 4) hx hb hts iwd_X0_mix_X0 hown hK hP h0 (Wd_ob kg_5 sg_5 (by decide)) rfl 0 (by decide) (hts _ md_X0_mix_2) (fun _ h9 => h9) (fl_q rfl ek_9) dX0_mix_124 ?_
    refine lv_iconst (v := 1) hx hb dX0_mix_127 (by decide) ?_
    obtain ⟨g_10, hf⟩ := grd_some hf
    obtain ⟨kg_10, sg_10, ig_10⟩ := okA_at g_10
    refine va_iald hx hb hK hP k_9 1 (Wd_ai kg_10 sg_10) rfl ig_10 dX0_mix_128 ?_
    refine lv_topi (fun v_11 ev_11 => ?_)
    replace hf := lt_at ev_11 hf
    clear ev_11
    refine lv_istore_n (lv' := [(2, .int v_11), (1, .int v_8), (0, .ref (a h0))]) hx hb dX0_mix_129 rfl hl (by decide) rfl (fun ls hl2 => ?_)
    replace hl := hl2
    clear hl2
    refine lv_aload_n hx hb dX0_mix_130 rfl (lv_at hl 2 rfl) ?_
    obtain ⟨k_12, ek_12, hf⟩ := lnk_some hf
    refine va_get (D := (dC, dI)) (ci := 0) (v := .ref (a k_12)) (C := RX0) (T := TX0) (N := 4) hx hb hts iwd_X0_mix_X0 hown hK hP h0 (Wd_ob kg_5 sg_5 (by decide)) rfl 0 (by decide) (hts _ md_X0_mix_2) (fun _ h9 => h9) (fl_q rfl ek_12) dX0_mix_131 ?_
    refine lv_iconst (v := 2) hx hb dX0_mix_134 (by decide) ?_
    obtain ⟨g_13, hf⟩ := grd_some hf
    obtain ⟨kg_13, sg_13, ig_13⟩ := okA_at g_13
    refine va_iald hx hb hK hP k_12 1 (Wd_ai kg_13 sg_13) rfl ig_13 dX0_mix_135 ?_
    refine lv_topi (fun v_14 ev_14 => ?_)
    replace hf := lt_at ev_14 hf
    clear ev_14
    refine lv_istore_n (lv' := [(3, .int v_14), (2, .int v_11), (1, .int v_8), (0, .ref (a h0))]) hx hb dX0_mix_136 rfl hl (by decide) rfl (fun ls hl2 => ?_)
    replace hl := hl2
    clear hl2
    refine lv_aload_n hx hb dX0_mix_137 rfl (lv_at hl 3 rfl) ?_
    obtain ⟨k_15, ek_15, hf⟩ := lnk_some hf
    refine va_get (D := (dC, dI)) (ci := 0) (v := .ref (a k_15)) (C := RX0) (T := TX0) (N := 4) hx hb hts iwd_X0_mix_X0 hown hK hP h0 (Wd_ob kg_5 sg_5 (by decide)) rfl 0 (by decide) (hts _ md_X0_mix_2) (fun _ h9 => h9) (fl_q rfl ek_15) dX0_mix_138 ?_
    refine lv_iconst (v := 3) hx hb dX0_mix_141 (by decide) ?_
    obtain ⟨g_16, hf⟩ := grd_some hf
    obtain ⟨kg_16, sg_16, ig_16⟩ := okA_at g_16
    refine va_iald hx hb hK hP k_15 1 (Wd_ai kg_16 sg_16) rfl ig_16 dX0_mix_142 ?_
    refine lv_topi (fun v_17 ev_17 => ?_)
    replace hf := lt_at ev_17 hf
    clear ev_17
    refine lv_istore (lv' := [(4, .int v_17), (3, .int v_14), (2, .int v_11), (1, .int v_8), (0, .ref (a h0))]) hx hb dX0_mix_143 hl (by decide) rfl (fun ls hl2 => ?_)
    replace hl := hl2
    clear hl2
    refine lv_aload_n hx hb dX0_mix_145 rfl (lv_at hl 4 rfl) ?_
    obtain ⟨k_18, ek_18, hf⟩ := lnk_some hf
    refine va_get (D := (dC, dI)) (ci := 0) (v := .ref (a k_18)) (C := RX0) (T := TX0) (N := 4) hx hb hts iwd_X0_mix_X0 hown hK hP h0 (Wd_ob kg_5 sg_5 (by decide)) rfl 0 (by decide) (hts _ md_X0_mix_2) (fun _ h9 => h9) (fl_q rfl ek_18) dX0_mix_146 ?_
    refine lv_iconst (v := 4) hx hb dX0_mix_149 (by decide) ?_
    obtain ⟨g_19, hf⟩ := grd_some hf
    obtain ⟨kg_19, sg_19, ig_19⟩ := okA_at g_19
    refine va_iald hx hb hK hP k_18 1 (Wd_ai kg_19 sg_19) rfl ig_19 dX0_mix_150 ?_
    refine lv_topi (fun v_20 ev_20 => ?_)
    replace hf := lt_at ev_20 hf
    clear ev_20
    refine lv_istore (lv' := [(5, .int v_20), (4, .int v_17), (3, .int v_14), (2, .int v_11), (1, .int v_8), (0, .ref (a h0))]) hx hb dX0_mix_151 hl (by decide) rfl (fun ls hl2 => ?_)
    replace hl := hl2
    clear hl2
    refine lv_aload_n hx hb dX0_mix_153 rfl (lv_at hl 5 rfl) ?_
    obtain ⟨k_21, ek_21, hf⟩ := lnk_some hf
    refine va_get (D := (dC, dI)) (ci := 0) (v := .ref (a k_21)) (C := RX0) (T := TX0) (N := 4) hx hb hts iwd_X0_mix_X0 hown hK hP h0 (Wd_ob kg_5 sg_5 (by decide)) rfl 0 (by decide) (hts _ md_X0_mix_2) (fun _ h9 => h9) (fl_q rfl ek_21) dX0_mix_154 ?_
    refine lv_iconst (v := 5) hx hb dX0_mix_157 (by decide) ?_
    obtain ⟨g_22, hf⟩ := grd_some hf
    obtain ⟨kg_22, sg_22, ig_22⟩ := okA_at g_22
    refine va_iald hx hb hK hP k_21 1 (Wd_ai kg_22 sg_22) rfl ig_22 dX0_mix_158 ?_
    refine lv_topi (fun v_23 ev_23 => ?_)
    replace hf := lt_at ev_23 hf
    clear ev_23
    refine lv_istore (lv' := [(6, .int v_23), (5, .int v_20), (4, .int v_17), (3, .int v_14), (2, .int v_11), (1, .int v_8), (0, .ref (a h0))]) hx hb dX0_mix_159 hl (by decide) rfl (fun ls hl2 => ?_)
    replace hl := hl2
    clear hl2
    refine lv_aload_n hx hb dX0_mix_161 rfl (lv_at hl 6 rfl) ?_
    obtain ⟨k_24, ek_24, hf⟩ := lnk_some hf
    refine va_get (D := (dC, dI)) (ci := 0) (v := .ref (a k_24)) (C := RX0) (T := TX0) (N := 4) hx hb hts iwd_X0_mix_X0 hown hK hP h0 (Wd_ob kg_5 sg_5 (by decide)) rfl 0 (by decide) (hts _ md_X0_mix_2) (fun _ h9 => h9) (fl_q rfl ek_24) dX0_mix_162 ?_
    refine lv_bipush (v := 6) hx hb dX0_mix_165 (by decide) ?_
    obtain ⟨g_25, hf⟩ := grd_some hf
    obtain ⟨kg_25, sg_25, ig_25⟩ := okA_at g_25
    refine va_iald hx hb hK hP k_24 1 (Wd_ai kg_25 sg_25) rfl ig_25 dX0_mix_167 ?_
    refine lv_topi (fun v_26 ev_26 => ?_)
    replace hf := lt_at ev_26 hf
    clear ev_26
    refine lv_istore (lv' := [(7, .int v_26), (6, .int v_23), (5, .int v_20), (4, .int v_17), (3, .int v_14), (2, .int v_11), (1, .int v_8), (0, .ref (a h0))]) hx hb dX0_mix_168 hl (by decide) rfl (fun ls hl2 => ?_)
    replace hl := hl2
    clear hl2
    refine lv_aload_n hx hb dX0_mix_170 rfl (lv_at hl 7 rfl) ?_
    obtain ⟨k_27, ek_27, hf⟩ := lnk_some hf
    refine va_get (D := (dC, dI)) (ci := 0) (v := .ref (a k_27)) (C := RX0) (T := TX0) (N := 4) hx hb hts iwd_X0_mix_X0 hown hK hP h0 (Wd_ob kg_5 sg_5 (by decide)) rfl 0 (by decide) (hts _ md_X0_mix_2) (fun _ h9 => h9) (fl_q rfl ek_27) dX0_mix_171 ?_
    refine lv_bipush (v := 7) hx hb dX0_mix_174 (by decide) ?_
    obtain ⟨g_28, hf⟩ := grd_some hf
    obtain ⟨kg_28, sg_28, ig_28⟩ := okA_at g_28
    refine va_iald hx hb hK hP k_27 1 (Wd_ai kg_28 sg_28) rfl ig_28 dX0_mix_176 ?_
    refine lv_topi (fun v_29 ev_29 => ?_)
    replace hf := lt_at ev_29 hf
    clear ev_29
    refine lv_istore (lv' := [(8, .int v_29), (7, .int v_26), (6, .int v_23), (5, .int v_20), (4, .int v_17), (3, .int v_14), (2, .int v_11), (1, .int v_8), (0, .ref (a h0))]) hx hb dX0_mix_177 hl (by decide) rfl (fun ls hl2 => ?_)
    replace hl := hl2
    clear hl2
    refine lv_iconst (v := 0) hx hb dX0_mix_179 (by decide) ?_
    refine lv_istore (lv' := [(9, .int 0), (8, .int v_29), (7, .int v_26), (6, .int v_23), (5, .int v_20), (4, .int v_17), (3, .int v_14), (2, .int v_11), (1, .int v_8), (0, .ref (a h0))]) hx hb dX0_mix_180 hl (by decide) rfl (fun ls hl2 => ?_)
    replace hl := hl2
    clear hl2
    have hl0 : lv_has ls 12 [(9, .int 0), (8, .int v_29), (7, .int v_26), (6, .int v_23), (5, .int v_20), (4, .int v_17), (3, .int v_14), (2, .int v_11), (1, .int v_8), (0, .ref (a h0))] := lv_sub hl [0, 1, 2, 3, 4, 5, 6, 7, 8, 9] rfl
    refine de_loop (h := 182) (fun (x : St × Int32 × Int32 × Int32 × Int32 × Int32 × Int32 × Int32 × Int32 × Int32) ls H locs => lv_has ls 12 [(9, .int x.2.2.2.2.2.2.2.2.2), (8, .int x.2.2.2.2.2.2.2.2.1), (7, .int x.2.2.2.2.2.2.2.1), (6, .int x.2.2.2.2.2.2.1), (5, .int x.2.2.2.2.2.1), (4, .int x.2.2.2.2.1), (3, .int x.2.2.2.1), (2, .int x.2.2.1), (1, .int x.2.1), (0, .ref (a h0))] ∧ va_P (dC, dI) vwCl (Wd cy a sh n x.1) H ∧ va_D A (Wd cy a sh n x.1) ∧ va_S A s.heap H locs) (fun f x => fn_X0_mix_L182 F sh n h0 f x.1 x.2.1 x.2.2.1 x.2.2.2.1 x.2.2.2.2.1 x.2.2.2.2.2.1 x.2.2.2.2.2.2.1 x.2.2.2.2.2.2.2.1 x.2.2.2.2.2.2.2.2.1 x.2.2.2.2.2.2.2.2.2) (z8, r8) ?_ (fun _ => rfl) F (z_2, v_8, v_11, v_14, v_17, v_20, v_23, v_26, v_29, 0) ls H locs ⟨hl0, hP, hD, hS⟩ hf
    intro f_40 x ls H locs ih182 hI hf
    obtain ⟨z_39, p_30, p_31, p_32, p_33, p_34, p_35, p_36, p_37, p_38⟩ := x
    obtain ⟨hl2, hP2, hD2, hS2⟩ := hI
    replace hl : lv_has ls 12 [(9, .int p_38), (8, .int p_37), (7, .int p_36), (6, .int p_35), (5, .int p_34), (4, .int p_33), (3, .int p_32), (2, .int p_31), (1, .int p_30), (0, .ref (a h0))] := hl2
    replace hP := hP2
    replace hD := hD2
    replace hS := hS2
    clear hl2 hP2 hD2 hS2 hl0
    replace hf := fn_X0_mix_L182_s hf
    refine lv_iload hx hb dX0_mix_182 (lv_at hl 0 rfl) ?_
    refine lv_bipush (v := 64) hx hb dX0_mix_184 (by decide) ?_
    refine lv_icmp_ge (tgt := 346) hx hb dX0_mix_186 (by decide) (fun c_41 => ?_) (fun c_41 => ?_)
    · skip
      rw [if_pos c_41] at hf
      refine lv_aload_n hx hb dX0_mix_346 rfl (lv_at hl 9 rfl) ?_
      obtain ⟨k_42, ek_42, hf⟩ := lnk_some hf
      refine va_get (D := (dC, dI)) (ci := 0) (v := .ref (a k_42)) (C := RX0) (T := TX0) (N := 4) hx hb hts iwd_X0_mix_X0 hown hK hP h0 (Wd_ob kg_5 sg_5 (by decide)) rfl 0 (by decide) (hts _ md_X0_mix_2) (fun _ h9 => h9) (fl_q rfl ek_42) dX0_mix_347 ?_
      refine lv_iconst (v := 0) hx hb dX0_mix_350 (by decide) ?_
      refine lv_dup2_11 hx hb dX0_mix_351 rfl rfl ?_
      obtain ⟨g_43, hf⟩ := grd_some hf
      obtain ⟨kg_43, sg_43, ig_43⟩ := okA_at g_43
      refine va_iald hx hb hK hP k_42 1 (Wd_ai kg_43 sg_43) rfl ig_43 dX0_mix_352 ?_
      refine lv_iload_n hx hb dX0_mix_353 rfl (lv_at hl 8 rfl) ?_
      refine lv_iadd hx hb dX0_mix_354 ?_
      obtain ⟨g_44, hf⟩ := grd_some hf
      obtain ⟨kg_44, sg_44, ig_44⟩ := okA_at g_44
      refine va_iast hx hb hK hP hD hS k_42 1 (Wd_ai kg_44 sg_44) rfl ig_44 dX0_mix_355 (fun H_45 locs hP2 hD2 hS2 => ?_)
      rw [Wd_ti sg_44] at hP2 hD2
      obtain ⟨z_46, ez_46⟩ : ∃ w, w = si z_39 k_42 (0 : Int32).toNatClampNeg ((z_39.1 k_42 (0 : Int32).toNatClampNeg) + p_30) := ⟨_, rfl⟩
      rw [← ez_46] at hP2 hD2
      replace hf := lt_at ez_46 hf
      clear ez_46
      replace hP := hP2
      replace hD := hD2
      replace hS := hS2
      clear hP2 hD2 hS2
      refine lv_aload_n hx hb dX0_mix_356 rfl (lv_at hl 9 rfl) ?_
      obtain ⟨k_47, ek_47, hf⟩ := lnk_some hf
      refine va_get (D := (dC, dI)) (ci := 0) (v := .ref (a k_47)) (C := RX0) (T := TX0) (N := 4) hx hb hts iwd_X0_mix_X0 hown hK hP h0 (Wd_ob kg_5 sg_5 (by decide)) rfl 0 (by decide) (hts _ md_X0_mix_2) (fun _ h9 => h9) (fl_q rfl ek_47) dX0_mix_357 ?_
      refine lv_iconst (v := 1) hx hb dX0_mix_360 (by decide) ?_
      refine lv_dup2_11 hx hb dX0_mix_361 rfl rfl ?_
      obtain ⟨g_48, hf⟩ := grd_some hf
      obtain ⟨kg_48, sg_48, ig_48⟩ := okA_at g_48
      refine va_iald hx hb hK hP k_47 1 (Wd_ai kg_48 sg_48) rfl ig_48 dX0_mix_362 ?_
      refine lv_iload_n hx hb dX0_mix_363 rfl (lv_at hl 7 rfl) ?_
      refine lv_iadd hx hb dX0_mix_364 ?_
      obtain ⟨g_49, hf⟩ := grd_some hf
      obtain ⟨kg_49, sg_49, ig_49⟩ := okA_at g_49
      refine va_iast hx hb hK hP hD hS k_47 1 (Wd_ai kg_49 sg_49) rfl ig_49 dX0_mix_365 (fun H_50 locs hP2 hD2 hS2 => ?_)
      rw [Wd_ti sg_49] at hP2 hD2
      obtain ⟨z_51, ez_51⟩ : ∃ w, w = si z_46 k_47 (1 : Int32).toNatClampNeg ((z_46.1 k_47 (1 : Int32).toNatClampNeg) + p_31) := ⟨_, rfl⟩
      rw [← ez_51] at hP2 hD2
      replace hf := lt_at ez_51 hf
      clear ez_51
      replace hP := hP2
      replace hD := hD2
      replace hS := hS2
      clear hP2 hD2 hS2
      refine lv_aload_n hx hb dX0_mix_366 rfl (lv_at hl 9 rfl) ?_
      obtain ⟨k_52, ek_52, hf⟩ := lnk_some hf
      refine va_get (D := (dC, dI)) (ci := 0) (v := .ref (a k_52)) (C := RX0) (T := TX0) (N := 4) hx hb hts iwd_X0_mix_X0 hown hK hP h0 (Wd_ob kg_5 sg_5 (by decide)) rfl 0 (by decide) (hts _ md_X0_mix_2) (fun _ h9 => h9) (fl_q rfl ek_52) dX0_mix_367 ?_
      refine lv_iconst (v := 2) hx hb dX0_mix_370 (by decide) ?_
      refine lv_dup2_11 hx hb dX0_mix_371 rfl rfl ?_
      obtain ⟨g_53, hf⟩ := grd_some hf
      obtain ⟨kg_53, sg_53, ig_53⟩ := okA_at g_53
      refine va_iald hx hb hK hP k_52 1 (Wd_ai kg_53 sg_53) rfl ig_53 dX0_mix_372 ?_
      refine lv_iload_n hx hb dX0_mix_373 rfl (lv_at hl 6 rfl) ?_
      refine lv_iadd hx hb dX0_mix_374 ?_
      obtain ⟨g_54, hf⟩ := grd_some hf
      obtain ⟨kg_54, sg_54, ig_54⟩ := okA_at g_54
      refine va_iast hx hb hK hP hD hS k_52 1 (Wd_ai kg_54 sg_54) rfl ig_54 dX0_mix_375 (fun H_55 locs hP2 hD2 hS2 => ?_)
      rw [Wd_ti sg_54] at hP2 hD2
      obtain ⟨z_56, ez_56⟩ : ∃ w, w = si z_51 k_52 (2 : Int32).toNatClampNeg ((z_51.1 k_52 (2 : Int32).toNatClampNeg) + p_32) := ⟨_, rfl⟩
      rw [← ez_56] at hP2 hD2
      replace hf := lt_at ez_56 hf
      clear ez_56
      replace hP := hP2
      replace hD := hD2
      replace hS := hS2
      clear hP2 hD2 hS2
      refine lv_aload_n hx hb dX0_mix_376 rfl (lv_at hl 9 rfl) ?_
      obtain ⟨k_57, ek_57, hf⟩ := lnk_some hf
      refine va_get (D := (dC, dI)) (ci := 0) (v := .ref (a k_57)) (C := RX0) (T := TX0) (N := 4) hx hb hts iwd_X0_mix_X0 hown hK hP h0 (Wd_ob kg_5 sg_5 (by decide)) rfl 0 (by decide) (hts _ md_X0_mix_2) (fun _ h9 => h9) (fl_q rfl ek_57) dX0_mix_377 ?_
      refine lv_iconst (v := 3) hx hb dX0_mix_380 (by decide) ?_
      refine lv_dup2_11 hx hb dX0_mix_381 rfl rfl ?_
      obtain ⟨g_58, hf⟩ := grd_some hf
      obtain ⟨kg_58, sg_58, ig_58⟩ := okA_at g_58
      refine va_iald hx hb hK hP k_57 1 (Wd_ai kg_58 sg_58) rfl ig_58 dX0_mix_382 ?_
      refine lv_iload hx hb dX0_mix_383 (lv_at hl 5 rfl) ?_
      refine lv_iadd hx hb dX0_mix_385 ?_
      obtain ⟨g_59, hf⟩ := grd_some hf
      obtain ⟨kg_59, sg_59, ig_59⟩ := okA_at g_59
      refine va_iast hx hb hK hP hD hS k_57 1 (Wd_ai kg_59 sg_59) rfl ig_59 dX0_mix_386 (fun H_60 locs hP2 hD2 hS2 => ?_)
      rw [Wd_ti sg_59] at hP2 hD2
      obtain ⟨z_61, ez_61⟩ : ∃ w, w = si z_56 k_57 (3 : Int32).toNatClampNeg ((z_56.1 k_57 (3 : Int32).toNatClampNeg) + p_33) := ⟨_, rfl⟩
      rw [← ez_61] at hP2 hD2
      replace hf := lt_at ez_61 hf
      clear ez_61
      replace hP := hP2
      replace hD := hD2
      replace hS := hS2
      clear hP2 hD2 hS2
      refine lv_aload_n hx hb dX0_mix_387 rfl (lv_at hl 9 rfl) ?_
      obtain ⟨k_62, ek_62, hf⟩ := lnk_some hf
      refine va_get (D := (dC, dI)) (ci := 0) (v := .ref (a k_62)) (C := RX0) (T := TX0) (N := 4) hx hb hts iwd_X0_mix_X0 hown hK hP h0 (Wd_ob kg_5 sg_5 (by decide)) rfl 0 (by decide) (hts _ md_X0_mix_2) (fun _ h9 => h9) (fl_q rfl ek_62) dX0_mix_388 ?_
      refine lv_iconst (v := 4) hx hb dX0_mix_391 (by decide) ?_
      refine lv_dup2_11 hx hb dX0_mix_392 rfl rfl ?_
      obtain ⟨g_63, hf⟩ := grd_some hf
      obtain ⟨kg_63, sg_63, ig_63⟩ := okA_at g_63
      refine va_iald hx hb hK hP k_62 1 (Wd_ai kg_63 sg_63) rfl ig_63 dX0_mix_393 ?_
      refine lv_iload hx hb dX0_mix_394 (lv_at hl 4 rfl) ?_
      refine lv_iadd hx hb dX0_mix_396 ?_
      obtain ⟨g_64, hf⟩ := grd_some hf
      obtain ⟨kg_64, sg_64, ig_64⟩ := okA_at g_64
      refine va_iast hx hb hK hP hD hS k_62 1 (Wd_ai kg_64 sg_64) rfl ig_64 dX0_mix_397 (fun H_65 locs hP2 hD2 hS2 => ?_)
      rw [Wd_ti sg_64] at hP2 hD2
      obtain ⟨z_66, ez_66⟩ : ∃ w, w = si z_61 k_62 (4 : Int32).toNatClampNeg ((z_61.1 k_62 (4 : Int32).toNatClampNeg) + p_34) := ⟨_, rfl⟩
      rw [← ez_66] at hP2 hD2
      replace hf := lt_at ez_66 hf
      clear ez_66
      replace hP := hP2
      replace hD := hD2
      replace hS := hS2
      clear hP2 hD2 hS2
      refine lv_aload_n hx hb dX0_mix_398 rfl (lv_at hl 9 rfl) ?_
      obtain ⟨k_67, ek_67, hf⟩ := lnk_some hf
      refine va_get (D := (dC, dI)) (ci := 0) (v := .ref (a k_67)) (C := RX0) (T := TX0) (N := 4) hx hb hts iwd_X0_mix_X0 hown hK hP h0 (Wd_ob kg_5 sg_5 (by decide)) rfl 0 (by decide) (hts _ md_X0_mix_2) (fun _ h9 => h9) (fl_q rfl ek_67) dX0_mix_399 ?_
      refine lv_iconst (v := 5) hx hb dX0_mix_402 (by decide) ?_
      refine lv_dup2_11 hx hb dX0_mix_403 rfl rfl ?_
      obtain ⟨g_68, hf⟩ := grd_some hf
      obtain ⟨kg_68, sg_68, ig_68⟩ := okA_at g_68
      refine va_iald hx hb hK hP k_67 1 (Wd_ai kg_68 sg_68) rfl ig_68 dX0_mix_404 ?_
      refine lv_iload hx hb dX0_mix_405 (lv_at hl 3 rfl) ?_
      refine lv_iadd hx hb dX0_mix_407 ?_
      obtain ⟨g_69, hf⟩ := grd_some hf
      obtain ⟨kg_69, sg_69, ig_69⟩ := okA_at g_69
      refine va_iast hx hb hK hP hD hS k_67 1 (Wd_ai kg_69 sg_69) rfl ig_69 dX0_mix_408 (fun H_70 locs hP2 hD2 hS2 => ?_)
      rw [Wd_ti sg_69] at hP2 hD2
      obtain ⟨z_71, ez_71⟩ : ∃ w, w = si z_66 k_67 (5 : Int32).toNatClampNeg ((z_66.1 k_67 (5 : Int32).toNatClampNeg) + p_35) := ⟨_, rfl⟩
      rw [← ez_71] at hP2 hD2
      replace hf := lt_at ez_71 hf
      clear ez_71
      replace hP := hP2
      replace hD := hD2
      replace hS := hS2
      clear hP2 hD2 hS2
      refine lv_aload_n hx hb dX0_mix_409 rfl (lv_at hl 9 rfl) ?_
      obtain ⟨k_72, ek_72, hf⟩ := lnk_some hf
      refine va_get (D := (dC, dI)) (ci := 0) (v := .ref (a k_72)) (C := RX0) (T := TX0) (N := 4) hx hb hts iwd_X0_mix_X0 hown hK hP h0 (Wd_ob kg_5 sg_5 (by decide)) rfl 0 (by decide) (hts _ md_X0_mix_2) (fun _ h9 => h9) (fl_q rfl ek_72) dX0_mix_410 ?_
      refine lv_bipush (v := 6) hx hb dX0_mix_413 (by decide) ?_
      refine lv_dup2_11 hx hb dX0_mix_415 rfl rfl ?_
      obtain ⟨g_73, hf⟩ := grd_some hf
      obtain ⟨kg_73, sg_73, ig_73⟩ := okA_at g_73
      refine va_iald hx hb hK hP k_72 1 (Wd_ai kg_73 sg_73) rfl ig_73 dX0_mix_416 ?_
      refine lv_iload hx hb dX0_mix_417 (lv_at hl 2 rfl) ?_
      refine lv_iadd hx hb dX0_mix_419 ?_
      obtain ⟨g_74, hf⟩ := grd_some hf
      obtain ⟨kg_74, sg_74, ig_74⟩ := okA_at g_74
      refine va_iast hx hb hK hP hD hS k_72 1 (Wd_ai kg_74 sg_74) rfl ig_74 dX0_mix_420 (fun H_75 locs hP2 hD2 hS2 => ?_)
      rw [Wd_ti sg_74] at hP2 hD2
      obtain ⟨z_76, ez_76⟩ : ∃ w, w = si z_71 k_72 (6 : Int32).toNatClampNeg ((z_71.1 k_72 (6 : Int32).toNatClampNeg) + p_36) := ⟨_, rfl⟩
      rw [← ez_76] at hP2 hD2
      replace hf := lt_at ez_76 hf
      clear ez_76
      replace hP := hP2
      replace hD := hD2
      replace hS := hS2
      clear hP2 hD2 hS2
      refine lv_aload_n hx hb dX0_mix_421 rfl (lv_at hl 9 rfl) ?_
      obtain ⟨k_77, ek_77, hf⟩ := lnk_some hf
      refine va_get (D := (dC, dI)) (ci := 0) (v := .ref (a k_77)) (C := RX0) (T := TX0) (N := 4) hx hb hts iwd_X0_mix_X0 hown hK hP h0 (Wd_ob kg_5 sg_5 (by decide)) rfl 0 (by decide) (hts _ md_X0_mix_2) (fun _ h9 => h9) (fl_q rfl ek_77) dX0_mix_422 ?_
      refine lv_bipush (v := 7) hx hb dX0_mix_425 (by decide) ?_
      refine lv_dup2_11 hx hb dX0_mix_427 rfl rfl ?_
      obtain ⟨g_78, hf⟩ := grd_some hf
      obtain ⟨kg_78, sg_78, ig_78⟩ := okA_at g_78
      refine va_iald hx hb hK hP k_77 1 (Wd_ai kg_78 sg_78) rfl ig_78 dX0_mix_428 ?_
      refine lv_iload hx hb dX0_mix_429 (lv_at hl 1 rfl) ?_
      refine lv_iadd hx hb dX0_mix_431 ?_
      obtain ⟨g_79, hf⟩ := grd_some hf
      obtain ⟨kg_79, sg_79, ig_79⟩ := okA_at g_79
      refine va_iast hx hb hK hP hD hS k_77 1 (Wd_ai kg_79 sg_79) rfl ig_79 dX0_mix_432 (fun H_80 locs hP2 hD2 hS2 => ?_)
      rw [Wd_ti sg_79] at hP2 hD2
      obtain ⟨z_81, ez_81⟩ : ∃ w, w = si z_76 k_77 (7 : Int32).toNatClampNeg ((z_76.1 k_77 (7 : Int32).toNatClampNeg) + p_37) := ⟨_, rfl⟩
      rw [← ez_81] at hP2 hD2
      replace hf := lt_at ez_81 hf
      clear ez_81
      replace hP := hP2
      replace hD := hD2
      replace hS := hS2
      clear hP2 hD2 hS2
      obtain ⟨h8, h9⟩ := ret_some hf
      rw [h8]
      exact W.vret hx hb hr (fun t ht hW => ⟨⟨(), rfl, trivial, by rw [ht]; exact hP, va_K.moved hW.alike hK, hD⟩, hS.F ht⟩) hS.2.2 dX0_mix_433
    · skip
      rw [if_neg c_41] at hf
      refine lv_iload hx hb dX0_mix_189 (lv_at hl 4 rfl) ?_
      refine lv_bipush (v := 6) hx hb dX0_mix_191 (by decide) ?_
      refine lv_iushr (v := ((p_34 : Int32).toUInt32 >>> ((6 : Int32).toUInt32 &&& Int32.toUInt32 31)).toInt32) hx hb dX0_mix_193 rfl ?_
      refine lv_iload hx hb dX0_mix_194 (lv_at hl 4 rfl) ?_
      refine lv_bipush (v := 26) hx hb dX0_mix_196 (by decide) ?_
      refine lv_ishl hx hb dX0_mix_198 ?_
      refine lv_ior hx hb dX0_mix_199 ?_
      refine lv_iload hx hb dX0_mix_200 (lv_at hl 4 rfl) ?_
      refine lv_bipush (v := 11) hx hb dX0_mix_202 (by decide) ?_
      refine lv_iushr (v := ((p_34 : Int32).toUInt32 >>> ((11 : Int32).toUInt32 &&& Int32.toUInt32 31)).toInt32) hx hb dX0_mix_204 rfl ?_
      refine lv_iload hx hb dX0_mix_205 (lv_at hl 4 rfl) ?_
      refine lv_bipush (v := 21) hx hb dX0_mix_207 (by decide) ?_
      refine lv_ishl hx hb dX0_mix_209 ?_
      refine lv_ior hx hb dX0_mix_210 ?_
      refine lv_ixor hx hb dX0_mix_211 ?_
      refine lv_iload hx hb dX0_mix_212 (lv_at hl 4 rfl) ?_
      refine lv_bipush (v := 25) hx hb dX0_mix_214 (by decide) ?_
      refine lv_iushr (v := ((p_34 : Int32).toUInt32 >>> ((25 : Int32).toUInt32 &&& Int32.toUInt32 31)).toInt32) hx hb dX0_mix_216 rfl ?_
      refine lv_iload hx hb dX0_mix_217 (lv_at hl 4 rfl) ?_
      refine lv_bipush (v := 7) hx hb dX0_mix_219 (by decide) ?_
      refine lv_ishl hx hb dX0_mix_221 ?_
      refine lv_ior hx hb dX0_mix_222 ?_
      refine lv_ixor hx hb dX0_mix_223 ?_
      refine lv_topi (fun v_82 ev_82 => ?_)
      replace hf := lt_at ev_82 hf
      clear ev_82
      refine lv_istore (lv' := [(10, .int v_82), (9, .int p_38), (8, .int p_37), (7, .int p_36), (6, .int p_35), (5, .int p_34), (4, .int p_33), (3, .int p_32), (2, .int p_31), (1, .int p_30), (0, .ref (a h0))]) hx hb dX0_mix_224 hl (by decide) rfl (fun ls hl2 => ?_)
      replace hl := hl2
      clear hl2
      refine lv_iload hx hb dX0_mix_226 (lv_at hl 0 rfl) ?_
      refine lv_iload hx hb dX0_mix_228 (lv_at hl 2 rfl) ?_
      refine lv_iload hx hb dX0_mix_230 (lv_at hl 5 rfl) ?_
      refine lv_iload hx hb dX0_mix_232 (lv_at hl 4 rfl) ?_
      refine lv_iand hx hb dX0_mix_234 ?_
      refine lv_iload hx hb dX0_mix_235 (lv_at hl 5 rfl) ?_
      refine lv_iconst (v := (-1)) hx hb dX0_mix_237 (by decide) ?_
      refine lv_ixor hx hb dX0_mix_238 ?_
      refine lv_iload hx hb dX0_mix_239 (lv_at hl 3 rfl) ?_
      refine lv_iand hx hb dX0_mix_241 ?_
      refine lv_ixor hx hb dX0_mix_242 ?_
      refine lv_iadd hx hb dX0_mix_243 ?_
      refine va_gets hx hb hSK.2.2.1.1 hS hown (hts _ md_X0_mix_3) (fun _ h => h) dX0_mix_244 ?_
      refine lv_iload hx hb dX0_mix_247 (lv_at hl 1 rfl) ?_
      obtain ⟨g_83, hf⟩ := grd_some hf
      refine va_ti hx hb hSK.2.2.1.2 hS (okI_at g_83) rfl dX0_mix_249 ?_
      refine lv_iadd hx hb dX0_mix_250 ?_
      refine lv_aload_n hx hb dX0_mix_251 rfl (lv_at hl 10 rfl) ?_
      obtain ⟨k_84, ek_84, hf⟩ := lnk_some hf
      refine va_get (D := (dC, dI)) (ci := 0) (v := .ref (a k_84)) (C := RX0) (T := TX0) (N := 4) hx hb hts iwd_X0_mix_X0 hown hK hP h0 (Wd_ob kg_5 sg_5 (by decide)) rfl 1 (by decide) (hts _ md_X0_mix_1) (fun _ h9 => h9) (fl_q rfl ek_84) dX0_mix_252 ?_
      refine lv_iload hx hb dX0_mix_255 (lv_at hl 1 rfl) ?_
      obtain ⟨g_85, hf⟩ := grd_some hf
      obtain ⟨kg_85, sg_85, ig_85⟩ := okA_at g_85
      refine va_iald hx hb hK hP k_84 1 (Wd_ai kg_85 sg_85) rfl ig_85 dX0_mix_257 ?_
      refine lv_iadd hx hb dX0_mix_258 ?_
      refine lv_iadd hx hb dX0_mix_259 ?_
      refine lv_topi (fun v_86 ev_86 => ?_)
      replace hf := lt_at ev_86 hf
      clear ev_86
      refine lv_istore (lv' := [(10, .int v_86), (9, .int p_38), (8, .int p_37), (7, .int p_36), (6, .int p_35), (5, .int p_34), (4, .int p_33), (3, .int p_32), (2, .int p_31), (1, .int p_30), (0, .ref (a h0))]) hx hb dX0_mix_260 hl (by decide) rfl (fun ls hl2 => ?_)
      replace hl := hl2
      clear hl2
      refine lv_iload_n hx hb dX0_mix_262 rfl (lv_at hl 9 rfl) ?_
      refine lv_iconst (v := 2) hx hb dX0_mix_263 (by decide) ?_
      refine lv_iushr (v := ((p_30 : Int32).toUInt32 >>> ((2 : Int32).toUInt32 &&& Int32.toUInt32 31)).toInt32) hx hb dX0_mix_264 rfl ?_
      refine lv_iload_n hx hb dX0_mix_265 rfl (lv_at hl 9 rfl) ?_
      refine lv_bipush (v := 30) hx hb dX0_mix_266 (by decide) ?_
      refine lv_ishl hx hb dX0_mix_268 ?_
      refine lv_ior hx hb dX0_mix_269 ?_
      refine lv_iload_n hx hb dX0_mix_270 rfl (lv_at hl 9 rfl) ?_
      refine lv_bipush (v := 13) hx hb dX0_mix_271 (by decide) ?_
      refine lv_iushr (v := ((p_30 : Int32).toUInt32 >>> ((13 : Int32).toUInt32 &&& Int32.toUInt32 31)).toInt32) hx hb dX0_mix_273 rfl ?_
      refine lv_iload_n hx hb dX0_mix_274 rfl (lv_at hl 9 rfl) ?_
      refine lv_bipush (v := 19) hx hb dX0_mix_275 (by decide) ?_
      refine lv_ishl hx hb dX0_mix_277 ?_
      refine lv_ior hx hb dX0_mix_278 ?_
      refine lv_ixor hx hb dX0_mix_279 ?_
      refine lv_iload_n hx hb dX0_mix_280 rfl (lv_at hl 9 rfl) ?_
      refine lv_bipush (v := 22) hx hb dX0_mix_281 (by decide) ?_
      refine lv_iushr (v := ((p_30 : Int32).toUInt32 >>> ((22 : Int32).toUInt32 &&& Int32.toUInt32 31)).toInt32) hx hb dX0_mix_283 rfl ?_
      refine lv_iload_n hx hb dX0_mix_284 rfl (lv_at hl 9 rfl) ?_
      refine lv_bipush (v := 10) hx hb dX0_mix_285 (by decide) ?_
      refine lv_ishl hx hb dX0_mix_287 ?_
      refine lv_ior hx hb dX0_mix_288 ?_
      refine lv_ixor hx hb dX0_mix_289 ?_
      refine lv_topi (fun v_87 ev_87 => ?_)
      replace hf := lt_at ev_87 hf
      clear ev_87
      refine lv_istore (lv' := [(11, .int v_87), (10, .int v_86), (9, .int p_38), (8, .int p_37), (7, .int p_36), (6, .int p_35), (5, .int p_34), (4, .int p_33), (3, .int p_32), (2, .int p_31), (1, .int p_30), (0, .ref (a h0))]) hx hb dX0_mix_290 hl (by decide) rfl (fun ls hl2 => ?_)
      replace hl := hl2
      clear hl2
      refine lv_iload hx hb dX0_mix_292 (lv_at hl 0 rfl) ?_
      refine lv_iload_n hx hb dX0_mix_294 rfl (lv_at hl 10 rfl) ?_
      refine lv_iload_n hx hb dX0_mix_295 rfl (lv_at hl 9 rfl) ?_
      refine lv_iand hx hb dX0_mix_296 ?_
      refine lv_iload_n hx hb dX0_mix_297 rfl (lv_at hl 10 rfl) ?_
      refine lv_iload_n hx hb dX0_mix_298 rfl (lv_at hl 8 rfl) ?_
      refine lv_iand hx hb dX0_mix_299 ?_
      refine lv_ixor hx hb dX0_mix_300 ?_
      refine lv_iload_n hx hb dX0_mix_301 rfl (lv_at hl 9 rfl) ?_
      refine lv_iload_n hx hb dX0_mix_302 rfl (lv_at hl 8 rfl) ?_
      refine lv_iand hx hb dX0_mix_303 ?_
      refine lv_ixor hx hb dX0_mix_304 ?_
      refine lv_iadd hx hb dX0_mix_305 ?_
      refine lv_topi (fun v_88 ev_88 => ?_)
      replace hf := lt_at ev_88 hf
      clear ev_88
      refine lv_istore (lv' := [(11, .int v_88), (10, .int v_86), (9, .int p_38), (8, .int p_37), (7, .int p_36), (6, .int p_35), (5, .int p_34), (4, .int p_33), (3, .int p_32), (2, .int p_31), (1, .int p_30), (0, .ref (a h0))]) hx hb dX0_mix_306 hl (by decide) rfl (fun ls hl2 => ?_)
      replace hl := hl2
      clear hl2
      refine lv_iload hx hb dX0_mix_308 (lv_at hl 4 rfl) ?_
      refine lv_istore (lv' := [(8, .int p_36), (11, .int v_88), (10, .int v_86), (9, .int p_38), (7, .int p_36), (6, .int p_35), (5, .int p_34), (4, .int p_33), (3, .int p_32), (2, .int p_31), (1, .int p_30), (0, .ref (a h0))]) hx hb dX0_mix_310 hl (by decide) rfl (fun ls hl2 => ?_)
      replace hl := hl2
      clear hl2
      refine lv_iload hx hb dX0_mix_312 (lv_at hl 5 rfl) ?_
      refine lv_istore (lv' := [(7, .int p_35), (8, .int p_36), (11, .int v_88), (10, .int v_86), (9, .int p_38), (6, .int p_35), (5, .int p_34), (4, .int p_33), (3, .int p_32), (2, .int p_31), (1, .int p_30), (0, .ref (a h0))]) hx hb dX0_mix_314 hl (by decide) rfl (fun ls hl2 => ?_)
      replace hl := hl2
      clear hl2
      refine lv_iload hx hb dX0_mix_316 (lv_at hl 6 rfl) ?_
      refine lv_istore (lv' := [(6, .int p_34), (7, .int p_35), (8, .int p_36), (11, .int v_88), (10, .int v_86), (9, .int p_38), (5, .int p_34), (4, .int p_33), (3, .int p_32), (2, .int p_31), (1, .int p_30), (0, .ref (a h0))]) hx hb dX0_mix_318 hl (by decide) rfl (fun ls hl2 => ?_)
      replace hl := hl2
      clear hl2
      refine lv_iload hx hb dX0_mix_320 (lv_at hl 7 rfl) ?_
      refine lv_iload hx hb dX0_mix_322 (lv_at hl 4 rfl) ?_
      refine lv_iadd hx hb dX0_mix_324 ?_
      refine lv_topi (fun v_89 ev_89 => ?_)
      replace hf := lt_at ev_89 hf
      clear ev_89
      refine lv_istore (lv' := [(5, .int v_89), (6, .int p_34), (7, .int p_35), (8, .int p_36), (11, .int v_88), (10, .int v_86), (9, .int p_38), (4, .int p_33), (3, .int p_32), (2, .int p_31), (1, .int p_30), (0, .ref (a h0))]) hx hb dX0_mix_325 hl (by decide) rfl (fun ls hl2 => ?_)
      replace hl := hl2
      clear hl2
      refine lv_iload_n hx hb dX0_mix_327 rfl (lv_at hl 8 rfl) ?_
      refine lv_istore (lv' := [(4, .int p_32), (5, .int v_89), (6, .int p_34), (7, .int p_35), (8, .int p_36), (11, .int v_88), (10, .int v_86), (9, .int p_38), (3, .int p_32), (2, .int p_31), (1, .int p_30), (0, .ref (a h0))]) hx hb dX0_mix_328 hl (by decide) rfl (fun ls hl2 => ?_)
      replace hl := hl2
      clear hl2
      refine lv_iload_n hx hb dX0_mix_330 rfl (lv_at hl 9 rfl) ?_
      refine lv_istore_n (lv' := [(3, .int p_31), (4, .int p_32), (5, .int v_89), (6, .int p_34), (7, .int p_35), (8, .int p_36), (11, .int v_88), (10, .int v_86), (9, .int p_38), (2, .int p_31), (1, .int p_30), (0, .ref (a h0))]) hx hb dX0_mix_331 rfl hl (by decide) rfl (fun ls hl2 => ?_)
      replace hl := hl2
      clear hl2
      refine lv_iload_n hx hb dX0_mix_332 rfl (lv_at hl 10 rfl) ?_
      refine lv_istore_n (lv' := [(2, .int p_30), (3, .int p_31), (4, .int p_32), (5, .int v_89), (6, .int p_34), (7, .int p_35), (8, .int p_36), (11, .int v_88), (10, .int v_86), (9, .int p_38), (1, .int p_30), (0, .ref (a h0))]) hx hb dX0_mix_333 rfl hl (by decide) rfl (fun ls hl2 => ?_)
      replace hl := hl2
      clear hl2
      refine lv_iload hx hb dX0_mix_334 (lv_at hl 8 rfl) ?_
      refine lv_iload hx hb dX0_mix_336 (lv_at hl 7 rfl) ?_
      refine lv_iadd hx hb dX0_mix_338 ?_
      refine lv_topi (fun v_90 ev_90 => ?_)
      replace hf := lt_at ev_90 hf
      clear ev_90
      refine lv_istore_n (lv' := [(1, .int v_90), (2, .int p_30), (3, .int p_31), (4, .int p_32), (5, .int v_89), (6, .int p_34), (7, .int p_35), (8, .int p_36), (11, .int v_88), (10, .int v_86), (9, .int p_38), (0, .ref (a h0))]) hx hb dX0_mix_339 rfl hl (by decide) rfl (fun ls hl2 => ?_)
      replace hl := hl2
      clear hl2
      refine lv_iinc (v := (p_38 + 1)) (lv' := [(9, .int (p_38 + 1)), (1, .int v_90), (2, .int p_30), (3, .int p_31), (4, .int p_32), (5, .int v_89), (6, .int p_34), (7, .int p_35), (8, .int p_36), (11, .int v_88), (10, .int v_86), (0, .ref (a h0))]) hx hb dX0_mix_340 hl (k := 10) rfl rfl (by decide) rfl (fun ls hl2 => ?_)
      replace hl := hl2
      clear hl2
      refine lv_goto (tgt := 182) hx hb dX0_mix_343 (by decide) ?_
      exact ih182 (z_39, v_90, p_30, p_31, p_32, v_89, p_34, p_35, p_36, (p_38 + 1)) ls H locs ⟨lv_sub hl [0, 8, 7, 6, 5, 4, 3, 2, 1, 11] rfl, hP, hD, hS⟩ hf
  · skip
    rw [if_neg c_4] at hf
    refine lv_aload_n hx hb dX0_mix_9 rfl (lv_at hl 1 rfl) ?_
    obtain ⟨g_91, hf⟩ := grd_some hf
    obtain ⟨kg_91, sg_91⟩ := okO_at g_91
    obtain ⟨k_92, ek_92, hf⟩ := lnk_some hf
    refine va_get (D := (dC, dI)) (ci := 0) (v := .ref (a k_92)) (C := RX0) (T := TX0) (N := 4) hx hb hts iwd_X0_mix_X0 hown hK hP h0 (Wd_ob kg_91 sg_91 (by decide)) rfl 1 (by decide) (hts _ md_X0_mix_1) (fun _ h9 => h9) (fl_q rfl ek_92) dX0_mix_10 ?_
    refine lv_iload_n hx hb dX0_mix_13 rfl (lv_at hl 0 rfl) ?_
    refine lv_bipush (v := 15) hx hb dX0_mix_14 (by decide) ?_
    refine lv_isub hx hb dX0_mix_16 ?_
    obtain ⟨g_93, hf⟩ := grd_some hf
    obtain ⟨kg_93, sg_93, ig_93⟩ := okA_at g_93
    refine va_iald hx hb hK hP k_92 1 (Wd_ai kg_93 sg_93) rfl ig_93 dX0_mix_17 ?_
    refine lv_topi (fun v_94 ev_94 => ?_)
    replace hf := lt_at ev_94 hf
    clear ev_94
    refine lv_istore_n (lv' := [(2, .int v_94), (1, .int p_1), (0, .ref (a h0))]) hx hb dX0_mix_18 rfl hl (by decide) rfl (fun ls hl2 => ?_)
    replace hl := hl2
    clear hl2
    refine lv_aload_n hx hb dX0_mix_19 rfl (lv_at hl 2 rfl) ?_
    obtain ⟨k_95, ek_95, hf⟩ := lnk_some hf
    refine va_get (D := (dC, dI)) (ci := 0) (v := .ref (a k_95)) (C := RX0) (T := TX0) (N := 4) hx hb hts iwd_X0_mix_X0 hown hK hP h0 (Wd_ob kg_91 sg_91 (by decide)) rfl 1 (by decide) (hts _ md_X0_mix_1) (fun _ h9 => h9) (fl_q rfl ek_95) dX0_mix_20 ?_
    refine lv_iload_n hx hb dX0_mix_23 rfl (lv_at hl 1 rfl) ?_
    refine lv_iconst (v := 2) hx hb dX0_mix_24 (by decide) ?_
    refine lv_isub hx hb dX0_mix_25 ?_
    obtain ⟨g_96, hf⟩ := grd_some hf
    obtain ⟨kg_96, sg_96, ig_96⟩ := okA_at g_96
    refine va_iald hx hb hK hP k_95 1 (Wd_ai kg_96 sg_96) rfl ig_96 dX0_mix_26 ?_
    refine lv_topi (fun v_97 ev_97 => ?_)
    replace hf := lt_at ev_97 hf
    clear ev_97
    refine lv_istore_n (lv' := [(3, .int v_97), (2, .int v_94), (1, .int p_1), (0, .ref (a h0))]) hx hb dX0_mix_27 rfl hl (by decide) rfl (fun ls hl2 => ?_)
    replace hl := hl2
    clear hl2
    refine lv_iload_n hx hb dX0_mix_28 rfl (lv_at hl 1 rfl) ?_
    refine lv_bipush (v := 7) hx hb dX0_mix_29 (by decide) ?_
    refine lv_iushr (v := ((v_94 : Int32).toUInt32 >>> ((7 : Int32).toUInt32 &&& Int32.toUInt32 31)).toInt32) hx hb dX0_mix_31 rfl ?_
    refine lv_iload_n hx hb dX0_mix_32 rfl (lv_at hl 1 rfl) ?_
    refine lv_bipush (v := 25) hx hb dX0_mix_33 (by decide) ?_
    refine lv_ishl hx hb dX0_mix_35 ?_
    refine lv_ior hx hb dX0_mix_36 ?_
    refine lv_iload_n hx hb dX0_mix_37 rfl (lv_at hl 1 rfl) ?_
    refine lv_bipush (v := 18) hx hb dX0_mix_38 (by decide) ?_
    refine lv_iushr (v := ((v_94 : Int32).toUInt32 >>> ((18 : Int32).toUInt32 &&& Int32.toUInt32 31)).toInt32) hx hb dX0_mix_40 rfl ?_
    refine lv_iload_n hx hb dX0_mix_41 rfl (lv_at hl 1 rfl) ?_
    refine lv_bipush (v := 14) hx hb dX0_mix_42 (by decide) ?_
    refine lv_ishl hx hb dX0_mix_44 ?_
    refine lv_ior hx hb dX0_mix_45 ?_
    refine lv_ixor hx hb dX0_mix_46 ?_
    refine lv_iload_n hx hb dX0_mix_47 rfl (lv_at hl 1 rfl) ?_
    refine lv_iconst (v := 3) hx hb dX0_mix_48 (by decide) ?_
    refine lv_iushr (v := ((v_94 : Int32).toUInt32 >>> ((3 : Int32).toUInt32 &&& Int32.toUInt32 31)).toInt32) hx hb dX0_mix_49 rfl ?_
    refine lv_ixor hx hb dX0_mix_50 ?_
    refine lv_topi (fun v_98 ev_98 => ?_)
    replace hf := lt_at ev_98 hf
    clear ev_98
    refine lv_istore (lv' := [(4, .int v_98), (3, .int v_97), (2, .int v_94), (1, .int p_1), (0, .ref (a h0))]) hx hb dX0_mix_51 hl (by decide) rfl (fun ls hl2 => ?_)
    replace hl := hl2
    clear hl2
    refine lv_iload_n hx hb dX0_mix_53 rfl (lv_at hl 1 rfl) ?_
    refine lv_bipush (v := 17) hx hb dX0_mix_54 (by decide) ?_
    refine lv_iushr (v := ((v_97 : Int32).toUInt32 >>> ((17 : Int32).toUInt32 &&& Int32.toUInt32 31)).toInt32) hx hb dX0_mix_56 rfl ?_
    refine lv_iload_n hx hb dX0_mix_57 rfl (lv_at hl 1 rfl) ?_
    refine lv_bipush (v := 15) hx hb dX0_mix_58 (by decide) ?_
    refine lv_ishl hx hb dX0_mix_60 ?_
    refine lv_ior hx hb dX0_mix_61 ?_
    refine lv_iload_n hx hb dX0_mix_62 rfl (lv_at hl 1 rfl) ?_
    refine lv_bipush (v := 19) hx hb dX0_mix_63 (by decide) ?_
    refine lv_iushr (v := ((v_97 : Int32).toUInt32 >>> ((19 : Int32).toUInt32 &&& Int32.toUInt32 31)).toInt32) hx hb dX0_mix_65 rfl ?_
    refine lv_iload_n hx hb dX0_mix_66 rfl (lv_at hl 1 rfl) ?_
    refine lv_bipush (v := 13) hx hb dX0_mix_67 (by decide) ?_
    refine lv_ishl hx hb dX0_mix_69 ?_
    refine lv_ior hx hb dX0_mix_70 ?_
    refine lv_ixor hx hb dX0_mix_71 ?_
    refine lv_iload_n hx hb dX0_mix_72 rfl (lv_at hl 1 rfl) ?_
    refine lv_bipush (v := 10) hx hb dX0_mix_73 (by decide) ?_
    refine lv_iushr (v := ((v_97 : Int32).toUInt32 >>> ((10 : Int32).toUInt32 &&& Int32.toUInt32 31)).toInt32) hx hb dX0_mix_75 rfl ?_
    refine lv_ixor hx hb dX0_mix_76 ?_
    refine lv_topi (fun v_99 ev_99 => ?_)
    replace hf := lt_at ev_99 hf
    clear ev_99
    refine lv_istore (lv' := [(5, .int v_99), (4, .int v_98), (3, .int v_97), (2, .int v_94), (1, .int p_1), (0, .ref (a h0))]) hx hb dX0_mix_77 hl (by decide) rfl (fun ls hl2 => ?_)
    replace hl := hl2
    clear hl2
    refine lv_aload_n hx hb dX0_mix_79 rfl (lv_at hl 5 rfl) ?_
    obtain ⟨k_100, ek_100, hf⟩ := lnk_some hf
    refine va_get (D := (dC, dI)) (ci := 0) (v := .ref (a k_100)) (C := RX0) (T := TX0) (N := 4) hx hb hts iwd_X0_mix_X0 hown hK hP h0 (Wd_ob kg_91 sg_91 (by decide)) rfl 1 (by decide) (hts _ md_X0_mix_1) (fun _ h9 => h9) (fl_q rfl ek_100) dX0_mix_80 ?_
    refine lv_iload_n hx hb dX0_mix_83 rfl (lv_at hl 4 rfl) ?_
    refine lv_aload_n hx hb dX0_mix_84 rfl (lv_at hl 5 rfl) ?_
    obtain ⟨k_101, ek_101, hf⟩ := lnk_some hf
    refine va_get (D := (dC, dI)) (ci := 0) (v := .ref (a k_101)) (C := RX0) (T := TX0) (N := 4) hx hb hts iwd_X0_mix_X0 hown hK hP h0 (Wd_ob kg_91 sg_91 (by decide)) rfl 1 (by decide) (hts _ md_X0_mix_1) (fun _ h9 => h9) (fl_q rfl ek_101) dX0_mix_85 ?_
    refine lv_iload_n hx hb dX0_mix_88 rfl (lv_at hl 4 rfl) ?_
    refine lv_bipush (v := 16) hx hb dX0_mix_89 (by decide) ?_
    refine lv_isub hx hb dX0_mix_91 ?_
    obtain ⟨g_102, hf⟩ := grd_some hf
    obtain ⟨kg_102, sg_102, ig_102⟩ := okA_at g_102
    refine va_iald hx hb hK hP k_101 1 (Wd_ai kg_102 sg_102) rfl ig_102 dX0_mix_92 ?_
    refine lv_iload hx hb dX0_mix_93 (lv_at hl 1 rfl) ?_
    refine lv_iadd hx hb dX0_mix_95 ?_
    refine lv_aload_n hx hb dX0_mix_96 rfl (lv_at hl 5 rfl) ?_
    obtain ⟨k_103, ek_103, hf⟩ := lnk_some hf
    refine va_get (D := (dC, dI)) (ci := 0) (v := .ref (a k_103)) (C := RX0) (T := TX0) (N := 4) hx hb hts iwd_X0_mix_X0 hown hK hP h0 (Wd_ob kg_91 sg_91 (by decide)) rfl 1 (by decide) (hts _ md_X0_mix_1) (fun _ h9 => h9) (fl_q rfl ek_103) dX0_mix_97 ?_
    refine lv_iload_n hx hb dX0_mix_100 rfl (lv_at hl 4 rfl) ?_
    refine lv_bipush (v := 7) hx hb dX0_mix_101 (by decide) ?_
    refine lv_isub hx hb dX0_mix_103 ?_
    obtain ⟨g_104, hf⟩ := grd_some hf
    obtain ⟨kg_104, sg_104, ig_104⟩ := okA_at g_104
    refine va_iald hx hb hK hP k_103 1 (Wd_ai kg_104 sg_104) rfl ig_104 dX0_mix_104 ?_
    refine lv_iadd hx hb dX0_mix_105 ?_
    refine lv_iload hx hb dX0_mix_106 (lv_at hl 0 rfl) ?_
    refine lv_iadd hx hb dX0_mix_108 ?_
    obtain ⟨g_105, hf⟩ := grd_some hf
    obtain ⟨kg_105, sg_105, ig_105⟩ := okA_at g_105
    refine va_iast hx hb hK hP hD hS k_100 1 (Wd_ai kg_105 sg_105) rfl ig_105 dX0_mix_109 (fun H_106 locs hP2 hD2 hS2 => ?_)
    rw [Wd_ti sg_105] at hP2 hD2
    obtain ⟨z_107, ez_107⟩ : ∃ w, w = si z_2 k_100 p_1.toNatClampNeg ((((z_2.1 k_101 (p_1 - 16).toNatClampNeg) + v_98) + (z_2.1 k_103 (p_1 - 7).toNatClampNeg)) + v_99) := ⟨_, rfl⟩
    rw [← ez_107] at hP2 hD2
    replace hf := lt_at ez_107 hf
    clear ez_107
    replace hP := hP2
    replace hD := hD2
    replace hS := hS2
    clear hP2 hD2 hS2
    refine lv_iinc (v := (p_1 + 1)) (lv' := [(1, .int (p_1 + 1)), (5, .int v_99), (4, .int v_98), (3, .int v_97), (2, .int v_94), (0, .ref (a h0))]) hx hb dX0_mix_110 hl (k := 4) rfl rfl (by decide) rfl (fun ls hl2 => ?_)
    replace hl := hl2
    clear hl2
    refine lv_goto (tgt := 3) hx hb dX0_mix_113 (by decide) ?_
    exact ih3 (z_107, (p_1 + 1)) ls H_106 locs ⟨lv_sub hl [0, 5] rfl, hP, hD, hS⟩ hf

theorem md_X11_slips_1 : (.fieldLink RX11 55 "ResourceLedger" "machine" "LResourceLedger$Machine;" : Cond) ∈ wsX11_slips := List.mem_of_getElem? (i := 1) rfl
theorem iwd_X11_slips_X11 : ∀ w ∈ wsX110, w ∈ wsX11_slips := fun _ h => List.mem_cons_of_mem _ (List.mem_append_left _ (List.mem_append_left _ (List.mem_append_right _ h)))
set_option maxHeartbeats 4000000 in
set_option maxRecDepth 100000 in
theorem de_X11_slips (l : Launch) (dC : Nat → ClassId) (dI : Nat → Nat → Nat) (cy : Nat → ClassId) (a : Nat → Nat) (sh : Nat → Nat × Nat) (n sz : Nat) (F : Nat) (z : St) (h0 : Nat) {z8 : St} {r8 : Int32} (hf : fn_X11_slips F sh n z h0 = some (z8, r8)) : Met l yX11_slips wsX11_slips ({ frames := 1, cells := 0, slots := 0, locals := 20 }) (va_Pc [.ref (a h0)] (fun U => U.heap.size = sz ∧ va_P (dC, dI) vwCl (Wd cy a sh n z) U.heap ∧ va_K (dC, dI) vwCl (TYS cy) U ∧ va_D (fun _ => True) (Wd cy a sh n z) ∧ NK U)) (va_Qi (fun (r9 : Int32) (u : Unit) => r9 = r8) (fun u t => va_P (dC, dI) vwCl (Wd cy a sh n z8) t.heap ∧ va_K (dC, dI) vwCl (TYS cy) t ∧ va_D (va_A (Wd cy a sh n z) sz) (Wd cy a sh n z8)) (va_A (Wd cy a sh n z) sz)) 0 0 (va_A (Wd cy a sh n z) sz) := by
  refine Met.ofW (cc := cX11_slips) (maxL := 1) (ret := (some .int)) (by decide) rfl ?_
  intro p e s m args below meth c s₁ B hml hv
  obtain ⟨rfl, hsz, hP, hK, hD0, hN⟩ := hv
  have hx := B.exec
  have hb := B.bytes
  have hr := B.returns
  have hts := atoms_spec (ws := wsX11_slips) B.pre
  have hown : s.vm.findClass RX11 = some m.cls := findClass_of_methodNamed B.named
  have hlocks := B.notSynchronized
  subst hsz
  have hD := hD0.self (sz := s.heap.size)
  clear hD0
  generalize hAe : va_A (Wd cy a sh n z) s.heap.size = A at hD ⊢
  have hA : ∀ q : Nat, s.heap.size ≤ q → A q := fun q h => by rw [← hAe]; exact Or.inr h
  clear hAe
  have hS : va_S A s.heap s.heap [] := va_S.rf
  have hl := lv_entry ([.ref (a h0)]) (n := 1) (Nat.le_of_ble_eq_true rfl)
  rw [lg_entry_eq]
  generalize (lg_sl ([.ref (a h0)]) ++ List.replicate (1 - (lg_sl ([.ref (a h0)])).length) Slot.unset).toArray = ls at hl ⊢
  replace hl : lv_has ls 1 [(0, .ref (a h0))] := hl
  unfold fn_X11_slips at hf
  refine de_start hS hP (fun H locs hS hP => ?_)
  refine lv_aload_n hx hb dX11_slips_0 rfl (lv_at hl 0 rfl) ?_
  obtain ⟨g_1, hf⟩ := grd_some hf
  obtain ⟨kg_1, sg_1⟩ := okO_at g_1
  obtain ⟨k_2, ek_2, hf⟩ := lnk_some hf
  refine va_get (D := (dC, dI)) (ci := 11) (v := .ref (a k_2)) (C := RX11) (T := TX11) (N := 13) hx hb hts iwd_X11_slips_X11 hown hK hP h0 (Wd_ob kg_1 sg_1 (by decide)) rfl 9 (by decide) (hts _ md_X11_slips_1) (fun _ h9 => h9) (fl_q rfl ek_2) dX11_slips_1 ?_
  obtain ⟨g_5, hf⟩ := grd_some hf
  obtain ⟨kg_5, sg_5⟩ := okO_at g_5
  obtain ⟨z_3, r_4, hfc, hf⟩ := cal_some hf
  have hFc := de_free hD hS hA
  refine va_calli (va_runV (As := []) (rest := []) ⟨hx, hb, hml, hown, hts⟩ (de_X4_slipCount l dC dI cy a sh n H.size F z k_2 hfc) (cwV 0 hts gX11_slips_X4_slipCount rfl rfl rfl (by decide +kernel) ⟨Nat.le_of_ble_eq_true rfl, Nat.le_of_ble_eq_true rfl⟩) ⟨fun a U g mk q => by obtain ⟨q0, q1, qP, qK, qD, qN⟩ := q; exact ⟨q0, q1, qP, va_K.moved (u := U) (U := U.calling g mk a) (Vm.Alike.refl U.vm) qK, qD, qN.same rfl⟩, va_recv hK hP (ci := 4) (q0 := k_2) rfl (Wd_ob kg_5 sg_5 (by decide)), fun U hU hW => ⟨rfl, by rw [hU], by rw [hU]; exact hP, va_K.moved hW.alike hK, hD.weaken (fun _ _ _ _ => trivial), hN.warm hW⟩⟩ rfl rfl hl.1 rfl (lv_room (Nat.le_of_ble_eq_true rfl)) dX11_slips_4 ⟨Nat.le_of_ble_eq_true rfl, Nat.le_of_ble_eq_true rfl⟩) hS (fun q _ h => hFc q h) hFc (fun rr u t H_6 locs ht hvm hw hB hz1 hk1 hS2 => ?_)
  rw [hw]
  clear hw
  obtain ⟨hP1, -, hD1⟩ := hB
  rw [ht] at hP1
  replace hD := hD1.weaken (fun _ _ _ h => hFc _ h)
  replace hP := hP1
  replace hS := hS2
  clear hP1 hD1 hS2 hFc hfc hz1 hk1 hvm ht
  obtain ⟨h8, h9⟩ := ret_some hf
  rw [h8, h9]
  exact W.iret (v := r_4) hx hb hr (fun t ht hW => ⟨⟨r_4, (), rfl, rfl, by rw [ht]; exact hP, va_K.moved hW.alike hK, hD⟩, hS.F ht⟩) hS.2.2 dX11_slips_7

set_option maxHeartbeats 4000000 in
set_option maxRecDepth 100000 in
theorem de_X5_fieldCount (l : Launch) (dC : Nat → ClassId) (dI : Nat → Nat → Nat) (cy : Nat → ClassId) (a : Nat → Nat) (sh : Nat → Nat × Nat) (n sz : Nat) (F : Nat) (z : St) (h0 : Nat) (x0 : Int32) {z8 : St} {r8 : Int32} (hf : fn_X5_fieldCount F sh n z h0 x0 = some (z8, r8)) : Met l yX5_fieldCount wsX5_fieldCount ({ frames := 1, cells := 0, slots := 0, locals := 22 }) (va_Pc [.ref (a h0), .int x0] (fun U => U.heap.size = sz ∧ va_P (dC, dI) vwCl (Wd cy a sh n z) U.heap ∧ va_K (dC, dI) vwCl (TYS cy) U ∧ va_D (fun _ => True) (Wd cy a sh n z) ∧ NK U)) (va_Qi (fun (r9 : Int32) (u : Unit) => r9 = r8) (fun u t => va_P (dC, dI) vwCl (Wd cy a sh n z8) t.heap ∧ va_K (dC, dI) vwCl (TYS cy) t ∧ va_D (va_A (Wd cy a sh n z) sz) (Wd cy a sh n z8)) (va_A (Wd cy a sh n z) sz)) 0 0 (va_A (Wd cy a sh n z) sz) := by
  refine Met.ofW (cc := cX5_fieldCount) (maxL := 2) (ret := (some .int)) (by decide) rfl ?_
  intro p e s m args below meth c s₁ B hml hv
  obtain ⟨rfl, hsz, hP, hK, hD0, hN⟩ := hv
  have hx := B.exec
  have hb := B.bytes
  have hr := B.returns
  have hts := atoms_spec (ws := wsX5_fieldCount) B.pre
  have hown : s.vm.findClass RX5 = some m.cls := findClass_of_methodNamed B.named
  have hlocks := B.notSynchronized
  subst hsz
  have hD := hD0.self (sz := s.heap.size)
  clear hD0
  generalize hAe : va_A (Wd cy a sh n z) s.heap.size = A at hD ⊢
  have hA : ∀ q : Nat, s.heap.size ≤ q → A q := fun q h => by rw [← hAe]; exact Or.inr h
  clear hAe
  have hS : va_S A s.heap s.heap [] := va_S.rf
  have hl := lv_entry ([.ref (a h0), .int x0]) (n := 2) (Nat.le_of_ble_eq_true rfl)
  rw [lg_entry_eq]
  generalize (lg_sl ([.ref (a h0), .int x0]) ++ List.replicate (2 - (lg_sl ([.ref (a h0), .int x0])).length) Slot.unset).toArray = ls at hl ⊢
  replace hl : lv_has ls 2 [(0, .ref (a h0)), (1, .int x0)] := hl
  unfold fn_X5_fieldCount at hf
  refine de_start hS hP (fun H locs hS hP => ?_)
  refine lv_aload_n hx hb dX5_fieldCount_0 rfl (lv_at hl 0 rfl) ?_
  refine lv_iload_n hx hb dX5_fieldCount_1 rfl (lv_at hl 1 rfl) ?_
  refine lv_iconst (v := 3) hx hb dX5_fieldCount_2 (by decide) ?_
  obtain ⟨g_3, hf⟩ := grd_some hf
  obtain ⟨kg_3, sg_3⟩ := okO_at g_3
  obtain ⟨z_1, r_2, hfc, hf⟩ := cal_some hf
  have hFc := de_free hD hS hA
  refine va_calli (va_runV (As := [.int x0, .int 3]) (rest := []) ⟨hx, hb, hml, hown, hts⟩ (de_X5_structureColumn l dC dI cy a sh n H.size F z h0 x0 3 hfc) (cwV 2 hts gX5_fieldCount_X5_structureColumn rfl rfl rfl (by decide +kernel) ⟨Nat.le_of_ble_eq_true rfl, Nat.le_of_ble_eq_true rfl⟩) ⟨fun a U g mk q => by obtain ⟨q0, q1, qP, qK, qD, qN⟩ := q; exact ⟨q0, q1, qP, va_K.moved (u := U) (U := U.calling g mk a) (Vm.Alike.refl U.vm) qK, qD, qN.same rfl⟩, va_recv hK hP (ci := 5) (q0 := h0) rfl (Wd_ob kg_3 sg_3 (by decide)), fun U hU hW => ⟨rfl, by rw [hU], by rw [hU]; exact hP, va_K.moved hW.alike hK, hD.weaken (fun _ _ _ _ => trivial), hN.warm hW⟩⟩ rfl rfl hl.1 rfl (lv_room (Nat.le_of_ble_eq_true rfl)) dX5_fieldCount_3 ⟨Nat.le_of_ble_eq_true rfl, Nat.le_of_ble_eq_true rfl⟩) hS (fun q _ h => hFc q h) hFc (fun rr u t H_4 locs ht hvm hw hB hz1 hk1 hS2 => ?_)
  rw [hw]
  clear hw
  obtain ⟨hP1, -, hD1⟩ := hB
  rw [ht] at hP1
  replace hD := hD1.weaken (fun _ _ _ h => hFc _ h)
  replace hP := hP1
  replace hS := hS2
  clear hP1 hD1 hS2 hFc hfc hz1 hk1 hvm ht
  obtain ⟨h8, h9⟩ := ret_some hf
  rw [h8, h9]
  exact W.iret (v := r_2) hx hb hr (fun t ht hW => ⟨⟨r_2, (), rfl, rfl, by rw [ht]; exact hP, va_K.moved hW.alike hK, hD⟩, hS.F ht⟩) hS.2.2 dX5_fieldCount_6

set_option maxHeartbeats 4000000 in
set_option maxRecDepth 100000 in
theorem de_X5_flags (l : Launch) (dC : Nat → ClassId) (dI : Nat → Nat → Nat) (cy : Nat → ClassId) (a : Nat → Nat) (sh : Nat → Nat × Nat) (n sz : Nat) (F : Nat) (z : St) (h0 : Nat) (x0 : Int32) {z8 : St} {r8 : Int32} (hf : fn_X5_flags F sh n z h0 x0 = some (z8, r8)) : Met l yX5_flags wsX5_flags ({ frames := 1, cells := 0, slots := 0, locals := 23 }) (va_Pc [.ref (a h0), .int x0] (fun U => U.heap.size = sz ∧ va_P (dC, dI) vwCl (Wd cy a sh n z) U.heap ∧ va_K (dC, dI) vwCl (TYS cy) U ∧ va_D (fun _ => True) (Wd cy a sh n z) ∧ NK U)) (va_Qi (fun (r9 : Int32) (u : Unit) => r9 = r8) (fun u t => va_P (dC, dI) vwCl (Wd cy a sh n z8) t.heap ∧ va_K (dC, dI) vwCl (TYS cy) t ∧ va_D (va_A (Wd cy a sh n z) sz) (Wd cy a sh n z8)) (va_A (Wd cy a sh n z) sz)) 0 0 (va_A (Wd cy a sh n z) sz) := by
  refine Met.ofW (cc := cX5_flags) (maxL := 2) (ret := (some .int)) (by decide) rfl ?_
  intro p e s m args below meth c s₁ B hml hv
  obtain ⟨rfl, hsz, hP, hK, hD0, hN⟩ := hv
  have hx := B.exec
  have hb := B.bytes
  have hr := B.returns
  have hts := atoms_spec (ws := wsX5_flags) B.pre
  have hown : s.vm.findClass RX5 = some m.cls := findClass_of_methodNamed B.named
  have hlocks := B.notSynchronized
  subst hsz
  have hD := hD0.self (sz := s.heap.size)
  clear hD0
  generalize hAe : va_A (Wd cy a sh n z) s.heap.size = A at hD ⊢
  have hA : ∀ q : Nat, s.heap.size ≤ q → A q := fun q h => by rw [← hAe]; exact Or.inr h
  clear hAe
  have hS : va_S A s.heap s.heap [] := va_S.rf
  have hl := lv_entry ([.ref (a h0), .int x0]) (n := 2) (Nat.le_of_ble_eq_true rfl)
  rw [lg_entry_eq]
  generalize (lg_sl ([.ref (a h0), .int x0]) ++ List.replicate (2 - (lg_sl ([.ref (a h0), .int x0])).length) Slot.unset).toArray = ls at hl ⊢
  replace hl : lv_has ls 2 [(0, .ref (a h0)), (1, .int x0)] := hl
  unfold fn_X5_flags at hf
  refine de_start hS hP (fun H locs hS hP => ?_)
  refine lv_aload_n hx hb dX5_flags_0 rfl (lv_at hl 0 rfl) ?_
  refine lv_iload_n hx hb dX5_flags_1 rfl (lv_at hl 1 rfl) ?_
  refine lv_iconst (v := 0) hx hb dX5_flags_2 (by decide) ?_
  obtain ⟨g_3, hf⟩ := grd_some hf
  obtain ⟨kg_3, sg_3⟩ := okO_at g_3
  obtain ⟨z_1, r_2, hfc, hf⟩ := cal_some hf
  have hFc := de_free hD hS hA
  refine va_calli (va_runV (As := [.int x0, .int 0]) (rest := []) ⟨hx, hb, hml, hown, hts⟩ (de_X5_functionColumn l dC dI cy a sh n H.size F z h0 x0 0 hfc) (cwV 2 hts gX5_flags_X5_functionColumn rfl rfl rfl (by decide +kernel) ⟨Nat.le_of_ble_eq_true rfl, Nat.le_of_ble_eq_true rfl⟩) ⟨fun a U g mk q => by obtain ⟨q0, q1, qP, qK, qD, qN⟩ := q; exact ⟨q0, q1, qP, va_K.moved (u := U) (U := U.calling g mk a) (Vm.Alike.refl U.vm) qK, qD, qN.same rfl⟩, va_recv hK hP (ci := 5) (q0 := h0) rfl (Wd_ob kg_3 sg_3 (by decide)), fun U hU hW => ⟨rfl, by rw [hU], by rw [hU]; exact hP, va_K.moved hW.alike hK, hD.weaken (fun _ _ _ _ => trivial), hN.warm hW⟩⟩ rfl rfl hl.1 rfl (lv_room (Nat.le_of_ble_eq_true rfl)) dX5_flags_3 ⟨Nat.le_of_ble_eq_true rfl, Nat.le_of_ble_eq_true rfl⟩) hS (fun q _ h => hFc q h) hFc (fun rr u t H_4 locs ht hvm hw hB hz1 hk1 hS2 => ?_)
  rw [hw]
  clear hw
  obtain ⟨hP1, -, hD1⟩ := hB
  rw [ht] at hP1
  replace hD := hD1.weaken (fun _ _ _ h => hFc _ h)
  replace hP := hP1
  replace hS := hS2
  clear hP1 hD1 hS2 hFc hfc hz1 hk1 hvm ht
  obtain ⟨h8, h9⟩ := ret_some hf
  rw [h8, h9]
  exact W.iret (v := r_2) hx hb hr (fun t ht hW => ⟨⟨r_2, (), rfl, rfl, by rw [ht]; exact hP, va_K.moved hW.alike hK, hD⟩, hS.F ht⟩) hS.2.2 dX5_flags_6

set_option maxHeartbeats 4000000 in
set_option maxRecDepth 100000 in
theorem de_X5_gives (l : Launch) (dC : Nat → ClassId) (dI : Nat → Nat → Nat) (cy : Nat → ClassId) (a : Nat → Nat) (sh : Nat → Nat × Nat) (n sz : Nat) (F : Nat) (z : St) (h0 : Nat) (x0 : Int32) {z8 : St} {r8 : Int32} (hf : fn_X5_gives F sh n z h0 x0 = some (z8, r8)) : Met l yX5_gives wsX5_gives ({ frames := 1, cells := 0, slots := 0, locals := 23 }) (va_Pc [.ref (a h0), .int x0] (fun U => U.heap.size = sz ∧ va_P (dC, dI) vwCl (Wd cy a sh n z) U.heap ∧ va_K (dC, dI) vwCl (TYS cy) U ∧ va_D (fun _ => True) (Wd cy a sh n z) ∧ NK U)) (va_Qi (fun (r9 : Int32) (u : Unit) => r9 = r8) (fun u t => va_P (dC, dI) vwCl (Wd cy a sh n z8) t.heap ∧ va_K (dC, dI) vwCl (TYS cy) t ∧ va_D (va_A (Wd cy a sh n z) sz) (Wd cy a sh n z8)) (va_A (Wd cy a sh n z) sz)) 0 0 (va_A (Wd cy a sh n z) sz) := by
  refine Met.ofW (cc := cX5_gives) (maxL := 2) (ret := (some .int)) (by decide) rfl ?_
  intro p e s m args below meth c s₁ B hml hv
  obtain ⟨rfl, hsz, hP, hK, hD0, hN⟩ := hv
  have hx := B.exec
  have hb := B.bytes
  have hr := B.returns
  have hts := atoms_spec (ws := wsX5_gives) B.pre
  have hown : s.vm.findClass RX5 = some m.cls := findClass_of_methodNamed B.named
  have hlocks := B.notSynchronized
  subst hsz
  have hD := hD0.self (sz := s.heap.size)
  clear hD0
  generalize hAe : va_A (Wd cy a sh n z) s.heap.size = A at hD ⊢
  have hA : ∀ q : Nat, s.heap.size ≤ q → A q := fun q h => by rw [← hAe]; exact Or.inr h
  clear hAe
  have hS : va_S A s.heap s.heap [] := va_S.rf
  have hl := lv_entry ([.ref (a h0), .int x0]) (n := 2) (Nat.le_of_ble_eq_true rfl)
  rw [lg_entry_eq]
  generalize (lg_sl ([.ref (a h0), .int x0]) ++ List.replicate (2 - (lg_sl ([.ref (a h0), .int x0])).length) Slot.unset).toArray = ls at hl ⊢
  replace hl : lv_has ls 2 [(0, .ref (a h0)), (1, .int x0)] := hl
  unfold fn_X5_gives at hf
  refine de_start hS hP (fun H locs hS hP => ?_)
  refine lv_aload_n hx hb dX5_gives_0 rfl (lv_at hl 0 rfl) ?_
  refine lv_iload_n hx hb dX5_gives_1 rfl (lv_at hl 1 rfl) ?_
  refine lv_iconst (v := 3) hx hb dX5_gives_2 (by decide) ?_
  obtain ⟨g_3, hf⟩ := grd_some hf
  obtain ⟨kg_3, sg_3⟩ := okO_at g_3
  obtain ⟨z_1, r_2, hfc, hf⟩ := cal_some hf
  have hFc := de_free hD hS hA
  refine va_calli (va_runV (As := [.int x0, .int 3]) (rest := []) ⟨hx, hb, hml, hown, hts⟩ (de_X5_functionColumn l dC dI cy a sh n H.size F z h0 x0 3 hfc) (cwV 2 hts gX5_gives_X5_functionColumn rfl rfl rfl (by decide +kernel) ⟨Nat.le_of_ble_eq_true rfl, Nat.le_of_ble_eq_true rfl⟩) ⟨fun a U g mk q => by obtain ⟨q0, q1, qP, qK, qD, qN⟩ := q; exact ⟨q0, q1, qP, va_K.moved (u := U) (U := U.calling g mk a) (Vm.Alike.refl U.vm) qK, qD, qN.same rfl⟩, va_recv hK hP (ci := 5) (q0 := h0) rfl (Wd_ob kg_3 sg_3 (by decide)), fun U hU hW => ⟨rfl, by rw [hU], by rw [hU]; exact hP, va_K.moved hW.alike hK, hD.weaken (fun _ _ _ _ => trivial), hN.warm hW⟩⟩ rfl rfl hl.1 rfl (lv_room (Nat.le_of_ble_eq_true rfl)) dX5_gives_3 ⟨Nat.le_of_ble_eq_true rfl, Nat.le_of_ble_eq_true rfl⟩) hS (fun q _ h => hFc q h) hFc (fun rr u t H_4 locs ht hvm hw hB hz1 hk1 hS2 => ?_)
  rw [hw]
  clear hw
  obtain ⟨hP1, -, hD1⟩ := hB
  rw [ht] at hP1
  replace hD := hD1.weaken (fun _ _ _ h => hFc _ h)
  replace hP := hP1
  replace hS := hS2
  clear hP1 hD1 hS2 hFc hfc hz1 hk1 hvm ht
  obtain ⟨h8, h9⟩ := ret_some hf
  rw [h8, h9]
  exact W.iret (v := r_2) hx hb hr (fun t ht hW => ⟨⟨r_2, (), rfl, rfl, by rw [ht]; exact hP, va_K.moved hW.alike hK, hD⟩, hS.F ht⟩) hS.2.2 dX5_gives_6

set_option maxHeartbeats 4000000 in
set_option maxRecDepth 100000 in
theorem de_X5_instructions (l : Launch) (dC : Nat → ClassId) (dI : Nat → Nat → Nat) (cy : Nat → ClassId) (a : Nat → Nat) (sh : Nat → Nat × Nat) (n sz : Nat) (F : Nat) (z : St) (h0 : Nat) (x0 : Int32) {z8 : St} {r8 : Int32} (hf : fn_X5_instructions F sh n z h0 x0 = some (z8, r8)) : Met l yX5_instructions wsX5_instructions ({ frames := 1, cells := 0, slots := 0, locals := 23 }) (va_Pc [.ref (a h0), .int x0] (fun U => U.heap.size = sz ∧ va_P (dC, dI) vwCl (Wd cy a sh n z) U.heap ∧ va_K (dC, dI) vwCl (TYS cy) U ∧ va_D (fun _ => True) (Wd cy a sh n z) ∧ NK U)) (va_Qi (fun (r9 : Int32) (u : Unit) => r9 = r8) (fun u t => va_P (dC, dI) vwCl (Wd cy a sh n z8) t.heap ∧ va_K (dC, dI) vwCl (TYS cy) t ∧ va_D (va_A (Wd cy a sh n z) sz) (Wd cy a sh n z8)) (va_A (Wd cy a sh n z) sz)) 0 0 (va_A (Wd cy a sh n z) sz) := by
  refine Met.ofW (cc := cX5_instructions) (maxL := 2) (ret := (some .int)) (by decide) rfl ?_
  intro p e s m args below meth c s₁ B hml hv
  obtain ⟨rfl, hsz, hP, hK, hD0, hN⟩ := hv
  have hx := B.exec
  have hb := B.bytes
  have hr := B.returns
  have hts := atoms_spec (ws := wsX5_instructions) B.pre
  have hown : s.vm.findClass RX5 = some m.cls := findClass_of_methodNamed B.named
  have hlocks := B.notSynchronized
  subst hsz
  have hD := hD0.self (sz := s.heap.size)
  clear hD0
  generalize hAe : va_A (Wd cy a sh n z) s.heap.size = A at hD ⊢
  have hA : ∀ q : Nat, s.heap.size ≤ q → A q := fun q h => by rw [← hAe]; exact Or.inr h
  clear hAe
  have hS : va_S A s.heap s.heap [] := va_S.rf
  have hl := lv_entry ([.ref (a h0), .int x0]) (n := 2) (Nat.le_of_ble_eq_true rfl)
  rw [lg_entry_eq]
  generalize (lg_sl ([.ref (a h0), .int x0]) ++ List.replicate (2 - (lg_sl ([.ref (a h0), .int x0])).length) Slot.unset).toArray = ls at hl ⊢
  replace hl : lv_has ls 2 [(0, .ref (a h0)), (1, .int x0)] := hl
  unfold fn_X5_instructions at hf
  refine de_start hS hP (fun H locs hS hP => ?_)
  refine lv_aload_n hx hb dX5_instructions_0 rfl (lv_at hl 0 rfl) ?_
  refine lv_iload_n hx hb dX5_instructions_1 rfl (lv_at hl 1 rfl) ?_
  refine lv_bipush (v := 6) hx hb dX5_instructions_2 (by decide) ?_
  obtain ⟨g_3, hf⟩ := grd_some hf
  obtain ⟨kg_3, sg_3⟩ := okO_at g_3
  obtain ⟨z_1, r_2, hfc, hf⟩ := cal_some hf
  have hFc := de_free hD hS hA
  refine va_calli (va_runV (As := [.int x0, .int 6]) (rest := []) ⟨hx, hb, hml, hown, hts⟩ (de_X5_functionColumn l dC dI cy a sh n H.size F z h0 x0 6 hfc) (cwV 2 hts gX5_instructions_X5_functionColumn rfl rfl rfl (by decide +kernel) ⟨Nat.le_of_ble_eq_true rfl, Nat.le_of_ble_eq_true rfl⟩) ⟨fun a U g mk q => by obtain ⟨q0, q1, qP, qK, qD, qN⟩ := q; exact ⟨q0, q1, qP, va_K.moved (u := U) (U := U.calling g mk a) (Vm.Alike.refl U.vm) qK, qD, qN.same rfl⟩, va_recv hK hP (ci := 5) (q0 := h0) rfl (Wd_ob kg_3 sg_3 (by decide)), fun U hU hW => ⟨rfl, by rw [hU], by rw [hU]; exact hP, va_K.moved hW.alike hK, hD.weaken (fun _ _ _ _ => trivial), hN.warm hW⟩⟩ rfl rfl hl.1 rfl (lv_room (Nat.le_of_ble_eq_true rfl)) dX5_instructions_4 ⟨Nat.le_of_ble_eq_true rfl, Nat.le_of_ble_eq_true rfl⟩) hS (fun q _ h => hFc q h) hFc (fun rr u t H_4 locs ht hvm hw hB hz1 hk1 hS2 => ?_)
  rw [hw]
  clear hw
  obtain ⟨hP1, -, hD1⟩ := hB
  rw [ht] at hP1
  replace hD := hD1.weaken (fun _ _ _ h => hFc _ h)
  replace hP := hP1
  replace hS := hS2
  clear hP1 hD1 hS2 hFc hfc hz1 hk1 hvm ht
  obtain ⟨h8, h9⟩ := ret_some hf
  rw [h8, h9]
  exact W.iret (v := r_2) hx hb hr (fun t ht hW => ⟨⟨r_2, (), rfl, rfl, by rw [ht]; exact hP, va_K.moved hW.alike hK, hD⟩, hS.F ht⟩) hS.2.2 dX5_instructions_7

set_option maxHeartbeats 4000000 in
set_option maxRecDepth 100000 in
theorem de_X5_takes (l : Launch) (dC : Nat → ClassId) (dI : Nat → Nat → Nat) (cy : Nat → ClassId) (a : Nat → Nat) (sh : Nat → Nat × Nat) (n sz : Nat) (F : Nat) (z : St) (h0 : Nat) (x0 : Int32) {z8 : St} {r8 : Int32} (hf : fn_X5_takes F sh n z h0 x0 = some (z8, r8)) : Met l yX5_takes wsX5_takes ({ frames := 1, cells := 0, slots := 0, locals := 23 }) (va_Pc [.ref (a h0), .int x0] (fun U => U.heap.size = sz ∧ va_P (dC, dI) vwCl (Wd cy a sh n z) U.heap ∧ va_K (dC, dI) vwCl (TYS cy) U ∧ va_D (fun _ => True) (Wd cy a sh n z) ∧ NK U)) (va_Qi (fun (r9 : Int32) (u : Unit) => r9 = r8) (fun u t => va_P (dC, dI) vwCl (Wd cy a sh n z8) t.heap ∧ va_K (dC, dI) vwCl (TYS cy) t ∧ va_D (va_A (Wd cy a sh n z) sz) (Wd cy a sh n z8)) (va_A (Wd cy a sh n z) sz)) 0 0 (va_A (Wd cy a sh n z) sz) := by
  refine Met.ofW (cc := cX5_takes) (maxL := 2) (ret := (some .int)) (by decide) rfl ?_
  intro p e s m args below meth c s₁ B hml hv
  obtain ⟨rfl, hsz, hP, hK, hD0, hN⟩ := hv
  have hx := B.exec
  have hb := B.bytes
  have hr := B.returns
  have hts := atoms_spec (ws := wsX5_takes) B.pre
  have hown : s.vm.findClass RX5 = some m.cls := findClass_of_methodNamed B.named
  have hlocks := B.notSynchronized
  subst hsz
  have hD := hD0.self (sz := s.heap.size)
  clear hD0
  generalize hAe : va_A (Wd cy a sh n z) s.heap.size = A at hD ⊢
  have hA : ∀ q : Nat, s.heap.size ≤ q → A q := fun q h => by rw [← hAe]; exact Or.inr h
  clear hAe
  have hS : va_S A s.heap s.heap [] := va_S.rf
  have hl := lv_entry ([.ref (a h0), .int x0]) (n := 2) (Nat.le_of_ble_eq_true rfl)
  rw [lg_entry_eq]
  generalize (lg_sl ([.ref (a h0), .int x0]) ++ List.replicate (2 - (lg_sl ([.ref (a h0), .int x0])).length) Slot.unset).toArray = ls at hl ⊢
  replace hl : lv_has ls 2 [(0, .ref (a h0)), (1, .int x0)] := hl
  unfold fn_X5_takes at hf
  refine de_start hS hP (fun H locs hS hP => ?_)
  refine lv_aload_n hx hb dX5_takes_0 rfl (lv_at hl 0 rfl) ?_
  refine lv_iload_n hx hb dX5_takes_1 rfl (lv_at hl 1 rfl) ?_
  refine lv_iconst (v := 2) hx hb dX5_takes_2 (by decide) ?_
  obtain ⟨g_3, hf⟩ := grd_some hf
  obtain ⟨kg_3, sg_3⟩ := okO_at g_3
  obtain ⟨z_1, r_2, hfc, hf⟩ := cal_some hf
  have hFc := de_free hD hS hA
  refine va_calli (va_runV (As := [.int x0, .int 2]) (rest := []) ⟨hx, hb, hml, hown, hts⟩ (de_X5_functionColumn l dC dI cy a sh n H.size F z h0 x0 2 hfc) (cwV 2 hts gX5_takes_X5_functionColumn rfl rfl rfl (by decide +kernel) ⟨Nat.le_of_ble_eq_true rfl, Nat.le_of_ble_eq_true rfl⟩) ⟨fun a U g mk q => by obtain ⟨q0, q1, qP, qK, qD, qN⟩ := q; exact ⟨q0, q1, qP, va_K.moved (u := U) (U := U.calling g mk a) (Vm.Alike.refl U.vm) qK, qD, qN.same rfl⟩, va_recv hK hP (ci := 5) (q0 := h0) rfl (Wd_ob kg_3 sg_3 (by decide)), fun U hU hW => ⟨rfl, by rw [hU], by rw [hU]; exact hP, va_K.moved hW.alike hK, hD.weaken (fun _ _ _ _ => trivial), hN.warm hW⟩⟩ rfl rfl hl.1 rfl (lv_room (Nat.le_of_ble_eq_true rfl)) dX5_takes_3 ⟨Nat.le_of_ble_eq_true rfl, Nat.le_of_ble_eq_true rfl⟩) hS (fun q _ h => hFc q h) hFc (fun rr u t H_4 locs ht hvm hw hB hz1 hk1 hS2 => ?_)
  rw [hw]
  clear hw
  obtain ⟨hP1, -, hD1⟩ := hB
  rw [ht] at hP1
  replace hD := hD1.weaken (fun _ _ _ h => hFc _ h)
  replace hP := hP1
  replace hS := hS2
  clear hP1 hD1 hS2 hFc hfc hz1 hk1 hvm ht
  obtain ⟨h8, h9⟩ := ret_some hf
  rw [h8, h9]
  exact W.iret (v := r_2) hx hb hr (fun t ht hW => ⟨⟨r_2, (), rfl, rfl, by rw [ht]; exact hP, va_K.moved hW.alike hK, hD⟩, hS.F ht⟩) hS.2.2 dX5_takes_6

set_option maxHeartbeats 4000000 in
set_option maxRecDepth 100000 in
theorem de_X13_need (l : Launch) (dC : Nat → ClassId) (dI : Nat → Nat → Nat) (cy : Nat → ClassId) (a : Nat → Nat) (sh : Nat → Nat × Nat) (n sz : Nat) (F : Nat) (z : St) (h0 : Nat) (x0 : Int32) (x1 : Int32) {z8 : St} {r8 : Unit} (hf : fn_X13_need F sh n z h0 x0 x1 = some (z8, r8)) : Met l yX13_need wsX13_need ({ frames := 1, cells := 0, slots := 0, locals := 21 }) (va_Pc [.ref (a h0), .int x0, .int x1] (fun U => U.heap.size = sz ∧ va_P (dC, dI) vwCl (Wd cy a sh n z) U.heap ∧ va_K (dC, dI) vwCl (TYS cy) U ∧ va_D (fun _ => True) (Wd cy a sh n z) ∧ NK U)) (va_Qv (fun u : Unit => True) (fun u t => va_P (dC, dI) vwCl (Wd cy a sh n z8) t.heap ∧ va_K (dC, dI) vwCl (TYS cy) t ∧ va_D (va_A (Wd cy a sh n z) sz) (Wd cy a sh n z8)) (va_A (Wd cy a sh n z) sz)) 0 0 (va_A (Wd cy a sh n z) sz) := by
  refine Met.ofW (cc := cX13_need) (maxL := 3) (ret := none) (by decide) rfl ?_
  intro p e s m args below meth c s₁ B hml hv
  obtain ⟨rfl, hsz, hP, hK, hD0, hN⟩ := hv
  have hx := B.exec
  have hb := B.bytes
  have hr := B.returns
  have hts := atoms_spec (ws := wsX13_need) B.pre
  have hown : s.vm.findClass RX13 = some m.cls := findClass_of_methodNamed B.named
  have hlocks := B.notSynchronized
  subst hsz
  have hD := hD0.self (sz := s.heap.size)
  clear hD0
  generalize hAe : va_A (Wd cy a sh n z) s.heap.size = A at hD ⊢
  have hA : ∀ q : Nat, s.heap.size ≤ q → A q := fun q h => by rw [← hAe]; exact Or.inr h
  clear hAe
  have hS : va_S A s.heap s.heap [] := va_S.rf
  have hl := lv_entry ([.ref (a h0), .int x0, .int x1]) (n := 3) (Nat.le_of_ble_eq_true rfl)
  rw [lg_entry_eq]
  generalize (lg_sl ([.ref (a h0), .int x0, .int x1]) ++ List.replicate (3 - (lg_sl ([.ref (a h0), .int x0, .int x1])).length) Slot.unset).toArray = ls at hl ⊢
  replace hl : lv_has ls 3 [(0, .ref (a h0)), (1, .int x0), (2, .int x1)] := hl
  unfold fn_X13_need at hf
  refine de_start hS hP (fun H locs hS hP => ?_)
  refine lv_iload_n hx hb dX13_need_0 rfl (lv_at hl 1 rfl) ?_
  refine lv_if_ne (tgt := 9) hx hb dX13_need_1 (by decide) (fun c_1 => ?_) (fun c_1 => ?_)
  · skip
    rw [if_neg c_1] at hf
    obtain ⟨h8, h9⟩ := ret_some hf
    rw [h8]
    exact W.vret hx hb hr (fun t ht hW => ⟨⟨(), rfl, trivial, by rw [ht]; exact hP, va_K.moved hW.alike hK, hD⟩, hS.F ht⟩) hS.2.2 dX13_need_9
  · skip
    rw [if_pos c_1] at hf
    refine lv_aload_n hx hb dX13_need_4 rfl (lv_at hl 0 rfl) ?_
    refine lv_iload_n hx hb dX13_need_5 rfl (lv_at hl 2 rfl) ?_
    obtain ⟨g_3, hf⟩ := grd_some hf
    obtain ⟨kg_3, sg_3⟩ := okO_at g_3
    obtain ⟨z_2, _u, hfc, hf⟩ := cal_some hf
    have hFc := de_free hD hS hA
    refine va_callv (va_runV (As := [.int x1]) (rest := []) ⟨hx, hb, hml, hown, hts⟩ (de_X13_fail l dC dI cy a sh n H.size F z h0 x1 hfc) (cwV 1 hts gX13_need_X13_fail rfl rfl rfl (by decide +kernel) ⟨Nat.le_of_ble_eq_true rfl, Nat.le_of_ble_eq_true rfl⟩) ⟨fun a U g mk q => by obtain ⟨q0, q1, qP, qK, qD, qN⟩ := q; exact ⟨q0, q1, qP, va_K.moved (u := U) (U := U.calling g mk a) (Vm.Alike.refl U.vm) qK, qD, qN.same rfl⟩, va_recv hK hP (ci := 13) (q0 := h0) rfl (Wd_ob kg_3 sg_3 (by decide)), fun U hU hW => ⟨rfl, by rw [hU], by rw [hU]; exact hP, va_K.moved hW.alike hK, hD.weaken (fun _ _ _ _ => trivial), hN.warm hW⟩⟩ rfl rfl hl.1 rfl (lv_room (Nat.le_of_ble_eq_true rfl)) dX13_need_6 ⟨Nat.le_of_ble_eq_true rfl, Nat.le_of_ble_eq_true rfl⟩) hS (fun q _ h => hFc q h) hFc (fun u t H_4 locs ht hvm hw hB hz1 hk1 hS2 => ?_)
    obtain ⟨hP1, -, hD1⟩ := hB
    rw [ht] at hP1
    replace hD := hD1.weaken (fun _ _ _ h => hFc _ h)
    replace hP := hP1
    replace hS := hS2
    clear hP1 hD1 hS2 hFc hfc hz1 hk1 hvm ht
    obtain ⟨h8, h9⟩ := ret_some hf
    rw [h8]
    exact W.vret hx hb hr (fun t ht hW => ⟨⟨(), rfl, trivial, by rw [ht]; exact hP, va_K.moved hW.alike hK, hD⟩, hS.F ht⟩) hS.2.2 dX13_need_9

theorem md_X5_elementType_1 : (.fieldLink RX5 75 "ResourceLedger$Program" "firstElement" "I" : Cond) ∈ wsX5_elementType := List.mem_of_getElem? (i := 1) rfl
theorem iwd_X5_elementType_X5 : ∀ w ∈ wsX50, w ∈ wsX5_elementType := fun _ h => List.mem_cons_of_mem _ (List.mem_append_right _ h)
set_option maxHeartbeats 4000000 in
set_option maxRecDepth 100000 in
theorem de_X5_elementType (l : Launch) (dC : Nat → ClassId) (dI : Nat → Nat → Nat) (cy : Nat → ClassId) (a : Nat → Nat) (sh : Nat → Nat × Nat) (n sz : Nat) (F : Nat) (z : St) (h0 : Nat) (x0 : Int32) {z8 : St} {r8 : Int64} (hf : fn_X5_elementType F sh n z h0 x0 = some (z8, r8)) : Met l yX5_elementType wsX5_elementType ({ frames := 1, cells := 0, slots := 0, locals := 21 }) (va_Pc [.ref (a h0), .int x0] (fun U => U.heap.size = sz ∧ va_P (dC, dI) vwCl (Wd cy a sh n z) U.heap ∧ va_K (dC, dI) vwCl (TYS cy) U ∧ va_D (fun _ => True) (Wd cy a sh n z) ∧ NK U)) (va_Ql (fun (r9 : Int64) (u : Unit) => r9 = r8) (fun u t => va_P (dC, dI) vwCl (Wd cy a sh n z8) t.heap ∧ va_K (dC, dI) vwCl (TYS cy) t ∧ va_D (va_A (Wd cy a sh n z) sz) (Wd cy a sh n z8)) (va_A (Wd cy a sh n z) sz)) 0 0 (va_A (Wd cy a sh n z) sz) := by
  refine Met.ofW (cc := cX5_elementType) (maxL := 2) (ret := (some .long)) (by decide) rfl ?_
  intro p e s m args below meth c s₁ B hml hv
  obtain ⟨rfl, hsz, hP, hK, hD0, hN⟩ := hv
  have hx := B.exec
  have hb := B.bytes
  have hr := B.returns
  have hts := atoms_spec (ws := wsX5_elementType) B.pre
  have hown : s.vm.findClass RX5 = some m.cls := findClass_of_methodNamed B.named
  have hlocks := B.notSynchronized
  subst hsz
  have hD := hD0.self (sz := s.heap.size)
  clear hD0
  generalize hAe : va_A (Wd cy a sh n z) s.heap.size = A at hD ⊢
  have hA : ∀ q : Nat, s.heap.size ≤ q → A q := fun q h => by rw [← hAe]; exact Or.inr h
  clear hAe
  have hS : va_S A s.heap s.heap [] := va_S.rf
  have hl := lv_entry ([.ref (a h0), .int x0]) (n := 2) (Nat.le_of_ble_eq_true rfl)
  rw [lg_entry_eq]
  generalize (lg_sl ([.ref (a h0), .int x0]) ++ List.replicate (2 - (lg_sl ([.ref (a h0), .int x0])).length) Slot.unset).toArray = ls at hl ⊢
  replace hl : lv_has ls 2 [(0, .ref (a h0)), (1, .int x0)] := hl
  unfold fn_X5_elementType at hf
  refine de_start hS hP (fun H locs hS hP => ?_)
  refine lv_aload_n hx hb dX5_elementType_0 rfl (lv_at hl 0 rfl) ?_
  refine lv_aload_n hx hb dX5_elementType_1 rfl (lv_at hl 0 rfl) ?_
  obtain ⟨g_1, hf⟩ := grd_some hf
  obtain ⟨kg_1, sg_1⟩ := okO_at g_1
  refine va_get (D := (dC, dI)) (ci := 5) (v := .int (z.1 h0 13)) (C := RX5) (T := TX5) (N := 15) hx hb hts iwd_X5_elementType_X5 hown hK hP h0 (Wd_ob kg_1 sg_1 (by decide)) rfl 13 (by decide) (hts _ md_X5_elementType_1) (fun _ h9 => h9) (fl_at (t := 0) rfl) dX5_elementType_2 ?_
  refine lv_iload_n hx hb dX5_elementType_5 rfl (lv_at hl 1 rfl) ?_
  refine lv_iadd hx hb dX5_elementType_6 ?_
  obtain ⟨z_2, r_3, hfc, hf⟩ := cal_some hf
  have hFc := de_free hD hS hA
  refine va_calll (va_runV (As := [.int ((z.1 h0 13) + x0)]) (rest := []) ⟨hx, hb, hml, hown, hts⟩ (de_X5_typeAt l dC dI cy a sh n H.size F z h0 ((z.1 h0 13) + x0) hfc) (cwV 1 hts gX5_elementType_X5_typeAt rfl rfl rfl (by decide +kernel) ⟨Nat.le_of_ble_eq_true rfl, Nat.le_of_ble_eq_true rfl⟩) ⟨fun a U g mk q => by obtain ⟨q0, q1, qP, qK, qD, qN⟩ := q; exact ⟨q0, q1, qP, va_K.moved (u := U) (U := U.calling g mk a) (Vm.Alike.refl U.vm) qK, qD, qN.same rfl⟩, va_recv hK hP (ci := 5) (q0 := h0) rfl (Wd_ob kg_1 sg_1 (by decide)), fun U hU hW => ⟨rfl, by rw [hU], by rw [hU]; exact hP, va_K.moved hW.alike hK, hD.weaken (fun _ _ _ _ => trivial), hN.warm hW⟩⟩ rfl rfl hl.1 rfl (lv_room (Nat.le_of_ble_eq_true rfl)) dX5_elementType_7 ⟨Nat.le_of_ble_eq_true rfl, Nat.le_of_ble_eq_true rfl⟩) hS (fun q _ h => hFc q h) hFc (fun rr u t H_4 locs ht hvm hw hB hz1 hk1 hS2 => ?_)
  rw [hw]
  clear hw
  obtain ⟨hP1, -, hD1⟩ := hB
  rw [ht] at hP1
  replace hD := hD1.weaken (fun _ _ _ h => hFc _ h)
  replace hP := hP1
  replace hS := hS2
  clear hP1 hD1 hS2 hFc hfc hz1 hk1 hvm ht
  obtain ⟨h8, h9⟩ := ret_some hf
  rw [h8, h9]
  exact W.lret (v := r_3) hx hb hr (fun t ht hW => ⟨⟨r_3, (), rfl, rfl, by rw [ht]; exact hP, va_K.moved hW.alike hK, hD⟩, hS.F ht⟩) hS.2.2 dX5_elementType_10

set_option maxHeartbeats 4000000 in
set_option maxRecDepth 100000 in
theorem de_X3_writes (l : Launch) (dC : Nat → ClassId) (dI : Nat → Nat → Nat) (cy : Nat → ClassId) (a : Nat → Nat) (sh : Nat → Nat × Nat) (n sz : Nat) (F : Nat) (z : St) (x0 : Int64) {z8 : St} {r8 : Int32} (hf : fn_X3_writes F sh n z x0 = some (z8, r8)) : Met l yX3_writes wsX3_writes ({ frames := 1, cells := 0, slots := 0, locals := 22 }) (va_Pc [.long x0] (fun U => U.heap.size = sz ∧ va_P (dC, dI) vwCl (Wd cy a sh n z) U.heap ∧ va_K (dC, dI) vwCl (TYS cy) U ∧ va_D (fun _ => True) (Wd cy a sh n z) ∧ NK U)) (va_Qi (fun (r9 : Int32) (u : Unit) => r9 = r8) (fun u t => va_P (dC, dI) vwCl (Wd cy a sh n z8) t.heap ∧ va_K (dC, dI) vwCl (TYS cy) t ∧ va_D (va_A (Wd cy a sh n z) sz) (Wd cy a sh n z8)) (va_A (Wd cy a sh n z) sz)) 0 0 (va_A (Wd cy a sh n z) sz) := by
  refine Met.ofW (cc := cX3_writes) (maxL := 2) (ret := (some .boolean)) (by decide) rfl ?_
  intro p e s m args below meth c s₁ B hml hv
  obtain ⟨rfl, hsz, hP, hK, hD0, hN⟩ := hv
  have hx := B.exec
  have hb := B.bytes
  have hr := B.returns
  have hts := atoms_spec (ws := wsX3_writes) B.pre
  have hown : s.vm.findClass RX3 = some m.cls := findClass_of_methodNamed B.named
  have hlocks := B.notSynchronized
  subst hsz
  have hD := hD0.self (sz := s.heap.size)
  clear hD0
  generalize hAe : va_A (Wd cy a sh n z) s.heap.size = A at hD ⊢
  have hA : ∀ q : Nat, s.heap.size ≤ q → A q := fun q h => by rw [← hAe]; exact Or.inr h
  clear hAe
  have hS : va_S A s.heap s.heap [] := va_S.rf
  have hl := lv_entry ([.long x0]) (n := 2) (Nat.le_of_ble_eq_true rfl)
  rw [lg_entry_eq]
  generalize (lg_sl ([.long x0]) ++ List.replicate (2 - (lg_sl ([.long x0])).length) Slot.unset).toArray = ls at hl ⊢
  replace hl : lv_has ls 2 [(0, .long x0)] := hl
  unfold fn_X3_writes at hf
  refine de_start hS hP (fun H locs hS hP => ?_)
  refine lv_lload_n hx hb dX3_writes_0 rfl (lv_at hl 0 rfl) ?_
  obtain ⟨z_1, r_2, hfc, hf⟩ := cal_some hf
  have hFc := de_free hD hS hA
  refine va_calli (va_runS (As := [.long x0]) (rest := []) ⟨hx, hb, hml, hown, hts⟩ (de_X5_head l dC dI cy a sh n H.size F z x0 hfc) (va_cwS 1 hts gX3_writes_X5_head rfl rfl rfl (by decide +kernel) ⟨Nat.le_of_ble_eq_true rfl, Nat.le_of_ble_eq_true rfl⟩) ⟨fun a U g mk q => by obtain ⟨q0, q1, qP, qK, qD, qN⟩ := q; exact ⟨q0, q1, qP, va_K.moved (u := U) (U := U.calling g mk a) (Vm.Alike.refl U.vm) qK, qD, qN.same rfl⟩, fun U hU hW => ⟨rfl, by rw [hU], by rw [hU]; exact hP, va_K.moved hW.alike hK, hD.weaken (fun _ _ _ _ => trivial), hN.warm hW⟩⟩ rfl rfl hl.1 rfl (lv_room (Nat.le_of_ble_eq_true rfl)) dX3_writes_1 ⟨Nat.le_of_ble_eq_true rfl, Nat.le_of_ble_eq_true rfl⟩) hS (fun q _ h => hFc q h) hFc (fun rr u t H_3 locs ht hvm hw hB hz1 hk1 hS2 => ?_)
  rw [hw]
  clear hw
  obtain ⟨hP1, -, hD1⟩ := hB
  rw [ht] at hP1
  replace hD := hD1.weaken (fun _ _ _ h => hFc _ h)
  replace hP := hP1
  replace hS := hS2
  clear hP1 hD1 hS2 hFc hfc hz1 hk1 hvm ht
  refine lv_bipush (v := 9) hx hb dX3_writes_4 (by decide) ?_
  refine lv_icmp_ne (tgt := 13) hx hb dX3_writes_6 (by decide) (fun c_4 => ?_) (fun c_4 => ?_)
  · skip
    rw [if_neg c_4] at hf
    refine lv_iconst (v := 0) hx hb dX3_writes_13 (by decide) ?_
    obtain ⟨h8, h9⟩ := ret_some hf
    rw [h8, h9]
    exact W.zret (v := 0) hx hb hr rfl (fun t ht hW => ⟨⟨0, (), rfl, rfl, by rw [ht]; exact hP, va_K.moved hW.alike hK, hD⟩, hS.F ht⟩) hS.2.2 dX3_writes_14
  · skip
    rw [if_pos c_4] at hf
    refine lv_iconst (v := 1) hx hb dX3_writes_9 (by decide) ?_
    refine lv_goto (tgt := 14) hx hb dX3_writes_10 (by decide) ?_
    obtain ⟨h8, h9⟩ := ret_some hf
    rw [h8, h9]
    exact W.zret (v := 1) hx hb hr rfl (fun t ht hW => ⟨⟨1, (), rfl, rfl, by rw [ht]; exact hP, va_K.moved hW.alike hK, hD⟩, hS.F ht⟩) hS.2.2 dX3_writes_14

set_option maxHeartbeats 4000000 in
set_option maxRecDepth 100000 in
theorem de_X5_isReference (l : Launch) (dC : Nat → ClassId) (dI : Nat → Nat → Nat) (cy : Nat → ClassId) (a : Nat → Nat) (sh : Nat → Nat × Nat) (n sz : Nat) (F : Nat) (z : St) (x0 : Int64) {z8 : St} {r8 : Int32} (hf : fn_X5_isReference F sh n z x0 = some (z8, r8)) : Met l yX5_isReference wsX5_isReference ({ frames := 1, cells := 0, slots := 0, locals := 22 }) (va_Pc [.long x0] (fun U => U.heap.size = sz ∧ va_P (dC, dI) vwCl (Wd cy a sh n z) U.heap ∧ va_K (dC, dI) vwCl (TYS cy) U ∧ va_D (fun _ => True) (Wd cy a sh n z) ∧ NK U)) (va_Qi (fun (r9 : Int32) (u : Unit) => r9 = r8) (fun u t => va_P (dC, dI) vwCl (Wd cy a sh n z8) t.heap ∧ va_K (dC, dI) vwCl (TYS cy) t ∧ va_D (va_A (Wd cy a sh n z) sz) (Wd cy a sh n z8)) (va_A (Wd cy a sh n z) sz)) 0 0 (va_A (Wd cy a sh n z) sz) := by
  refine Met.ofW (cc := cX5_isReference) (maxL := 2) (ret := (some .boolean)) (by decide) rfl ?_
  intro p e s m args below meth c s₁ B hml hv
  obtain ⟨rfl, hsz, hP, hK, hD0, hN⟩ := hv
  have hx := B.exec
  have hb := B.bytes
  have hr := B.returns
  have hts := atoms_spec (ws := wsX5_isReference) B.pre
  have hown : s.vm.findClass RX5 = some m.cls := findClass_of_methodNamed B.named
  have hlocks := B.notSynchronized
  subst hsz
  have hD := hD0.self (sz := s.heap.size)
  clear hD0
  generalize hAe : va_A (Wd cy a sh n z) s.heap.size = A at hD ⊢
  have hA : ∀ q : Nat, s.heap.size ≤ q → A q := fun q h => by rw [← hAe]; exact Or.inr h
  clear hAe
  have hS : va_S A s.heap s.heap [] := va_S.rf
  have hl := lv_entry ([.long x0]) (n := 2) (Nat.le_of_ble_eq_true rfl)
  rw [lg_entry_eq]
  generalize (lg_sl ([.long x0]) ++ List.replicate (2 - (lg_sl ([.long x0])).length) Slot.unset).toArray = ls at hl ⊢
  replace hl : lv_has ls 2 [(0, .long x0)] := hl
  unfold fn_X5_isReference at hf
  refine de_start hS hP (fun H locs hS hP => ?_)
  refine lv_lload_n hx hb dX5_isReference_0 rfl (lv_at hl 0 rfl) ?_
  obtain ⟨z_1, r_2, hfc, hf⟩ := cal_some hf
  have hFc := de_free hD hS hA
  refine va_calli (va_runS (As := [.long x0]) (rest := []) ⟨hx, hb, hml, hown, hts⟩ (de_X5_head l dC dI cy a sh n H.size F z x0 hfc) (va_cwS 1 hts gX5_isReference_X5_head rfl rfl rfl (by decide +kernel) ⟨Nat.le_of_ble_eq_true rfl, Nat.le_of_ble_eq_true rfl⟩) ⟨fun a U g mk q => by obtain ⟨q0, q1, qP, qK, qD, qN⟩ := q; exact ⟨q0, q1, qP, va_K.moved (u := U) (U := U.calling g mk a) (Vm.Alike.refl U.vm) qK, qD, qN.same rfl⟩, fun U hU hW => ⟨rfl, by rw [hU], by rw [hU]; exact hP, va_K.moved hW.alike hK, hD.weaken (fun _ _ _ _ => trivial), hN.warm hW⟩⟩ rfl rfl hl.1 rfl (lv_room (Nat.le_of_ble_eq_true rfl)) dX5_isReference_1 ⟨Nat.le_of_ble_eq_true rfl, Nat.le_of_ble_eq_true rfl⟩) hS (fun q _ h => hFc q h) hFc (fun rr u t H_3 locs ht hvm hw hB hz1 hk1 hS2 => ?_)
  rw [hw]
  clear hw
  obtain ⟨hP1, -, hD1⟩ := hB
  rw [ht] at hP1
  replace hD := hD1.weaken (fun _ _ _ h => hFc _ h)
  replace hP := hP1
  replace hS := hS2
  clear hP1 hD1 hS2 hFc hfc hz1 hk1 hvm ht
  refine lv_bipush (v := 8) hx hb dX5_isReference_4 (by decide) ?_
  refine lv_icmp_lt (tgt := 13) hx hb dX5_isReference_6 (by decide) (fun c_4 => ?_) (fun c_4 => ?_)
  · skip
    rw [if_pos c_4] at hf
    refine lv_iconst (v := 0) hx hb dX5_isReference_13 (by decide) ?_
    obtain ⟨h8, h9⟩ := ret_some hf
    rw [h8, h9]
    exact W.zret (v := 0) hx hb hr rfl (fun t ht hW => ⟨⟨0, (), rfl, rfl, by rw [ht]; exact hP, va_K.moved hW.alike hK, hD⟩, hS.F ht⟩) hS.2.2 dX5_isReference_14
  · skip
    rw [if_neg c_4] at hf
    refine lv_iconst (v := 1) hx hb dX5_isReference_9 (by decide) ?_
    refine lv_goto (tgt := 14) hx hb dX5_isReference_10 (by decide) ?_
    obtain ⟨h8, h9⟩ := ret_some hf
    rw [h8, h9]
    exact W.zret (v := 1) hx hb hr rfl (fun t ht hW => ⟨⟨1, (), rfl, rfl, by rw [ht]; exact hP, va_K.moved hW.alike hK, hD⟩, hS.F ht⟩) hS.2.2 dX5_isReference_14

theorem md_X16_fieldsOf_1 : (.fieldLink RX16 13 "ResourceLedgerModel$Unit" "structureAt" "[I" : Cond) ∈ wsX16_fieldsOf := List.mem_of_getElem? (i := 1) rfl
theorem iwd_X16_fieldsOf_X16 : ∀ w ∈ wsX160, w ∈ wsX16_fieldsOf := fun _ h => List.mem_cons_of_mem _ (List.mem_append_right _ h)
set_option maxHeartbeats 4000000 in
set_option maxRecDepth 100000 in
theorem de_X16_fieldsOf (l : Launch) (dC : Nat → ClassId) (dI : Nat → Nat → Nat) (cy : Nat → ClassId) (a : Nat → Nat) (sh : Nat → Nat × Nat) (n sz : Nat) (F : Nat) (z : St) (h0 : Nat) (x0 : Int32) {z8 : St} {r8 : Int32} (hf : fn_X16_fieldsOf F sh n z h0 x0 = some (z8, r8)) : Met l yX16_fieldsOf wsX16_fieldsOf ({ frames := 1, cells := 0, slots := 0, locals := 21 }) (va_Pc [.ref (a h0), .int x0] (fun U => U.heap.size = sz ∧ va_P (dC, dI) vwCl (Wd cy a sh n z) U.heap ∧ va_K (dC, dI) vwCl (TYS cy) U ∧ va_D (fun _ => True) (Wd cy a sh n z) ∧ NK U)) (va_Qi (fun (r9 : Int32) (u : Unit) => r9 = r8) (fun u t => va_P (dC, dI) vwCl (Wd cy a sh n z8) t.heap ∧ va_K (dC, dI) vwCl (TYS cy) t ∧ va_D (va_A (Wd cy a sh n z) sz) (Wd cy a sh n z8)) (va_A (Wd cy a sh n z) sz)) 0 0 (va_A (Wd cy a sh n z) sz) := by
  refine Met.ofW (cc := cX16_fieldsOf) (maxL := 2) (ret := (some .int)) (by decide) rfl ?_
  intro p e s m args below meth c s₁ B hml hv
  obtain ⟨rfl, hsz, hP, hK, hD0, hN⟩ := hv
  have hx := B.exec
  have hb := B.bytes
  have hr := B.returns
  have hts := atoms_spec (ws := wsX16_fieldsOf) B.pre
  have hown : s.vm.findClass RX16 = some m.cls := findClass_of_methodNamed B.named
  have hlocks := B.notSynchronized
  subst hsz
  have hD := hD0.self (sz := s.heap.size)
  clear hD0
  generalize hAe : va_A (Wd cy a sh n z) s.heap.size = A at hD ⊢
  have hA : ∀ q : Nat, s.heap.size ≤ q → A q := fun q h => by rw [← hAe]; exact Or.inr h
  clear hAe
  have hS : va_S A s.heap s.heap [] := va_S.rf
  have hl := lv_entry ([.ref (a h0), .int x0]) (n := 2) (Nat.le_of_ble_eq_true rfl)
  rw [lg_entry_eq]
  generalize (lg_sl ([.ref (a h0), .int x0]) ++ List.replicate (2 - (lg_sl ([.ref (a h0), .int x0])).length) Slot.unset).toArray = ls at hl ⊢
  replace hl : lv_has ls 2 [(0, .ref (a h0)), (1, .int x0)] := hl
  unfold fn_X16_fieldsOf at hf
  refine de_start hS hP (fun H locs hS hP => ?_)
  refine lv_aload_n hx hb dX16_fieldsOf_0 rfl (lv_at hl 0 rfl) ?_
  refine lv_aload_n hx hb dX16_fieldsOf_1 rfl (lv_at hl 0 rfl) ?_
  obtain ⟨g_1, hf⟩ := grd_some hf
  obtain ⟨kg_1, sg_1⟩ := okO_at g_1
  obtain ⟨k_2, ek_2, hf⟩ := lnk_some hf
  refine va_get (D := (dC, dI)) (ci := 16) (v := .ref (a k_2)) (C := RX16) (T := TX16) (N := 18) hx hb hts iwd_X16_fieldsOf_X16 hown hK hP h0 (Wd_ob kg_1 sg_1 (by decide)) rfl 11 (by decide) (hts _ md_X16_fieldsOf_1) (fun _ h9 => h9) (fl_q rfl ek_2) dX16_fieldsOf_2 ?_
  refine lv_iload_n hx hb dX16_fieldsOf_5 rfl (lv_at hl 1 rfl) ?_
  obtain ⟨g_3, hf⟩ := grd_some hf
  obtain ⟨kg_3, sg_3, ig_3⟩ := okA_at g_3
  refine va_iald hx hb hK hP k_2 1 (Wd_ai kg_3 sg_3) rfl ig_3 dX16_fieldsOf_6 ?_
  refine lv_iconst (v := 1) hx hb dX16_fieldsOf_7 (by decide) ?_
  refine lv_iadd hx hb dX16_fieldsOf_8 ?_
  obtain ⟨z_4, r_5, hfc, hf⟩ := cal_some hf
  have hFc := de_free hD hS hA
  refine va_calli (va_runV (As := [.int ((z.1 k_2 x0.toNatClampNeg) + 1)]) (rest := []) ⟨hx, hb, hml, hown, hts⟩ (de_X16_byteAt l dC dI cy a sh n H.size F z h0 ((z.1 k_2 x0.toNatClampNeg) + 1) hfc) (cwV 1 hts gX16_fieldsOf_X16_byteAt rfl rfl rfl (by decide +kernel) ⟨Nat.le_of_ble_eq_true rfl, Nat.le_of_ble_eq_true rfl⟩) ⟨fun a U g mk q => by obtain ⟨q0, q1, qP, qK, qD, qN⟩ := q; exact ⟨q0, q1, qP, va_K.moved (u := U) (U := U.calling g mk a) (Vm.Alike.refl U.vm) qK, qD, qN.same rfl⟩, va_recv hK hP (ci := 16) (q0 := h0) rfl (Wd_ob kg_1 sg_1 (by decide)), fun U hU hW => ⟨rfl, by rw [hU], by rw [hU]; exact hP, va_K.moved hW.alike hK, hD.weaken (fun _ _ _ _ => trivial), hN.warm hW⟩⟩ rfl rfl hl.1 rfl (lv_room (Nat.le_of_ble_eq_true rfl)) dX16_fieldsOf_9 ⟨Nat.le_of_ble_eq_true rfl, Nat.le_of_ble_eq_true rfl⟩) hS (fun q _ h => hFc q h) hFc (fun rr u t H_6 locs ht hvm hw hB hz1 hk1 hS2 => ?_)
  rw [hw]
  clear hw
  obtain ⟨hP1, -, hD1⟩ := hB
  rw [ht] at hP1
  replace hD := hD1.weaken (fun _ _ _ h => hFc _ h)
  replace hP := hP1
  replace hS := hS2
  clear hP1 hD1 hS2 hFc hfc hz1 hk1 hvm ht
  obtain ⟨h8, h9⟩ := ret_some hf
  rw [h8, h9]
  exact W.iret (v := r_5) hx hb hr (fun t ht hW => ⟨⟨r_5, (), rfl, rfl, by rw [ht]; exact hP, va_K.moved hW.alike hK, hD⟩, hS.F ht⟩) hS.2.2 dX16_fieldsOf_12

theorem md_X4_pushNumber_1 : (.fieldLink RX4 12 "ResourceLedger$Machine" "heap" "LResourceLedger$Heap;" : Cond) ∈ wsX4_pushNumber := List.mem_of_getElem? (i := 1) rfl
theorem iwd_X4_pushNumber_X4 : ∀ w ∈ wsX40, w ∈ wsX4_pushNumber := fun _ h => List.mem_cons_of_mem _ (List.mem_append_left _ (List.mem_append_right _ h))
set_option maxHeartbeats 4000000 in
set_option maxRecDepth 100000 in
theorem de_X4_pushNumber (l : Launch) (dC : Nat → ClassId) (dI : Nat → Nat → Nat) (cy : Nat → ClassId) (a : Nat → Nat) (sh : Nat → Nat × Nat) (n sz : Nat) (F : Nat) (z : St) (h0 : Nat) (x0 : Int32) (x1 : Int64) (x2 : Int64) {z8 : St} {r8 : Unit} (hf : fn_X4_pushNumber F sh n z h0 x0 x1 x2 = some (z8, r8)) : Met l yX4_pushNumber wsX4_pushNumber ({ frames := 1, cells := 0, slots := 0, locals := 25 }) (va_Pc [.ref (a h0), .int x0, .long x1, .long x2] (fun U => U.heap.size = sz ∧ va_P (dC, dI) vwCl (Wd cy a sh n z) U.heap ∧ va_K (dC, dI) vwCl (TYS cy) U ∧ va_D (fun _ => True) (Wd cy a sh n z) ∧ NK U)) (va_Qv (fun u : Unit => True) (fun u t => va_P (dC, dI) vwCl (Wd cy a sh n z8) t.heap ∧ va_K (dC, dI) vwCl (TYS cy) t ∧ va_D (va_A (Wd cy a sh n z) sz) (Wd cy a sh n z8)) (va_A (Wd cy a sh n z) sz)) 0 0 (va_A (Wd cy a sh n z) sz) := by
  refine Met.ofW (cc := cX4_pushNumber) (maxL := 6) (ret := none) (by decide) rfl ?_
  intro p e s m args below meth c s₁ B hml hv
  obtain ⟨rfl, hsz, hP, hK, hD0, hN⟩ := hv
  have hx := B.exec
  have hb := B.bytes
  have hr := B.returns
  have hts := atoms_spec (ws := wsX4_pushNumber) B.pre
  have hown : s.vm.findClass RX4 = some m.cls := findClass_of_methodNamed B.named
  have hlocks := B.notSynchronized
  subst hsz
  have hD := hD0.self (sz := s.heap.size)
  clear hD0
  generalize hAe : va_A (Wd cy a sh n z) s.heap.size = A at hD ⊢
  have hA : ∀ q : Nat, s.heap.size ≤ q → A q := fun q h => by rw [← hAe]; exact Or.inr h
  clear hAe
  have hS : va_S A s.heap s.heap [] := va_S.rf
  have hl := lv_entry ([.ref (a h0), .int x0, .long x1, .long x2]) (n := 6) (Nat.le_of_ble_eq_true rfl)
  rw [lg_entry_eq]
  generalize (lg_sl ([.ref (a h0), .int x0, .long x1, .long x2]) ++ List.replicate (6 - (lg_sl ([.ref (a h0), .int x0, .long x1, .long x2])).length) Slot.unset).toArray = ls at hl ⊢
  replace hl : lv_has ls 6 [(0, .ref (a h0)), (1, .int x0), (2, .long x1), (4, .long x2)] := hl
  unfold fn_X4_pushNumber at hf
  refine de_start hS hP (fun H locs hS hP => ?_)
  refine lv_aload_n hx hb dX4_pushNumber_0 rfl (lv_at hl 0 rfl) ?_
  refine lv_aload_n hx hb dX4_pushNumber_1 rfl (lv_at hl 0 rfl) ?_
  obtain ⟨g_1, hf⟩ := grd_some hf
  obtain ⟨kg_1, sg_1⟩ := okO_at g_1
  obtain ⟨k_2, ek_2, hf⟩ := lnk_some hf
  refine va_get (D := (dC, dI)) (ci := 4) (v := .ref (a k_2)) (C := RX4) (T := TX4) (N := 18) hx hb hts iwd_X4_pushNumber_X4 hown hK hP h0 (Wd_ob kg_1 sg_1 (by decide)) rfl 1 (by decide) (hts _ md_X4_pushNumber_1) (fun _ h9 => h9) (fl_q rfl ek_2) dX4_pushNumber_2 ?_
  refine lv_iload_n hx hb dX4_pushNumber_5 rfl (lv_at hl 1 rfl) ?_
  refine lv_lload_n hx hb dX4_pushNumber_6 rfl (lv_at hl 2 rfl) ?_
  refine lv_lload hx hb dX4_pushNumber_7 (lv_at hl 3 rfl) ?_
  obtain ⟨g_5, hf⟩ := grd_some hf
  obtain ⟨kg_5, sg_5⟩ := okO_at g_5
  obtain ⟨z_3, r_4, hfc, hf⟩ := cal_some hf
  have hFc := de_free hD hS hA
  refine va_calli (va_runV (As := [.int x0, .long x1, .long x2]) (rest := [.ref (a h0)]) ⟨hx, hb, hml, hown, hts⟩ (de_X1_make l dC dI cy a sh n H.size F z k_2 x0 x1 x2 hfc) (cwV 3 hts gX4_pushNumber_X1_make rfl rfl rfl (by decide +kernel) ⟨Nat.le_of_ble_eq_true rfl, Nat.le_of_ble_eq_true rfl⟩) ⟨fun a U g mk q => by obtain ⟨q0, q1, qP, qK, qD, qN⟩ := q; exact ⟨q0, q1, qP, va_K.moved (u := U) (U := U.calling g mk a) (Vm.Alike.refl U.vm) qK, qD, qN.same rfl⟩, va_recv hK hP (ci := 1) (q0 := k_2) rfl (Wd_ob kg_5 sg_5 (by decide)), fun U hU hW => ⟨rfl, by rw [hU], by rw [hU]; exact hP, va_K.moved hW.alike hK, hD.weaken (fun _ _ _ _ => trivial), hN.warm hW⟩⟩ rfl rfl hl.1 rfl (lv_room (Nat.le_of_ble_eq_true rfl)) dX4_pushNumber_9 ⟨Nat.le_of_ble_eq_true rfl, Nat.le_of_ble_eq_true rfl⟩) hS (fun q _ h => hFc q h) hFc (fun rr u t H_6 locs ht hvm hw hB hz1 hk1 hS2 => ?_)
  rw [hw]
  clear hw
  obtain ⟨hP1, -, hD1⟩ := hB
  rw [ht] at hP1
  replace hD := hD1.weaken (fun _ _ _ h => hFc _ h)
  replace hP := hP1
  replace hS := hS2
  clear hP1 hD1 hS2 hFc hfc hz1 hk1 hvm ht
  obtain ⟨z_7, _u, hfc, hf⟩ := cal_some hf
  have hFc := de_free hD hS hA
  refine va_callv (va_runV (As := [.int r_4]) (rest := []) ⟨hx, hb, hml, hown, hts⟩ (de_X4_push l dC dI cy a sh n H_6.size F z_3 h0 r_4 hfc) (cwV 1 hts gX4_pushNumber_X4_push rfl rfl rfl (by decide +kernel) ⟨Nat.le_of_ble_eq_true rfl, Nat.le_of_ble_eq_true rfl⟩) ⟨fun a U g mk q => by obtain ⟨q0, q1, qP, qK, qD, qN⟩ := q; exact ⟨q0, q1, qP, va_K.moved (u := U) (U := U.calling g mk a) (Vm.Alike.refl U.vm) qK, qD, qN.same rfl⟩, va_recv hK hP (ci := 4) (q0 := h0) rfl (Wd_ob kg_1 sg_1 (by decide)), fun U hU hW => ⟨rfl, by rw [hU], by rw [hU]; exact hP, va_K.moved hW.alike hK, hD.weaken (fun _ _ _ _ => trivial), hN.warm hW⟩⟩ rfl rfl hl.1 rfl (lv_room (Nat.le_of_ble_eq_true rfl)) dX4_pushNumber_12 ⟨Nat.le_of_ble_eq_true rfl, Nat.le_of_ble_eq_true rfl⟩) hS (fun q _ h => hFc q h) hFc (fun u t H_8 locs ht hvm hw hB hz1 hk1 hS2 => ?_)
  obtain ⟨hP1, -, hD1⟩ := hB
  rw [ht] at hP1
  replace hD := hD1.weaken (fun _ _ _ h => hFc _ h)
  replace hP := hP1
  replace hS := hS2
  clear hP1 hD1 hS2 hFc hfc hz1 hk1 hvm ht
  obtain ⟨h8, h9⟩ := ret_some hf
  rw [h8]
  exact W.vret hx hb hr (fun t ht hW => ⟨⟨(), rfl, trivial, by rw [ht]; exact hP, va_K.moved hW.alike hK, hD⟩, hS.F ht⟩) hS.2.2 dX4_pushNumber_15

set_option maxHeartbeats 4000000 in
set_option maxRecDepth 100000 in
theorem de_X5_fieldType (l : Launch) (dC : Nat → ClassId) (dI : Nat → Nat → Nat) (cy : Nat → ClassId) (a : Nat → Nat) (sh : Nat → Nat × Nat) (n sz : Nat) (F : Nat) (z : St) (h0 : Nat) (x0 : Int32) (x1 : Int32) {z8 : St} {r8 : Int64} (hf : fn_X5_fieldType F sh n z h0 x0 x1 = some (z8, r8)) : Met l yX5_fieldType wsX5_fieldType ({ frames := 1, cells := 0, slots := 0, locals := 22 }) (va_Pc [.ref (a h0), .int x0, .int x1] (fun U => U.heap.size = sz ∧ va_P (dC, dI) vwCl (Wd cy a sh n z) U.heap ∧ va_K (dC, dI) vwCl (TYS cy) U ∧ va_D (fun _ => True) (Wd cy a sh n z) ∧ NK U)) (va_Ql (fun (r9 : Int64) (u : Unit) => r9 = r8) (fun u t => va_P (dC, dI) vwCl (Wd cy a sh n z8) t.heap ∧ va_K (dC, dI) vwCl (TYS cy) t ∧ va_D (va_A (Wd cy a sh n z) sz) (Wd cy a sh n z8)) (va_A (Wd cy a sh n z) sz)) 0 0 (va_A (Wd cy a sh n z) sz) := by
  refine Met.ofW (cc := cX5_fieldType) (maxL := 3) (ret := (some .long)) (by decide) rfl ?_
  intro p e s m args below meth c s₁ B hml hv
  obtain ⟨rfl, hsz, hP, hK, hD0, hN⟩ := hv
  have hx := B.exec
  have hb := B.bytes
  have hr := B.returns
  have hts := atoms_spec (ws := wsX5_fieldType) B.pre
  have hown : s.vm.findClass RX5 = some m.cls := findClass_of_methodNamed B.named
  have hlocks := B.notSynchronized
  subst hsz
  have hD := hD0.self (sz := s.heap.size)
  clear hD0
  generalize hAe : va_A (Wd cy a sh n z) s.heap.size = A at hD ⊢
  have hA : ∀ q : Nat, s.heap.size ≤ q → A q := fun q h => by rw [← hAe]; exact Or.inr h
  clear hAe
  have hS : va_S A s.heap s.heap [] := va_S.rf
  have hl := lv_entry ([.ref (a h0), .int x0, .int x1]) (n := 3) (Nat.le_of_ble_eq_true rfl)
  rw [lg_entry_eq]
  generalize (lg_sl ([.ref (a h0), .int x0, .int x1]) ++ List.replicate (3 - (lg_sl ([.ref (a h0), .int x0, .int x1])).length) Slot.unset).toArray = ls at hl ⊢
  replace hl : lv_has ls 3 [(0, .ref (a h0)), (1, .int x0), (2, .int x1)] := hl
  unfold fn_X5_fieldType at hf
  refine de_start hS hP (fun H locs hS hP => ?_)
  refine lv_aload_n hx hb dX5_fieldType_0 rfl (lv_at hl 0 rfl) ?_
  refine lv_aload_n hx hb dX5_fieldType_1 rfl (lv_at hl 0 rfl) ?_
  refine lv_iload_n hx hb dX5_fieldType_2 rfl (lv_at hl 1 rfl) ?_
  refine lv_iconst (v := 2) hx hb dX5_fieldType_3 (by decide) ?_
  obtain ⟨g_3, hf⟩ := grd_some hf
  obtain ⟨kg_3, sg_3⟩ := okO_at g_3
  obtain ⟨z_1, r_2, hfc, hf⟩ := cal_some hf
  have hFc := de_free hD hS hA
  refine va_calli (va_runV (As := [.int x0, .int 2]) (rest := [.ref (a h0)]) ⟨hx, hb, hml, hown, hts⟩ (de_X5_structureColumn l dC dI cy a sh n H.size F z h0 x0 2 hfc) (cwV 2 hts gX5_fieldType_X5_structureColumn rfl rfl rfl (by decide +kernel) ⟨Nat.le_of_ble_eq_true rfl, Nat.le_of_ble_eq_true rfl⟩) ⟨fun a U g mk q => by obtain ⟨q0, q1, qP, qK, qD, qN⟩ := q; exact ⟨q0, q1, qP, va_K.moved (u := U) (U := U.calling g mk a) (Vm.Alike.refl U.vm) qK, qD, qN.same rfl⟩, va_recv hK hP (ci := 5) (q0 := h0) rfl (Wd_ob kg_3 sg_3 (by decide)), fun U hU hW => ⟨rfl, by rw [hU], by rw [hU]; exact hP, va_K.moved hW.alike hK, hD.weaken (fun _ _ _ _ => trivial), hN.warm hW⟩⟩ rfl rfl hl.1 rfl (lv_room (Nat.le_of_ble_eq_true rfl)) dX5_fieldType_4 ⟨Nat.le_of_ble_eq_true rfl, Nat.le_of_ble_eq_true rfl⟩) hS (fun q _ h => hFc q h) hFc (fun rr u t H_4 locs ht hvm hw hB hz1 hk1 hS2 => ?_)
  rw [hw]
  clear hw
  obtain ⟨hP1, -, hD1⟩ := hB
  rw [ht] at hP1
  replace hD := hD1.weaken (fun _ _ _ h => hFc _ h)
  replace hP := hP1
  replace hS := hS2
  clear hP1 hD1 hS2 hFc hfc hz1 hk1 hvm ht
  refine lv_iload_n hx hb dX5_fieldType_7 rfl (lv_at hl 2 rfl) ?_
  refine lv_iadd hx hb dX5_fieldType_8 ?_
  obtain ⟨z_5, r_6, hfc, hf⟩ := cal_some hf
  have hFc := de_free hD hS hA
  refine va_calll (va_runV (As := [.int (r_2 + x1)]) (rest := []) ⟨hx, hb, hml, hown, hts⟩ (de_X5_typeAt l dC dI cy a sh n H_4.size F z_1 h0 (r_2 + x1) hfc) (cwV 1 hts gX5_fieldType_X5_typeAt rfl rfl rfl (by decide +kernel) ⟨Nat.le_of_ble_eq_true rfl, Nat.le_of_ble_eq_true rfl⟩) ⟨fun a U g mk q => by obtain ⟨q0, q1, qP, qK, qD, qN⟩ := q; exact ⟨q0, q1, qP, va_K.moved (u := U) (U := U.calling g mk a) (Vm.Alike.refl U.vm) qK, qD, qN.same rfl⟩, va_recv hK hP (ci := 5) (q0 := h0) rfl (Wd_ob kg_3 sg_3 (by decide)), fun U hU hW => ⟨rfl, by rw [hU], by rw [hU]; exact hP, va_K.moved hW.alike hK, hD.weaken (fun _ _ _ _ => trivial), hN.warm hW⟩⟩ rfl rfl hl.1 rfl (lv_room (Nat.le_of_ble_eq_true rfl)) dX5_fieldType_9 ⟨Nat.le_of_ble_eq_true rfl, Nat.le_of_ble_eq_true rfl⟩) hS (fun q _ h => hFc q h) hFc (fun rr u t H_7 locs ht hvm hw hB hz1 hk1 hS2 => ?_)
  rw [hw]
  clear hw
  obtain ⟨hP1, -, hD1⟩ := hB
  rw [ht] at hP1
  replace hD := hD1.weaken (fun _ _ _ h => hFc _ h)
  replace hP := hP1
  replace hS := hS2
  clear hP1 hD1 hS2 hFc hfc hz1 hk1 hvm ht
  obtain ⟨h8, h9⟩ := ret_some hf
  rw [h8, h9]
  exact W.lret (v := r_6) hx hb hr (fun t ht hW => ⟨⟨r_6, (), rfl, rfl, by rw [ht]; exact hP, va_K.moved hW.alike hK, hD⟩, hS.F ht⟩) hS.2.2 dX5_fieldType_12

set_option maxHeartbeats 4000000 in
set_option maxRecDepth 100000 in
theorem de_X5_pointee (l : Launch) (dC : Nat → ClassId) (dI : Nat → Nat → Nat) (cy : Nat → ClassId) (a : Nat → Nat) (sh : Nat → Nat × Nat) (n sz : Nat) (F : Nat) (z : St) (x0 : Int64) {z8 : St} {r8 : Int64} (hf : fn_X5_pointee F sh n z x0 = some (z8, r8)) : Met l yX5_pointee wsX5_pointee ({ frames := 1, cells := 0, slots := 0, locals := 22 }) (va_Pc [.long x0] (fun U => U.heap.size = sz ∧ va_P (dC, dI) vwCl (Wd cy a sh n z) U.heap ∧ va_K (dC, dI) vwCl (TYS cy) U ∧ va_D (fun _ => True) (Wd cy a sh n z) ∧ NK U)) (va_Ql (fun (r9 : Int64) (u : Unit) => r9 = r8) (fun u t => va_P (dC, dI) vwCl (Wd cy a sh n z8) t.heap ∧ va_K (dC, dI) vwCl (TYS cy) t ∧ va_D (va_A (Wd cy a sh n z) sz) (Wd cy a sh n z8)) (va_A (Wd cy a sh n z) sz)) 0 0 (va_A (Wd cy a sh n z) sz) := by
  refine Met.ofW (cc := cX5_pointee) (maxL := 2) (ret := (some .long)) (by decide) rfl ?_
  intro p e s m args below meth c s₁ B hml hv
  obtain ⟨rfl, hsz, hP, hK, hD0, hN⟩ := hv
  have hx := B.exec
  have hb := B.bytes
  have hr := B.returns
  have hts := atoms_spec (ws := wsX5_pointee) B.pre
  have hown : s.vm.findClass RX5 = some m.cls := findClass_of_methodNamed B.named
  have hlocks := B.notSynchronized
  subst hsz
  have hD := hD0.self (sz := s.heap.size)
  clear hD0
  generalize hAe : va_A (Wd cy a sh n z) s.heap.size = A at hD ⊢
  have hA : ∀ q : Nat, s.heap.size ≤ q → A q := fun q h => by rw [← hAe]; exact Or.inr h
  clear hAe
  have hS : va_S A s.heap s.heap [] := va_S.rf
  have hl := lv_entry ([.long x0]) (n := 2) (Nat.le_of_ble_eq_true rfl)
  rw [lg_entry_eq]
  generalize (lg_sl ([.long x0]) ++ List.replicate (2 - (lg_sl ([.long x0])).length) Slot.unset).toArray = ls at hl ⊢
  replace hl : lv_has ls 2 [(0, .long x0)] := hl
  unfold fn_X5_pointee at hf
  refine de_start hS hP (fun H locs hS hP => ?_)
  refine lv_lload_n hx hb dX5_pointee_0 rfl (lv_at hl 0 rfl) ?_
  refine lv_lconst (v := 1) hx hb dX5_pointee_1 (by decide) ?_
  refine lv_lload_n hx hb dX5_pointee_2 rfl (lv_at hl 0 rfl) ?_
  obtain ⟨z_1, r_2, hfc, hf⟩ := cal_some hf
  have hFc := de_free hD hS hA
  refine va_calli (va_runS (As := [.long x0]) (rest := [.long 1, .long x0]) ⟨hx, hb, hml, hown, hts⟩ (de_X5_headShift l dC dI cy a sh n H.size F z x0 hfc) (va_cwS 1 hts gX5_pointee_X5_headShift rfl rfl rfl (by decide +kernel) ⟨Nat.le_of_ble_eq_true rfl, Nat.le_of_ble_eq_true rfl⟩) ⟨fun a U g mk q => by obtain ⟨q0, q1, qP, qK, qD, qN⟩ := q; exact ⟨q0, q1, qP, va_K.moved (u := U) (U := U.calling g mk a) (Vm.Alike.refl U.vm) qK, qD, qN.same rfl⟩, fun U hU hW => ⟨rfl, by rw [hU], by rw [hU]; exact hP, va_K.moved hW.alike hK, hD.weaken (fun _ _ _ _ => trivial), hN.warm hW⟩⟩ rfl rfl hl.1 rfl (lv_room (Nat.le_of_ble_eq_true rfl)) dX5_pointee_3 ⟨Nat.le_of_ble_eq_true rfl, Nat.le_of_ble_eq_true rfl⟩) hS (fun q _ h => hFc q h) hFc (fun rr u t H_3 locs ht hvm hw hB hz1 hk1 hS2 => ?_)
  rw [hw]
  clear hw
  obtain ⟨hP1, -, hD1⟩ := hB
  rw [ht] at hP1
  replace hD := hD1.weaken (fun _ _ _ h => hFc _ h)
  replace hP := hP1
  replace hS := hS2
  clear hP1 hD1 hS2 hFc hfc hz1 hk1 hvm ht
  refine lv_lshl (v := (1 <<< ((r_2 : Int32).toInt64 &&& 63))) hx hb dX5_pointee_6 rfl ?_
  refine lv_lconst (v := 1) hx hb dX5_pointee_7 (by decide) ?_
  refine lv_lsub hx hb dX5_pointee_8 ?_
  refine lv_land hx hb dX5_pointee_9 ?_
  obtain ⟨h8, h9⟩ := ret_some hf
  rw [h8, h9]
  exact W.lret (v := (x0 &&& (((1 <<< ((r_2 : Int32).toInt64 &&& 63))) - 1))) hx hb hr (fun t ht hW => ⟨⟨(x0 &&& (((1 <<< ((r_2 : Int32).toInt64 &&& 63))) - 1)), (), rfl, rfl, by rw [ht]; exact hP, va_K.moved hW.alike hK, hD⟩, hS.F ht⟩) hS.2.2 dX5_pointee_10

set_option maxHeartbeats 4000000 in
set_option maxRecDepth 100000 in
theorem de_X5_takenType (l : Launch) (dC : Nat → ClassId) (dI : Nat → Nat → Nat) (cy : Nat → ClassId) (a : Nat → Nat) (sh : Nat → Nat × Nat) (n sz : Nat) (F : Nat) (z : St) (h0 : Nat) (x0 : Int32) (x1 : Int32) {z8 : St} {r8 : Int64} (hf : fn_X5_takenType F sh n z h0 x0 x1 = some (z8, r8)) : Met l yX5_takenType wsX5_takenType ({ frames := 1, cells := 0, slots := 0, locals := 23 }) (va_Pc [.ref (a h0), .int x0, .int x1] (fun U => U.heap.size = sz ∧ va_P (dC, dI) vwCl (Wd cy a sh n z) U.heap ∧ va_K (dC, dI) vwCl (TYS cy) U ∧ va_D (fun _ => True) (Wd cy a sh n z) ∧ NK U)) (va_Ql (fun (r9 : Int64) (u : Unit) => r9 = r8) (fun u t => va_P (dC, dI) vwCl (Wd cy a sh n z8) t.heap ∧ va_K (dC, dI) vwCl (TYS cy) t ∧ va_D (va_A (Wd cy a sh n z) sz) (Wd cy a sh n z8)) (va_A (Wd cy a sh n z) sz)) 0 0 (va_A (Wd cy a sh n z) sz) := by
  refine Met.ofW (cc := cX5_takenType) (maxL := 3) (ret := (some .long)) (by decide) rfl ?_
  intro p e s m args below meth c s₁ B hml hv
  obtain ⟨rfl, hsz, hP, hK, hD0, hN⟩ := hv
  have hx := B.exec
  have hb := B.bytes
  have hr := B.returns
  have hts := atoms_spec (ws := wsX5_takenType) B.pre
  have hown : s.vm.findClass RX5 = some m.cls := findClass_of_methodNamed B.named
  have hlocks := B.notSynchronized
  subst hsz
  have hD := hD0.self (sz := s.heap.size)
  clear hD0
  generalize hAe : va_A (Wd cy a sh n z) s.heap.size = A at hD ⊢
  have hA : ∀ q : Nat, s.heap.size ≤ q → A q := fun q h => by rw [← hAe]; exact Or.inr h
  clear hAe
  have hS : va_S A s.heap s.heap [] := va_S.rf
  have hl := lv_entry ([.ref (a h0), .int x0, .int x1]) (n := 3) (Nat.le_of_ble_eq_true rfl)
  rw [lg_entry_eq]
  generalize (lg_sl ([.ref (a h0), .int x0, .int x1]) ++ List.replicate (3 - (lg_sl ([.ref (a h0), .int x0, .int x1])).length) Slot.unset).toArray = ls at hl ⊢
  replace hl : lv_has ls 3 [(0, .ref (a h0)), (1, .int x0), (2, .int x1)] := hl
  unfold fn_X5_takenType at hf
  refine de_start hS hP (fun H locs hS hP => ?_)
  refine lv_aload_n hx hb dX5_takenType_0 rfl (lv_at hl 0 rfl) ?_
  refine lv_aload_n hx hb dX5_takenType_1 rfl (lv_at hl 0 rfl) ?_
  refine lv_iload_n hx hb dX5_takenType_2 rfl (lv_at hl 1 rfl) ?_
  refine lv_iconst (v := 1) hx hb dX5_takenType_3 (by decide) ?_
  obtain ⟨g_3, hf⟩ := grd_some hf
  obtain ⟨kg_3, sg_3⟩ := okO_at g_3
  obtain ⟨z_1, r_2, hfc, hf⟩ := cal_some hf
  have hFc := de_free hD hS hA
  refine va_calli (va_runV (As := [.int x0, .int 1]) (rest := [.ref (a h0)]) ⟨hx, hb, hml, hown, hts⟩ (de_X5_functionColumn l dC dI cy a sh n H.size F z h0 x0 1 hfc) (cwV 2 hts gX5_takenType_X5_functionColumn rfl rfl rfl (by decide +kernel) ⟨Nat.le_of_ble_eq_true rfl, Nat.le_of_ble_eq_true rfl⟩) ⟨fun a U g mk q => by obtain ⟨q0, q1, qP, qK, qD, qN⟩ := q; exact ⟨q0, q1, qP, va_K.moved (u := U) (U := U.calling g mk a) (Vm.Alike.refl U.vm) qK, qD, qN.same rfl⟩, va_recv hK hP (ci := 5) (q0 := h0) rfl (Wd_ob kg_3 sg_3 (by decide)), fun U hU hW => ⟨rfl, by rw [hU], by rw [hU]; exact hP, va_K.moved hW.alike hK, hD.weaken (fun _ _ _ _ => trivial), hN.warm hW⟩⟩ rfl rfl hl.1 rfl (lv_room (Nat.le_of_ble_eq_true rfl)) dX5_takenType_4 ⟨Nat.le_of_ble_eq_true rfl, Nat.le_of_ble_eq_true rfl⟩) hS (fun q _ h => hFc q h) hFc (fun rr u t H_4 locs ht hvm hw hB hz1 hk1 hS2 => ?_)
  rw [hw]
  clear hw
  obtain ⟨hP1, -, hD1⟩ := hB
  rw [ht] at hP1
  replace hD := hD1.weaken (fun _ _ _ h => hFc _ h)
  replace hP := hP1
  replace hS := hS2
  clear hP1 hD1 hS2 hFc hfc hz1 hk1 hvm ht
  refine lv_iload_n hx hb dX5_takenType_7 rfl (lv_at hl 2 rfl) ?_
  refine lv_iadd hx hb dX5_takenType_8 ?_
  obtain ⟨z_5, r_6, hfc, hf⟩ := cal_some hf
  have hFc := de_free hD hS hA
  refine va_calll (va_runV (As := [.int (r_2 + x1)]) (rest := []) ⟨hx, hb, hml, hown, hts⟩ (de_X5_typeAt l dC dI cy a sh n H_4.size F z_1 h0 (r_2 + x1) hfc) (cwV 1 hts gX5_takenType_X5_typeAt rfl rfl rfl (by decide +kernel) ⟨Nat.le_of_ble_eq_true rfl, Nat.le_of_ble_eq_true rfl⟩) ⟨fun a U g mk q => by obtain ⟨q0, q1, qP, qK, qD, qN⟩ := q; exact ⟨q0, q1, qP, va_K.moved (u := U) (U := U.calling g mk a) (Vm.Alike.refl U.vm) qK, qD, qN.same rfl⟩, va_recv hK hP (ci := 5) (q0 := h0) rfl (Wd_ob kg_3 sg_3 (by decide)), fun U hU hW => ⟨rfl, by rw [hU], by rw [hU]; exact hP, va_K.moved hW.alike hK, hD.weaken (fun _ _ _ _ => trivial), hN.warm hW⟩⟩ rfl rfl hl.1 rfl (lv_room (Nat.le_of_ble_eq_true rfl)) dX5_takenType_9 ⟨Nat.le_of_ble_eq_true rfl, Nat.le_of_ble_eq_true rfl⟩) hS (fun q _ h => hFc q h) hFc (fun rr u t H_7 locs ht hvm hw hB hz1 hk1 hS2 => ?_)
  rw [hw]
  clear hw
  obtain ⟨hP1, -, hD1⟩ := hB
  rw [ht] at hP1
  replace hD := hD1.weaken (fun _ _ _ h => hFc _ h)
  replace hP := hP1
  replace hS := hS2
  clear hP1 hD1 hS2 hFc hfc hz1 hk1 hvm ht
  obtain ⟨h8, h9⟩ := ret_some hf
  rw [h8, h9]
  exact W.lret (v := r_6) hx hb hr (fun t ht hW => ⟨⟨r_6, (), rfl, rfl, by rw [ht]; exact hP, va_K.moved hW.alike hK, hD⟩, hS.F ht⟩) hS.2.2 dX5_takenType_12

set_option maxHeartbeats 4000000 in
set_option maxRecDepth 100000 in
theorem de_X13_before (l : Launch) (dC : Nat → ClassId) (dI : Nat → Nat → Nat) (cy : Nat → ClassId) (a : Nat → Nat) (sh : Nat → Nat × Nat) (n sz : Nat) (F : Nat) (z : St) (x0 : Int32) (x1 : Int64) {z8 : St} {r8 : Int64} (hf : fn_X13_before F sh n z x0 x1 = some (z8, r8)) : Met l yX13_before wsX13_before ({ frames := 1, cells := 0, slots := 0, locals := 22 }) (va_Pc [.int x0, .long x1] (fun U => U.heap.size = sz ∧ va_P (dC, dI) vwCl (Wd cy a sh n z) U.heap ∧ va_K (dC, dI) vwCl (TYS cy) U ∧ va_D (fun _ => True) (Wd cy a sh n z) ∧ NK U)) (va_Ql (fun (r9 : Int64) (u : Unit) => r9 = r8) (fun u t => va_P (dC, dI) vwCl (Wd cy a sh n z8) t.heap ∧ va_K (dC, dI) vwCl (TYS cy) t ∧ va_D (va_A (Wd cy a sh n z) sz) (Wd cy a sh n z8)) (va_A (Wd cy a sh n z) sz)) 0 0 (va_A (Wd cy a sh n z) sz) := by
  refine Met.ofW (cc := cX13_before) (maxL := 3) (ret := (some .long)) (by decide) rfl ?_
  intro p e s m args below meth c s₁ B hml hv
  obtain ⟨rfl, hsz, hP, hK, hD0, hN⟩ := hv
  have hx := B.exec
  have hb := B.bytes
  have hr := B.returns
  have hts := atoms_spec (ws := wsX13_before) B.pre
  have hown : s.vm.findClass RX13 = some m.cls := findClass_of_methodNamed B.named
  have hlocks := B.notSynchronized
  subst hsz
  have hD := hD0.self (sz := s.heap.size)
  clear hD0
  generalize hAe : va_A (Wd cy a sh n z) s.heap.size = A at hD ⊢
  have hA : ∀ q : Nat, s.heap.size ≤ q → A q := fun q h => by rw [← hAe]; exact Or.inr h
  clear hAe
  have hS : va_S A s.heap s.heap [] := va_S.rf
  have hl := lv_entry ([.int x0, .long x1]) (n := 3) (Nat.le_of_ble_eq_true rfl)
  rw [lg_entry_eq]
  generalize (lg_sl ([.int x0, .long x1]) ++ List.replicate (3 - (lg_sl ([.int x0, .long x1])).length) Slot.unset).toArray = ls at hl ⊢
  replace hl : lv_has ls 3 [(0, .int x0), (1, .long x1)] := hl
  unfold fn_X13_before at hf
  refine de_start hS hP (fun H locs hS hP => ?_)
  refine lv_iload_n hx hb dX13_before_0 rfl (lv_at hl 0 rfl) ?_
  refine lv_i2l (v := (x0 : Int32).toInt64) hx hb dX13_before_1 rfl ?_
  refine lv_bipush (v := 8) hx hb dX13_before_2 (by decide) ?_
  refine lv_lload_n hx hb dX13_before_4 rfl (lv_at hl 1 rfl) ?_
  obtain ⟨z_1, r_2, hfc, hf⟩ := cal_some hf
  have hFc := de_free hD hS hA
  refine va_calli (va_runS (As := [.long x1]) (rest := [.int 8, .long ((x0 : Int32).toInt64)]) ⟨hx, hb, hml, hown, hts⟩ (de_X13_bytesOf l dC dI cy a sh n H.size F z x1 hfc) (va_cwS 1 hts gX13_before_X13_bytesOf rfl rfl rfl (by decide +kernel) ⟨Nat.le_of_ble_eq_true rfl, Nat.le_of_ble_eq_true rfl⟩) ⟨fun a U g mk q => by obtain ⟨q0, q1, qP, qK, qD, qN⟩ := q; exact ⟨q0, q1, qP, va_K.moved (u := U) (U := U.calling g mk a) (Vm.Alike.refl U.vm) qK, qD, qN.same rfl⟩, fun U hU hW => ⟨rfl, by rw [hU], by rw [hU]; exact hP, va_K.moved hW.alike hK, hD.weaken (fun _ _ _ _ => trivial), hN.warm hW⟩⟩ rfl rfl hl.1 rfl (lv_room (Nat.le_of_ble_eq_true rfl)) dX13_before_5 ⟨Nat.le_of_ble_eq_true rfl, Nat.le_of_ble_eq_true rfl⟩) hS (fun q _ h => hFc q h) hFc (fun rr u t H_3 locs ht hvm hw hB hz1 hk1 hS2 => ?_)
  rw [hw]
  clear hw
  obtain ⟨hP1, -, hD1⟩ := hB
  rw [ht] at hP1
  replace hD := hD1.weaken (fun _ _ _ h => hFc _ h)
  replace hP := hP1
  replace hS := hS2
  clear hP1 hD1 hS2 hFc hfc hz1 hk1 hvm ht
  refine lv_imul hx hb dX13_before_8 ?_
  refine lv_lshl (v := (((x0 : Int32).toInt64) <<< (((8 * r_2) : Int32).toInt64 &&& 63))) hx hb dX13_before_9 rfl ?_
  refine lv_lload_n hx hb dX13_before_10 rfl (lv_at hl 1 rfl) ?_
  refine lv_lor hx hb dX13_before_11 ?_
  obtain ⟨h8, h9⟩ := ret_some hf
  rw [h8, h9]
  exact W.lret (v := (((((x0 : Int32).toInt64) <<< (((8 * r_2) : Int32).toInt64 &&& 63))) ||| x1)) hx hb hr (fun t ht hW => ⟨⟨(((((x0 : Int32).toInt64) <<< (((8 * r_2) : Int32).toInt64 &&& 63))) ||| x1), (), rfl, rfl, by rw [ht]; exact hP, va_K.moved hW.alike hK, hD⟩, hS.F ht⟩) hS.2.2 dX13_before_12

theorem md_X5_lay_1 : (.fieldLink RX5 25 "ResourceLedger$Program" "bytes" "[B" : Cond) ∈ wsX5_lay := List.mem_of_getElem? (i := 1) rfl
theorem iwd_X5_lay_X5 : ∀ w ∈ wsX50, w ∈ wsX5_lay := fun _ h => List.mem_cons_of_mem _ (List.mem_append_right _ h)
theorem md_X5_lay_2 : (.fieldLink RX5 29 "ResourceLedger$Program" "length" "I" : Cond) ∈ wsX5_lay := List.mem_of_getElem? (i := 2) rfl
set_option maxHeartbeats 4000000 in
set_option maxRecDepth 100000 in
theorem de_X5_lay (l : Launch) (dC : Nat → ClassId) (dI : Nat → Nat → Nat) (cy : Nat → ClassId) (a : Nat → Nat) (sh : Nat → Nat × Nat) (n sz : Nat) (F : Nat) (sk : Nat → Nat) (z : St) (h0 : Nat) (x0 : Nat) {z8 : St} {r8 : Unit} (hf : fn_X5_lay F sh n z h0 x0 = some (z8, r8)) : Met l yX5_lay wsX5_lay ({ frames := 1, cells := 0, slots := 0, locals := 20 }) (va_Pc [.ref (a h0), .ref (a x0)] (fun U => U.heap.size = sz ∧ va_P (dC, dI) vwCl (Wd cy a sh n z) U.heap ∧ va_K (dC, dI) vwCl (TYS cy) U ∧ va_D (fun _ => True) (Wd cy a sh n z) ∧ NK U ∧ SKs sk (a CBK) (va_A (Wd cy a sh n z) sz) U U.heap)) (va_Qv (fun u : Unit => True) (fun u t => va_P (dC, dI) vwCl (Wd cy a sh n z8) t.heap ∧ va_K (dC, dI) vwCl (TYS cy) t ∧ va_D (va_A (Wd cy a sh n z) sz) (Wd cy a sh n z8)) (va_A (Wd cy a sh n z) sz)) 0 0 (va_A (Wd cy a sh n z) sz) := by
  refine Met.ofW (cc := cX5_lay) (maxL := 2) (ret := none) (by decide) rfl ?_
  intro p e s m args below meth c s₁ B hml hv
  obtain ⟨rfl, hsz, hP, hK, hD0, hN, hSK⟩ := hv
  have hx := B.exec
  have hb := B.bytes
  have hr := B.returns
  have hts := atoms_spec (ws := wsX5_lay) B.pre
  have hown : s.vm.findClass RX5 = some m.cls := findClass_of_methodNamed B.named
  have hlocks := B.notSynchronized
  subst hsz
  have hD := hD0.self (sz := s.heap.size)
  clear hD0
  generalize hAe : va_A (Wd cy a sh n z) s.heap.size = A at hD hSK ⊢
  have hA : ∀ q : Nat, s.heap.size ≤ q → A q := fun q h => by rw [← hAe]; exact Or.inr h
  clear hAe
  have hS : va_S A s.heap s.heap [] := va_S.rf
  have hl := lv_entry ([.ref (a h0), .ref (a x0)]) (n := 2) (Nat.le_of_ble_eq_true rfl)
  rw [lg_entry_eq]
  generalize (lg_sl ([.ref (a h0), .ref (a x0)]) ++ List.replicate (2 - (lg_sl ([.ref (a h0), .ref (a x0)])).length) Slot.unset).toArray = ls at hl ⊢
  replace hl : lv_has ls 2 [(0, .ref (a h0)), (1, .ref (a x0))] := hl
  unfold fn_X5_lay at hf
  refine de_start hS hP (fun H locs hS hP => ?_)
  refine lv_aload_n hx hb dX5_lay_0 rfl (lv_at hl 0 rfl) ?_
  refine lv_aload_n hx hb dX5_lay_1 rfl (lv_at hl 1 rfl) ?_
  obtain ⟨g_1, hf⟩ := grd_some hf
  obtain ⟨kg_1, sg_1⟩ := okO_at g_1
  refine va_put (D := (dC, dI)) (ci := 5) (v := .ref (a x0)) (ty := .array .byte) (C := RX5) (T := TX5) (N := 15) hx hb hts iwd_X5_lay_X5 tyX5 tyX5_ok nmX5 hown hK hP hD hS h0 (Wd_ob kg_1 sg_1 (by decide)) rfl 0 (by decide) (hts _ md_X5_lay_1) (fun _ h9 => h9) rfl (by decide +kernel) rfl rfl (by rw [fl_len]; decide) dX5_lay_2 (fun H_2 locs hP2 hD2 hS2 => ?_)
  rw [Wd_sq1 sg_1 (by decide) rfl] at hP2 hD2
  obtain ⟨z_3, ez_3⟩ : ∃ w, w = sq z h0 0 (some x0) := ⟨_, rfl⟩
  rw [← ez_3] at hP2 hD2
  replace hf := lt_at ez_3 hf
  clear ez_3
  replace hP := hP2
  replace hD := hD2
  replace hS := hS2
  clear hP2 hD2 hS2
  refine lv_aload_n hx hb dX5_lay_5 rfl (lv_at hl 0 rfl) ?_
  refine lv_aload_n hx hb dX5_lay_6 rfl (lv_at hl 1 rfl) ?_
  obtain ⟨v_4, ev_4, hf⟩ := bnd_some hf
  refine de_rlen hx hb hK hP hS hSK ev_4 dX5_lay_7 ?_
  refine va_put (D := (dC, dI)) (ci := 5) (v := .int v_4) (ty := .int) (C := RX5) (T := TX5) (N := 15) hx hb hts iwd_X5_lay_X5 tyX5 tyX5_ok nmX5 hown hK hP hD hS h0 (Wd_ob kg_1 sg_1 (by decide)) rfl 1 (by decide) (hts _ md_X5_lay_2) (fun _ h9 => h9) rfl (by decide +kernel) rfl rfl (by rw [fl_len]; decide) dX5_lay_8 (fun H_5 locs hP2 hD2 hS2 => ?_)
  rw [Wd_si sg_1 (by decide) rfl] at hP2 hD2
  obtain ⟨z_6, ez_6⟩ : ∃ w, w = si z_3 h0 1 v_4 := ⟨_, rfl⟩
  rw [← ez_6] at hP2 hD2
  replace hf := lt_at ez_6 hf
  clear ez_6
  replace hP := hP2
  replace hD := hD2
  replace hS := hS2
  clear hP2 hD2 hS2
  refine lv_aload_n hx hb dX5_lay_11 rfl (lv_at hl 0 rfl) ?_
  obtain ⟨z_7, _u, hfc, hf⟩ := cal_some hf
  have hFc := de_free hD hS hA
  refine va_callv (va_runV (As := []) (rest := []) ⟨hx, hb, hml, hown, hts⟩ (de_X5_clear l dC dI cy a sh n H_5.size F z_6 h0 hfc) (cwV 0 hts gX5_lay_X5_clear rfl rfl rfl (by decide +kernel) ⟨Nat.le_of_ble_eq_true rfl, Nat.le_of_ble_eq_true rfl⟩) ⟨fun a U g mk q => by obtain ⟨q0, q1, qP, qK, qD, qN⟩ := q; exact ⟨q0, q1, qP, va_K.moved (u := U) (U := U.calling g mk a) (Vm.Alike.refl U.vm) qK, qD, qN.same rfl⟩, va_recv hK hP (ci := 5) (q0 := h0) rfl (Wd_ob kg_1 sg_1 (by decide)), fun U hU hW => ⟨rfl, by rw [hU], by rw [hU]; exact hP, va_K.moved hW.alike hK, hD.weaken (fun _ _ _ _ => trivial), hN.warm hW⟩⟩ rfl rfl hl.1 rfl (lv_room (Nat.le_of_ble_eq_true rfl)) dX5_lay_12 ⟨Nat.le_of_ble_eq_true rfl, Nat.le_of_ble_eq_true rfl⟩) hS (fun q _ h => hFc q h) hFc (fun u t H_8 locs ht hvm hw hB hz1 hk1 hS2 => ?_)
  obtain ⟨hP1, -, hD1⟩ := hB
  rw [ht] at hP1
  replace hD := hD1.weaken (fun _ _ _ h => hFc _ h)
  replace hP := hP1
  replace hS := hS2
  clear hP1 hD1 hS2 hFc hfc hz1 hk1 hvm ht
  obtain ⟨h8, h9⟩ := ret_some hf
  rw [h8]
  exact W.vret hx hb hr (fun t ht hW => ⟨⟨(), rfl, trivial, by rw [ht]; exact hP, va_K.moved hW.alike hK, hD⟩, hS.F ht⟩) hS.2.2 dX5_lay_15

set_option maxHeartbeats 4000000 in
set_option maxRecDepth 100000 in
theorem de_X6_readShort (l : Launch) (dC : Nat → ClassId) (dI : Nat → Nat → Nat) (cy : Nat → ClassId) (a : Nat → Nat) (sh : Nat → Nat × Nat) (n sz : Nat) (F : Nat) (sk : Nat → Nat) (z : St) (h0 : Nat) {z8 : St} {r8 : Int32} (hf : fn_X6_readShort F sh n z h0 = some (z8, r8)) : Met l yX6_readShort wsX6_readShort ({ frames := 1, cells := 0, slots := 0, locals := 20 }) (va_Pc [.ref (a h0)] (fun U => U.heap.size = sz ∧ va_P (dC, dI) vwCl (Wd cy a sh n z) U.heap ∧ va_K (dC, dI) vwCl (TYS cy) U ∧ va_D (fun _ => True) (Wd cy a sh n z) ∧ NK U ∧ SKs sk (a CBK) (va_A (Wd cy a sh n z) sz) U U.heap)) (va_Qi (fun (r9 : Int32) (u : Unit) => r9 = r8) (fun u t => va_P (dC, dI) vwCl (Wd cy a sh n z8) t.heap ∧ va_K (dC, dI) vwCl (TYS cy) t ∧ va_D (va_A (Wd cy a sh n z) sz) (Wd cy a sh n z8)) (va_A (Wd cy a sh n z) sz)) 0 0 (va_A (Wd cy a sh n z) sz) := by
  refine Met.ofW (cc := cX6_readShort) (maxL := 2) (ret := (some .int)) (by decide) rfl ?_
  intro p e s m args below meth c s₁ B hml hv
  obtain ⟨rfl, hsz, hP, hK, hD0, hN, hSK⟩ := hv
  have hx := B.exec
  have hb := B.bytes
  have hr := B.returns
  have hts := atoms_spec (ws := wsX6_readShort) B.pre
  have hown : s.vm.findClass RX6 = some m.cls := findClass_of_methodNamed B.named
  have hlocks := B.notSynchronized
  subst hsz
  have hD := hD0.self (sz := s.heap.size)
  clear hD0
  generalize hAe : va_A (Wd cy a sh n z) s.heap.size = A at hD hSK ⊢
  have hA : ∀ q : Nat, s.heap.size ≤ q → A q := fun q h => by rw [← hAe]; exact Or.inr h
  clear hAe
  have hS : va_S A s.heap s.heap [] := va_S.rf
  have hl := lv_entry ([.ref (a h0)]) (n := 2) (Nat.le_of_ble_eq_true rfl)
  rw [lg_entry_eq]
  generalize (lg_sl ([.ref (a h0)]) ++ List.replicate (2 - (lg_sl ([.ref (a h0)])).length) Slot.unset).toArray = ls at hl ⊢
  replace hl : lv_has ls 2 [(0, .ref (a h0))] := hl
  unfold fn_X6_readShort at hf
  refine de_start hS hP (fun H locs hS hP => ?_)
  refine lv_aload_n hx hb dX6_readShort_0 rfl (lv_at hl 0 rfl) ?_
  obtain ⟨g_3, hf⟩ := grd_some hf
  obtain ⟨kg_3, sg_3⟩ := okO_at g_3
  obtain ⟨z_1, r_2, hfc, hf⟩ := cal_some hf
  have hFc := de_free hD hS hA
  refine va_calli (va_runV (As := []) (rest := []) ⟨hx, hb, hml, hown, hts⟩ (de_X6_readByte l dC dI cy a sh n H.size F sk z h0 hfc) (cwV 0 hts gX6_readShort_X6_readByte rfl rfl rfl (by decide +kernel) ⟨Nat.le_of_ble_eq_true rfl, Nat.le_of_ble_eq_true rfl⟩) ⟨fun a U g mk q => by obtain ⟨q0, q1, qP, qK, qD, qN, qS⟩ := q; exact ⟨q0, q1, qP, va_K.moved (u := U) (U := U.calling g mk a) (Vm.Alike.refl U.vm) qK, qD, qN.same rfl, SKs.moved (u := U) (U := U.calling g mk a) (Vm.Alike.refl U.vm) qS⟩, va_recv hK hP (ci := 6) (q0 := h0) rfl (Wd_ob kg_3 sg_3 (by decide)), fun U hU hW => ⟨rfl, by rw [hU], by rw [hU]; exact hP, va_K.moved hW.alike hK, hD.weaken (fun _ _ _ _ => trivial), hN.warm hW, by rw [hU]; exact ((hSK.kept hS.2.1).narrow hFc).moved hW.alike⟩⟩ rfl rfl hl.1 rfl (lv_room (Nat.le_of_ble_eq_true rfl)) dX6_readShort_1 ⟨Nat.le_of_ble_eq_true rfl, Nat.le_of_ble_eq_true rfl⟩) hS (fun q _ h => hFc q h) hFc (fun rr u t H_4 locs ht hvm hw hB hz1 hk1 hS2 => ?_)
  rw [hw]
  clear hw
  obtain ⟨hP1, -, hD1⟩ := hB
  rw [ht] at hP1
  replace hD := hD1.weaken (fun _ _ _ h => hFc _ h)
  replace hP := hP1
  replace hS := hS2
  clear hP1 hD1 hS2 hFc hfc hz1 hk1 hvm ht
  refine lv_istore_n (lv' := [(1, .int r_2), (0, .ref (a h0))]) hx hb dX6_readShort_4 rfl hl (by decide) rfl (fun ls hl2 => ?_)
  replace hl := hl2
  clear hl2
  refine lv_iload_n hx hb dX6_readShort_5 rfl (lv_at hl 0 rfl) ?_
  refine lv_bipush (v := 8) hx hb dX6_readShort_6 (by decide) ?_
  refine lv_ishl hx hb dX6_readShort_8 ?_
  refine lv_aload_n hx hb dX6_readShort_9 rfl (lv_at hl 1 rfl) ?_
  obtain ⟨z_5, r_6, hfc, hf⟩ := cal_some hf
  have hFc := de_free hD hS hA
  refine va_calli (va_runV (As := []) (rest := [.int (r_2 <<< (8 &&& 31))]) ⟨hx, hb, hml, hown, hts⟩ (de_X6_readByte l dC dI cy a sh n H_4.size F sk z_1 h0 hfc) (cwV 0 hts gX6_readShort_X6_readByte rfl rfl rfl (by decide +kernel) ⟨Nat.le_of_ble_eq_true rfl, Nat.le_of_ble_eq_true rfl⟩) ⟨fun a U g mk q => by obtain ⟨q0, q1, qP, qK, qD, qN, qS⟩ := q; exact ⟨q0, q1, qP, va_K.moved (u := U) (U := U.calling g mk a) (Vm.Alike.refl U.vm) qK, qD, qN.same rfl, SKs.moved (u := U) (U := U.calling g mk a) (Vm.Alike.refl U.vm) qS⟩, va_recv hK hP (ci := 6) (q0 := h0) rfl (Wd_ob kg_3 sg_3 (by decide)), fun U hU hW => ⟨rfl, by rw [hU], by rw [hU]; exact hP, va_K.moved hW.alike hK, hD.weaken (fun _ _ _ _ => trivial), hN.warm hW, by rw [hU]; exact ((hSK.kept hS.2.1).narrow hFc).moved hW.alike⟩⟩ rfl rfl hl.1 rfl (lv_room (Nat.le_of_ble_eq_true rfl)) dX6_readShort_10 ⟨Nat.le_of_ble_eq_true rfl, Nat.le_of_ble_eq_true rfl⟩) hS (fun q _ h => hFc q h) hFc (fun rr u t H_7 locs ht hvm hw hB hz1 hk1 hS2 => ?_)
  rw [hw]
  clear hw
  obtain ⟨hP1, -, hD1⟩ := hB
  rw [ht] at hP1
  replace hD := hD1.weaken (fun _ _ _ h => hFc _ h)
  replace hP := hP1
  replace hS := hS2
  clear hP1 hD1 hS2 hFc hfc hz1 hk1 hvm ht
  refine lv_ior hx hb dX6_readShort_13 ?_
  obtain ⟨h8, h9⟩ := ret_some hf
  rw [h8, h9]
  exact W.iret (v := ((r_2 <<< (8 &&& 31)) ||| r_6)) hx hb hr (fun t ht hW => ⟨⟨((r_2 <<< (8 &&& 31)) ||| r_6), (), rfl, rfl, by rw [ht]; exact hP, va_K.moved hW.alike hK, hD⟩, hS.F ht⟩) hS.2.2 dX6_readShort_14

theorem md_X18_code_1 : (.fieldLink RX18 584 "ResourceLedgerModel" "codes" "[J" : Cond) ∈ wsX18_code := List.mem_of_getElem? (i := 1) rfl
theorem iwd_X18_code_X18 : ∀ w ∈ wsX180, w ∈ wsX18_code := fun _ h => List.mem_cons_of_mem _ (List.mem_append_right _ h)
set_option maxHeartbeats 4000000 in
set_option maxRecDepth 100000 in
theorem de_X18_code (l : Launch) (dC : Nat → ClassId) (dI : Nat → Nat → Nat) (cy : Nat → ClassId) (a : Nat → Nat) (sh : Nat → Nat × Nat) (n sz : Nat) (F : Nat) (z : St) (h0 : Nat) (x0 : Int32) {z8 : St} {r8 : Int64} (hf : fn_X18_code F sh n z h0 x0 = some (z8, r8)) : Met l yX18_code wsX18_code ({ frames := 1, cells := 0, slots := 0, locals := 21 }) (va_Pc [.ref (a h0), .int x0] (fun U => U.heap.size = sz ∧ va_P (dC, dI) vwCl (Wd cy a sh n z) U.heap ∧ va_K (dC, dI) vwCl (TYS cy) U ∧ va_D (fun _ => True) (Wd cy a sh n z) ∧ NK U)) (va_Ql (fun (r9 : Int64) (u : Unit) => r9 = r8) (fun u t => va_P (dC, dI) vwCl (Wd cy a sh n z8) t.heap ∧ va_K (dC, dI) vwCl (TYS cy) t ∧ va_D (va_A (Wd cy a sh n z) sz) (Wd cy a sh n z8)) (va_A (Wd cy a sh n z) sz)) 0 0 (va_A (Wd cy a sh n z) sz) := by
  refine Met.ofW (cc := cX18_code) (maxL := 2) (ret := (some .long)) (by decide) rfl ?_
  intro p e s m args below meth c s₁ B hml hv
  obtain ⟨rfl, hsz, hP, hK, hD0, hN⟩ := hv
  have hx := B.exec
  have hb := B.bytes
  have hr := B.returns
  have hts := atoms_spec (ws := wsX18_code) B.pre
  have hown : s.vm.findClass RX18 = some m.cls := findClass_of_methodNamed B.named
  have hlocks := B.notSynchronized
  subst hsz
  have hD := hD0.self (sz := s.heap.size)
  clear hD0
  generalize hAe : va_A (Wd cy a sh n z) s.heap.size = A at hD ⊢
  have hA : ∀ q : Nat, s.heap.size ≤ q → A q := fun q h => by rw [← hAe]; exact Or.inr h
  clear hAe
  have hS : va_S A s.heap s.heap [] := va_S.rf
  have hl := lv_entry ([.ref (a h0), .int x0]) (n := 2) (Nat.le_of_ble_eq_true rfl)
  rw [lg_entry_eq]
  generalize (lg_sl ([.ref (a h0), .int x0]) ++ List.replicate (2 - (lg_sl ([.ref (a h0), .int x0])).length) Slot.unset).toArray = ls at hl ⊢
  replace hl : lv_has ls 2 [(0, .ref (a h0)), (1, .int x0)] := hl
  unfold fn_X18_code at hf
  refine de_start hS hP (fun H locs hS hP => ?_)
  refine lv_aload_n hx hb dX18_code_0 rfl (lv_at hl 0 rfl) ?_
  refine lv_iload_n hx hb dX18_code_1 rfl (lv_at hl 1 rfl) ?_
  obtain ⟨g_3, hf⟩ := grd_some hf
  obtain ⟨kg_3, sg_3⟩ := okO_at g_3
  obtain ⟨z_1, r_2, hfc, hf⟩ := cal_some hf
  have hFc := de_free hD hS hA
  refine va_calli (va_runV (As := [.int x0]) (rest := []) ⟨hx, hb, hml, hown, hts⟩ (de_X18_isDone l dC dI cy a sh n H.size F z h0 x0 hfc) (cwV 1 hts gX18_code_X18_isDone rfl rfl rfl (by decide +kernel) ⟨Nat.le_of_ble_eq_true rfl, Nat.le_of_ble_eq_true rfl⟩) ⟨fun a U g mk q => by obtain ⟨q0, q1, qP, qK, qD, qN⟩ := q; exact ⟨q0, q1, qP, va_K.moved (u := U) (U := U.calling g mk a) (Vm.Alike.refl U.vm) qK, qD, qN.same rfl⟩, va_recv hK hP (ci := 18) (q0 := h0) rfl (Wd_ob kg_3 sg_3 (by decide)), fun U hU hW => ⟨rfl, by rw [hU], by rw [hU]; exact hP, va_K.moved hW.alike hK, hD.weaken (fun _ _ _ _ => trivial), hN.warm hW⟩⟩ rfl rfl hl.1 rfl (lv_room (Nat.le_of_ble_eq_true rfl)) dX18_code_2 ⟨Nat.le_of_ble_eq_true rfl, Nat.le_of_ble_eq_true rfl⟩) hS (fun q _ h => hFc q h) hFc (fun rr u t H_4 locs ht hvm hw hB hz1 hk1 hS2 => ?_)
  rw [hw]
  clear hw
  obtain ⟨hP1, -, hD1⟩ := hB
  rw [ht] at hP1
  replace hD := hD1.weaken (fun _ _ _ h => hFc _ h)
  replace hP := hP1
  replace hS := hS2
  clear hP1 hD1 hS2 hFc hfc hz1 hk1 hvm ht
  refine lv_if_eq (tgt := 17) hx hb dX18_code_5 (by decide) (fun c_5 => ?_) (fun c_5 => ?_)
  · skip
    rw [if_pos c_5] at hf
    refine lv_lconst (v := 0) hx hb dX18_code_17 (by decide) ?_
    obtain ⟨h8, h9⟩ := ret_some hf
    rw [h8, h9]
    exact W.lret (v := 0) hx hb hr (fun t ht hW => ⟨⟨0, (), rfl, rfl, by rw [ht]; exact hP, va_K.moved hW.alike hK, hD⟩, hS.F ht⟩) hS.2.2 dX18_code_18
  · skip
    rw [if_neg c_5] at hf
    refine lv_aload_n hx hb dX18_code_8 rfl (lv_at hl 0 rfl) ?_
    obtain ⟨k_6, ek_6, hf⟩ := lnk_some hf
    refine va_get (D := (dC, dI)) (ci := 18) (v := .ref (a k_6)) (C := RX18) (T := TX18) (N := 78) hx hb hts iwd_X18_code_X18 hown hK hP h0 (Wd_ob kg_3 sg_3 (by decide)) rfl 69 (by decide) (hts _ md_X18_code_1) (fun _ h9 => h9) (fl_q rfl ek_6) dX18_code_9 ?_
    refine lv_iload_n hx hb dX18_code_12 rfl (lv_at hl 1 rfl) ?_
    obtain ⟨g_7, hf⟩ := grd_some hf
    obtain ⟨kg_7, sg_7, ig_7⟩ := okA_at g_7
    refine va_lald hx hb hK hP k_6 2 (Wd_al kg_7 sg_7) rfl ig_7 dX18_code_13 ?_
    refine lv_goto (tgt := 18) hx hb dX18_code_14 (by decide) ?_
    obtain ⟨h8, h9⟩ := ret_some hf
    rw [h8, h9]
    exact W.lret (v := (z_1.2.1 k_6 x0.toNatClampNeg)) hx hb hr (fun t ht hW => ⟨⟨(z_1.2.1 k_6 x0.toNatClampNeg), (), rfl, rfl, by rw [ht]; exact hP, va_K.moved hW.alike hK, hD⟩, hS.F ht⟩) hS.2.2 dX18_code_18

theorem md_X18_slip_1 : (.fieldLink RX18 322 "ResourceLedgerModel" "slips" "I" : Cond) ∈ wsX18_slip := List.mem_of_getElem? (i := 1) rfl
theorem iwd_X18_slip_X18 : ∀ w ∈ wsX180, w ∈ wsX18_slip := fun _ h => List.mem_cons_of_mem _ (List.mem_append_right _ h)
set_option maxHeartbeats 4000000 in
set_option maxRecDepth 100000 in
theorem de_X18_slip (l : Launch) (dC : Nat → ClassId) (dI : Nat → Nat → Nat) (cy : Nat → ClassId) (a : Nat → Nat) (sh : Nat → Nat × Nat) (n sz : Nat) (F : Nat) (z : St) (h0 : Nat) {z8 : St} {r8 : Unit} (hf : fn_X18_slip F sh n z h0 = some (z8, r8)) : Met l yX18_slip wsX18_slip ({ frames := 1, cells := 0, slots := 0, locals := 23 }) (va_Pc [.ref (a h0)] (fun U => U.heap.size = sz ∧ va_P (dC, dI) vwCl (Wd cy a sh n z) U.heap ∧ va_K (dC, dI) vwCl (TYS cy) U ∧ va_D (fun _ => True) (Wd cy a sh n z) ∧ NK U)) (va_Qv (fun u : Unit => True) (fun u t => va_P (dC, dI) vwCl (Wd cy a sh n z8) t.heap ∧ va_K (dC, dI) vwCl (TYS cy) t ∧ va_D (va_A (Wd cy a sh n z) sz) (Wd cy a sh n z8)) (va_A (Wd cy a sh n z) sz)) 0 0 (va_A (Wd cy a sh n z) sz) := by
  refine Met.ofW (cc := cX18_slip) (maxL := 1) (ret := none) (by decide) rfl ?_
  intro p e s m args below meth c s₁ B hml hv
  obtain ⟨rfl, hsz, hP, hK, hD0, hN⟩ := hv
  have hx := B.exec
  have hb := B.bytes
  have hr := B.returns
  have hts := atoms_spec (ws := wsX18_slip) B.pre
  have hown : s.vm.findClass RX18 = some m.cls := findClass_of_methodNamed B.named
  have hlocks := B.notSynchronized
  subst hsz
  have hD := hD0.self (sz := s.heap.size)
  clear hD0
  generalize hAe : va_A (Wd cy a sh n z) s.heap.size = A at hD ⊢
  have hA : ∀ q : Nat, s.heap.size ≤ q → A q := fun q h => by rw [← hAe]; exact Or.inr h
  clear hAe
  have hS : va_S A s.heap s.heap [] := va_S.rf
  have hl := lv_entry ([.ref (a h0)]) (n := 1) (Nat.le_of_ble_eq_true rfl)
  rw [lg_entry_eq]
  generalize (lg_sl ([.ref (a h0)]) ++ List.replicate (1 - (lg_sl ([.ref (a h0)])).length) Slot.unset).toArray = ls at hl ⊢
  replace hl : lv_has ls 1 [(0, .ref (a h0))] := hl
  unfold fn_X18_slip at hf
  refine de_start hS hP (fun H locs hS hP => ?_)
  refine lv_aload_n hx hb dX18_slip_0 rfl (lv_at hl 0 rfl) ?_
  refine lv_dup hx hb dX18_slip_1 rfl ?_
  obtain ⟨g_1, hf⟩ := grd_some hf
  obtain ⟨kg_1, sg_1⟩ := okO_at g_1
  refine va_get (D := (dC, dI)) (ci := 18) (v := .int (z.1 h0 22)) (C := RX18) (T := TX18) (N := 78) hx hb hts iwd_X18_slip_X18 hown hK hP h0 (Wd_ob kg_1 sg_1 (by decide)) rfl 22 (by decide) (hts _ md_X18_slip_1) (fun _ h9 => h9) (fl_at (t := 0) rfl) dX18_slip_2 ?_
  refine lv_iconst (v := 1) hx hb dX18_slip_5 (by decide) ?_
  refine lv_iadd hx hb dX18_slip_6 ?_
  refine va_put (D := (dC, dI)) (ci := 18) (v := .int ((z.1 h0 22) + 1)) (ty := .int) (C := RX18) (T := TX18) (N := 78) hx hb hts iwd_X18_slip_X18 tyX18 tyX18_ok nmX18 hown hK hP hD hS h0 (Wd_ob kg_1 sg_1 (by decide)) rfl 22 (by decide) (hts _ md_X18_slip_1) (fun _ h9 => h9) rfl (by decide +kernel) rfl rfl (by rw [fl_len]; decide) dX18_slip_7 (fun H_2 locs hP2 hD2 hS2 => ?_)
  rw [Wd_si sg_1 (by decide) rfl] at hP2 hD2
  obtain ⟨z_3, ez_3⟩ : ∃ w, w = si z h0 22 ((z.1 h0 22) + 1) := ⟨_, rfl⟩
  rw [← ez_3] at hP2 hD2
  replace hf := lt_at ez_3 hf
  clear ez_3
  replace hP := hP2
  replace hD := hD2
  replace hS := hS2
  clear hP2 hD2 hS2
  refine lv_aload_n hx hb dX18_slip_10 rfl (lv_at hl 0 rfl) ?_
  refine lv_iconst (v := 2) hx hb dX18_slip_11 (by decide) ?_
  refine lv_lconst (v := 0) hx hb dX18_slip_12 (by decide) ?_
  obtain ⟨z_4, _u, hfc, hf⟩ := cal_some hf
  have hFc := de_free hD hS hA
  refine va_callv (va_runV (As := [.int 2, .long 0]) (rest := []) ⟨hx, hb, hml, hown, hts⟩ (de_X18_end l dC dI cy a sh n H_2.size F z_3 h0 2 0 hfc) (cwV 2 hts gX18_slip_X18_end rfl rfl rfl (by decide +kernel) ⟨Nat.le_of_ble_eq_true rfl, Nat.le_of_ble_eq_true rfl⟩) ⟨fun a U g mk q => by obtain ⟨q0, q1, qP, qK, qD, qN⟩ := q; exact ⟨q0, q1, qP, va_K.moved (u := U) (U := U.calling g mk a) (Vm.Alike.refl U.vm) qK, qD, qN.same rfl⟩, va_recv hK hP (ci := 18) (q0 := h0) rfl (Wd_ob kg_1 sg_1 (by decide)), fun U hU hW => ⟨rfl, by rw [hU], by rw [hU]; exact hP, va_K.moved hW.alike hK, hD.weaken (fun _ _ _ _ => trivial), hN.warm hW⟩⟩ rfl rfl hl.1 rfl (lv_room (Nat.le_of_ble_eq_true rfl)) dX18_slip_13 ⟨Nat.le_of_ble_eq_true rfl, Nat.le_of_ble_eq_true rfl⟩) hS (fun q _ h => hFc q h) hFc (fun u t H_5 locs ht hvm hw hB hz1 hk1 hS2 => ?_)
  obtain ⟨hP1, -, hD1⟩ := hB
  rw [ht] at hP1
  replace hD := hD1.weaken (fun _ _ _ h => hFc _ h)
  replace hP := hP1
  replace hS := hS2
  clear hP1 hD1 hS2 hFc hfc hz1 hk1 hvm ht
  obtain ⟨h8, h9⟩ := ret_some hf
  rw [h8]
  exact W.vret hx hb hr (fun t ht hW => ⟨⟨(), rfl, trivial, by rw [ht]; exact hP, va_K.moved hW.alike hK, hD⟩, hS.F ht⟩) hS.2.2 dX18_slip_16

set_option maxHeartbeats 4000000 in
set_option maxRecDepth 100000 in
theorem de_X13_writes (l : Launch) (dC : Nat → ClassId) (dI : Nat → Nat → Nat) (cy : Nat → ClassId) (a : Nat → Nat) (sh : Nat → Nat × Nat) (n sz : Nat) (F : Nat) (z : St) (x0 : Int64) {z8 : St} {r8 : Int32} (hf : fn_X13_writes F sh n z x0 = some (z8, r8)) : Met l yX13_writes wsX13_writes ({ frames := 1, cells := 0, slots := 0, locals := 22 }) (va_Pc [.long x0] (fun U => U.heap.size = sz ∧ va_P (dC, dI) vwCl (Wd cy a sh n z) U.heap ∧ va_K (dC, dI) vwCl (TYS cy) U ∧ va_D (fun _ => True) (Wd cy a sh n z) ∧ NK U)) (va_Qi (fun (r9 : Int32) (u : Unit) => r9 = r8) (fun u t => va_P (dC, dI) vwCl (Wd cy a sh n z8) t.heap ∧ va_K (dC, dI) vwCl (TYS cy) t ∧ va_D (va_A (Wd cy a sh n z) sz) (Wd cy a sh n z8)) (va_A (Wd cy a sh n z) sz)) 0 0 (va_A (Wd cy a sh n z) sz) := by
  refine Met.ofW (cc := cX13_writes) (maxL := 2) (ret := (some .boolean)) (by decide) rfl ?_
  intro p e s m args below meth c s₁ B hml hv
  obtain ⟨rfl, hsz, hP, hK, hD0, hN⟩ := hv
  have hx := B.exec
  have hb := B.bytes
  have hr := B.returns
  have hts := atoms_spec (ws := wsX13_writes) B.pre
  have hown : s.vm.findClass RX13 = some m.cls := findClass_of_methodNamed B.named
  have hlocks := B.notSynchronized
  subst hsz
  have hD := hD0.self (sz := s.heap.size)
  clear hD0
  generalize hAe : va_A (Wd cy a sh n z) s.heap.size = A at hD ⊢
  have hA : ∀ q : Nat, s.heap.size ≤ q → A q := fun q h => by rw [← hAe]; exact Or.inr h
  clear hAe
  have hS : va_S A s.heap s.heap [] := va_S.rf
  have hl := lv_entry ([.long x0]) (n := 2) (Nat.le_of_ble_eq_true rfl)
  rw [lg_entry_eq]
  generalize (lg_sl ([.long x0]) ++ List.replicate (2 - (lg_sl ([.long x0])).length) Slot.unset).toArray = ls at hl ⊢
  replace hl : lv_has ls 2 [(0, .long x0)] := hl
  unfold fn_X13_writes at hf
  refine de_start hS hP (fun H locs hS hP => ?_)
  refine lv_lload_n hx hb dX13_writes_0 rfl (lv_at hl 0 rfl) ?_
  refine lv_lload_n hx hb dX13_writes_1 rfl (lv_at hl 0 rfl) ?_
  obtain ⟨z_1, r_2, hfc, hf⟩ := cal_some hf
  have hFc := de_free hD hS hA
  refine va_calli (va_runS (As := [.long x0]) (rest := [.long x0]) ⟨hx, hb, hml, hown, hts⟩ (de_X13_bytesOf l dC dI cy a sh n H.size F z x0 hfc) (va_cwS 1 hts gX13_writes_X13_bytesOf rfl rfl rfl (by decide +kernel) ⟨Nat.le_of_ble_eq_true rfl, Nat.le_of_ble_eq_true rfl⟩) ⟨fun a U g mk q => by obtain ⟨q0, q1, qP, qK, qD, qN⟩ := q; exact ⟨q0, q1, qP, va_K.moved (u := U) (U := U.calling g mk a) (Vm.Alike.refl U.vm) qK, qD, qN.same rfl⟩, fun U hU hW => ⟨rfl, by rw [hU], by rw [hU]; exact hP, va_K.moved hW.alike hK, hD.weaken (fun _ _ _ _ => trivial), hN.warm hW⟩⟩ rfl rfl hl.1 rfl (lv_room (Nat.le_of_ble_eq_true rfl)) dX13_writes_2 ⟨Nat.le_of_ble_eq_true rfl, Nat.le_of_ble_eq_true rfl⟩) hS (fun q _ h => hFc q h) hFc (fun rr u t H_3 locs ht hvm hw hB hz1 hk1 hS2 => ?_)
  rw [hw]
  clear hw
  obtain ⟨hP1, -, hD1⟩ := hB
  rw [ht] at hP1
  replace hD := hD1.weaken (fun _ _ _ h => hFc _ h)
  replace hP := hP1
  replace hS := hS2
  clear hP1 hD1 hS2 hFc hfc hz1 hk1 hvm ht
  refine lv_iconst (v := 1) hx hb dX13_writes_5 (by decide) ?_
  refine lv_isub hx hb dX13_writes_6 ?_
  obtain ⟨z_4, r_5, hfc, hf⟩ := cal_some hf
  have hFc := de_free hD hS hA
  refine va_calli (va_runS (As := [.long x0, .int (r_2 - 1)]) (rest := []) ⟨hx, hb, hml, hown, hts⟩ (de_X13_byteOf l dC dI cy a sh n H_3.size F z_1 x0 (r_2 - 1) hfc) (va_cwS 2 hts gX13_writes_X13_byteOf rfl rfl rfl (by decide +kernel) ⟨Nat.le_of_ble_eq_true rfl, Nat.le_of_ble_eq_true rfl⟩) ⟨fun a U g mk q => by obtain ⟨q0, q1, qP, qK, qD, qN⟩ := q; exact ⟨q0, q1, qP, va_K.moved (u := U) (U := U.calling g mk a) (Vm.Alike.refl U.vm) qK, qD, qN.same rfl⟩, fun U hU hW => ⟨rfl, by rw [hU], by rw [hU]; exact hP, va_K.moved hW.alike hK, hD.weaken (fun _ _ _ _ => trivial), hN.warm hW⟩⟩ rfl rfl hl.1 rfl (lv_room (Nat.le_of_ble_eq_true rfl)) dX13_writes_7 ⟨Nat.le_of_ble_eq_true rfl, Nat.le_of_ble_eq_true rfl⟩) hS (fun q _ h => hFc q h) hFc (fun rr u t H_6 locs ht hvm hw hB hz1 hk1 hS2 => ?_)
  rw [hw]
  clear hw
  obtain ⟨hP1, -, hD1⟩ := hB
  rw [ht] at hP1
  replace hD := hD1.weaken (fun _ _ _ h => hFc _ h)
  replace hP := hP1
  replace hS := hS2
  clear hP1 hD1 hS2 hFc hfc hz1 hk1 hvm ht
  refine lv_bipush (v := 9) hx hb dX13_writes_10 (by decide) ?_
  refine lv_icmp_ne (tgt := 19) hx hb dX13_writes_12 (by decide) (fun c_7 => ?_) (fun c_7 => ?_)
  · skip
    rw [if_neg c_7] at hf
    refine lv_iconst (v := 0) hx hb dX13_writes_19 (by decide) ?_
    obtain ⟨h8, h9⟩ := ret_some hf
    rw [h8, h9]
    exact W.zret (v := 0) hx hb hr rfl (fun t ht hW => ⟨⟨0, (), rfl, rfl, by rw [ht]; exact hP, va_K.moved hW.alike hK, hD⟩, hS.F ht⟩) hS.2.2 dX13_writes_20
  · skip
    rw [if_pos c_7] at hf
    refine lv_iconst (v := 1) hx hb dX13_writes_15 (by decide) ?_
    refine lv_goto (tgt := 20) hx hb dX13_writes_16 (by decide) ?_
    obtain ⟨h8, h9⟩ := ret_some hf
    rw [h8, h9]
    exact W.zret (v := 1) hx hb hr rfl (fun t ht hW => ⟨⟨1, (), rfl, rfl, by rw [ht]; exact hP, va_K.moved hW.alike hK, hD⟩, hS.F ht⟩) hS.2.2 dX13_writes_20

theorem md_X16_foreignNumber_1 : (.fieldLink RX16 17 "ResourceLedgerModel$Unit" "calleeAt" "[I" : Cond) ∈ wsX16_foreignNumber := List.mem_of_getElem? (i := 1) rfl
theorem iwd_X16_foreignNumber_X16 : ∀ w ∈ wsX160, w ∈ wsX16_foreignNumber := fun _ h => List.mem_cons_of_mem _ (List.mem_append_right _ h)
theorem md_X16_foreignNumber_2 : (.fieldLink RX16 104 "ResourceLedgerModel$Unit" "functions" "I" : Cond) ∈ wsX16_foreignNumber := List.mem_of_getElem? (i := 2) rfl
set_option maxHeartbeats 4000000 in
set_option maxRecDepth 100000 in
theorem de_X16_foreignNumber (l : Launch) (dC : Nat → ClassId) (dI : Nat → Nat → Nat) (cy : Nat → ClassId) (a : Nat → Nat) (sh : Nat → Nat × Nat) (n sz : Nat) (F : Nat) (z : St) (h0 : Nat) (x0 : Int32) {z8 : St} {r8 : Int32} (hf : fn_X16_foreignNumber F sh n z h0 x0 = some (z8, r8)) : Met l yX16_foreignNumber wsX16_foreignNumber ({ frames := 1, cells := 0, slots := 0, locals := 21 }) (va_Pc [.ref (a h0), .int x0] (fun U => U.heap.size = sz ∧ va_P (dC, dI) vwCl (Wd cy a sh n z) U.heap ∧ va_K (dC, dI) vwCl (TYS cy) U ∧ va_D (fun _ => True) (Wd cy a sh n z) ∧ NK U)) (va_Qi (fun (r9 : Int32) (u : Unit) => r9 = r8) (fun u t => va_P (dC, dI) vwCl (Wd cy a sh n z8) t.heap ∧ va_K (dC, dI) vwCl (TYS cy) t ∧ va_D (va_A (Wd cy a sh n z) sz) (Wd cy a sh n z8)) (va_A (Wd cy a sh n z) sz)) 0 0 (va_A (Wd cy a sh n z) sz) := by
  refine Met.ofW (cc := cX16_foreignNumber) (maxL := 2) (ret := (some .int)) (by decide) rfl ?_
  intro p e s m args below meth c s₁ B hml hv
  obtain ⟨rfl, hsz, hP, hK, hD0, hN⟩ := hv
  have hx := B.exec
  have hb := B.bytes
  have hr := B.returns
  have hts := atoms_spec (ws := wsX16_foreignNumber) B.pre
  have hown : s.vm.findClass RX16 = some m.cls := findClass_of_methodNamed B.named
  have hlocks := B.notSynchronized
  subst hsz
  have hD := hD0.self (sz := s.heap.size)
  clear hD0
  generalize hAe : va_A (Wd cy a sh n z) s.heap.size = A at hD ⊢
  have hA : ∀ q : Nat, s.heap.size ≤ q → A q := fun q h => by rw [← hAe]; exact Or.inr h
  clear hAe
  have hS : va_S A s.heap s.heap [] := va_S.rf
  have hl := lv_entry ([.ref (a h0), .int x0]) (n := 2) (Nat.le_of_ble_eq_true rfl)
  rw [lg_entry_eq]
  generalize (lg_sl ([.ref (a h0), .int x0]) ++ List.replicate (2 - (lg_sl ([.ref (a h0), .int x0])).length) Slot.unset).toArray = ls at hl ⊢
  replace hl : lv_has ls 2 [(0, .ref (a h0)), (1, .int x0)] := hl
  unfold fn_X16_foreignNumber at hf
  refine de_start hS hP (fun H locs hS hP => ?_)
  refine lv_aload_n hx hb dX16_foreignNumber_0 rfl (lv_at hl 0 rfl) ?_
  refine lv_aload_n hx hb dX16_foreignNumber_1 rfl (lv_at hl 0 rfl) ?_
  obtain ⟨g_1, hf⟩ := grd_some hf
  obtain ⟨kg_1, sg_1⟩ := okO_at g_1
  obtain ⟨k_2, ek_2, hf⟩ := lnk_some hf
  refine va_get (D := (dC, dI)) (ci := 16) (v := .ref (a k_2)) (C := RX16) (T := TX16) (N := 18) hx hb hts iwd_X16_foreignNumber_X16 hown hK hP h0 (Wd_ob kg_1 sg_1 (by decide)) rfl 12 (by decide) (hts _ md_X16_foreignNumber_1) (fun _ h9 => h9) (fl_q rfl ek_2) dX16_foreignNumber_2 ?_
  refine lv_iload_n hx hb dX16_foreignNumber_5 rfl (lv_at hl 1 rfl) ?_
  refine lv_aload_n hx hb dX16_foreignNumber_6 rfl (lv_at hl 0 rfl) ?_
  refine va_get (D := (dC, dI)) (ci := 16) (v := .int (z.1 h0 9)) (C := RX16) (T := TX16) (N := 18) hx hb hts iwd_X16_foreignNumber_X16 hown hK hP h0 (Wd_ob kg_1 sg_1 (by decide)) rfl 9 (by decide) (hts _ md_X16_foreignNumber_2) (fun _ h9 => h9) (fl_at (t := 0) rfl) dX16_foreignNumber_7 ?_
  refine lv_isub hx hb dX16_foreignNumber_10 ?_
  obtain ⟨g_3, hf⟩ := grd_some hf
  obtain ⟨kg_3, sg_3, ig_3⟩ := okA_at g_3
  refine va_iald hx hb hK hP k_2 1 (Wd_ai kg_3 sg_3) rfl ig_3 dX16_foreignNumber_11 ?_
  refine lv_iconst (v := 2) hx hb dX16_foreignNumber_12 (by decide) ?_
  refine lv_iadd hx hb dX16_foreignNumber_13 ?_
  obtain ⟨z_4, r_5, hfc, hf⟩ := cal_some hf
  have hFc := de_free hD hS hA
  refine va_calli (va_runV (As := [.int ((z.1 k_2 (x0 - (z.1 h0 9)).toNatClampNeg) + 2)]) (rest := []) ⟨hx, hb, hml, hown, hts⟩ (de_X16_byteAt l dC dI cy a sh n H.size F z h0 ((z.1 k_2 (x0 - (z.1 h0 9)).toNatClampNeg) + 2) hfc) (cwV 1 hts gX16_foreignNumber_X16_byteAt rfl rfl rfl (by decide +kernel) ⟨Nat.le_of_ble_eq_true rfl, Nat.le_of_ble_eq_true rfl⟩) ⟨fun a U g mk q => by obtain ⟨q0, q1, qP, qK, qD, qN⟩ := q; exact ⟨q0, q1, qP, va_K.moved (u := U) (U := U.calling g mk a) (Vm.Alike.refl U.vm) qK, qD, qN.same rfl⟩, va_recv hK hP (ci := 16) (q0 := h0) rfl (Wd_ob kg_1 sg_1 (by decide)), fun U hU hW => ⟨rfl, by rw [hU], by rw [hU]; exact hP, va_K.moved hW.alike hK, hD.weaken (fun _ _ _ _ => trivial), hN.warm hW⟩⟩ rfl rfl hl.1 rfl (lv_room (Nat.le_of_ble_eq_true rfl)) dX16_foreignNumber_14 ⟨Nat.le_of_ble_eq_true rfl, Nat.le_of_ble_eq_true rfl⟩) hS (fun q _ h => hFc q h) hFc (fun rr u t H_6 locs ht hvm hw hB hz1 hk1 hS2 => ?_)
  rw [hw]
  clear hw
  obtain ⟨hP1, -, hD1⟩ := hB
  rw [ht] at hP1
  replace hD := hD1.weaken (fun _ _ _ h => hFc _ h)
  replace hP := hP1
  replace hS := hS2
  clear hP1 hD1 hS2 hFc hfc hz1 hk1 hvm ht
  obtain ⟨h8, h9⟩ := ret_some hf
  rw [h8, h9]
  exact W.iret (v := r_5) hx hb hr (fun t ht hW => ⟨⟨r_5, (), rfl, rfl, by rw [ht]; exact hP, va_K.moved hW.alike hK, hD⟩, hS.F ht⟩) hS.2.2 dX16_foreignNumber_17

theorem md_X16_operation_1 : (.fieldLink RX16 29 "ResourceLedgerModel$Unit" "instructionAt" "[I" : Cond) ∈ wsX16_operation := List.mem_of_getElem? (i := 1) rfl
theorem iwd_X16_operation_X16 : ∀ w ∈ wsX160, w ∈ wsX16_operation := fun _ h => List.mem_cons_of_mem _ (List.mem_append_right _ h)
theorem md_X16_operation_2 : (.fieldLink RX16 26 "ResourceLedgerModel$Unit" "firsts" "[I" : Cond) ∈ wsX16_operation := List.mem_of_getElem? (i := 2) rfl
set_option maxHeartbeats 4000000 in
set_option maxRecDepth 100000 in
theorem de_X16_operation (l : Launch) (dC : Nat → ClassId) (dI : Nat → Nat → Nat) (cy : Nat → ClassId) (a : Nat → Nat) (sh : Nat → Nat × Nat) (n sz : Nat) (F : Nat) (z : St) (h0 : Nat) (x0 : Int32) (x1 : Int32) {z8 : St} {r8 : Int32} (hf : fn_X16_operation F sh n z h0 x0 x1 = some (z8, r8)) : Met l yX16_operation wsX16_operation ({ frames := 1, cells := 0, slots := 0, locals := 21 }) (va_Pc [.ref (a h0), .int x0, .int x1] (fun U => U.heap.size = sz ∧ va_P (dC, dI) vwCl (Wd cy a sh n z) U.heap ∧ va_K (dC, dI) vwCl (TYS cy) U ∧ va_D (fun _ => True) (Wd cy a sh n z) ∧ NK U)) (va_Qi (fun (r9 : Int32) (u : Unit) => r9 = r8) (fun u t => va_P (dC, dI) vwCl (Wd cy a sh n z8) t.heap ∧ va_K (dC, dI) vwCl (TYS cy) t ∧ va_D (va_A (Wd cy a sh n z) sz) (Wd cy a sh n z8)) (va_A (Wd cy a sh n z) sz)) 0 0 (va_A (Wd cy a sh n z) sz) := by
  refine Met.ofW (cc := cX16_operation) (maxL := 3) (ret := (some .int)) (by decide) rfl ?_
  intro p e s m args below meth c s₁ B hml hv
  obtain ⟨rfl, hsz, hP, hK, hD0, hN⟩ := hv
  have hx := B.exec
  have hb := B.bytes
  have hr := B.returns
  have hts := atoms_spec (ws := wsX16_operation) B.pre
  have hown : s.vm.findClass RX16 = some m.cls := findClass_of_methodNamed B.named
  have hlocks := B.notSynchronized
  subst hsz
  have hD := hD0.self (sz := s.heap.size)
  clear hD0
  generalize hAe : va_A (Wd cy a sh n z) s.heap.size = A at hD ⊢
  have hA : ∀ q : Nat, s.heap.size ≤ q → A q := fun q h => by rw [← hAe]; exact Or.inr h
  clear hAe
  have hS : va_S A s.heap s.heap [] := va_S.rf
  have hl := lv_entry ([.ref (a h0), .int x0, .int x1]) (n := 3) (Nat.le_of_ble_eq_true rfl)
  rw [lg_entry_eq]
  generalize (lg_sl ([.ref (a h0), .int x0, .int x1]) ++ List.replicate (3 - (lg_sl ([.ref (a h0), .int x0, .int x1])).length) Slot.unset).toArray = ls at hl ⊢
  replace hl : lv_has ls 3 [(0, .ref (a h0)), (1, .int x0), (2, .int x1)] := hl
  unfold fn_X16_operation at hf
  refine de_start hS hP (fun H locs hS hP => ?_)
  refine lv_aload_n hx hb dX16_operation_0 rfl (lv_at hl 0 rfl) ?_
  refine lv_aload_n hx hb dX16_operation_1 rfl (lv_at hl 0 rfl) ?_
  obtain ⟨g_1, hf⟩ := grd_some hf
  obtain ⟨kg_1, sg_1⟩ := okO_at g_1
  obtain ⟨k_2, ek_2, hf⟩ := lnk_some hf
  refine va_get (D := (dC, dI)) (ci := 16) (v := .ref (a k_2)) (C := RX16) (T := TX16) (N := 18) hx hb hts iwd_X16_operation_X16 hown hK hP h0 (Wd_ob kg_1 sg_1 (by decide)) rfl 16 (by decide) (hts _ md_X16_operation_1) (fun _ h9 => h9) (fl_q rfl ek_2) dX16_operation_2 ?_
  refine lv_aload_n hx hb dX16_operation_5 rfl (lv_at hl 0 rfl) ?_
  obtain ⟨k_3, ek_3, hf⟩ := lnk_some hf
  refine va_get (D := (dC, dI)) (ci := 16) (v := .ref (a k_3)) (C := RX16) (T := TX16) (N := 18) hx hb hts iwd_X16_operation_X16 hown hK hP h0 (Wd_ob kg_1 sg_1 (by decide)) rfl 15 (by decide) (hts _ md_X16_operation_2) (fun _ h9 => h9) (fl_q rfl ek_3) dX16_operation_6 ?_
  refine lv_iload_n hx hb dX16_operation_9 rfl (lv_at hl 1 rfl) ?_
  obtain ⟨g_4, hf⟩ := grd_some hf
  obtain ⟨kg_4, sg_4, ig_4⟩ := okA_at g_4
  refine va_iald hx hb hK hP k_3 1 (Wd_ai kg_4 sg_4) rfl ig_4 dX16_operation_10 ?_
  refine lv_iload_n hx hb dX16_operation_11 rfl (lv_at hl 2 rfl) ?_
  refine lv_iadd hx hb dX16_operation_12 ?_
  obtain ⟨g_5, hf⟩ := grd_some hf
  obtain ⟨kg_5, sg_5, ig_5⟩ := okA_at g_5
  refine va_iald hx hb hK hP k_2 1 (Wd_ai kg_5 sg_5) rfl ig_5 dX16_operation_13 ?_
  obtain ⟨z_6, r_7, hfc, hf⟩ := cal_some hf
  have hFc := de_free hD hS hA
  refine va_calli (va_runV (As := [.int (z.1 k_2 ((z.1 k_3 x0.toNatClampNeg) + x1).toNatClampNeg)]) (rest := []) ⟨hx, hb, hml, hown, hts⟩ (de_X16_byteAt l dC dI cy a sh n H.size F z h0 (z.1 k_2 ((z.1 k_3 x0.toNatClampNeg) + x1).toNatClampNeg) hfc) (cwV 1 hts gX16_operation_X16_byteAt rfl rfl rfl (by decide +kernel) ⟨Nat.le_of_ble_eq_true rfl, Nat.le_of_ble_eq_true rfl⟩) ⟨fun a U g mk q => by obtain ⟨q0, q1, qP, qK, qD, qN⟩ := q; exact ⟨q0, q1, qP, va_K.moved (u := U) (U := U.calling g mk a) (Vm.Alike.refl U.vm) qK, qD, qN.same rfl⟩, va_recv hK hP (ci := 16) (q0 := h0) rfl (Wd_ob kg_1 sg_1 (by decide)), fun U hU hW => ⟨rfl, by rw [hU], by rw [hU]; exact hP, va_K.moved hW.alike hK, hD.weaken (fun _ _ _ _ => trivial), hN.warm hW⟩⟩ rfl rfl hl.1 rfl (lv_room (Nat.le_of_ble_eq_true rfl)) dX16_operation_14 ⟨Nat.le_of_ble_eq_true rfl, Nat.le_of_ble_eq_true rfl⟩) hS (fun q _ h => hFc q h) hFc (fun rr u t H_8 locs ht hvm hw hB hz1 hk1 hS2 => ?_)
  rw [hw]
  clear hw
  obtain ⟨hP1, -, hD1⟩ := hB
  rw [ht] at hP1
  replace hD := hD1.weaken (fun _ _ _ h => hFc _ h)
  replace hP := hP1
  replace hS := hS2
  clear hP1 hD1 hS2 hFc hfc hz1 hk1 hvm ht
  obtain ⟨h8, h9⟩ := ret_some hf
  rw [h8, h9]
  exact W.iret (v := r_7) hx hb hr (fun t ht hW => ⟨⟨r_7, (), rfl, rfl, by rw [ht]; exact hP, va_K.moved hW.alike hK, hD⟩, hS.F ht⟩) hS.2.2 dX16_operation_17

set_option maxHeartbeats 4000000 in
set_option maxRecDepth 100000 in
theorem de_X16_shortAt (l : Launch) (dC : Nat → ClassId) (dI : Nat → Nat → Nat) (cy : Nat → ClassId) (a : Nat → Nat) (sh : Nat → Nat × Nat) (n sz : Nat) (F : Nat) (z : St) (h0 : Nat) (x0 : Int32) {z8 : St} {r8 : Int32} (hf : fn_X16_shortAt F sh n z h0 x0 = some (z8, r8)) : Met l yX16_shortAt wsX16_shortAt ({ frames := 1, cells := 0, slots := 0, locals := 21 }) (va_Pc [.ref (a h0), .int x0] (fun U => U.heap.size = sz ∧ va_P (dC, dI) vwCl (Wd cy a sh n z) U.heap ∧ va_K (dC, dI) vwCl (TYS cy) U ∧ va_D (fun _ => True) (Wd cy a sh n z) ∧ NK U)) (va_Qi (fun (r9 : Int32) (u : Unit) => r9 = r8) (fun u t => va_P (dC, dI) vwCl (Wd cy a sh n z8) t.heap ∧ va_K (dC, dI) vwCl (TYS cy) t ∧ va_D (va_A (Wd cy a sh n z) sz) (Wd cy a sh n z8)) (va_A (Wd cy a sh n z) sz)) 0 0 (va_A (Wd cy a sh n z) sz) := by
  refine Met.ofW (cc := cX16_shortAt) (maxL := 2) (ret := (some .int)) (by decide) rfl ?_
  intro p e s m args below meth c s₁ B hml hv
  obtain ⟨rfl, hsz, hP, hK, hD0, hN⟩ := hv
  have hx := B.exec
  have hb := B.bytes
  have hr := B.returns
  have hts := atoms_spec (ws := wsX16_shortAt) B.pre
  have hown : s.vm.findClass RX16 = some m.cls := findClass_of_methodNamed B.named
  have hlocks := B.notSynchronized
  subst hsz
  have hD := hD0.self (sz := s.heap.size)
  clear hD0
  generalize hAe : va_A (Wd cy a sh n z) s.heap.size = A at hD ⊢
  have hA : ∀ q : Nat, s.heap.size ≤ q → A q := fun q h => by rw [← hAe]; exact Or.inr h
  clear hAe
  have hS : va_S A s.heap s.heap [] := va_S.rf
  have hl := lv_entry ([.ref (a h0), .int x0]) (n := 2) (Nat.le_of_ble_eq_true rfl)
  rw [lg_entry_eq]
  generalize (lg_sl ([.ref (a h0), .int x0]) ++ List.replicate (2 - (lg_sl ([.ref (a h0), .int x0])).length) Slot.unset).toArray = ls at hl ⊢
  replace hl : lv_has ls 2 [(0, .ref (a h0)), (1, .int x0)] := hl
  unfold fn_X16_shortAt at hf
  refine de_start hS hP (fun H locs hS hP => ?_)
  refine lv_sipush (v := 256) hx hb dX16_shortAt_0 (by decide) ?_
  refine lv_aload_n hx hb dX16_shortAt_3 rfl (lv_at hl 0 rfl) ?_
  refine lv_iload_n hx hb dX16_shortAt_4 rfl (lv_at hl 1 rfl) ?_
  obtain ⟨g_3, hf⟩ := grd_some hf
  obtain ⟨kg_3, sg_3⟩ := okO_at g_3
  obtain ⟨z_1, r_2, hfc, hf⟩ := cal_some hf
  have hFc := de_free hD hS hA
  refine va_calli (va_runV (As := [.int x0]) (rest := [.int 256]) ⟨hx, hb, hml, hown, hts⟩ (de_X16_byteAt l dC dI cy a sh n H.size F z h0 x0 hfc) (cwV 1 hts gX16_shortAt_X16_byteAt rfl rfl rfl (by decide +kernel) ⟨Nat.le_of_ble_eq_true rfl, Nat.le_of_ble_eq_true rfl⟩) ⟨fun a U g mk q => by obtain ⟨q0, q1, qP, qK, qD, qN⟩ := q; exact ⟨q0, q1, qP, va_K.moved (u := U) (U := U.calling g mk a) (Vm.Alike.refl U.vm) qK, qD, qN.same rfl⟩, va_recv hK hP (ci := 16) (q0 := h0) rfl (Wd_ob kg_3 sg_3 (by decide)), fun U hU hW => ⟨rfl, by rw [hU], by rw [hU]; exact hP, va_K.moved hW.alike hK, hD.weaken (fun _ _ _ _ => trivial), hN.warm hW⟩⟩ rfl rfl hl.1 rfl (lv_room (Nat.le_of_ble_eq_true rfl)) dX16_shortAt_5 ⟨Nat.le_of_ble_eq_true rfl, Nat.le_of_ble_eq_true rfl⟩) hS (fun q _ h => hFc q h) hFc (fun rr u t H_4 locs ht hvm hw hB hz1 hk1 hS2 => ?_)
  rw [hw]
  clear hw
  obtain ⟨hP1, -, hD1⟩ := hB
  rw [ht] at hP1
  replace hD := hD1.weaken (fun _ _ _ h => hFc _ h)
  replace hP := hP1
  replace hS := hS2
  clear hP1 hD1 hS2 hFc hfc hz1 hk1 hvm ht
  refine lv_imul hx hb dX16_shortAt_8 ?_
  refine lv_aload_n hx hb dX16_shortAt_9 rfl (lv_at hl 0 rfl) ?_
  refine lv_iload_n hx hb dX16_shortAt_10 rfl (lv_at hl 1 rfl) ?_
  refine lv_iconst (v := 1) hx hb dX16_shortAt_11 (by decide) ?_
  refine lv_iadd hx hb dX16_shortAt_12 ?_
  obtain ⟨z_5, r_6, hfc, hf⟩ := cal_some hf
  have hFc := de_free hD hS hA
  refine va_calli (va_runV (As := [.int (x0 + 1)]) (rest := [.int (256 * r_2)]) ⟨hx, hb, hml, hown, hts⟩ (de_X16_byteAt l dC dI cy a sh n H_4.size F z_1 h0 (x0 + 1) hfc) (cwV 1 hts gX16_shortAt_X16_byteAt rfl rfl rfl (by decide +kernel) ⟨Nat.le_of_ble_eq_true rfl, Nat.le_of_ble_eq_true rfl⟩) ⟨fun a U g mk q => by obtain ⟨q0, q1, qP, qK, qD, qN⟩ := q; exact ⟨q0, q1, qP, va_K.moved (u := U) (U := U.calling g mk a) (Vm.Alike.refl U.vm) qK, qD, qN.same rfl⟩, va_recv hK hP (ci := 16) (q0 := h0) rfl (Wd_ob kg_3 sg_3 (by decide)), fun U hU hW => ⟨rfl, by rw [hU], by rw [hU]; exact hP, va_K.moved hW.alike hK, hD.weaken (fun _ _ _ _ => trivial), hN.warm hW⟩⟩ rfl rfl hl.1 rfl (lv_room (Nat.le_of_ble_eq_true rfl)) dX16_shortAt_13 ⟨Nat.le_of_ble_eq_true rfl, Nat.le_of_ble_eq_true rfl⟩) hS (fun q _ h => hFc q h) hFc (fun rr u t H_7 locs ht hvm hw hB hz1 hk1 hS2 => ?_)
  rw [hw]
  clear hw
  obtain ⟨hP1, -, hD1⟩ := hB
  rw [ht] at hP1
  replace hD := hD1.weaken (fun _ _ _ h => hFc _ h)
  replace hP := hP1
  replace hS := hS2
  clear hP1 hD1 hS2 hFc hfc hz1 hk1 hvm ht
  refine lv_iadd hx hb dX16_shortAt_16 ?_
  obtain ⟨h8, h9⟩ := ret_some hf
  rw [h8, h9]
  exact W.iret (v := ((256 * r_2) + r_6)) hx hb hr (fun t ht hW => ⟨⟨((256 * r_2) + r_6), (), rfl, rfl, by rw [ht]; exact hP, va_K.moved hW.alike hK, hD⟩, hS.F ht⟩) hS.2.2 dX16_shortAt_17

theorem md_X6_pass_1 : (.fieldLink RX6 21 "ResourceLedger$Reader" "fault" "I" : Cond) ∈ wsX6_pass := List.mem_of_getElem? (i := 1) rfl
theorem iwd_X6_pass_X6 : ∀ w ∈ wsX60, w ∈ wsX6_pass := fun _ h => List.mem_cons_of_mem _ (List.mem_append_left _ (List.mem_append_right _ h))
set_option maxHeartbeats 4000000 in
set_option maxRecDepth 100000 in
theorem de_X6_pass (l : Launch) (dC : Nat → ClassId) (dI : Nat → Nat → Nat) (cy : Nat → ClassId) (a : Nat → Nat) (sh : Nat → Nat × Nat) (n sz : Nat) (F : Nat) (sk : Nat → Nat) (z : St) (h0 : Nat) (x0 : Int32) {z8 : St} {r8 : Unit} (hf : fn_X6_pass F sh n z h0 x0 = some (z8, r8)) : Met l yX6_pass wsX6_pass ({ frames := 1, cells := 0, slots := 0, locals := 20 }) (va_Pc [.ref (a h0), .int x0] (fun U => U.heap.size = sz ∧ va_P (dC, dI) vwCl (Wd cy a sh n z) U.heap ∧ va_K (dC, dI) vwCl (TYS cy) U ∧ va_D (fun _ => True) (Wd cy a sh n z) ∧ NK U ∧ SKs sk (a CBK) (va_A (Wd cy a sh n z) sz) U U.heap)) (va_Qv (fun u : Unit => True) (fun u t => va_P (dC, dI) vwCl (Wd cy a sh n z8) t.heap ∧ va_K (dC, dI) vwCl (TYS cy) t ∧ va_D (va_A (Wd cy a sh n z) sz) (Wd cy a sh n z8)) (va_A (Wd cy a sh n z) sz)) 0 0 (va_A (Wd cy a sh n z) sz) := by
  refine Met.ofW (cc := cX6_pass) (maxL := 3) (ret := none) (by decide) rfl ?_
  intro p e s m args below meth c s₁ B hml hv
  obtain ⟨rfl, hsz, hP, hK, hD0, hN, hSK⟩ := hv
  have hx := B.exec
  have hb := B.bytes
  have hr := B.returns
  have hts := atoms_spec (ws := wsX6_pass) B.pre
  have hown : s.vm.findClass RX6 = some m.cls := findClass_of_methodNamed B.named
  have hlocks := B.notSynchronized
  subst hsz
  have hD := hD0.self (sz := s.heap.size)
  clear hD0
  generalize hAe : va_A (Wd cy a sh n z) s.heap.size = A at hD hSK ⊢
  have hA : ∀ q : Nat, s.heap.size ≤ q → A q := fun q h => by rw [← hAe]; exact Or.inr h
  clear hAe
  have hS : va_S A s.heap s.heap [] := va_S.rf
  have hl := lv_entry ([.ref (a h0), .int x0]) (n := 3) (Nat.le_of_ble_eq_true rfl)
  rw [lg_entry_eq]
  generalize (lg_sl ([.ref (a h0), .int x0]) ++ List.replicate (3 - (lg_sl ([.ref (a h0), .int x0])).length) Slot.unset).toArray = ls at hl ⊢
  replace hl : lv_has ls 3 [(0, .ref (a h0)), (1, .int x0)] := hl
  unfold fn_X6_pass at hf
  refine de_start hS hP (fun H locs hS hP => ?_)
  refine lv_iconst (v := 0) hx hb dX6_pass_0 (by decide) ?_
  refine lv_istore_n (lv' := [(2, .int 0), (0, .ref (a h0)), (1, .int x0)]) hx hb dX6_pass_1 rfl hl (by decide) rfl (fun ls hl2 => ?_)
  replace hl := hl2
  clear hl2
  have hl0 : lv_has ls 3 [(2, .int 0), (0, .ref (a h0)), (1, .int x0)] := lv_sub hl [0, 1, 2] rfl
  refine de_loop (h := 2) (fun (x : St × Int32) ls H locs => lv_has ls 3 [(2, .int x.2), (0, .ref (a h0)), (1, .int x0)] ∧ va_P (dC, dI) vwCl (Wd cy a sh n x.1) H ∧ va_D A (Wd cy a sh n x.1) ∧ va_S A s.heap H locs) (fun f x => fn_X6_pass_L2 F sh n x0 h0 f x.1 x.2) (z8, r8) ?_ (fun _ => rfl) F (z, 0) ls H locs ⟨hl0, hP, hD, hS⟩ hf
  intro f_3 x ls H locs ih2 hI hf
  obtain ⟨z_2, p_1⟩ := x
  obtain ⟨hl2, hP2, hD2, hS2⟩ := hI
  replace hl : lv_has ls 3 [(2, .int p_1), (0, .ref (a h0)), (1, .int x0)] := hl2
  replace hP := hP2
  replace hD := hD2
  replace hS := hS2
  clear hl2 hP2 hD2 hS2 hl0
  replace hf := fn_X6_pass_L2_s hf
  refine lv_iload_n hx hb dX6_pass_2 rfl (lv_at hl 0 rfl) ?_
  refine lv_iload_n hx hb dX6_pass_3 rfl (lv_at hl 2 rfl) ?_
  refine lv_icmp_ge (tgt := 25) hx hb dX6_pass_4 (by decide) (fun c_4 => ?_) (fun c_4 => ?_)
  · skip
    rw [if_pos c_4] at hf
    obtain ⟨h8, h9⟩ := ret_some hf
    rw [h8]
    exact W.vret hx hb hr (fun t ht hW => ⟨⟨(), rfl, trivial, by rw [ht]; exact hP, va_K.moved hW.alike hK, hD⟩, hS.F ht⟩) hS.2.2 dX6_pass_25
  · skip
    rw [if_neg c_4] at hf
    refine lv_aload_n hx hb dX6_pass_7 rfl (lv_at hl 1 rfl) ?_
    obtain ⟨g_5, hf⟩ := grd_some hf
    obtain ⟨kg_5, sg_5⟩ := okO_at g_5
    refine va_get (D := (dC, dI)) (ci := 6) (v := .int (z_2.1 h0 1)) (C := RX6) (T := TX6) (N := 9) hx hb hts iwd_X6_pass_X6 hown hK hP h0 (Wd_ob kg_5 sg_5 (by decide)) rfl 1 (by decide) (hts _ md_X6_pass_1) (fun _ h9 => h9) (fl_at (t := 0) rfl) dX6_pass_8 ?_
    refine lv_if_ne (tgt := 25) hx hb dX6_pass_11 (by decide) (fun c_6 => ?_) (fun c_6 => ?_)
    · skip
      rw [if_neg c_6] at hf
      obtain ⟨h8, h9⟩ := ret_some hf
      rw [h8]
      exact W.vret hx hb hr (fun t ht hW => ⟨⟨(), rfl, trivial, by rw [ht]; exact hP, va_K.moved hW.alike hK, hD⟩, hS.F ht⟩) hS.2.2 dX6_pass_25
    · skip
      rw [if_pos c_6] at hf
      refine lv_aload_n hx hb dX6_pass_14 rfl (lv_at hl 1 rfl) ?_
      obtain ⟨z_7, r_8, hfc, hf⟩ := cal_some hf
      have hFc := de_free hD hS hA
      refine va_calli (va_runV (As := []) (rest := []) ⟨hx, hb, hml, hown, hts⟩ (de_X6_readByte l dC dI cy a sh n H.size F sk z_2 h0 hfc) (cwV 0 hts gX6_pass_X6_readByte rfl rfl rfl (by decide +kernel) ⟨Nat.le_of_ble_eq_true rfl, Nat.le_of_ble_eq_true rfl⟩) ⟨fun a U g mk q => by obtain ⟨q0, q1, qP, qK, qD, qN, qS⟩ := q; exact ⟨q0, q1, qP, va_K.moved (u := U) (U := U.calling g mk a) (Vm.Alike.refl U.vm) qK, qD, qN.same rfl, SKs.moved (u := U) (U := U.calling g mk a) (Vm.Alike.refl U.vm) qS⟩, va_recv hK hP (ci := 6) (q0 := h0) rfl (Wd_ob kg_5 sg_5 (by decide)), fun U hU hW => ⟨rfl, by rw [hU], by rw [hU]; exact hP, va_K.moved hW.alike hK, hD.weaken (fun _ _ _ _ => trivial), hN.warm hW, by rw [hU]; exact ((hSK.kept hS.2.1).narrow hFc).moved hW.alike⟩⟩ rfl rfl hl.1 rfl (lv_room (Nat.le_of_ble_eq_true rfl)) dX6_pass_15 ⟨Nat.le_of_ble_eq_true rfl, Nat.le_of_ble_eq_true rfl⟩) hS (fun q _ h => hFc q h) hFc (fun rr u t H_9 locs ht hvm hw hB hz1 hk1 hS2 => ?_)
      rw [hw]
      clear hw
      obtain ⟨hP1, -, hD1⟩ := hB
      rw [ht] at hP1
      replace hD := hD1.weaken (fun _ _ _ h => hFc _ h)
      replace hP := hP1
      replace hS := hS2
      clear hP1 hD1 hS2 hFc hfc hz1 hk1 hvm ht
      refine lv_pop hx hb dX6_pass_18 rfl ?_
      refine lv_iinc (v := (p_1 + 1)) (lv' := [(2, .int (p_1 + 1)), (0, .ref (a h0)), (1, .int x0)]) hx hb dX6_pass_19 hl (k := 0) rfl rfl (by decide) rfl (fun ls hl2 => ?_)
      replace hl := hl2
      clear hl2
      refine lv_goto (tgt := 2) hx hb dX6_pass_22 (by decide) ?_
      exact ih2 (z_7, (p_1 + 1)) ls H_9 locs ⟨lv_sub hl [0, 1, 2] rfl, hP, hD, hS⟩ hf

set_option maxHeartbeats 4000000 in
set_option maxRecDepth 100000 in
theorem de_X13_pointed (l : Launch) (dC : Nat → ClassId) (dI : Nat → Nat → Nat) (cy : Nat → ClassId) (a : Nat → Nat) (sh : Nat → Nat × Nat) (n sz : Nat) (F : Nat) (z : St) (x0 : Int64) {z8 : St} {r8 : Int64} (hf : fn_X13_pointed F sh n z x0 = some (z8, r8)) : Met l yX13_pointed wsX13_pointed ({ frames := 1, cells := 0, slots := 0, locals := 22 }) (va_Pc [.long x0] (fun U => U.heap.size = sz ∧ va_P (dC, dI) vwCl (Wd cy a sh n z) U.heap ∧ va_K (dC, dI) vwCl (TYS cy) U ∧ va_D (fun _ => True) (Wd cy a sh n z) ∧ NK U)) (va_Ql (fun (r9 : Int64) (u : Unit) => r9 = r8) (fun u t => va_P (dC, dI) vwCl (Wd cy a sh n z8) t.heap ∧ va_K (dC, dI) vwCl (TYS cy) t ∧ va_D (va_A (Wd cy a sh n z) sz) (Wd cy a sh n z8)) (va_A (Wd cy a sh n z) sz)) 0 0 (va_A (Wd cy a sh n z) sz) := by
  refine Met.ofW (cc := cX13_pointed) (maxL := 3) (ret := (some .long)) (by decide) rfl ?_
  intro p e s m args below meth c s₁ B hml hv
  obtain ⟨rfl, hsz, hP, hK, hD0, hN⟩ := hv
  have hx := B.exec
  have hb := B.bytes
  have hr := B.returns
  have hts := atoms_spec (ws := wsX13_pointed) B.pre
  have hown : s.vm.findClass RX13 = some m.cls := findClass_of_methodNamed B.named
  have hlocks := B.notSynchronized
  subst hsz
  have hD := hD0.self (sz := s.heap.size)
  clear hD0
  generalize hAe : va_A (Wd cy a sh n z) s.heap.size = A at hD ⊢
  have hA : ∀ q : Nat, s.heap.size ≤ q → A q := fun q h => by rw [← hAe]; exact Or.inr h
  clear hAe
  have hS : va_S A s.heap s.heap [] := va_S.rf
  have hl := lv_entry ([.long x0]) (n := 3) (Nat.le_of_ble_eq_true rfl)
  rw [lg_entry_eq]
  generalize (lg_sl ([.long x0]) ++ List.replicate (3 - (lg_sl ([.long x0])).length) Slot.unset).toArray = ls at hl ⊢
  replace hl : lv_has ls 3 [(0, .long x0)] := hl
  unfold fn_X13_pointed at hf
  refine de_start hS hP (fun H locs hS hP => ?_)
  refine lv_lload_n hx hb dX13_pointed_0 rfl (lv_at hl 0 rfl) ?_
  obtain ⟨z_1, r_2, hfc, hf⟩ := cal_some hf
  have hFc := de_free hD hS hA
  refine va_calli (va_runS (As := [.long x0]) (rest := []) ⟨hx, hb, hml, hown, hts⟩ (de_X13_bytesOf l dC dI cy a sh n H.size F z x0 hfc) (va_cwS 1 hts gX13_pointed_X13_bytesOf rfl rfl rfl (by decide +kernel) ⟨Nat.le_of_ble_eq_true rfl, Nat.le_of_ble_eq_true rfl⟩) ⟨fun a U g mk q => by obtain ⟨q0, q1, qP, qK, qD, qN⟩ := q; exact ⟨q0, q1, qP, va_K.moved (u := U) (U := U.calling g mk a) (Vm.Alike.refl U.vm) qK, qD, qN.same rfl⟩, fun U hU hW => ⟨rfl, by rw [hU], by rw [hU]; exact hP, va_K.moved hW.alike hK, hD.weaken (fun _ _ _ _ => trivial), hN.warm hW⟩⟩ rfl rfl hl.1 rfl (lv_room (Nat.le_of_ble_eq_true rfl)) dX13_pointed_1 ⟨Nat.le_of_ble_eq_true rfl, Nat.le_of_ble_eq_true rfl⟩) hS (fun q _ h => hFc q h) hFc (fun rr u t H_3 locs ht hvm hw hB hz1 hk1 hS2 => ?_)
  rw [hw]
  clear hw
  obtain ⟨hP1, -, hD1⟩ := hB
  rw [ht] at hP1
  replace hD := hD1.weaken (fun _ _ _ h => hFc _ h)
  replace hP := hP1
  replace hS := hS2
  clear hP1 hD1 hS2 hFc hfc hz1 hk1 hvm ht
  refine lv_iconst (v := 1) hx hb dX13_pointed_4 (by decide) ?_
  refine lv_isub hx hb dX13_pointed_5 ?_
  refine lv_topi (fun v_4 ev_4 => ?_)
  replace hf := lt_at ev_4 hf
  clear ev_4
  refine lv_istore_n (lv' := [(2, .int v_4), (0, .long x0)]) hx hb dX13_pointed_6 rfl hl (by decide) rfl (fun ls hl2 => ?_)
  replace hl := hl2
  clear hl2
  refine lv_lload_n hx hb dX13_pointed_7 rfl (lv_at hl 1 rfl) ?_
  refine lv_lconst (v := 1) hx hb dX13_pointed_8 (by decide) ?_
  refine lv_bipush (v := 8) hx hb dX13_pointed_9 (by decide) ?_
  refine lv_iload_n hx hb dX13_pointed_11 rfl (lv_at hl 0 rfl) ?_
  refine lv_imul hx hb dX13_pointed_12 ?_
  refine lv_lshl (v := (1 <<< (((8 * v_4) : Int32).toInt64 &&& 63))) hx hb dX13_pointed_13 rfl ?_
  refine lv_lconst (v := 1) hx hb dX13_pointed_14 (by decide) ?_
  refine lv_lsub hx hb dX13_pointed_15 ?_
  refine lv_land hx hb dX13_pointed_16 ?_
  obtain ⟨h8, h9⟩ := ret_some hf
  rw [h8, h9]
  exact W.lret (v := (x0 &&& (((1 <<< (((8 * v_4) : Int32).toInt64 &&& 63))) - 1))) hx hb hr (fun t ht hW => ⟨⟨(x0 &&& (((1 <<< (((8 * v_4) : Int32).toInt64 &&& 63))) - 1)), (), rfl, rfl, by rw [ht]; exact hP, va_K.moved hW.alike hK, hD⟩, hS.F ht⟩) hS.2.2 dX13_pointed_17

theorem md_X16_abilitiesOf_1 : (.fieldLink RX16 13 "ResourceLedgerModel$Unit" "structureAt" "[I" : Cond) ∈ wsX16_abilitiesOf := List.mem_of_getElem? (i := 1) rfl
theorem iwd_X16_abilitiesOf_X16 : ∀ w ∈ wsX160, w ∈ wsX16_abilitiesOf := fun _ h => List.mem_cons_of_mem _ (List.mem_append_right _ h)
theorem md_X16_abilitiesOf_2 : (.fieldLink RX16 92 "ResourceLedgerModel$Unit" "structures" "I" : Cond) ∈ wsX16_abilitiesOf := List.mem_of_getElem? (i := 2) rfl
set_option maxHeartbeats 4000000 in
set_option maxRecDepth 100000 in
theorem de_X16_abilitiesOf (l : Launch) (dC : Nat → ClassId) (dI : Nat → Nat → Nat) (cy : Nat → ClassId) (a : Nat → Nat) (sh : Nat → Nat × Nat) (n sz : Nat) (F : Nat) (z : St) (h0 : Nat) (x0 : Int32) {z8 : St} {r8 : Int32} (hf : fn_X16_abilitiesOf F sh n z h0 x0 = some (z8, r8)) : Met l yX16_abilitiesOf wsX16_abilitiesOf ({ frames := 1, cells := 0, slots := 0, locals := 21 }) (va_Pc [.ref (a h0), .int x0] (fun U => U.heap.size = sz ∧ va_P (dC, dI) vwCl (Wd cy a sh n z) U.heap ∧ va_K (dC, dI) vwCl (TYS cy) U ∧ va_D (fun _ => True) (Wd cy a sh n z) ∧ NK U)) (va_Qi (fun (r9 : Int32) (u : Unit) => r9 = r8) (fun u t => va_P (dC, dI) vwCl (Wd cy a sh n z8) t.heap ∧ va_K (dC, dI) vwCl (TYS cy) t ∧ va_D (va_A (Wd cy a sh n z) sz) (Wd cy a sh n z8)) (va_A (Wd cy a sh n z) sz)) 0 0 (va_A (Wd cy a sh n z) sz) := by
  refine Met.ofW (cc := cX16_abilitiesOf) (maxL := 2) (ret := (some .int)) (by decide) rfl ?_
  intro p e s m args below meth c s₁ B hml hv
  obtain ⟨rfl, hsz, hP, hK, hD0, hN⟩ := hv
  have hx := B.exec
  have hb := B.bytes
  have hr := B.returns
  have hts := atoms_spec (ws := wsX16_abilitiesOf) B.pre
  have hown : s.vm.findClass RX16 = some m.cls := findClass_of_methodNamed B.named
  have hlocks := B.notSynchronized
  subst hsz
  have hD := hD0.self (sz := s.heap.size)
  clear hD0
  generalize hAe : va_A (Wd cy a sh n z) s.heap.size = A at hD ⊢
  have hA : ∀ q : Nat, s.heap.size ≤ q → A q := fun q h => by rw [← hAe]; exact Or.inr h
  clear hAe
  have hS : va_S A s.heap s.heap [] := va_S.rf
  have hl := lv_entry ([.ref (a h0), .int x0]) (n := 2) (Nat.le_of_ble_eq_true rfl)
  rw [lg_entry_eq]
  generalize (lg_sl ([.ref (a h0), .int x0]) ++ List.replicate (2 - (lg_sl ([.ref (a h0), .int x0])).length) Slot.unset).toArray = ls at hl ⊢
  replace hl : lv_has ls 2 [(0, .ref (a h0)), (1, .int x0)] := hl
  unfold fn_X16_abilitiesOf at hf
  refine de_start hS hP (fun H locs hS hP => ?_)
  refine lv_aload_n hx hb dX16_abilitiesOf_0 rfl (lv_at hl 0 rfl) ?_
  refine lv_aload_n hx hb dX16_abilitiesOf_1 rfl (lv_at hl 0 rfl) ?_
  obtain ⟨g_1, hf⟩ := grd_some hf
  obtain ⟨kg_1, sg_1⟩ := okO_at g_1
  obtain ⟨k_2, ek_2, hf⟩ := lnk_some hf
  refine va_get (D := (dC, dI)) (ci := 16) (v := .ref (a k_2)) (C := RX16) (T := TX16) (N := 18) hx hb hts iwd_X16_abilitiesOf_X16 hown hK hP h0 (Wd_ob kg_1 sg_1 (by decide)) rfl 11 (by decide) (hts _ md_X16_abilitiesOf_1) (fun _ h9 => h9) (fl_q rfl ek_2) dX16_abilitiesOf_2 ?_
  refine lv_iload_n hx hb dX16_abilitiesOf_5 rfl (lv_at hl 1 rfl) ?_
  obtain ⟨g_3, hf⟩ := grd_some hf
  obtain ⟨kg_3, sg_3, ig_3⟩ := okA_at g_3
  refine va_iald hx hb hK hP k_2 1 (Wd_ai kg_3 sg_3) rfl ig_3 dX16_abilitiesOf_6 ?_
  refine lv_iload_n hx hb dX16_abilitiesOf_7 rfl (lv_at hl 1 rfl) ?_
  refine lv_aload_n hx hb dX16_abilitiesOf_8 rfl (lv_at hl 0 rfl) ?_
  refine va_get (D := (dC, dI)) (ci := 16) (v := .int (z.1 h0 5)) (C := RX16) (T := TX16) (N := 18) hx hb hts iwd_X16_abilitiesOf_X16 hown hK hP h0 (Wd_ob kg_1 sg_1 (by decide)) rfl 5 (by decide) (hts _ md_X16_abilitiesOf_2) (fun _ h9 => h9) (fl_at (t := 0) rfl) dX16_abilitiesOf_9 ?_
  refine lv_icmp_ge (tgt := 19) hx hb dX16_abilitiesOf_12 (by decide) (fun c_4 => ?_) (fun c_4 => ?_)
  · skip
    rw [if_pos c_4] at hf
    refine lv_iconst (v := 3) hx hb dX16_abilitiesOf_19 (by decide) ?_
    refine lv_iadd hx hb dX16_abilitiesOf_20 ?_
    obtain ⟨z_5, r_6, hfc, hf⟩ := cal_some hf
    have hFc := de_free hD hS hA
    refine va_calli (va_runV (As := [.int ((z.1 k_2 x0.toNatClampNeg) + 3)]) (rest := []) ⟨hx, hb, hml, hown, hts⟩ (de_X16_byteAt l dC dI cy a sh n H.size F z h0 ((z.1 k_2 x0.toNatClampNeg) + 3) hfc) (cwV 1 hts gX16_abilitiesOf_X16_byteAt rfl rfl rfl (by decide +kernel) ⟨Nat.le_of_ble_eq_true rfl, Nat.le_of_ble_eq_true rfl⟩) ⟨fun a U g mk q => by obtain ⟨q0, q1, qP, qK, qD, qN⟩ := q; exact ⟨q0, q1, qP, va_K.moved (u := U) (U := U.calling g mk a) (Vm.Alike.refl U.vm) qK, qD, qN.same rfl⟩, va_recv hK hP (ci := 16) (q0 := h0) rfl (Wd_ob kg_1 sg_1 (by decide)), fun U hU hW => ⟨rfl, by rw [hU], by rw [hU]; exact hP, va_K.moved hW.alike hK, hD.weaken (fun _ _ _ _ => trivial), hN.warm hW⟩⟩ rfl rfl hl.1 rfl (lv_room (Nat.le_of_ble_eq_true rfl)) dX16_abilitiesOf_21 ⟨Nat.le_of_ble_eq_true rfl, Nat.le_of_ble_eq_true rfl⟩) hS (fun q _ h => hFc q h) hFc (fun rr u t H_7 locs ht hvm hw hB hz1 hk1 hS2 => ?_)
    rw [hw]
    clear hw
    obtain ⟨hP1, -, hD1⟩ := hB
    rw [ht] at hP1
    replace hD := hD1.weaken (fun _ _ _ h => hFc _ h)
    replace hP := hP1
    replace hS := hS2
    clear hP1 hD1 hS2 hFc hfc hz1 hk1 hvm ht
    obtain ⟨h8, h9⟩ := ret_some hf
    rw [h8, h9]
    exact W.iret (v := r_6) hx hb hr (fun t ht hW => ⟨⟨r_6, (), rfl, rfl, by rw [ht]; exact hP, va_K.moved hW.alike hK, hD⟩, hS.F ht⟩) hS.2.2 dX16_abilitiesOf_24
  · skip
    rw [if_neg c_4] at hf
    refine lv_iconst (v := 0) hx hb dX16_abilitiesOf_15 (by decide) ?_
    refine lv_goto (tgt := 20) hx hb dX16_abilitiesOf_16 (by decide) ?_
    refine lv_iadd hx hb dX16_abilitiesOf_20 ?_
    obtain ⟨z_8, r_9, hfc, hf⟩ := cal_some hf
    have hFc := de_free hD hS hA
    refine va_calli (va_runV (As := [.int ((z.1 k_2 x0.toNatClampNeg) + 0)]) (rest := []) ⟨hx, hb, hml, hown, hts⟩ (de_X16_byteAt l dC dI cy a sh n H.size F z h0 ((z.1 k_2 x0.toNatClampNeg) + 0) hfc) (cwV 1 hts gX16_abilitiesOf_X16_byteAt rfl rfl rfl (by decide +kernel) ⟨Nat.le_of_ble_eq_true rfl, Nat.le_of_ble_eq_true rfl⟩) ⟨fun a U g mk q => by obtain ⟨q0, q1, qP, qK, qD, qN⟩ := q; exact ⟨q0, q1, qP, va_K.moved (u := U) (U := U.calling g mk a) (Vm.Alike.refl U.vm) qK, qD, qN.same rfl⟩, va_recv hK hP (ci := 16) (q0 := h0) rfl (Wd_ob kg_1 sg_1 (by decide)), fun U hU hW => ⟨rfl, by rw [hU], by rw [hU]; exact hP, va_K.moved hW.alike hK, hD.weaken (fun _ _ _ _ => trivial), hN.warm hW⟩⟩ rfl rfl hl.1 rfl (lv_room (Nat.le_of_ble_eq_true rfl)) dX16_abilitiesOf_21 ⟨Nat.le_of_ble_eq_true rfl, Nat.le_of_ble_eq_true rfl⟩) hS (fun q _ h => hFc q h) hFc (fun rr u t H_10 locs ht hvm hw hB hz1 hk1 hS2 => ?_)
    rw [hw]
    clear hw
    obtain ⟨hP1, -, hD1⟩ := hB
    rw [ht] at hP1
    replace hD := hD1.weaken (fun _ _ _ h => hFc _ h)
    replace hP := hP1
    replace hS := hS2
    clear hP1 hD1 hS2 hFc hfc hz1 hk1 hvm ht
    obtain ⟨h8, h9⟩ := ret_some hf
    rw [h8, h9]
    exact W.iret (v := r_9) hx hb hr (fun t ht hW => ⟨⟨r_9, (), rfl, rfl, by rw [ht]; exact hP, va_K.moved hW.alike hK, hD⟩, hS.F ht⟩) hS.2.2 dX16_abilitiesOf_24

set_option maxHeartbeats 4000000 in
set_option maxRecDepth 100000 in
theorem de_X0_copyTo (l : Launch) (dC : Nat → ClassId) (dI : Nat → Nat → Nat) (cy : Nat → ClassId) (a : Nat → Nat) (sh : Nat → Nat × Nat) (n sz : Nat) (F : Nat) (z : St) (h0 : Nat) (x0 : Nat) (x1 : Int32) {z8 : St} {r8 : Unit} (hf : fn_X0_copyTo F sh n z h0 x0 x1 = some (z8, r8)) : Met l yX0_copyTo wsX0_copyTo ({ frames := 1, cells := 0, slots := 0, locals := 21 }) (va_Pc [.ref (a h0), .ref (a x0), .int x1] (fun U => U.heap.size = sz ∧ va_P (dC, dI) vwCl (Wd cy a sh n z) U.heap ∧ va_K (dC, dI) vwCl (TYS cy) U ∧ va_D (fun _ => True) (Wd cy a sh n z) ∧ NK U)) (va_Qv (fun u : Unit => True) (fun u t => va_P (dC, dI) vwCl (Wd cy a sh n z8) t.heap ∧ va_K (dC, dI) vwCl (TYS cy) t ∧ va_D (va_A (Wd cy a sh n z) sz) (Wd cy a sh n z8)) (va_A (Wd cy a sh n z) sz)) 0 0 (va_A (Wd cy a sh n z) sz) := by
  refine Met.ofW (cc := cX0_copyTo) (maxL := 4) (ret := none) (by decide) rfl ?_
  intro p e s m args below meth c s₁ B hml hv
  obtain ⟨rfl, hsz, hP, hK, hD0, hN⟩ := hv
  have hx := B.exec
  have hb := B.bytes
  have hr := B.returns
  have hts := atoms_spec (ws := wsX0_copyTo) B.pre
  have hown : s.vm.findClass RX0 = some m.cls := findClass_of_methodNamed B.named
  have hlocks := B.notSynchronized
  subst hsz
  have hD := hD0.self (sz := s.heap.size)
  clear hD0
  generalize hAe : va_A (Wd cy a sh n z) s.heap.size = A at hD ⊢
  have hA : ∀ q : Nat, s.heap.size ≤ q → A q := fun q h => by rw [← hAe]; exact Or.inr h
  clear hAe
  have hS : va_S A s.heap s.heap [] := va_S.rf
  have hl := lv_entry ([.ref (a h0), .ref (a x0), .int x1]) (n := 4) (Nat.le_of_ble_eq_true rfl)
  rw [lg_entry_eq]
  generalize (lg_sl ([.ref (a h0), .ref (a x0), .int x1]) ++ List.replicate (4 - (lg_sl ([.ref (a h0), .ref (a x0), .int x1])).length) Slot.unset).toArray = ls at hl ⊢
  replace hl : lv_has ls 4 [(0, .ref (a h0)), (1, .ref (a x0)), (2, .int x1)] := hl
  unfold fn_X0_copyTo at hf
  refine de_start hS hP (fun H locs hS hP => ?_)
  refine lv_iconst (v := 0) hx hb dX0_copyTo_0 (by decide) ?_
  refine lv_istore_n (lv' := [(3, .int 0), (0, .ref (a h0)), (1, .ref (a x0)), (2, .int x1)]) hx hb dX0_copyTo_1 rfl hl (by decide) rfl (fun ls hl2 => ?_)
  replace hl := hl2
  clear hl2
  have hl0 : lv_has ls 4 [(3, .int 0), (0, .ref (a h0)), (1, .ref (a x0)), (2, .int x1)] := lv_sub hl [0, 1, 2, 3] rfl
  refine de_loop (h := 2) (fun (x : St × Int32) ls H locs => lv_has ls 4 [(3, .int x.2), (0, .ref (a h0)), (1, .ref (a x0)), (2, .int x1)] ∧ va_P (dC, dI) vwCl (Wd cy a sh n x.1) H ∧ va_D A (Wd cy a sh n x.1) ∧ va_S A s.heap H locs) (fun f x => fn_X0_copyTo_L2 F sh n h0 x0 x1 f x.1 x.2) (z8, r8) ?_ (fun _ => rfl) F (z, 0) ls H locs ⟨hl0, hP, hD, hS⟩ hf
  intro f_3 x ls H locs ih2 hI hf
  obtain ⟨z_2, p_1⟩ := x
  obtain ⟨hl2, hP2, hD2, hS2⟩ := hI
  replace hl : lv_has ls 4 [(3, .int p_1), (0, .ref (a h0)), (1, .ref (a x0)), (2, .int x1)] := hl2
  replace hP := hP2
  replace hD := hD2
  replace hS := hS2
  clear hl2 hP2 hD2 hS2 hl0
  replace hf := fn_X0_copyTo_L2_s hf
  refine lv_iload_n hx hb dX0_copyTo_2 rfl (lv_at hl 0 rfl) ?_
  refine lv_iconst (v := 4) hx hb dX0_copyTo_3 (by decide) ?_
  refine lv_icmp_ge (tgt := 23) hx hb dX0_copyTo_4 (by decide) (fun c_4 => ?_) (fun c_4 => ?_)
  · skip
    rw [if_pos c_4] at hf
    obtain ⟨h8, h9⟩ := ret_some hf
    rw [h8]
    exact W.vret hx hb hr (fun t ht hW => ⟨⟨(), rfl, trivial, by rw [ht]; exact hP, va_K.moved hW.alike hK, hD⟩, hS.F ht⟩) hS.2.2 dX0_copyTo_23
  · skip
    rw [if_neg c_4] at hf
    refine lv_aload_n hx hb dX0_copyTo_7 rfl (lv_at hl 2 rfl) ?_
    refine lv_iload_n hx hb dX0_copyTo_8 rfl (lv_at hl 3 rfl) ?_
    refine lv_iload_n hx hb dX0_copyTo_9 rfl (lv_at hl 0 rfl) ?_
    refine lv_iadd hx hb dX0_copyTo_10 ?_
    refine lv_aload_n hx hb dX0_copyTo_11 rfl (lv_at hl 1 rfl) ?_
    refine lv_iload_n hx hb dX0_copyTo_12 rfl (lv_at hl 0 rfl) ?_
    obtain ⟨g_7, hf⟩ := grd_some hf
    obtain ⟨kg_7, sg_7⟩ := okO_at g_7
    obtain ⟨z_5, r_6, hfc, hf⟩ := cal_some hf
    have hFc := de_free hD hS hA
    refine va_calll (va_runV (As := [.int p_1]) (rest := [.int (x1 + p_1), .ref (a x0)]) ⟨hx, hb, hml, hown, hts⟩ (de_X0_part l dC dI cy a sh n H.size F z_2 h0 p_1 hfc) (cwV 1 hts gX0_copyTo_X0_part rfl rfl rfl (by decide +kernel) ⟨Nat.le_of_ble_eq_true rfl, Nat.le_of_ble_eq_true rfl⟩) ⟨fun a U g mk q => by obtain ⟨q0, q1, qP, qK, qD, qN⟩ := q; exact ⟨q0, q1, qP, va_K.moved (u := U) (U := U.calling g mk a) (Vm.Alike.refl U.vm) qK, qD, qN.same rfl⟩, va_recv hK hP (ci := 0) (q0 := h0) rfl (Wd_ob kg_7 sg_7 (by decide)), fun U hU hW => ⟨rfl, by rw [hU], by rw [hU]; exact hP, va_K.moved hW.alike hK, hD.weaken (fun _ _ _ _ => trivial), hN.warm hW⟩⟩ rfl rfl hl.1 rfl (lv_room (Nat.le_of_ble_eq_true rfl)) dX0_copyTo_13 ⟨Nat.le_of_ble_eq_true rfl, Nat.le_of_ble_eq_true rfl⟩) hS (fun q _ h => hFc q h) hFc (fun rr u t H_8 locs ht hvm hw hB hz1 hk1 hS2 => ?_)
    rw [hw]
    clear hw
    obtain ⟨hP1, -, hD1⟩ := hB
    rw [ht] at hP1
    replace hD := hD1.weaken (fun _ _ _ h => hFc _ h)
    replace hP := hP1
    replace hS := hS2
    clear hP1 hD1 hS2 hFc hfc hz1 hk1 hvm ht
    obtain ⟨g_9, hf⟩ := grd_some hf
    obtain ⟨kg_9, sg_9, ig_9⟩ := okA_at g_9
    refine va_last hx hb hK hP hD hS x0 2 (Wd_al kg_9 sg_9) rfl ig_9 dX0_copyTo_16 (fun H_10 locs hP2 hD2 hS2 => ?_)
    rw [Wd_tl sg_9] at hP2 hD2
    obtain ⟨z_11, ez_11⟩ : ∃ w, w = sl z_5 x0 (x1 + p_1).toNatClampNeg r_6 := ⟨_, rfl⟩
    rw [← ez_11] at hP2 hD2
    replace hf := lt_at ez_11 hf
    clear ez_11
    replace hP := hP2
    replace hD := hD2
    replace hS := hS2
    clear hP2 hD2 hS2
    refine lv_iinc (v := (p_1 + 1)) (lv' := [(3, .int (p_1 + 1)), (0, .ref (a h0)), (1, .ref (a x0)), (2, .int x1)]) hx hb dX0_copyTo_17 hl (k := 0) rfl rfl (by decide) rfl (fun ls hl2 => ?_)
    replace hl := hl2
    clear hl2
    refine lv_goto (tgt := 2) hx hb dX0_copyTo_20 (by decide) ?_
    exact ih2 (z_11, (p_1 + 1)) ls H_10 locs ⟨lv_sub hl [0, 1, 2, 3] rfl, hP, hD, hS⟩ hf

set_option maxHeartbeats 4000000 in
set_option maxRecDepth 100000 in
theorem de_X12_addNumber (l : Launch) (dC : Nat → ClassId) (dI : Nat → Nat → Nat) (cy : Nat → ClassId) (a : Nat → Nat) (sh : Nat → Nat × Nat) (n sz : Nat) (F : Nat) (z : St) (h0 : Nat) (x0 : Int64) (x1 : Int32) {z8 : St} {r8 : Unit} (hf : fn_X12_addNumber F sh n z h0 x0 x1 = some (z8, r8)) : Met l yX12_addNumber wsX12_addNumber ({ frames := 1, cells := 0, slots := 0, locals := 21 }) (va_Pc [.ref (a h0), .long x0, .int x1] (fun U => U.heap.size = sz ∧ va_P (dC, dI) vwCl (Wd cy a sh n z) U.heap ∧ va_K (dC, dI) vwCl (TYS cy) U ∧ va_D (fun _ => True) (Wd cy a sh n z) ∧ NK U)) (va_Qv (fun u : Unit => True) (fun u t => va_P (dC, dI) vwCl (Wd cy a sh n z8) t.heap ∧ va_K (dC, dI) vwCl (TYS cy) t ∧ va_D (va_A (Wd cy a sh n z) sz) (Wd cy a sh n z8)) (va_A (Wd cy a sh n z) sz)) 0 0 (va_A (Wd cy a sh n z) sz) := by
  refine Met.ofW (cc := cX12_addNumber) (maxL := 5) (ret := none) (by decide) rfl ?_
  intro p e s m args below meth c s₁ B hml hv
  obtain ⟨rfl, hsz, hP, hK, hD0, hN⟩ := hv
  have hx := B.exec
  have hb := B.bytes
  have hr := B.returns
  have hts := atoms_spec (ws := wsX12_addNumber) B.pre
  have hown : s.vm.findClass RX12 = some m.cls := findClass_of_methodNamed B.named
  have hlocks := B.notSynchronized
  subst hsz
  have hD := hD0.self (sz := s.heap.size)
  clear hD0
  generalize hAe : va_A (Wd cy a sh n z) s.heap.size = A at hD ⊢
  have hA : ∀ q : Nat, s.heap.size ≤ q → A q := fun q h => by rw [← hAe]; exact Or.inr h
  clear hAe
  have hS : va_S A s.heap s.heap [] := va_S.rf
  have hl := lv_entry ([.ref (a h0), .long x0, .int x1]) (n := 5) (Nat.le_of_ble_eq_true rfl)
  rw [lg_entry_eq]
  generalize (lg_sl ([.ref (a h0), .long x0, .int x1]) ++ List.replicate (5 - (lg_sl ([.ref (a h0), .long x0, .int x1])).length) Slot.unset).toArray = ls at hl ⊢
  replace hl : lv_has ls 5 [(0, .ref (a h0)), (1, .long x0), (3, .int x1)] := hl
  unfold fn_X12_addNumber at hf
  refine de_start hS hP (fun H locs hS hP => ?_)
  refine lv_iload_n hx hb dX12_addNumber_0 rfl (lv_at hl 2 rfl) ?_
  refine lv_iconst (v := 1) hx hb dX12_addNumber_1 (by decide) ?_
  refine lv_isub hx hb dX12_addNumber_2 ?_
  refine lv_topi (fun v_1 ev_1 => ?_)
  replace hf := lt_at ev_1 hf
  clear ev_1
  refine lv_istore (lv' := [(4, .int v_1), (0, .ref (a h0)), (1, .long x0), (3, .int x1)]) hx hb dX12_addNumber_3 hl (by decide) rfl (fun ls hl2 => ?_)
  replace hl := hl2
  clear hl2
  have hl0 : lv_has ls 5 [(4, .int v_1), (0, .ref (a h0)), (1, .long x0)] := lv_sub hl [0, 1, 2] rfl
  refine de_loop (h := 5) (fun (x : St × Int32) ls H locs => lv_has ls 5 [(4, .int x.2), (0, .ref (a h0)), (1, .long x0)] ∧ va_P (dC, dI) vwCl (Wd cy a sh n x.1) H ∧ va_D A (Wd cy a sh n x.1) ∧ va_S A s.heap H locs) (fun f x => fn_X12_addNumber_L5 F sh n h0 x0 f x.1 x.2) (z8, r8) ?_ (fun _ => rfl) F (z, v_1) ls H locs ⟨hl0, hP, hD, hS⟩ hf
  intro f_4 x ls H locs ih5 hI hf
  obtain ⟨z_3, p_2⟩ := x
  obtain ⟨hl2, hP2, hD2, hS2⟩ := hI
  replace hl : lv_has ls 5 [(4, .int p_2), (0, .ref (a h0)), (1, .long x0)] := hl2
  replace hP := hP2
  replace hD := hD2
  replace hS := hS2
  clear hl2 hP2 hD2 hS2 hl0
  replace hf := fn_X12_addNumber_L5_s hf
  refine lv_iload hx hb dX12_addNumber_5 (lv_at hl 0 rfl) ?_
  refine lv_if_lt (tgt := 28) hx hb dX12_addNumber_7 (by decide) (fun c_5 => ?_) (fun c_5 => ?_)
  · skip
    rw [if_pos c_5] at hf
    obtain ⟨h8, h9⟩ := ret_some hf
    rw [h8]
    exact W.vret hx hb hr (fun t ht hW => ⟨⟨(), rfl, trivial, by rw [ht]; exact hP, va_K.moved hW.alike hK, hD⟩, hS.F ht⟩) hS.2.2 dX12_addNumber_28
  · skip
    rw [if_neg c_5] at hf
    refine lv_aload_n hx hb dX12_addNumber_10 rfl (lv_at hl 1 rfl) ?_
    refine lv_lload_n hx hb dX12_addNumber_11 rfl (lv_at hl 2 rfl) ?_
    refine lv_bipush (v := 8) hx hb dX12_addNumber_12 (by decide) ?_
    refine lv_iload hx hb dX12_addNumber_14 (lv_at hl 0 rfl) ?_
    refine lv_imul hx hb dX12_addNumber_16 ?_
    refine lv_lshr (v := (x0 >>> (((8 * p_2) : Int32).toInt64 &&& 63))) hx hb dX12_addNumber_17 rfl ?_
    refine lv_l2i (v := (((x0 >>> (((8 * p_2) : Int32).toInt64 &&& 63))) : Int64).toInt32) hx hb dX12_addNumber_18 rfl ?_
    obtain ⟨g_7, hf⟩ := grd_some hf
    obtain ⟨kg_7, sg_7⟩ := okO_at g_7
    obtain ⟨z_6, _u, hfc, hf⟩ := cal_some hf
    have hFc := de_free hD hS hA
    refine va_callv (va_runV (As := [.int ((((x0 >>> (((8 * p_2) : Int32).toInt64 &&& 63))) : Int64).toInt32)]) (rest := []) ⟨hx, hb, hml, hown, hts⟩ (de_X12_add l dC dI cy a sh n H.size F z_3 h0 ((((x0 >>> (((8 * p_2) : Int32).toInt64 &&& 63))) : Int64).toInt32) hfc) (cwV 1 hts gX12_addNumber_X12_add rfl rfl rfl (by decide +kernel) ⟨Nat.le_of_ble_eq_true rfl, Nat.le_of_ble_eq_true rfl⟩) ⟨fun a U g mk q => by obtain ⟨q0, q1, qP, qK, qD, qN⟩ := q; exact ⟨q0, q1, qP, va_K.moved (u := U) (U := U.calling g mk a) (Vm.Alike.refl U.vm) qK, qD, qN.same rfl⟩, va_recv hK hP (ci := 12) (q0 := h0) rfl (Wd_ob kg_7 sg_7 (by decide)), fun U hU hW => ⟨rfl, by rw [hU], by rw [hU]; exact hP, va_K.moved hW.alike hK, hD.weaken (fun _ _ _ _ => trivial), hN.warm hW⟩⟩ rfl rfl hl.1 rfl (lv_room (Nat.le_of_ble_eq_true rfl)) dX12_addNumber_19 ⟨Nat.le_of_ble_eq_true rfl, Nat.le_of_ble_eq_true rfl⟩) hS (fun q _ h => hFc q h) hFc (fun u t H_8 locs ht hvm hw hB hz1 hk1 hS2 => ?_)
    obtain ⟨hP1, -, hD1⟩ := hB
    rw [ht] at hP1
    replace hD := hD1.weaken (fun _ _ _ h => hFc _ h)
    replace hP := hP1
    replace hS := hS2
    clear hP1 hD1 hS2 hFc hfc hz1 hk1 hvm ht
    refine lv_iinc (v := (p_2 + (-1))) (lv' := [(4, .int (p_2 + (-1))), (0, .ref (a h0)), (1, .long x0)]) hx hb dX12_addNumber_22 hl (k := 0) rfl rfl (by decide) rfl (fun ls hl2 => ?_)
    replace hl := hl2
    clear hl2
    refine lv_goto (tgt := 5) hx hb dX12_addNumber_25 (by decide) ?_
    exact ih5 (z_6, (p_2 + (-1))) ls H_8 locs ⟨lv_sub hl [0, 1, 2] rfl, hP, hD, hS⟩ hf

set_option maxHeartbeats 4000000 in
set_option maxRecDepth 100000 in
theorem de_X13_isReference (l : Launch) (dC : Nat → ClassId) (dI : Nat → Nat → Nat) (cy : Nat → ClassId) (a : Nat → Nat) (sh : Nat → Nat × Nat) (n sz : Nat) (F : Nat) (z : St) (x0 : Int64) {z8 : St} {r8 : Int32} (hf : fn_X13_isReference F sh n z x0 = some (z8, r8)) : Met l yX13_isReference wsX13_isReference ({ frames := 1, cells := 0, slots := 0, locals := 22 }) (va_Pc [.long x0] (fun U => U.heap.size = sz ∧ va_P (dC, dI) vwCl (Wd cy a sh n z) U.heap ∧ va_K (dC, dI) vwCl (TYS cy) U ∧ va_D (fun _ => True) (Wd cy a sh n z) ∧ NK U)) (va_Qi (fun (r9 : Int32) (u : Unit) => r9 = r8) (fun u t => va_P (dC, dI) vwCl (Wd cy a sh n z8) t.heap ∧ va_K (dC, dI) vwCl (TYS cy) t ∧ va_D (va_A (Wd cy a sh n z) sz) (Wd cy a sh n z8)) (va_A (Wd cy a sh n z) sz)) 0 0 (va_A (Wd cy a sh n z) sz) := by
  refine Met.ofW (cc := cX13_isReference) (maxL := 3) (ret := (some .boolean)) (by decide) rfl ?_
  intro p e s m args below meth c s₁ B hml hv
  obtain ⟨rfl, hsz, hP, hK, hD0, hN⟩ := hv
  have hx := B.exec
  have hb := B.bytes
  have hr := B.returns
  have hts := atoms_spec (ws := wsX13_isReference) B.pre
  have hown : s.vm.findClass RX13 = some m.cls := findClass_of_methodNamed B.named
  have hlocks := B.notSynchronized
  subst hsz
  have hD := hD0.self (sz := s.heap.size)
  clear hD0
  generalize hAe : va_A (Wd cy a sh n z) s.heap.size = A at hD ⊢
  have hA : ∀ q : Nat, s.heap.size ≤ q → A q := fun q h => by rw [← hAe]; exact Or.inr h
  clear hAe
  have hS : va_S A s.heap s.heap [] := va_S.rf
  have hl := lv_entry ([.long x0]) (n := 3) (Nat.le_of_ble_eq_true rfl)
  rw [lg_entry_eq]
  generalize (lg_sl ([.long x0]) ++ List.replicate (3 - (lg_sl ([.long x0])).length) Slot.unset).toArray = ls at hl ⊢
  replace hl : lv_has ls 3 [(0, .long x0)] := hl
  unfold fn_X13_isReference at hf
  refine de_start hS hP (fun H locs hS hP => ?_)
  refine lv_lload_n hx hb dX13_isReference_0 rfl (lv_at hl 0 rfl) ?_
  refine lv_lload_n hx hb dX13_isReference_1 rfl (lv_at hl 0 rfl) ?_
  obtain ⟨z_1, r_2, hfc, hf⟩ := cal_some hf
  have hFc := de_free hD hS hA
  refine va_calli (va_runS (As := [.long x0]) (rest := [.long x0]) ⟨hx, hb, hml, hown, hts⟩ (de_X13_bytesOf l dC dI cy a sh n H.size F z x0 hfc) (va_cwS 1 hts gX13_isReference_X13_bytesOf rfl rfl rfl (by decide +kernel) ⟨Nat.le_of_ble_eq_true rfl, Nat.le_of_ble_eq_true rfl⟩) ⟨fun a U g mk q => by obtain ⟨q0, q1, qP, qK, qD, qN⟩ := q; exact ⟨q0, q1, qP, va_K.moved (u := U) (U := U.calling g mk a) (Vm.Alike.refl U.vm) qK, qD, qN.same rfl⟩, fun U hU hW => ⟨rfl, by rw [hU], by rw [hU]; exact hP, va_K.moved hW.alike hK, hD.weaken (fun _ _ _ _ => trivial), hN.warm hW⟩⟩ rfl rfl hl.1 rfl (lv_room (Nat.le_of_ble_eq_true rfl)) dX13_isReference_2 ⟨Nat.le_of_ble_eq_true rfl, Nat.le_of_ble_eq_true rfl⟩) hS (fun q _ h => hFc q h) hFc (fun rr u t H_3 locs ht hvm hw hB hz1 hk1 hS2 => ?_)
  rw [hw]
  clear hw
  obtain ⟨hP1, -, hD1⟩ := hB
  rw [ht] at hP1
  replace hD := hD1.weaken (fun _ _ _ h => hFc _ h)
  replace hP := hP1
  replace hS := hS2
  clear hP1 hD1 hS2 hFc hfc hz1 hk1 hvm ht
  refine lv_iconst (v := 1) hx hb dX13_isReference_5 (by decide) ?_
  refine lv_isub hx hb dX13_isReference_6 ?_
  obtain ⟨z_4, r_5, hfc, hf⟩ := cal_some hf
  have hFc := de_free hD hS hA
  refine va_calli (va_runS (As := [.long x0, .int (r_2 - 1)]) (rest := []) ⟨hx, hb, hml, hown, hts⟩ (de_X13_byteOf l dC dI cy a sh n H_3.size F z_1 x0 (r_2 - 1) hfc) (va_cwS 2 hts gX13_isReference_X13_byteOf rfl rfl rfl (by decide +kernel) ⟨Nat.le_of_ble_eq_true rfl, Nat.le_of_ble_eq_true rfl⟩) ⟨fun a U g mk q => by obtain ⟨q0, q1, qP, qK, qD, qN⟩ := q; exact ⟨q0, q1, qP, va_K.moved (u := U) (U := U.calling g mk a) (Vm.Alike.refl U.vm) qK, qD, qN.same rfl⟩, fun U hU hW => ⟨rfl, by rw [hU], by rw [hU]; exact hP, va_K.moved hW.alike hK, hD.weaken (fun _ _ _ _ => trivial), hN.warm hW⟩⟩ rfl rfl hl.1 rfl (lv_room (Nat.le_of_ble_eq_true rfl)) dX13_isReference_7 ⟨Nat.le_of_ble_eq_true rfl, Nat.le_of_ble_eq_true rfl⟩) hS (fun q _ h => hFc q h) hFc (fun rr u t H_6 locs ht hvm hw hB hz1 hk1 hS2 => ?_)
  rw [hw]
  clear hw
  obtain ⟨hP1, -, hD1⟩ := hB
  rw [ht] at hP1
  replace hD := hD1.weaken (fun _ _ _ h => hFc _ h)
  replace hP := hP1
  replace hS := hS2
  clear hP1 hD1 hS2 hFc hfc hz1 hk1 hvm ht
  refine lv_istore_n (lv' := [(2, .int r_5), (0, .long x0)]) hx hb dX13_isReference_10 rfl hl (by decide) rfl (fun ls hl2 => ?_)
  replace hl := hl2
  clear hl2
  refine lv_iload_n hx hb dX13_isReference_11 rfl (lv_at hl 0 rfl) ?_
  refine lv_bipush (v := 8) hx hb dX13_isReference_12 (by decide) ?_
  refine lv_icmp_eq (tgt := 23) hx hb dX13_isReference_14 (by decide) (fun c_7 => ?_) (fun c_7 => ?_)
  · skip
    rw [if_pos c_7] at hf
    refine lv_iconst (v := 1) hx hb dX13_isReference_23 (by decide) ?_
    refine lv_goto (tgt := 28) hx hb dX13_isReference_24 (by decide) ?_
    obtain ⟨h8, h9⟩ := ret_some hf
    rw [h8, h9]
    exact W.zret (v := 1) hx hb hr rfl (fun t ht hW => ⟨⟨1, (), rfl, rfl, by rw [ht]; exact hP, va_K.moved hW.alike hK, hD⟩, hS.F ht⟩) hS.2.2 dX13_isReference_28
  · skip
    rw [if_neg c_7] at hf
    refine lv_iload_n hx hb dX13_isReference_17 rfl (lv_at hl 0 rfl) ?_
    refine lv_bipush (v := 9) hx hb dX13_isReference_18 (by decide) ?_
    refine lv_icmp_ne (tgt := 27) hx hb dX13_isReference_20 (by decide) (fun c_8 => ?_) (fun c_8 => ?_)
    · skip
      rw [if_neg c_8] at hf
      refine lv_iconst (v := 0) hx hb dX13_isReference_27 (by decide) ?_
      obtain ⟨h8, h9⟩ := ret_some hf
      rw [h8, h9]
      exact W.zret (v := 0) hx hb hr rfl (fun t ht hW => ⟨⟨0, (), rfl, rfl, by rw [ht]; exact hP, va_K.moved hW.alike hK, hD⟩, hS.F ht⟩) hS.2.2 dX13_isReference_28
    · skip
      rw [if_pos c_8] at hf
      refine lv_iconst (v := 1) hx hb dX13_isReference_23 (by decide) ?_
      refine lv_goto (tgt := 28) hx hb dX13_isReference_24 (by decide) ?_
      obtain ⟨h8, h9⟩ := ret_some hf
      rw [h8, h9]
      exact W.zret (v := 1) hx hb hr rfl (fun t ht hW => ⟨⟨1, (), rfl, rfl, by rw [ht]; exact hP, va_K.moved hW.alike hK, hD⟩, hS.F ht⟩) hS.2.2 dX13_isReference_28

set_option maxHeartbeats 4000000 in
set_option maxRecDepth 100000 in
theorem de_X5_prefixed (l : Launch) (dC : Nat → ClassId) (dI : Nat → Nat → Nat) (cy : Nat → ClassId) (a : Nat → Nat) (sh : Nat → Nat × Nat) (n sz : Nat) (F : Nat) (z : St) (x0 : Int32) (x1 : Int64) {z8 : St} {r8 : Int64} (hf : fn_X5_prefixed F sh n z x0 x1 = some (z8, r8)) : Met l yX5_prefixed wsX5_prefixed ({ frames := 1, cells := 0, slots := 0, locals := 22 }) (va_Pc [.int x0, .long x1] (fun U => U.heap.size = sz ∧ va_P (dC, dI) vwCl (Wd cy a sh n z) U.heap ∧ va_K (dC, dI) vwCl (TYS cy) U ∧ va_D (fun _ => True) (Wd cy a sh n z) ∧ NK U)) (va_Ql (fun (r9 : Int64) (u : Unit) => r9 = r8) (fun u t => va_P (dC, dI) vwCl (Wd cy a sh n z8) t.heap ∧ va_K (dC, dI) vwCl (TYS cy) t ∧ va_D (va_A (Wd cy a sh n z) sz) (Wd cy a sh n z8)) (va_A (Wd cy a sh n z) sz)) 0 0 (va_A (Wd cy a sh n z) sz) := by
  refine Met.ofW (cc := cX5_prefixed) (maxL := 4) (ret := (some .long)) (by decide) rfl ?_
  intro p e s m args below meth c s₁ B hml hv
  obtain ⟨rfl, hsz, hP, hK, hD0, hN⟩ := hv
  have hx := B.exec
  have hb := B.bytes
  have hr := B.returns
  have hts := atoms_spec (ws := wsX5_prefixed) B.pre
  have hown : s.vm.findClass RX5 = some m.cls := findClass_of_methodNamed B.named
  have hlocks := B.notSynchronized
  subst hsz
  have hD := hD0.self (sz := s.heap.size)
  clear hD0
  generalize hAe : va_A (Wd cy a sh n z) s.heap.size = A at hD ⊢
  have hA : ∀ q : Nat, s.heap.size ≤ q → A q := fun q h => by rw [← hAe]; exact Or.inr h
  clear hAe
  have hS : va_S A s.heap s.heap [] := va_S.rf
  have hl := lv_entry ([.int x0, .long x1]) (n := 4) (Nat.le_of_ble_eq_true rfl)
  rw [lg_entry_eq]
  generalize (lg_sl ([.int x0, .long x1]) ++ List.replicate (4 - (lg_sl ([.int x0, .long x1])).length) Slot.unset).toArray = ls at hl ⊢
  replace hl : lv_has ls 4 [(0, .int x0), (1, .long x1)] := hl
  unfold fn_X5_prefixed at hf
  refine de_start hS hP (fun H locs hS hP => ?_)
  refine lv_lload_n hx hb dX5_prefixed_0 rfl (lv_at hl 1 rfl) ?_
  obtain ⟨z_1, r_2, hfc, hf⟩ := cal_some hf
  have hFc := de_free hD hS hA
  refine va_calli (va_runS (As := [.long x1]) (rest := []) ⟨hx, hb, hml, hown, hts⟩ (de_X5_headShift l dC dI cy a sh n H.size F z x1 hfc) (va_cwS 1 hts gX5_prefixed_X5_headShift rfl rfl rfl (by decide +kernel) ⟨Nat.le_of_ble_eq_true rfl, Nat.le_of_ble_eq_true rfl⟩) ⟨fun a U g mk q => by obtain ⟨q0, q1, qP, qK, qD, qN⟩ := q; exact ⟨q0, q1, qP, va_K.moved (u := U) (U := U.calling g mk a) (Vm.Alike.refl U.vm) qK, qD, qN.same rfl⟩, fun U hU hW => ⟨rfl, by rw [hU], by rw [hU]; exact hP, va_K.moved hW.alike hK, hD.weaken (fun _ _ _ _ => trivial), hN.warm hW⟩⟩ rfl rfl hl.1 rfl (lv_room (Nat.le_of_ble_eq_true rfl)) dX5_prefixed_1 ⟨Nat.le_of_ble_eq_true rfl, Nat.le_of_ble_eq_true rfl⟩) hS (fun q _ h => hFc q h) hFc (fun rr u t H_3 locs ht hvm hw hB hz1 hk1 hS2 => ?_)
  rw [hw]
  clear hw
  obtain ⟨hP1, -, hD1⟩ := hB
  rw [ht] at hP1
  replace hD := hD1.weaken (fun _ _ _ h => hFc _ h)
  replace hP := hP1
  replace hS := hS2
  clear hP1 hD1 hS2 hFc hfc hz1 hk1 hvm ht
  refine lv_bipush (v := 8) hx hb dX5_prefixed_4 (by decide) ?_
  refine lv_iadd hx hb dX5_prefixed_6 ?_
  refine lv_topi (fun v_4 ev_4 => ?_)
  replace hf := lt_at ev_4 hf
  clear ev_4
  refine lv_istore_n (lv' := [(3, .int v_4), (0, .int x0), (1, .long x1)]) hx hb dX5_prefixed_7 rfl hl (by decide) rfl (fun ls hl2 => ?_)
  replace hl := hl2
  clear hl2
  refine lv_iload_n hx hb dX5_prefixed_8 rfl (lv_at hl 0 rfl) ?_
  refine lv_bipush (v := 56) hx hb dX5_prefixed_9 (by decide) ?_
  refine lv_icmp_le (tgt := 18) hx hb dX5_prefixed_11 (by decide) (fun c_5 => ?_) (fun c_5 => ?_)
  · skip
    rw [if_pos c_5] at hf
    refine lv_iload_n hx hb dX5_prefixed_18 rfl (lv_at hl 1 rfl) ?_
    refine lv_i2l (v := (x0 : Int32).toInt64) hx hb dX5_prefixed_19 rfl ?_
    refine lv_iload_n hx hb dX5_prefixed_20 rfl (lv_at hl 0 rfl) ?_
    refine lv_lshl (v := (((x0 : Int32).toInt64) <<< ((v_4 : Int32).toInt64 &&& 63))) hx hb dX5_prefixed_21 rfl ?_
    refine lv_lload_n hx hb dX5_prefixed_22 rfl (lv_at hl 2 rfl) ?_
    refine lv_lor hx hb dX5_prefixed_23 ?_
    obtain ⟨h8, h9⟩ := ret_some hf
    rw [h8, h9]
    exact W.lret (v := (((((x0 : Int32).toInt64) <<< ((v_4 : Int32).toInt64 &&& 63))) ||| x1)) hx hb hr (fun t ht hW => ⟨⟨(((((x0 : Int32).toInt64) <<< ((v_4 : Int32).toInt64 &&& 63))) ||| x1), (), rfl, rfl, by rw [ht]; exact hP, va_K.moved hW.alike hK, hD⟩, hS.F ht⟩) hS.2.2 dX5_prefixed_24
  · skip
    rw [if_neg c_5] at hf
    refine lv_lload_n hx hb dX5_prefixed_14 rfl (lv_at hl 2 rfl) ?_
    refine lv_goto (tgt := 24) hx hb dX5_prefixed_15 (by decide) ?_
    obtain ⟨h8, h9⟩ := ret_some hf
    rw [h8, h9]
    exact W.lret (v := x1) hx hb hr (fun t ht hW => ⟨⟨x1, (), rfl, rfl, by rw [ht]; exact hP, va_K.moved hW.alike hK, hD⟩, hS.F ht⟩) hS.2.2 dX5_prefixed_24

set_option maxHeartbeats 4000000 in
set_option maxRecDepth 100000 in
theorem de_X16_isStructureType (l : Launch) (dC : Nat → ClassId) (dI : Nat → Nat → Nat) (cy : Nat → ClassId) (a : Nat → Nat) (sh : Nat → Nat × Nat) (n sz : Nat) (F : Nat) (z : St) (h0 : Nat) (x0 : Int32) {z8 : St} {r8 : Int32} (hf : fn_X16_isStructureType F sh n z h0 x0 = some (z8, r8)) : Met l yX16_isStructureType wsX16_isStructureType ({ frames := 1, cells := 0, slots := 0, locals := 21 }) (va_Pc [.ref (a h0), .int x0] (fun U => U.heap.size = sz ∧ va_P (dC, dI) vwCl (Wd cy a sh n z) U.heap ∧ va_K (dC, dI) vwCl (TYS cy) U ∧ va_D (fun _ => True) (Wd cy a sh n z) ∧ NK U)) (va_Qi (fun (r9 : Int32) (u : Unit) => r9 = r8) (fun u t => va_P (dC, dI) vwCl (Wd cy a sh n z8) t.heap ∧ va_K (dC, dI) vwCl (TYS cy) t ∧ va_D (va_A (Wd cy a sh n z) sz) (Wd cy a sh n z8)) (va_A (Wd cy a sh n z) sz)) 0 0 (va_A (Wd cy a sh n z) sz) := by
  refine Met.ofW (cc := cX16_isStructureType) (maxL := 3) (ret := (some .boolean)) (by decide) rfl ?_
  intro p e s m args below meth c s₁ B hml hv
  obtain ⟨rfl, hsz, hP, hK, hD0, hN⟩ := hv
  have hx := B.exec
  have hb := B.bytes
  have hr := B.returns
  have hts := atoms_spec (ws := wsX16_isStructureType) B.pre
  have hown : s.vm.findClass RX16 = some m.cls := findClass_of_methodNamed B.named
  have hlocks := B.notSynchronized
  subst hsz
  have hD := hD0.self (sz := s.heap.size)
  clear hD0
  generalize hAe : va_A (Wd cy a sh n z) s.heap.size = A at hD ⊢
  have hA : ∀ q : Nat, s.heap.size ≤ q → A q := fun q h => by rw [← hAe]; exact Or.inr h
  clear hAe
  have hS : va_S A s.heap s.heap [] := va_S.rf
  have hl := lv_entry ([.ref (a h0), .int x0]) (n := 3) (Nat.le_of_ble_eq_true rfl)
  rw [lg_entry_eq]
  generalize (lg_sl ([.ref (a h0), .int x0]) ++ List.replicate (3 - (lg_sl ([.ref (a h0), .int x0])).length) Slot.unset).toArray = ls at hl ⊢
  replace hl : lv_has ls 3 [(0, .ref (a h0)), (1, .int x0)] := hl
  unfold fn_X16_isStructureType at hf
  refine de_start hS hP (fun H locs hS hP => ?_)
  refine lv_iload_n hx hb dX16_isStructureType_0 rfl (lv_at hl 1 rfl) ?_
  refine lv_istore_n (lv' := [(2, .int x0), (0, .ref (a h0)), (1, .int x0)]) hx hb dX16_isStructureType_1 rfl hl (by decide) rfl (fun ls hl2 => ?_)
  replace hl := hl2
  clear hl2
  have hl0 : lv_has ls 3 [(2, .int x0), (0, .ref (a h0))] := lv_sub hl [0, 1] rfl
  refine de_loop (h := 2) (fun (x : St × Int32) ls H locs => lv_has ls 3 [(2, .int x.2), (0, .ref (a h0))] ∧ va_P (dC, dI) vwCl (Wd cy a sh n x.1) H ∧ va_D A (Wd cy a sh n x.1) ∧ va_S A s.heap H locs) (fun f x => fn_X16_isStructureType_L2 F sh n h0 f x.1 x.2) (z8, r8) ?_ (fun _ => rfl) F (z, x0) ls H locs ⟨hl0, hP, hD, hS⟩ hf
  intro f_3 x ls H locs ih2 hI hf
  obtain ⟨z_2, p_1⟩ := x
  obtain ⟨hl2, hP2, hD2, hS2⟩ := hI
  replace hl : lv_has ls 3 [(2, .int p_1), (0, .ref (a h0))] := hl2
  replace hP := hP2
  replace hD := hD2
  replace hS := hS2
  clear hl2 hP2 hD2 hS2 hl0
  replace hf := fn_X16_isStructureType_L2_s hf
  refine lv_aload_n hx hb dX16_isStructureType_2 rfl (lv_at hl 1 rfl) ?_
  refine lv_iload_n hx hb dX16_isStructureType_3 rfl (lv_at hl 0 rfl) ?_
  obtain ⟨g_6, hf⟩ := grd_some hf
  obtain ⟨kg_6, sg_6⟩ := okO_at g_6
  obtain ⟨z_4, r_5, hfc, hf⟩ := cal_some hf
  have hFc := de_free hD hS hA
  refine va_calli (va_runV (As := [.int p_1]) (rest := []) ⟨hx, hb, hml, hown, hts⟩ (de_X16_byteAt l dC dI cy a sh n H.size F z_2 h0 p_1 hfc) (cwV 1 hts gX16_isStructureType_X16_byteAt rfl rfl rfl (by decide +kernel) ⟨Nat.le_of_ble_eq_true rfl, Nat.le_of_ble_eq_true rfl⟩) ⟨fun a U g mk q => by obtain ⟨q0, q1, qP, qK, qD, qN⟩ := q; exact ⟨q0, q1, qP, va_K.moved (u := U) (U := U.calling g mk a) (Vm.Alike.refl U.vm) qK, qD, qN.same rfl⟩, va_recv hK hP (ci := 16) (q0 := h0) rfl (Wd_ob kg_6 sg_6 (by decide)), fun U hU hW => ⟨rfl, by rw [hU], by rw [hU]; exact hP, va_K.moved hW.alike hK, hD.weaken (fun _ _ _ _ => trivial), hN.warm hW⟩⟩ rfl rfl hl.1 rfl (lv_room (Nat.le_of_ble_eq_true rfl)) dX16_isStructureType_4 ⟨Nat.le_of_ble_eq_true rfl, Nat.le_of_ble_eq_true rfl⟩) hS (fun q _ h => hFc q h) hFc (fun rr u t H_7 locs ht hvm hw hB hz1 hk1 hS2 => ?_)
  rw [hw]
  clear hw
  obtain ⟨hP1, -, hD1⟩ := hB
  rw [ht] at hP1
  replace hD := hD1.weaken (fun _ _ _ h => hFc _ h)
  replace hP := hP1
  replace hS := hS2
  clear hP1 hD1 hS2 hFc hfc hz1 hk1 hvm ht
  refine lv_bipush (v := 6) hx hb dX16_isStructureType_7 (by decide) ?_
  refine lv_icmp_le (tgt := 18) hx hb dX16_isStructureType_9 (by decide) (fun c_8 => ?_) (fun c_8 => ?_)
  · skip
    rw [if_pos c_8] at hf
    refine lv_aload_n hx hb dX16_isStructureType_18 rfl (lv_at hl 1 rfl) ?_
    refine lv_iload_n hx hb dX16_isStructureType_19 rfl (lv_at hl 0 rfl) ?_
    obtain ⟨z_9, r_10, hfc, hf⟩ := cal_some hf
    have hFc := de_free hD hS hA
    refine va_calli (va_runV (As := [.int p_1]) (rest := []) ⟨hx, hb, hml, hown, hts⟩ (de_X16_byteAt l dC dI cy a sh n H_7.size F z_4 h0 p_1 hfc) (cwV 1 hts gX16_isStructureType_X16_byteAt rfl rfl rfl (by decide +kernel) ⟨Nat.le_of_ble_eq_true rfl, Nat.le_of_ble_eq_true rfl⟩) ⟨fun a U g mk q => by obtain ⟨q0, q1, qP, qK, qD, qN⟩ := q; exact ⟨q0, q1, qP, va_K.moved (u := U) (U := U.calling g mk a) (Vm.Alike.refl U.vm) qK, qD, qN.same rfl⟩, va_recv hK hP (ci := 16) (q0 := h0) rfl (Wd_ob kg_6 sg_6 (by decide)), fun U hU hW => ⟨rfl, by rw [hU], by rw [hU]; exact hP, va_K.moved hW.alike hK, hD.weaken (fun _ _ _ _ => trivial), hN.warm hW⟩⟩ rfl rfl hl.1 rfl (lv_room (Nat.le_of_ble_eq_true rfl)) dX16_isStructureType_20 ⟨Nat.le_of_ble_eq_true rfl, Nat.le_of_ble_eq_true rfl⟩) hS (fun q _ h => hFc q h) hFc (fun rr u t H_11 locs ht hvm hw hB hz1 hk1 hS2 => ?_)
    rw [hw]
    clear hw
    obtain ⟨hP1, -, hD1⟩ := hB
    rw [ht] at hP1
    replace hD := hD1.weaken (fun _ _ _ h => hFc _ h)
    replace hP := hP1
    replace hS := hS2
    clear hP1 hD1 hS2 hFc hfc hz1 hk1 hvm ht
    refine lv_bipush (v := 6) hx hb dX16_isStructureType_23 (by decide) ?_
    refine lv_icmp_ne (tgt := 32) hx hb dX16_isStructureType_25 (by decide) (fun c_12 => ?_) (fun c_12 => ?_)
    · skip
      rw [if_neg c_12] at hf
      refine lv_iconst (v := 0) hx hb dX16_isStructureType_32 (by decide) ?_
      obtain ⟨h8, h9⟩ := ret_some hf
      rw [h8, h9]
      exact W.zret (v := 0) hx hb hr rfl (fun t ht hW => ⟨⟨0, (), rfl, rfl, by rw [ht]; exact hP, va_K.moved hW.alike hK, hD⟩, hS.F ht⟩) hS.2.2 dX16_isStructureType_33
    · skip
      rw [if_pos c_12] at hf
      refine lv_iconst (v := 1) hx hb dX16_isStructureType_28 (by decide) ?_
      refine lv_goto (tgt := 33) hx hb dX16_isStructureType_29 (by decide) ?_
      obtain ⟨h8, h9⟩ := ret_some hf
      rw [h8, h9]
      exact W.zret (v := 1) hx hb hr rfl (fun t ht hW => ⟨⟨1, (), rfl, rfl, by rw [ht]; exact hP, va_K.moved hW.alike hK, hD⟩, hS.F ht⟩) hS.2.2 dX16_isStructureType_33
  · skip
    rw [if_neg c_8] at hf
    refine lv_iinc (v := (p_1 + 1)) (lv' := [(2, .int (p_1 + 1)), (0, .ref (a h0))]) hx hb dX16_isStructureType_12 hl (k := 0) rfl rfl (by decide) rfl (fun ls hl2 => ?_)
    replace hl := hl2
    clear hl2
    refine lv_goto (tgt := 2) hx hb dX16_isStructureType_15 (by decide) ?_
    exact ih2 (z_4, (p_1 + 1)) ls H_7 locs ⟨lv_sub hl [0, 1] rfl, hP, hD, hS⟩ hf

theorem md_X5_deepStructure_1 : (.fieldLink RX5 99 "ResourceLedger$Program" "ownStructures" "I" : Cond) ∈ wsX5_deepStructure := List.mem_of_getElem? (i := 1) rfl
theorem iwd_X5_deepStructure_X5 : ∀ w ∈ wsX50, w ∈ wsX5_deepStructure := fun _ h => List.mem_cons_of_mem _ (List.mem_append_right _ h)
set_option maxHeartbeats 4000000 in
set_option maxRecDepth 100000 in
theorem de_X5_deepStructure (l : Launch) (dC : Nat → ClassId) (dI : Nat → Nat → Nat) (cy : Nat → ClassId) (a : Nat → Nat) (sh : Nat → Nat × Nat) (n sz : Nat) (F : Nat) (z : St) (h0 : Nat) {z8 : St} {r8 : Int32} (hf : fn_X5_deepStructure F sh n z h0 = some (z8, r8)) : Met l yX5_deepStructure wsX5_deepStructure ({ frames := 1, cells := 0, slots := 0, locals := 22 }) (va_Pc [.ref (a h0)] (fun U => U.heap.size = sz ∧ va_P (dC, dI) vwCl (Wd cy a sh n z) U.heap ∧ va_K (dC, dI) vwCl (TYS cy) U ∧ va_D (fun _ => True) (Wd cy a sh n z) ∧ NK U)) (va_Qi (fun (r9 : Int32) (u : Unit) => r9 = r8) (fun u t => va_P (dC, dI) vwCl (Wd cy a sh n z8) t.heap ∧ va_K (dC, dI) vwCl (TYS cy) t ∧ va_D (va_A (Wd cy a sh n z) sz) (Wd cy a sh n z8)) (va_A (Wd cy a sh n z) sz)) 0 0 (va_A (Wd cy a sh n z) sz) := by
  refine Met.ofW (cc := cX5_deepStructure) (maxL := 2) (ret := (some .int)) (by decide) rfl ?_
  intro p e s m args below meth c s₁ B hml hv
  obtain ⟨rfl, hsz, hP, hK, hD0, hN⟩ := hv
  have hx := B.exec
  have hb := B.bytes
  have hr := B.returns
  have hts := atoms_spec (ws := wsX5_deepStructure) B.pre
  have hown : s.vm.findClass RX5 = some m.cls := findClass_of_methodNamed B.named
  have hlocks := B.notSynchronized
  subst hsz
  have hD := hD0.self (sz := s.heap.size)
  clear hD0
  generalize hAe : va_A (Wd cy a sh n z) s.heap.size = A at hD ⊢
  have hA : ∀ q : Nat, s.heap.size ≤ q → A q := fun q h => by rw [← hAe]; exact Or.inr h
  clear hAe
  have hS : va_S A s.heap s.heap [] := va_S.rf
  have hl := lv_entry ([.ref (a h0)]) (n := 2) (Nat.le_of_ble_eq_true rfl)
  rw [lg_entry_eq]
  generalize (lg_sl ([.ref (a h0)]) ++ List.replicate (2 - (lg_sl ([.ref (a h0)])).length) Slot.unset).toArray = ls at hl ⊢
  replace hl : lv_has ls 2 [(0, .ref (a h0))] := hl
  unfold fn_X5_deepStructure at hf
  refine de_start hS hP (fun H locs hS hP => ?_)
  refine lv_iconst (v := 0) hx hb dX5_deepStructure_0 (by decide) ?_
  refine lv_istore_n (lv' := [(1, .int 0), (0, .ref (a h0))]) hx hb dX5_deepStructure_1 rfl hl (by decide) rfl (fun ls hl2 => ?_)
  replace hl := hl2
  clear hl2
  have hl0 : lv_has ls 2 [(1, .int 0), (0, .ref (a h0))] := lv_sub hl [0, 1] rfl
  refine de_loop (h := 2) (fun (x : St × Int32) ls H locs => lv_has ls 2 [(1, .int x.2), (0, .ref (a h0))] ∧ va_P (dC, dI) vwCl (Wd cy a sh n x.1) H ∧ va_D A (Wd cy a sh n x.1) ∧ va_S A s.heap H locs) (fun f x => fn_X5_deepStructure_L2 F sh n h0 f x.1 x.2) (z8, r8) ?_ (fun _ => rfl) F (z, 0) ls H locs ⟨hl0, hP, hD, hS⟩ hf
  intro f_3 x ls H locs ih2 hI hf
  obtain ⟨z_2, p_1⟩ := x
  obtain ⟨hl2, hP2, hD2, hS2⟩ := hI
  replace hl : lv_has ls 2 [(1, .int p_1), (0, .ref (a h0))] := hl2
  replace hP := hP2
  replace hD := hD2
  replace hS := hS2
  clear hl2 hP2 hD2 hS2 hl0
  replace hf := fn_X5_deepStructure_L2_s hf
  refine lv_iload_n hx hb dX5_deepStructure_2 rfl (lv_at hl 0 rfl) ?_
  refine lv_aload_n hx hb dX5_deepStructure_3 rfl (lv_at hl 1 rfl) ?_
  obtain ⟨g_4, hf⟩ := grd_some hf
  obtain ⟨kg_4, sg_4⟩ := okO_at g_4
  refine va_get (D := (dC, dI)) (ci := 5) (v := .int (z_2.1 h0 8)) (C := RX5) (T := TX5) (N := 15) hx hb hts iwd_X5_deepStructure_X5 hown hK hP h0 (Wd_ob kg_4 sg_4 (by decide)) rfl 8 (by decide) (hts _ md_X5_deepStructure_1) (fun _ h9 => h9) (fl_at (t := 0) rfl) dX5_deepStructure_4 ?_
  refine lv_icmp_ge (tgt := 30) hx hb dX5_deepStructure_7 (by decide) (fun c_5 => ?_) (fun c_5 => ?_)
  · skip
    rw [if_pos c_5] at hf
    refine lv_iconst (v := (-1)) hx hb dX5_deepStructure_30 (by decide) ?_
    obtain ⟨h8, h9⟩ := ret_some hf
    rw [h8, h9]
    exact W.iret (v := (-1)) hx hb hr (fun t ht hW => ⟨⟨(-1), (), rfl, rfl, by rw [ht]; exact hP, va_K.moved hW.alike hK, hD⟩, hS.F ht⟩) hS.2.2 dX5_deepStructure_31
  · skip
    rw [if_neg c_5] at hf
    refine lv_aload_n hx hb dX5_deepStructure_10 rfl (lv_at hl 1 rfl) ?_
    refine lv_iload_n hx hb dX5_deepStructure_11 rfl (lv_at hl 0 rfl) ?_
    refine lv_bipush (v := 6) hx hb dX5_deepStructure_12 (by decide) ?_
    obtain ⟨z_6, r_7, hfc, hf⟩ := cal_some hf
    have hFc := de_free hD hS hA
    refine va_calli (va_runV (As := [.int p_1, .int 6]) (rest := []) ⟨hx, hb, hml, hown, hts⟩ (de_X5_structureColumn l dC dI cy a sh n H.size F z_2 h0 p_1 6 hfc) (cwV 2 hts gX5_deepStructure_X5_structureColumn rfl rfl rfl (by decide +kernel) ⟨Nat.le_of_ble_eq_true rfl, Nat.le_of_ble_eq_true rfl⟩) ⟨fun a U g mk q => by obtain ⟨q0, q1, qP, qK, qD, qN⟩ := q; exact ⟨q0, q1, qP, va_K.moved (u := U) (U := U.calling g mk a) (Vm.Alike.refl U.vm) qK, qD, qN.same rfl⟩, va_recv hK hP (ci := 5) (q0 := h0) rfl (Wd_ob kg_4 sg_4 (by decide)), fun U hU hW => ⟨rfl, by rw [hU], by rw [hU]; exact hP, va_K.moved hW.alike hK, hD.weaken (fun _ _ _ _ => trivial), hN.warm hW⟩⟩ rfl rfl hl.1 rfl (lv_room (Nat.le_of_ble_eq_true rfl)) dX5_deepStructure_14 ⟨Nat.le_of_ble_eq_true rfl, Nat.le_of_ble_eq_true rfl⟩) hS (fun q _ h => hFc q h) hFc (fun rr u t H_8 locs ht hvm hw hB hz1 hk1 hS2 => ?_)
    rw [hw]
    clear hw
    obtain ⟨hP1, -, hD1⟩ := hB
    rw [ht] at hP1
    replace hD := hD1.weaken (fun _ _ _ h => hFc _ h)
    replace hP := hP1
    replace hS := hS2
    clear hP1 hD1 hS2 hFc hfc hz1 hk1 hvm ht
    refine lv_bipush (v := 24) hx hb dX5_deepStructure_17 (by decide) ?_
    refine lv_icmp_le (tgt := 24) hx hb dX5_deepStructure_19 (by decide) (fun c_9 => ?_) (fun c_9 => ?_)
    · skip
      rw [if_pos c_9] at hf
      refine lv_iinc (v := (p_1 + 1)) (lv' := [(1, .int (p_1 + 1)), (0, .ref (a h0))]) hx hb dX5_deepStructure_24 hl (k := 0) rfl rfl (by decide) rfl (fun ls hl2 => ?_)
      replace hl := hl2
      clear hl2
      refine lv_goto (tgt := 2) hx hb dX5_deepStructure_27 (by decide) ?_
      exact ih2 (z_6, (p_1 + 1)) ls H_8 locs ⟨lv_sub hl [0, 1] rfl, hP, hD, hS⟩ hf
    · skip
      rw [if_neg c_9] at hf
      refine lv_iload_n hx hb dX5_deepStructure_22 rfl (lv_at hl 0 rfl) ?_
      obtain ⟨h8, h9⟩ := ret_some hf
      rw [h8, h9]
      exact W.iret (v := p_1) hx hb hr (fun t ht hW => ⟨⟨p_1, (), rfl, rfl, by rw [ht]; exact hP, va_K.moved hW.alike hK, hD⟩, hS.F ht⟩) hS.2.2 dX5_deepStructure_23

theorem md_X6_readJudged_1 : (.fieldLink RX6 32 "ResourceLedger$Reader" "at" "I" : Cond) ∈ wsX6_readJudged := List.mem_of_getElem? (i := 1) rfl
theorem iwd_X6_readJudged_X6 : ∀ w ∈ wsX60, w ∈ wsX6_readJudged := fun _ h => List.mem_cons_of_mem _ (List.mem_append_left _ (List.mem_append_right _ h))
theorem md_X6_readJudged_2 : (.fieldLink RX6 28 "ResourceLedger$Reader" "judging" "Z" : Cond) ∈ wsX6_readJudged := List.mem_of_getElem? (i := 2) rfl
set_option maxHeartbeats 4000000 in
set_option maxRecDepth 100000 in
theorem de_X6_readJudged (l : Launch) (dC : Nat → ClassId) (dI : Nat → Nat → Nat) (cy : Nat → ClassId) (a : Nat → Nat) (sh : Nat → Nat × Nat) (n sz : Nat) (F : Nat) (sk : Nat → Nat) (z : St) (h0 : Nat) (x0 : Int32) (x1 : Int32) {z8 : St} {r8 : Int32} (hf : fn_X6_readJudged F sh n z h0 x0 x1 = some (z8, r8)) : Met l yX6_readJudged wsX6_readJudged ({ frames := 1, cells := 0, slots := 0, locals := 22 }) (va_Pc [.ref (a h0), .int x0, .int x1] (fun U => U.heap.size = sz ∧ va_P (dC, dI) vwCl (Wd cy a sh n z) U.heap ∧ va_K (dC, dI) vwCl (TYS cy) U ∧ va_D (fun _ => True) (Wd cy a sh n z) ∧ NK U ∧ SKs sk (a CBK) (va_A (Wd cy a sh n z) sz) U U.heap)) (va_Qi (fun (r9 : Int32) (u : Unit) => r9 = r8) (fun u t => va_P (dC, dI) vwCl (Wd cy a sh n z8) t.heap ∧ va_K (dC, dI) vwCl (TYS cy) t ∧ va_D (va_A (Wd cy a sh n z) sz) (Wd cy a sh n z8)) (va_A (Wd cy a sh n z) sz)) 0 0 (va_A (Wd cy a sh n z) sz) := by
  refine Met.ofW (cc := cX6_readJudged) (maxL := 5) (ret := (some .int)) (by decide) rfl ?_
  intro p e s m args below meth c s₁ B hml hv
  obtain ⟨rfl, hsz, hP, hK, hD0, hN, hSK⟩ := hv
  have hx := B.exec
  have hb := B.bytes
  have hr := B.returns
  have hts := atoms_spec (ws := wsX6_readJudged) B.pre
  have hown : s.vm.findClass RX6 = some m.cls := findClass_of_methodNamed B.named
  have hlocks := B.notSynchronized
  subst hsz
  have hD := hD0.self (sz := s.heap.size)
  clear hD0
  generalize hAe : va_A (Wd cy a sh n z) s.heap.size = A at hD hSK ⊢
  have hA : ∀ q : Nat, s.heap.size ≤ q → A q := fun q h => by rw [← hAe]; exact Or.inr h
  clear hAe
  have hS : va_S A s.heap s.heap [] := va_S.rf
  have hl := lv_entry ([.ref (a h0), .int x0, .int x1]) (n := 5) (Nat.le_of_ble_eq_true rfl)
  rw [lg_entry_eq]
  generalize (lg_sl ([.ref (a h0), .int x0, .int x1]) ++ List.replicate (5 - (lg_sl ([.ref (a h0), .int x0, .int x1])).length) Slot.unset).toArray = ls at hl ⊢
  replace hl : lv_has ls 5 [(0, .ref (a h0)), (1, .int x0), (2, .int x1)] := hl
  unfold fn_X6_readJudged at hf
  refine de_start hS hP (fun H locs hS hP => ?_)
  refine lv_aload_n hx hb dX6_readJudged_0 rfl (lv_at hl 0 rfl) ?_
  obtain ⟨g_1, hf⟩ := grd_some hf
  obtain ⟨kg_1, sg_1⟩ := okO_at g_1
  refine va_get (D := (dC, dI)) (ci := 6) (v := .int (z.1 h0 3)) (C := RX6) (T := TX6) (N := 9) hx hb hts iwd_X6_readJudged_X6 hown hK hP h0 (Wd_ob kg_1 sg_1 (by decide)) rfl 3 (by decide) (hts _ md_X6_readJudged_1) (fun _ h9 => h9) (fl_at (t := 0) rfl) dX6_readJudged_1 ?_
  refine lv_topi (fun v_2 ev_2 => ?_)
  replace hf := lt_at ev_2 hf
  clear ev_2
  refine lv_istore_n (lv' := [(3, .int v_2), (0, .ref (a h0)), (1, .int x0), (2, .int x1)]) hx hb dX6_readJudged_4 rfl hl (by decide) rfl (fun ls hl2 => ?_)
  replace hl := hl2
  clear hl2
  refine lv_aload_n hx hb dX6_readJudged_5 rfl (lv_at hl 1 rfl) ?_
  obtain ⟨z_3, r_4, hfc, hf⟩ := cal_some hf
  have hFc := de_free hD hS hA
  refine va_calli (va_runV (As := []) (rest := []) ⟨hx, hb, hml, hown, hts⟩ (de_X6_readByte l dC dI cy a sh n H.size F sk z h0 hfc) (cwV 0 hts gX6_readJudged_X6_readByte rfl rfl rfl (by decide +kernel) ⟨Nat.le_of_ble_eq_true rfl, Nat.le_of_ble_eq_true rfl⟩) ⟨fun a U g mk q => by obtain ⟨q0, q1, qP, qK, qD, qN, qS⟩ := q; exact ⟨q0, q1, qP, va_K.moved (u := U) (U := U.calling g mk a) (Vm.Alike.refl U.vm) qK, qD, qN.same rfl, SKs.moved (u := U) (U := U.calling g mk a) (Vm.Alike.refl U.vm) qS⟩, va_recv hK hP (ci := 6) (q0 := h0) rfl (Wd_ob kg_1 sg_1 (by decide)), fun U hU hW => ⟨rfl, by rw [hU], by rw [hU]; exact hP, va_K.moved hW.alike hK, hD.weaken (fun _ _ _ _ => trivial), hN.warm hW, by rw [hU]; exact ((hSK.kept hS.2.1).narrow hFc).moved hW.alike⟩⟩ rfl rfl hl.1 rfl (lv_room (Nat.le_of_ble_eq_true rfl)) dX6_readJudged_6 ⟨Nat.le_of_ble_eq_true rfl, Nat.le_of_ble_eq_true rfl⟩) hS (fun q _ h => hFc q h) hFc (fun rr u t H_5 locs ht hvm hw hB hz1 hk1 hS2 => ?_)
  rw [hw]
  clear hw
  obtain ⟨hP1, -, hD1⟩ := hB
  rw [ht] at hP1
  replace hD := hD1.weaken (fun _ _ _ h => hFc _ h)
  replace hP := hP1
  replace hS := hS2
  clear hP1 hD1 hS2 hFc hfc hz1 hk1 hvm ht
  refine lv_istore (lv' := [(4, .int r_4), (3, .int v_2), (0, .ref (a h0)), (1, .int x0), (2, .int x1)]) hx hb dX6_readJudged_9 hl (by decide) rfl (fun ls hl2 => ?_)
  replace hl := hl2
  clear hl2
  refine lv_aload_n hx hb dX6_readJudged_11 rfl (lv_at hl 2 rfl) ?_
  refine va_get (D := (dC, dI)) (ci := 6) (v := .int (z_3.1 h0 4)) (C := RX6) (T := TX6) (N := 9) hx hb hts iwd_X6_readJudged_X6 hown hK hP h0 (Wd_ob kg_1 sg_1 (by decide)) rfl 4 (by decide) (hts _ md_X6_readJudged_2) (fun _ h9 => h9) (fl_at (t := 0) rfl) dX6_readJudged_12 ?_
  refine lv_if_eq (tgt := 30) hx hb dX6_readJudged_15 (by decide) (fun c_6 => ?_) (fun c_6 => ?_)
  · skip
    rw [if_pos c_6] at hf
    refine lv_iload hx hb dX6_readJudged_30 (lv_at hl 0 rfl) ?_
    obtain ⟨h8, h9⟩ := ret_some hf
    rw [h8, h9]
    exact W.iret (v := r_4) hx hb hr (fun t ht hW => ⟨⟨r_4, (), rfl, rfl, by rw [ht]; exact hP, va_K.moved hW.alike hK, hD⟩, hS.F ht⟩) hS.2.2 dX6_readJudged_32
  · skip
    rw [if_neg c_6] at hf
    refine lv_iload hx hb dX6_readJudged_18 (lv_at hl 0 rfl) ?_
    refine lv_iload_n hx hb dX6_readJudged_20 rfl (lv_at hl 3 rfl) ?_
    refine lv_icmp_lt (tgt := 30) hx hb dX6_readJudged_21 (by decide) (fun c_7 => ?_) (fun c_7 => ?_)
    · skip
      rw [if_pos c_7] at hf
      refine lv_iload hx hb dX6_readJudged_30 (lv_at hl 0 rfl) ?_
      obtain ⟨h8, h9⟩ := ret_some hf
      rw [h8, h9]
      exact W.iret (v := r_4) hx hb hr (fun t ht hW => ⟨⟨r_4, (), rfl, rfl, by rw [ht]; exact hP, va_K.moved hW.alike hK, hD⟩, hS.F ht⟩) hS.2.2 dX6_readJudged_32
    · skip
      rw [if_neg c_7] at hf
      refine lv_aload_n hx hb dX6_readJudged_24 rfl (lv_at hl 2 rfl) ?_
      refine lv_iload_n hx hb dX6_readJudged_25 rfl (lv_at hl 4 rfl) ?_
      refine lv_iload_n hx hb dX6_readJudged_26 rfl (lv_at hl 1 rfl) ?_
      obtain ⟨z_8, _u, hfc, hf⟩ := cal_some hf
      have hFc := de_free hD hS hA
      refine va_callv (va_runV (As := [.int x1, .int v_2]) (rest := []) ⟨hx, hb, hml, hown, hts⟩ (de_X6_fail l dC dI cy a sh n H_5.size F z_3 h0 x1 v_2 hfc) (cwV 2 hts gX6_readJudged_X6_fail rfl rfl rfl (by decide +kernel) ⟨Nat.le_of_ble_eq_true rfl, Nat.le_of_ble_eq_true rfl⟩) ⟨fun a U g mk q => by obtain ⟨q0, q1, qP, qK, qD, qN⟩ := q; exact ⟨q0, q1, qP, va_K.moved (u := U) (U := U.calling g mk a) (Vm.Alike.refl U.vm) qK, qD, qN.same rfl⟩, va_recv hK hP (ci := 6) (q0 := h0) rfl (Wd_ob kg_1 sg_1 (by decide)), fun U hU hW => ⟨rfl, by rw [hU], by rw [hU]; exact hP, va_K.moved hW.alike hK, hD.weaken (fun _ _ _ _ => trivial), hN.warm hW⟩⟩ rfl rfl hl.1 rfl (lv_room (Nat.le_of_ble_eq_true rfl)) dX6_readJudged_27 ⟨Nat.le_of_ble_eq_true rfl, Nat.le_of_ble_eq_true rfl⟩) hS (fun q _ h => hFc q h) hFc (fun u t H_9 locs ht hvm hw hB hz1 hk1 hS2 => ?_)
      obtain ⟨hP1, -, hD1⟩ := hB
      rw [ht] at hP1
      replace hD := hD1.weaken (fun _ _ _ h => hFc _ h)
      replace hP := hP1
      replace hS := hS2
      clear hP1 hD1 hS2 hFc hfc hz1 hk1 hvm ht
      refine lv_iload hx hb dX6_readJudged_30 (lv_at hl 0 rfl) ?_
      obtain ⟨h8, h9⟩ := ret_some hf
      rw [h8, h9]
      exact W.iret (v := r_4) hx hb hr (fun t ht hW => ⟨⟨r_4, (), rfl, rfl, by rw [ht]; exact hP, va_K.moved hW.alike hK, hD⟩, hS.F ht⟩) hS.2.2 dX6_readJudged_32

theorem md_X4_append_1 : (.constantLong RX4 412 (256) : Cond) ∈ wsX4_append := List.mem_of_getElem? (i := 1) rfl
theorem md_X4_append_3 : (.fieldLink RX4 12 "ResourceLedger$Machine" "heap" "LResourceLedger$Heap;" : Cond) ∈ wsX4_append := List.mem_of_getElem? (i := 3) rfl
theorem iwd_X4_append_X4 : ∀ w ∈ wsX40, w ∈ wsX4_append := fun _ h => List.mem_cons_of_mem _ (List.mem_append_left _ (List.mem_append_right _ h))
theorem md_X4_append_2 : (.constantLong RX4 151 (4) : Cond) ∈ wsX4_append := List.mem_of_getElem? (i := 2) rfl
set_option maxHeartbeats 4000000 in
set_option maxRecDepth 100000 in
theorem de_X4_append (l : Launch) (dC : Nat → ClassId) (dI : Nat → Nat → Nat) (cy : Nat → ClassId) (a : Nat → Nat) (sh : Nat → Nat × Nat) (n sz : Nat) (F : Nat) (z : St) (h0 : Nat) (x0 : Int32) (x1 : Int64) {z8 : St} {r8 : Unit} (hf : fn_X4_append F sh n z h0 x0 x1 = some (z8, r8)) : Met l yX4_append wsX4_append ({ frames := 1, cells := 0, slots := 0, locals := 23 }) (va_Pc [.ref (a h0), .int x0, .long x1] (fun U => U.heap.size = sz ∧ va_P (dC, dI) vwCl (Wd cy a sh n z) U.heap ∧ va_K (dC, dI) vwCl (TYS cy) U ∧ va_D (fun _ => True) (Wd cy a sh n z) ∧ NK U)) (va_Qv (fun u : Unit => True) (fun u t => va_P (dC, dI) vwCl (Wd cy a sh n z8) t.heap ∧ va_K (dC, dI) vwCl (TYS cy) t ∧ va_D (va_A (Wd cy a sh n z) sz) (Wd cy a sh n z8)) (va_A (Wd cy a sh n z) sz)) 0 0 (va_A (Wd cy a sh n z) sz) := by
  refine Met.ofW (cc := cX4_append) (maxL := 4) (ret := none) (by decide) rfl ?_
  intro p e s m args below meth c s₁ B hml hv
  obtain ⟨rfl, hsz, hP, hK, hD0, hN⟩ := hv
  have hx := B.exec
  have hb := B.bytes
  have hr := B.returns
  have hts := atoms_spec (ws := wsX4_append) B.pre
  have hown : s.vm.findClass RX4 = some m.cls := findClass_of_methodNamed B.named
  have hlocks := B.notSynchronized
  subst hsz
  have hD := hD0.self (sz := s.heap.size)
  clear hD0
  generalize hAe : va_A (Wd cy a sh n z) s.heap.size = A at hD ⊢
  have hA : ∀ q : Nat, s.heap.size ≤ q → A q := fun q h => by rw [← hAe]; exact Or.inr h
  clear hAe
  have hS : va_S A s.heap s.heap [] := va_S.rf
  have hl := lv_entry ([.ref (a h0), .int x0, .long x1]) (n := 4) (Nat.le_of_ble_eq_true rfl)
  rw [lg_entry_eq]
  generalize (lg_sl ([.ref (a h0), .int x0, .long x1]) ++ List.replicate (4 - (lg_sl ([.ref (a h0), .int x0, .long x1])).length) Slot.unset).toArray = ls at hl ⊢
  replace hl : lv_has ls 4 [(0, .ref (a h0)), (1, .int x0), (2, .long x1)] := hl
  unfold fn_X4_append at hf
  refine de_start hS hP (fun H locs hS hP => ?_)
  refine lv_lload_n hx hb dX4_append_0 rfl (lv_at hl 2 rfl) ?_
  refine lv_ldc2 hx hb hown (hts _ md_X4_append_1) dX4_append_1 ?_
  refine W.lcmp hx hb dX4_append_4 ?_
  refine lv_if_lt (tgt := 17) hx hb dX4_append_5 (by decide) (fun c_1 => ?_) (fun c_1 => ?_)
  · skip
    rw [lg_cmp_lt] at c_1
    rw [if_pos c_1] at hf
    refine lv_aload_n hx hb dX4_append_17 rfl (lv_at hl 0 rfl) ?_
    obtain ⟨g_2, hf⟩ := grd_some hf
    obtain ⟨kg_2, sg_2⟩ := okO_at g_2
    obtain ⟨k_3, ek_3, hf⟩ := lnk_some hf
    refine va_get (D := (dC, dI)) (ci := 4) (v := .ref (a k_3)) (C := RX4) (T := TX4) (N := 18) hx hb hts iwd_X4_append_X4 hown hK hP h0 (Wd_ob kg_2 sg_2 (by decide)) rfl 1 (by decide) (hts _ md_X4_append_3) (fun _ h9 => h9) (fl_q rfl ek_3) dX4_append_18 ?_
    refine lv_iload_n hx hb dX4_append_21 rfl (lv_at hl 1 rfl) ?_
    refine lv_aload_n hx hb dX4_append_22 rfl (lv_at hl 0 rfl) ?_
    obtain ⟨z_4, r_5, hfc, hf⟩ := cal_some hf
    have hFc := de_free hD hS hA
    refine va_calli (va_runV (As := []) (rest := [.int x0, .ref (a k_3)]) ⟨hx, hb, hml, hown, hts⟩ (de_X4_pop l dC dI cy a sh n H.size F z h0 hfc) (cwV 0 hts gX4_append_X4_pop rfl rfl rfl (by decide +kernel) ⟨Nat.le_of_ble_eq_true rfl, Nat.le_of_ble_eq_true rfl⟩) ⟨fun a U g mk q => by obtain ⟨q0, q1, qP, qK, qD, qN⟩ := q; exact ⟨q0, q1, qP, va_K.moved (u := U) (U := U.calling g mk a) (Vm.Alike.refl U.vm) qK, qD, qN.same rfl⟩, va_recv hK hP (ci := 4) (q0 := h0) rfl (Wd_ob kg_2 sg_2 (by decide)), fun U hU hW => ⟨rfl, by rw [hU], by rw [hU]; exact hP, va_K.moved hW.alike hK, hD.weaken (fun _ _ _ _ => trivial), hN.warm hW⟩⟩ rfl rfl hl.1 rfl (lv_room (Nat.le_of_ble_eq_true rfl)) dX4_append_23 ⟨Nat.le_of_ble_eq_true rfl, Nat.le_of_ble_eq_true rfl⟩) hS (fun q _ h => hFc q h) hFc (fun rr u t H_6 locs ht hvm hw hB hz1 hk1 hS2 => ?_)
    rw [hw]
    clear hw
    obtain ⟨hP1, -, hD1⟩ := hB
    rw [ht] at hP1
    replace hD := hD1.weaken (fun _ _ _ h => hFc _ h)
    replace hP := hP1
    replace hS := hS2
    clear hP1 hD1 hS2 hFc hfc hz1 hk1 hvm ht
    obtain ⟨g_8, hf⟩ := grd_some hf
    obtain ⟨kg_8, sg_8⟩ := okO_at g_8
    obtain ⟨z_7, _u, hfc, hf⟩ := cal_some hf
    have hFc := de_free hD hS hA
    refine va_callv (va_runV (As := [.int x0, .int r_5]) (rest := []) ⟨hx, hb, hml, hown, hts⟩ (de_X1_prepend l dC dI cy a sh n H_6.size F z_4 k_3 x0 r_5 hfc) (cwV 2 hts gX4_append_X1_prepend rfl rfl rfl (by decide +kernel) ⟨Nat.le_of_ble_eq_true rfl, Nat.le_of_ble_eq_true rfl⟩) ⟨fun a U g mk q => by obtain ⟨q0, q1, qP, qK, qD, qN⟩ := q; exact ⟨q0, q1, qP, va_K.moved (u := U) (U := U.calling g mk a) (Vm.Alike.refl U.vm) qK, qD, qN.same rfl⟩, va_recv hK hP (ci := 1) (q0 := k_3) rfl (Wd_ob kg_8 sg_8 (by decide)), fun U hU hW => ⟨rfl, by rw [hU], by rw [hU]; exact hP, va_K.moved hW.alike hK, hD.weaken (fun _ _ _ _ => trivial), hN.warm hW⟩⟩ rfl rfl hl.1 rfl (lv_room (Nat.le_of_ble_eq_true rfl)) dX4_append_26 ⟨Nat.le_of_ble_eq_true rfl, Nat.le_of_ble_eq_true rfl⟩) hS (fun q _ h => hFc q h) hFc (fun u t H_9 locs ht hvm hw hB hz1 hk1 hS2 => ?_)
    obtain ⟨hP1, -, hD1⟩ := hB
    rw [ht] at hP1
    replace hD := hD1.weaken (fun _ _ _ h => hFc _ h)
    replace hP := hP1
    replace hS := hS2
    clear hP1 hD1 hS2 hFc hfc hz1 hk1 hvm ht
    refine lv_aload_n hx hb dX4_append_29 rfl (lv_at hl 0 rfl) ?_
    obtain ⟨z_10, r_11, hfc, hf⟩ := cal_some hf
    have hFc := de_free hD hS hA
    refine va_calli (va_runV (As := []) (rest := []) ⟨hx, hb, hml, hown, hts⟩ (de_X4_pop l dC dI cy a sh n H_9.size F z_7 h0 hfc) (cwV 0 hts gX4_append_X4_pop rfl rfl rfl (by decide +kernel) ⟨Nat.le_of_ble_eq_true rfl, Nat.le_of_ble_eq_true rfl⟩) ⟨fun a U g mk q => by obtain ⟨q0, q1, qP, qK, qD, qN⟩ := q; exact ⟨q0, q1, qP, va_K.moved (u := U) (U := U.calling g mk a) (Vm.Alike.refl U.vm) qK, qD, qN.same rfl⟩, va_recv hK hP (ci := 4) (q0 := h0) rfl (Wd_ob kg_2 sg_2 (by decide)), fun U hU hW => ⟨rfl, by rw [hU], by rw [hU]; exact hP, va_K.moved hW.alike hK, hD.weaken (fun _ _ _ _ => trivial), hN.warm hW⟩⟩ rfl rfl hl.1 rfl (lv_room (Nat.le_of_ble_eq_true rfl)) dX4_append_30 ⟨Nat.le_of_ble_eq_true rfl, Nat.le_of_ble_eq_true rfl⟩) hS (fun q _ h => hFc q h) hFc (fun rr u t H_12 locs ht hvm hw hB hz1 hk1 hS2 => ?_)
    rw [hw]
    clear hw
    obtain ⟨hP1, -, hD1⟩ := hB
    rw [ht] at hP1
    replace hD := hD1.weaken (fun _ _ _ h => hFc _ h)
    replace hP := hP1
    replace hS := hS2
    clear hP1 hD1 hS2 hFc hfc hz1 hk1 hvm ht
    refine lv_pop hx hb dX4_append_33 rfl ?_
    obtain ⟨h8, h9⟩ := ret_some hf
    rw [h8]
    exact W.vret hx hb hr (fun t ht hW => ⟨⟨(), rfl, trivial, by rw [ht]; exact hP, va_K.moved hW.alike hK, hD⟩, hS.F ht⟩) hS.2.2 dX4_append_34
  · skip
    rw [lg_cmp_lt] at c_1
    rw [if_neg c_1] at hf
    refine lv_aload_n hx hb dX4_append_8 rfl (lv_at hl 0 rfl) ?_
    refine lv_iconst (v := 2) hx hb dX4_append_9 (by decide) ?_
    refine lv_ldc2 hx hb hown (hts _ md_X4_append_2) dX4_append_10 ?_
    obtain ⟨g_14, hf⟩ := grd_some hf
    obtain ⟨kg_14, sg_14⟩ := okO_at g_14
    obtain ⟨z_13, _u, hfc, hf⟩ := cal_some hf
    have hFc := de_free hD hS hA
    refine va_callv (va_runV (As := [.int 2, .long 4]) (rest := []) ⟨hx, hb, hml, hown, hts⟩ (de_X4_end l dC dI cy a sh n H.size F z h0 2 4 hfc) (cwV 2 hts gX4_append_X4_end rfl rfl rfl (by decide +kernel) ⟨Nat.le_of_ble_eq_true rfl, Nat.le_of_ble_eq_true rfl⟩) ⟨fun a U g mk q => by obtain ⟨q0, q1, qP, qK, qD, qN⟩ := q; exact ⟨q0, q1, qP, va_K.moved (u := U) (U := U.calling g mk a) (Vm.Alike.refl U.vm) qK, qD, qN.same rfl⟩, va_recv hK hP (ci := 4) (q0 := h0) rfl (Wd_ob kg_14 sg_14 (by decide)), fun U hU hW => ⟨rfl, by rw [hU], by rw [hU]; exact hP, va_K.moved hW.alike hK, hD.weaken (fun _ _ _ _ => trivial), hN.warm hW⟩⟩ rfl rfl hl.1 rfl (lv_room (Nat.le_of_ble_eq_true rfl)) dX4_append_13 ⟨Nat.le_of_ble_eq_true rfl, Nat.le_of_ble_eq_true rfl⟩) hS (fun q _ h => hFc q h) hFc (fun u t H_15 locs ht hvm hw hB hz1 hk1 hS2 => ?_)
    obtain ⟨hP1, -, hD1⟩ := hB
    rw [ht] at hP1
    replace hD := hD1.weaken (fun _ _ _ h => hFc _ h)
    replace hP := hP1
    replace hS := hS2
    clear hP1 hD1 hS2 hFc hfc hz1 hk1 hvm ht
    obtain ⟨h8, h9⟩ := ret_some hf
    rw [h8]
    exact W.vret hx hb hr (fun t ht hW => ⟨⟨(), rfl, trivial, by rw [ht]; exact hP, va_K.moved hW.alike hK, hD⟩, hS.F ht⟩) hS.2.2 dX4_append_16

