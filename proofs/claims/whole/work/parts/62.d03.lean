theorem md_X11_mint_1 : (.constantLong RX11 84 (4611686018427387904) : Cond) ∈ wsX11_mint := List.mem_of_getElem? (i := 1) rfl
theorem md_X11_mint_2 : (.fieldLink RX11 22 "ResourceLedger" "state" "LResourceLedger$State;" : Cond) ∈ wsX11_mint := List.mem_of_getElem? (i := 2) rfl
theorem iwd_X11_mint_X11 : ∀ w ∈ wsX110, w ∈ wsX11_mint := fun _ h => List.mem_cons_of_mem _ (List.mem_append_left _ (List.mem_append_left _ (List.mem_append_right _ h)))
theorem md_X11_mint_3 : (.fieldLink RX11 86 "ResourceLedger$State" "minted" "J" : Cond) ∈ wsX11_mint := List.mem_of_getElem? (i := 3) rfl
theorem iwd_X11_mint_X7 : ∀ w ∈ wsX70, w ∈ wsX11_mint := fun _ h => List.mem_cons_of_mem _ (List.mem_append_left _ (List.mem_append_right _ h))
theorem md_X11_mint_4 : (.fieldLink RX11 90 "ResourceLedger$State" "burned" "J" : Cond) ∈ wsX11_mint := List.mem_of_getElem? (i := 4) rfl
theorem md_X11_mint_5 : (.fieldLink RX11 104 "ResourceLedger$State" "balance" "[J" : Cond) ∈ wsX11_mint := List.mem_of_getElem? (i := 5) rfl
theorem md_X11_mint_6 : (.fieldLink RX11 43 "ResourceLedger" "tree" "LResourceLedger$Tree;" : Cond) ∈ wsX11_mint := List.mem_of_getElem? (i := 6) rfl
theorem md_X11_mint_7 : (.fieldLink RX11 108 "ResourceLedger$Tree" "stale" "Z" : Cond) ∈ wsX11_mint := List.mem_of_getElem? (i := 7) rfl
theorem iwd_X11_mint_X9 : ∀ w ∈ wsX90, w ∈ wsX11_mint := fun _ h => List.mem_cons_of_mem _ (List.mem_append_right _ h)
set_option maxHeartbeats 4000000 in
set_option maxRecDepth 100000 in
theorem de_X11_mint (l : Launch) (dC : Nat → ClassId) (dI : Nat → Nat → Nat) (cy : Nat → ClassId) (a : Nat → Nat) (sh : Nat → Nat × Nat) (n sz : Nat) (F : Nat) (z : St) (h0 : Nat) (x0 : Int64) (x1 : Int64) {z8 : St} {r8 : Int32} (hf : fn_X11_mint F sh n z h0 x0 x1 = some (z8, r8)) : Met l yX11_mint wsX11_mint ({ frames := 2, cells := 0, slots := 0, locals := 44 }) (va_Pc [.ref (a h0), .long x0, .long x1] (fun U => U.heap.size = sz ∧ va_P (dC, dI) vwCl (Wd cy a sh n z) U.heap ∧ va_K (dC, dI) vwCl (TYS cy) U ∧ va_D (fun _ => True) (Wd cy a sh n z) ∧ NK U)) (va_Qi (fun (r9 : Int32) (u : Unit) => r9 = r8) (fun u t => va_P (dC, dI) vwCl (Wd cy a sh n z8) t.heap ∧ va_K (dC, dI) vwCl (TYS cy) t ∧ va_D (va_A (Wd cy a sh n z) sz) (Wd cy a sh n z8)) (va_A (Wd cy a sh n z) sz)) 0 0 (va_A (Wd cy a sh n z) sz) := by
  refine Met.ofW (cc := cX11_mint) (maxL := 6) (ret := (some .boolean)) (by decide) rfl ?_
  intro p e s m args below meth c s₁ B hml hv
  obtain ⟨rfl, hsz, hP, hK, hD0, hN⟩ := hv
  have hx := B.exec
  have hb := B.bytes
  have hr := B.returns
  have hts := atoms_spec (ws := wsX11_mint) B.pre
  have hown : s.vm.findClass RX11 = some m.cls := findClass_of_methodNamed B.named
  have hlocks := B.notSynchronized
  subst hsz
  have hD := hD0.self (sz := s.heap.size)
  clear hD0
  generalize hAe : va_A (Wd cy a sh n z) s.heap.size = A at hD ⊢
  have hA : ∀ q : Nat, s.heap.size ≤ q → A q := fun q h => by rw [← hAe]; exact Or.inr h
  clear hAe
  have hS : va_S A s.heap s.heap [] := va_S.rf
  have hl := lv_entry ([.ref (a h0), .long x0, .long x1]) (n := 6) (Nat.le_of_ble_eq_true rfl)
  rw [lg_entry_eq]
  generalize (lg_sl ([.ref (a h0), .long x0, .long x1]) ++ List.replicate (6 - (lg_sl ([.ref (a h0), .long x0, .long x1])).length) Slot.unset).toArray = ls at hl ⊢
  replace hl : lv_has ls 6 [(0, .ref (a h0)), (1, .long x0), (3, .long x1)] := hl
  unfold fn_X11_mint at hf
  refine de_start hS hP (fun H locs hS hP => ?_)
  refine lv_lload_n hx hb dX11_mint_0 rfl (lv_at hl 2 rfl) ?_
  refine lv_lconst (v := 0) hx hb dX11_mint_1 (by decide) ?_
  refine W.lcmp hx hb dX11_mint_2 ?_
  refine lv_if_lt (tgt := 30) hx hb dX11_mint_3 (by decide) (fun c_1 => ?_) (fun c_1 => ?_)
  · skip
    rw [lg_cmp_lt] at c_1
    rw [if_pos c_1] at hf
    refine lv_iconst (v := 0) hx hb dX11_mint_30 (by decide) ?_
    obtain ⟨h8, h9⟩ := ret_some hf
    rw [h8, h9]
    exact W.zret (v := 0) hx hb hr rfl (fun t ht hW => ⟨⟨0, (), rfl, rfl, by rw [ht]; exact hP, va_K.moved hW.alike hK, hD⟩, hS.F ht⟩) hS.2.2 dX11_mint_31
  · skip
    rw [lg_cmp_lt] at c_1
    rw [if_neg c_1] at hf
    refine lv_lload_n hx hb dX11_mint_6 rfl (lv_at hl 2 rfl) ?_
    refine lv_ldc2 hx hb hown (hts _ md_X11_mint_1) dX11_mint_7 ?_
    refine lv_aload_n hx hb dX11_mint_10 rfl (lv_at hl 0 rfl) ?_
    obtain ⟨g_2, hf⟩ := grd_some hf
    obtain ⟨kg_2, sg_2⟩ := okO_at g_2
    obtain ⟨k_3, ek_3, hf⟩ := lnk_some hf
    refine va_get (D := (dC, dI)) (ci := 11) (v := .ref (a k_3)) (C := RX11) (T := TX11) (N := 13) hx hb hts iwd_X11_mint_X11 hown hK hP h0 (Wd_ob kg_2 sg_2 (by decide)) rfl 6 (by decide) (hts _ md_X11_mint_2) (fun _ h9 => h9) (fl_q rfl ek_3) dX11_mint_11 ?_
    obtain ⟨g_4, hf⟩ := grd_some hf
    obtain ⟨kg_4, sg_4⟩ := okO_at g_4
    refine va_get (D := (dC, dI)) (ci := 7) (v := .long (z.2.1 k_3 14)) (C := RX7) (T := TX7) (N := 16) hx hb hts iwd_X11_mint_X7 hown hK hP k_3 (Wd_ob kg_4 sg_4 (by decide)) rfl 14 (by decide) (hts _ md_X11_mint_3) (fun _ h9 => h9) (fl_at (t := 1) rfl) dX11_mint_14 ?_
    refine lv_aload_n hx hb dX11_mint_17 rfl (lv_at hl 0 rfl) ?_
    obtain ⟨k_5, ek_5, hf⟩ := lnk_some hf
    refine va_get (D := (dC, dI)) (ci := 11) (v := .ref (a k_5)) (C := RX11) (T := TX11) (N := 13) hx hb hts iwd_X11_mint_X11 hown hK hP h0 (Wd_ob kg_2 sg_2 (by decide)) rfl 6 (by decide) (hts _ md_X11_mint_2) (fun _ h9 => h9) (fl_q rfl ek_5) dX11_mint_18 ?_
    obtain ⟨g_6, hf⟩ := grd_some hf
    obtain ⟨kg_6, sg_6⟩ := okO_at g_6
    refine va_get (D := (dC, dI)) (ci := 7) (v := .long (z.2.1 k_5 15)) (C := RX7) (T := TX7) (N := 16) hx hb hts iwd_X11_mint_X7 hown hK hP k_5 (Wd_ob kg_6 sg_6 (by decide)) rfl 15 (by decide) (hts _ md_X11_mint_4) (fun _ h9 => h9) (fl_at (t := 1) rfl) dX11_mint_21 ?_
    refine lv_lsub hx hb dX11_mint_24 ?_
    refine lv_lsub hx hb dX11_mint_25 ?_
    refine W.lcmp hx hb dX11_mint_26 ?_
    refine lv_if_lt (tgt := 32) hx hb dX11_mint_27 (by decide) (fun c_7 => ?_) (fun c_7 => ?_)
    · skip
      rw [lg_cmp_lt] at c_7
      rw [if_pos c_7] at hf
      refine lv_aload_n hx hb dX11_mint_32 rfl (lv_at hl 0 rfl) ?_
      obtain ⟨k_8, ek_8, hf⟩ := lnk_some hf
      refine va_get (D := (dC, dI)) (ci := 11) (v := .ref (a k_8)) (C := RX11) (T := TX11) (N := 13) hx hb hts iwd_X11_mint_X11 hown hK hP h0 (Wd_ob kg_2 sg_2 (by decide)) rfl 6 (by decide) (hts _ md_X11_mint_2) (fun _ h9 => h9) (fl_q rfl ek_8) dX11_mint_33 ?_
      refine lv_lload_n hx hb dX11_mint_36 rfl (lv_at hl 1 rfl) ?_
      obtain ⟨g_11, hf⟩ := grd_some hf
      obtain ⟨kg_11, sg_11⟩ := okO_at g_11
      obtain ⟨z_9, r_10, hfc, hf⟩ := cal_some hf
      have hFc := de_free hD hS hA
      refine va_calli (va_runV (As := [.long x0]) (rest := []) ⟨hx, hb, hml, hown, hts⟩ (de_X7_findAccount l dC dI cy a sh n H.size F z k_8 x0 hfc) (cwV 1 hts gX11_mint_X7_findAccount rfl rfl rfl (by decide +kernel) ⟨Nat.le_of_ble_eq_true rfl, Nat.le_of_ble_eq_true rfl⟩) ⟨fun a U g mk q => by obtain ⟨q0, q1, qP, qK, qD, qN⟩ := q; exact ⟨q0, q1, qP, va_K.moved (u := U) (U := U.calling g mk a) (Vm.Alike.refl U.vm) qK, qD, qN.same rfl⟩, va_recv hK hP (ci := 7) (q0 := k_8) rfl (Wd_ob kg_11 sg_11 (by decide)), fun U hU hW => ⟨rfl, by rw [hU], by rw [hU]; exact hP, va_K.moved hW.alike hK, hD.weaken (fun _ _ _ _ => trivial), hN.warm hW⟩⟩ rfl rfl hl.1 rfl (lv_room (Nat.le_of_ble_eq_true rfl)) dX11_mint_37 ⟨Nat.le_of_ble_eq_true rfl, Nat.le_of_ble_eq_true rfl⟩) hS (fun q _ h => hFc q h) hFc (fun rr u t H_12 locs ht hvm hw hB hz1 hk1 hS2 => ?_)
      rw [hw]
      clear hw
      obtain ⟨hP1, -, hD1⟩ := hB
      rw [ht] at hP1
      replace hD := hD1.weaken (fun _ _ _ h => hFc _ h)
      replace hP := hP1
      replace hS := hS2
      clear hP1 hD1 hS2 hFc hfc hz1 hk1 hvm ht
      refine lv_istore (lv' := [(5, .int r_10), (0, .ref (a h0)), (1, .long x0), (3, .long x1)]) hx hb dX11_mint_40 hl (by decide) rfl (fun ls hl2 => ?_)
      replace hl := hl2
      clear hl2
      refine lv_iload hx hb dX11_mint_42 (lv_at hl 0 rfl) ?_
      refine de_cut (h := 72) (fun (x : St × Int32) => []) (fun x ls H locs => lv_has ls 6 [(5, .int x.2), (0, .ref (a h0)), (3, .long x1)] ∧ va_P (dC, dI) vwCl (Wd cy a sh n x.1) H ∧ va_D A (Wd cy a sh n x.1) ∧ va_S A s.heap H locs) (fun x => fn_X11_mint_B72 F sh n h0 x1 x.1 x.2) (z8, r8) ?_ (fun B72 => ?_)
      · intro x ls H locs hI hf
        obtain ⟨z_14, p_13⟩ := x
        obtain ⟨hl2, hP2, hD2, hS2⟩ := hI
        replace hl : lv_has ls 6 [(5, .int p_13), (0, .ref (a h0)), (3, .long x1)] := hl2
        replace hP := hP2
        replace hD := hD2
        replace hS := hS2
        clear hl2 hP2 hD2 hS2
        replace hf := fn_X11_mint_B72_s hf
        refine W.eq (g2 := F0 m 72 ls []) rfl ?_
        refine lv_aload_n hx hb dX11_mint_72 rfl (lv_at hl 1 rfl) ?_
        obtain ⟨k_15, ek_15, hf⟩ := lnk_some hf
        refine va_get (D := (dC, dI)) (ci := 11) (v := .ref (a k_15)) (C := RX11) (T := TX11) (N := 13) hx hb hts iwd_X11_mint_X11 hown hK hP h0 (Wd_ob kg_2 sg_2 (by decide)) rfl 6 (by decide) (hts _ md_X11_mint_2) (fun _ h9 => h9) (fl_q rfl ek_15) dX11_mint_73 ?_
        obtain ⟨g_16, hf⟩ := grd_some hf
        obtain ⟨kg_16, sg_16⟩ := okO_at g_16
        obtain ⟨k_17, ek_17, hf⟩ := lnk_some hf
        refine va_get (D := (dC, dI)) (ci := 7) (v := .ref (a k_17)) (C := RX7) (T := TX7) (N := 16) hx hb hts iwd_X11_mint_X7 hown hK hP k_15 (Wd_ob kg_16 sg_16 (by decide)) rfl 1 (by decide) (hts _ md_X11_mint_5) (fun _ h9 => h9) (fl_q rfl ek_17) dX11_mint_76 ?_
        refine lv_iload hx hb dX11_mint_79 (lv_at hl 0 rfl) ?_
        refine lv_dup2_11 hx hb dX11_mint_81 rfl rfl ?_
        obtain ⟨g_18, hf⟩ := grd_some hf
        obtain ⟨kg_18, sg_18, ig_18⟩ := okA_at g_18
        refine va_lald hx hb hK hP k_17 2 (Wd_al kg_18 sg_18) rfl ig_18 dX11_mint_82 ?_
        refine lv_lload_n hx hb dX11_mint_83 rfl (lv_at hl 2 rfl) ?_
        refine lv_ladd hx hb dX11_mint_84 ?_
        obtain ⟨g_19, hf⟩ := grd_some hf
        obtain ⟨kg_19, sg_19, ig_19⟩ := okA_at g_19
        refine va_last hx hb hK hP hD hS k_17 2 (Wd_al kg_19 sg_19) rfl ig_19 dX11_mint_85 (fun H_20 locs hP2 hD2 hS2 => ?_)
        rw [Wd_tl sg_19] at hP2 hD2
        obtain ⟨z_21, ez_21⟩ : ∃ w, w = sl z_14 k_17 p_13.toNatClampNeg ((z_14.2.1 k_17 p_13.toNatClampNeg) + x1) := ⟨_, rfl⟩
        rw [← ez_21] at hP2 hD2
        replace hf := lt_at ez_21 hf
        clear ez_21
        replace hP := hP2
        replace hD := hD2
        replace hS := hS2
        clear hP2 hD2 hS2
        refine lv_aload_n hx hb dX11_mint_86 rfl (lv_at hl 1 rfl) ?_
        obtain ⟨k_22, ek_22, hf⟩ := lnk_some hf
        refine va_get (D := (dC, dI)) (ci := 11) (v := .ref (a k_22)) (C := RX11) (T := TX11) (N := 13) hx hb hts iwd_X11_mint_X11 hown hK hP h0 (Wd_ob kg_2 sg_2 (by decide)) rfl 6 (by decide) (hts _ md_X11_mint_2) (fun _ h9 => h9) (fl_q rfl ek_22) dX11_mint_87 ?_
        refine lv_dup hx hb dX11_mint_90 rfl ?_
        obtain ⟨g_23, hf⟩ := grd_some hf
        obtain ⟨kg_23, sg_23⟩ := okO_at g_23
        refine va_get (D := (dC, dI)) (ci := 7) (v := .long (z_21.2.1 k_22 14)) (C := RX7) (T := TX7) (N := 16) hx hb hts iwd_X11_mint_X7 hown hK hP k_22 (Wd_ob kg_23 sg_23 (by decide)) rfl 14 (by decide) (hts _ md_X11_mint_3) (fun _ h9 => h9) (fl_at (t := 1) rfl) dX11_mint_91 ?_
        refine lv_lload_n hx hb dX11_mint_94 rfl (lv_at hl 2 rfl) ?_
        refine lv_ladd hx hb dX11_mint_95 ?_
        refine va_put (D := (dC, dI)) (ci := 7) (v := .long ((z_21.2.1 k_22 14) + x1)) (ty := .long) (C := RX7) (T := TX7) (N := 16) hx hb hts iwd_X11_mint_X7 tyX7 tyX7_ok nmX7 hown hK hP hD hS k_22 (Wd_ob kg_23 sg_23 (by decide)) rfl 14 (by decide) (hts _ md_X11_mint_3) (fun _ h9 => h9) rfl (by decide +kernel) rfl rfl (by rw [fl_len]; decide) dX11_mint_96 (fun H_24 locs hP2 hD2 hS2 => ?_)
        rw [Wd_sl sg_23 (by decide) rfl] at hP2 hD2
        obtain ⟨z_25, ez_25⟩ : ∃ w, w = sl z_21 k_22 14 ((z_21.2.1 k_22 14) + x1) := ⟨_, rfl⟩
        rw [← ez_25] at hP2 hD2
        replace hf := lt_at ez_25 hf
        clear ez_25
        replace hP := hP2
        replace hD := hD2
        replace hS := hS2
        clear hP2 hD2 hS2
        refine lv_aload_n hx hb dX11_mint_99 rfl (lv_at hl 1 rfl) ?_
        obtain ⟨k_26, ek_26, hf⟩ := lnk_some hf
        refine va_get (D := (dC, dI)) (ci := 11) (v := .ref (a k_26)) (C := RX11) (T := TX11) (N := 13) hx hb hts iwd_X11_mint_X11 hown hK hP h0 (Wd_ob kg_2 sg_2 (by decide)) rfl 10 (by decide) (hts _ md_X11_mint_6) (fun _ h9 => h9) (fl_q rfl ek_26) dX11_mint_100 ?_
        refine lv_iconst (v := 1) hx hb dX11_mint_103 (by decide) ?_
        obtain ⟨g_27, hf⟩ := grd_some hf
        obtain ⟨kg_27, sg_27⟩ := okO_at g_27
        refine va_put (D := (dC, dI)) (ci := 9) (v := .int 1) (ty := .boolean) (C := RX9) (T := TX9) (N := 13) hx hb hts iwd_X11_mint_X9 tyX9 tyX9_ok nmX9 hown hK hP hD hS k_26 (Wd_ob kg_27 sg_27 (by decide)) rfl 1 (by decide) (hts _ md_X11_mint_7) (fun _ h9 => h9) rfl (by decide +kernel) rfl rfl (by rw [fl_len]; decide) dX11_mint_104 (fun H_28 locs hP2 hD2 hS2 => ?_)
        rw [Wd_si sg_27 (by decide) rfl] at hP2 hD2
        obtain ⟨z_29, ez_29⟩ : ∃ w, w = si z_25 k_26 1 1 := ⟨_, rfl⟩
        rw [← ez_29] at hP2 hD2
        replace hf := lt_at ez_29 hf
        clear ez_29
        replace hP := hP2
        replace hD := hD2
        replace hS := hS2
        clear hP2 hD2 hS2
        refine lv_iconst (v := 1) hx hb dX11_mint_107 (by decide) ?_
        obtain ⟨h8, h9⟩ := ret_some hf
        rw [h8, h9]
        exact W.zret (v := 1) hx hb hr rfl (fun t ht hW => ⟨⟨1, (), rfl, rfl, by rw [ht]; exact hP, va_K.moved hW.alike hK, hD⟩, hS.F ht⟩) hS.2.2 dX11_mint_108
      refine lv_if_ge (tgt := 72) hx hb dX11_mint_44 (by decide) (fun c_30 => ?_) (fun c_30 => ?_)
      · skip
        rw [if_pos c_30] at hf
        exact B72 (z_9, r_10) ls H_12 locs ⟨lv_sub hl [0, 1, 3] rfl, hP, hD, hS⟩ hf
      · skip
        rw [if_neg c_30] at hf
        refine lv_aload_n hx hb dX11_mint_47 rfl (lv_at hl 1 rfl) ?_
        obtain ⟨k_31, ek_31, hf⟩ := lnk_some hf
        refine va_get (D := (dC, dI)) (ci := 11) (v := .ref (a k_31)) (C := RX11) (T := TX11) (N := 13) hx hb hts iwd_X11_mint_X11 hown hK hP h0 (Wd_ob kg_2 sg_2 (by decide)) rfl 6 (by decide) (hts _ md_X11_mint_2) (fun _ h9 => h9) (fl_q rfl ek_31) dX11_mint_48 ?_
        obtain ⟨g_34, hf⟩ := grd_some hf
        obtain ⟨kg_34, sg_34⟩ := okO_at g_34
        obtain ⟨z_32, r_33, hfc, hf⟩ := cal_some hf
        have hFc := de_free hD hS hA
        refine va_calli (va_runV (As := []) (rest := []) ⟨hx, hb, hml, hown, hts⟩ (de_X7_placeCount l dC dI cy a sh n H_12.size F z_9 k_31 hfc) (cwV 0 hts gX11_mint_X7_placeCount rfl rfl rfl (by decide +kernel) ⟨Nat.le_of_ble_eq_true rfl, Nat.le_of_ble_eq_true rfl⟩) ⟨fun a U g mk q => by obtain ⟨q0, q1, qP, qK, qD, qN⟩ := q; exact ⟨q0, q1, qP, va_K.moved (u := U) (U := U.calling g mk a) (Vm.Alike.refl U.vm) qK, qD, qN.same rfl⟩, va_recv hK hP (ci := 7) (q0 := k_31) rfl (Wd_ob kg_34 sg_34 (by decide)), fun U hU hW => ⟨rfl, by rw [hU], by rw [hU]; exact hP, va_K.moved hW.alike hK, hD.weaken (fun _ _ _ _ => trivial), hN.warm hW⟩⟩ rfl rfl hl.1 rfl (lv_room (Nat.le_of_ble_eq_true rfl)) dX11_mint_51 ⟨Nat.le_of_ble_eq_true rfl, Nat.le_of_ble_eq_true rfl⟩) hS (fun q _ h => hFc q h) hFc (fun rr u t H_35 locs ht hvm hw hB hz1 hk1 hS2 => ?_)
        rw [hw]
        clear hw
        obtain ⟨hP1, -, hD1⟩ := hB
        rw [ht] at hP1
        replace hD := hD1.weaken (fun _ _ _ h => hFc _ h)
        replace hP := hP1
        replace hS := hS2
        clear hP1 hD1 hS2 hFc hfc hz1 hk1 hvm ht
        refine lv_sipush (v := 256) hx hb dX11_mint_54 (by decide) ?_
        refine lv_icmp_lt (tgt := 62) hx hb dX11_mint_57 (by decide) (fun c_36 => ?_) (fun c_36 => ?_)
        · skip
          rw [if_pos c_36] at hf
          refine lv_aload_n hx hb dX11_mint_62 rfl (lv_at hl 1 rfl) ?_
          obtain ⟨k_37, ek_37, hf⟩ := lnk_some hf
          refine va_get (D := (dC, dI)) (ci := 11) (v := .ref (a k_37)) (C := RX11) (T := TX11) (N := 13) hx hb hts iwd_X11_mint_X11 hown hK hP h0 (Wd_ob kg_2 sg_2 (by decide)) rfl 6 (by decide) (hts _ md_X11_mint_2) (fun _ h9 => h9) (fl_q rfl ek_37) dX11_mint_63 ?_
          refine lv_lload_n hx hb dX11_mint_66 rfl (lv_at hl 2 rfl) ?_
          obtain ⟨g_40, hf⟩ := grd_some hf
          obtain ⟨kg_40, sg_40⟩ := okO_at g_40
          obtain ⟨z_38, r_39, hfc, hf⟩ := cal_some hf
          have hFc := de_free hD hS hA
          refine va_calli (va_runV (As := [.long x0]) (rest := []) ⟨hx, hb, hml, hown, hts⟩ (de_X7_openAccount l dC dI cy a sh n H_35.size F z_32 k_37 x0 hfc) (cwV 1 hts gX11_mint_X7_openAccount rfl rfl rfl (by decide +kernel) ⟨Nat.le_of_ble_eq_true rfl, Nat.le_of_ble_eq_true rfl⟩) ⟨fun a U g mk q => by obtain ⟨q0, q1, qP, qK, qD, qN⟩ := q; exact ⟨q0, q1, qP, va_K.moved (u := U) (U := U.calling g mk a) (Vm.Alike.refl U.vm) qK, qD, qN.same rfl⟩, va_recv hK hP (ci := 7) (q0 := k_37) rfl (Wd_ob kg_40 sg_40 (by decide)), fun U hU hW => ⟨rfl, by rw [hU], by rw [hU]; exact hP, va_K.moved hW.alike hK, hD.weaken (fun _ _ _ _ => trivial), hN.warm hW⟩⟩ rfl rfl hl.1 rfl (lv_room (Nat.le_of_ble_eq_true rfl)) dX11_mint_67 ⟨Nat.le_of_ble_eq_true rfl, Nat.le_of_ble_eq_true rfl⟩) hS (fun q _ h => hFc q h) hFc (fun rr u t H_41 locs ht hvm hw hB hz1 hk1 hS2 => ?_)
          rw [hw]
          clear hw
          obtain ⟨hP1, -, hD1⟩ := hB
          rw [ht] at hP1
          replace hD := hD1.weaken (fun _ _ _ h => hFc _ h)
          replace hP := hP1
          replace hS := hS2
          clear hP1 hD1 hS2 hFc hfc hz1 hk1 hvm ht
          refine lv_istore (lv' := [(5, .int r_39), (0, .ref (a h0)), (1, .long x0), (3, .long x1)]) hx hb dX11_mint_70 hl (by decide) rfl (fun ls hl2 => ?_)
          replace hl := hl2
          clear hl2
          exact B72 (z_38, r_39) ls H_41 locs ⟨lv_sub hl [0, 1, 3] rfl, hP, hD, hS⟩ hf
        · skip
          rw [if_neg c_36] at hf
          refine lv_iconst (v := 0) hx hb dX11_mint_60 (by decide) ?_
          obtain ⟨h8, h9⟩ := ret_some hf
          rw [h8, h9]
          exact W.zret (v := 0) hx hb hr rfl (fun t ht hW => ⟨⟨0, (), rfl, rfl, by rw [ht]; exact hP, va_K.moved hW.alike hK, hD⟩, hS.F ht⟩) hS.2.2 dX11_mint_61
    · skip
      rw [lg_cmp_lt] at c_7
      rw [if_neg c_7] at hf
      refine lv_iconst (v := 0) hx hb dX11_mint_30 (by decide) ?_
      obtain ⟨h8, h9⟩ := ret_some hf
      rw [h8, h9]
      exact W.zret (v := 0) hx hb hr rfl (fun t ht hW => ⟨⟨0, (), rfl, rfl, by rw [ht]; exact hP, va_K.moved hW.alike hK, hD⟩, hS.F ht⟩) hS.2.2 dX11_mint_31

theorem md_X1_sizeAt_1 : (.fieldLink RX1 11 "ResourceLedger$Heap" "kind" "[B" : Cond) ∈ wsX1_sizeAt := List.mem_of_getElem? (i := 1) rfl
theorem iwd_X1_sizeAt_X1 : ∀ w ∈ wsX10, w ∈ wsX1_sizeAt := fun _ h => List.mem_cons_of_mem _ (List.mem_append_right _ h)
theorem md_X1_sizeAt_2 : (.fieldLink RX1 15 "ResourceLedger$Heap" "low" "[J" : Cond) ∈ wsX1_sizeAt := List.mem_of_getElem? (i := 2) rfl
theorem md_X1_sizeAt_3 : (.fieldLink RX1 19 "ResourceLedger$Heap" "high" "[J" : Cond) ∈ wsX1_sizeAt := List.mem_of_getElem? (i := 3) rfl
theorem md_X1_sizeAt_4 : (.fieldLink RX1 22 "ResourceLedger$Heap" "next" "[I" : Cond) ∈ wsX1_sizeAt := List.mem_of_getElem? (i := 4) rfl
set_option maxHeartbeats 4000000 in
set_option maxRecDepth 100000 in
theorem de_X1_sizeAt (l : Launch) (dC : Nat → ClassId) (dI : Nat → Nat → Nat) (cy : Nat → ClassId) (a : Nat → Nat) (sh : Nat → Nat × Nat) (n F : Nat) : ∀ (d sz : Nat) (z : St) (h0 : Nat) (x0 : Int32) (x1 : Int32) {z8 : St} {r8 : Int32} (_ : fn_X1_sizeAt F sh n d z h0 x0 x1 = some (z8, r8)), Met l yX1_sizeAt wsX1_sizeAt ({ frames := d + 1, cells := 0, slots := 0, locals := d * 26 + 20 }) (va_Pc [.ref (a h0), .int x0, .int x1] (fun U => U.heap.size = sz ∧ va_P (dC, dI) vwCl (Wd cy a sh n z) U.heap ∧ va_K (dC, dI) vwCl (TYS cy) U ∧ va_D (fun _ => True) (Wd cy a sh n z) ∧ NK U)) (va_Qi (fun (r9 : Int32) (u : Unit) => r9 = r8) (fun u t => va_P (dC, dI) vwCl (Wd cy a sh n z8) t.heap ∧ va_K (dC, dI) vwCl (TYS cy) t ∧ va_D (va_A (Wd cy a sh n z) sz) (Wd cy a sh n z8)) (va_A (Wd cy a sh n z) sz)) 0 0 (va_A (Wd cy a sh n z) sz) := by
  intro d
  induction d with
  | zero => intro sz z h0 x0 x1 z8 r8 hf; exact absurd hf (by simp [fn_X1_sizeAt])
  | succ d ihd =>
  intro sz z h0 x0 x1 z8 r8 hf
  refine Met.ofW (cc := cX1_sizeAt) (maxL := 7) (ret := (some .int)) (by decide) rfl ?_
  intro p e s m args below meth c s₁ B hml hv
  obtain ⟨rfl, hsz, hP, hK, hD0, hN⟩ := hv
  have hx := B.exec
  have hb := B.bytes
  have hr := B.returns
  have hts := atoms_spec (ws := wsX1_sizeAt) B.pre
  have hown : s.vm.findClass RX1 = some m.cls := findClass_of_methodNamed B.named
  have hlocks := B.notSynchronized
  subst hsz
  have hD := hD0.self (sz := s.heap.size)
  clear hD0
  generalize hAe : va_A (Wd cy a sh n z) s.heap.size = A at hD ⊢
  have hA : ∀ q : Nat, s.heap.size ≤ q → A q := fun q h => by rw [← hAe]; exact Or.inr h
  clear hAe
  have hS : va_S A s.heap s.heap [] := va_S.rf
  have hl := lv_entry ([.ref (a h0), .int x0, .int x1]) (n := 7) (Nat.le_of_ble_eq_true rfl)
  rw [lg_entry_eq]
  generalize (lg_sl ([.ref (a h0), .int x0, .int x1]) ++ List.replicate (7 - (lg_sl ([.ref (a h0), .int x0, .int x1])).length) Slot.unset).toArray = ls at hl ⊢
  replace hl : lv_has ls 7 [(0, .ref (a h0)), (1, .int x0), (2, .int x1)] := hl
  replace hf := fn_X1_sizeAt_s hf
  refine de_start hS hP (fun H locs hS hP => ?_)
  refine lv_aload_n hx hb dX1_sizeAt_0 rfl (lv_at hl 0 rfl) ?_
  obtain ⟨g_1, hf⟩ := grd_some hf
  obtain ⟨kg_1, sg_1⟩ := okO_at g_1
  obtain ⟨k_2, ek_2, hf⟩ := lnk_some hf
  refine va_get (D := (dC, dI)) (ci := 1) (v := .ref (a k_2)) (C := RX1) (T := TX1) (N := 7) hx hb hts iwd_X1_sizeAt_X1 hown hK hP h0 (Wd_ob kg_1 sg_1 (by decide)) rfl 0 (by decide) (hts _ md_X1_sizeAt_1) (fun _ h9 => h9) (fl_q rfl ek_2) dX1_sizeAt_1 ?_
  refine lv_iload_n hx hb dX1_sizeAt_4 rfl (lv_at hl 1 rfl) ?_
  obtain ⟨g_3, hf⟩ := grd_some hf
  obtain ⟨kg_3, sg_3, ig_3⟩ := okA_at g_3
  refine va_bald hx hb hK hP k_2 0 (Wd_ab kg_3 sg_3) rfl ig_3 dX1_sizeAt_5 ?_
  refine lv_bipush (v := 10) hx hb dX1_sizeAt_6 (by decide) ?_
  refine lv_icmp_ne (tgt := 13) hx hb dX1_sizeAt_8 (by decide) (fun c_4 => ?_) (fun c_4 => ?_)
  · skip
    rw [if_neg c_4] at hf
    refine lv_iconst (v := 1) hx hb dX1_sizeAt_13 (by decide) ?_
    refine lv_istore_n (lv' := [(3, .int 1), (0, .ref (a h0)), (1, .int x0), (2, .int x1)]) hx hb dX1_sizeAt_14 rfl hl (by decide) rfl (fun ls hl2 => ?_)
    replace hl := hl2
    clear hl2
    refine lv_aload_n hx hb dX1_sizeAt_15 rfl (lv_at hl 1 rfl) ?_
    obtain ⟨k_5, ek_5, hf⟩ := lnk_some hf
    refine va_get (D := (dC, dI)) (ci := 1) (v := .ref (a k_5)) (C := RX1) (T := TX1) (N := 7) hx hb hts iwd_X1_sizeAt_X1 hown hK hP h0 (Wd_ob kg_1 sg_1 (by decide)) rfl 0 (by decide) (hts _ md_X1_sizeAt_1) (fun _ h9 => h9) (fl_q rfl ek_5) dX1_sizeAt_16 ?_
    refine lv_iload_n hx hb dX1_sizeAt_19 rfl (lv_at hl 2 rfl) ?_
    obtain ⟨g_6, hf⟩ := grd_some hf
    obtain ⟨kg_6, sg_6, ig_6⟩ := okA_at g_6
    refine va_bald hx hb hK hP k_5 0 (Wd_ab kg_6 sg_6) rfl ig_6 dX1_sizeAt_20 ?_
    obtain ⟨z_7, r_8, hfc, hf⟩ := cal_some hf
    have hFc := de_free hD hS hA
    refine va_calli (va_runS (As := [.int (z.1 k_5 x0.toNatClampNeg)]) (rest := []) ⟨hx, hb, hml, hown, hts⟩ (de_X1_holdsOthers l dC dI cy a sh n H.size F z (z.1 k_5 x0.toNatClampNeg) hfc) (va_cwS 1 hts gX1_sizeAt_X1_holdsOthers rfl rfl rfl (by decide +kernel) ⟨by show _ ≤ d + 1 + 1; (try dsimp only); omega, by show _ ≤ (d + 1) * 26 + 20; (try dsimp only); omega⟩) ⟨fun a U g mk q => by obtain ⟨q0, q1, qP, qK, qD, qN⟩ := q; exact ⟨q0, q1, qP, va_K.moved (u := U) (U := U.calling g mk a) (Vm.Alike.refl U.vm) qK, qD, qN.same rfl⟩, fun U hU hW => ⟨rfl, by rw [hU], by rw [hU]; exact hP, va_K.moved hW.alike hK, hD.weaken (fun _ _ _ _ => trivial), hN.warm hW⟩⟩ rfl rfl hl.1 rfl (lv_room (Nat.le_of_ble_eq_true rfl)) dX1_sizeAt_21 ⟨Nat.le_of_ble_eq_true rfl, Nat.le_of_ble_eq_true rfl⟩) hS (fun q _ h => hFc q h) hFc (fun rr u t H_9 locs ht hvm hw hB hz1 hk1 hS2 => ?_)
    rw [hw]
    clear hw
    obtain ⟨hP1, -, hD1⟩ := hB
    rw [ht] at hP1
    replace hD := hD1.weaken (fun _ _ _ h => hFc _ h)
    replace hP := hP1
    replace hS := hS2
    clear hP1 hD1 hS2 hFc hfc hz1 hk1 hvm ht
    refine lv_if_eq (tgt := 99) hx hb dX1_sizeAt_24 (by decide) (fun c_10 => ?_) (fun c_10 => ?_)
    · skip
      rw [if_pos c_10] at hf
      refine lv_iload_n hx hb dX1_sizeAt_99 rfl (lv_at hl 0 rfl) ?_
      obtain ⟨h8, h9⟩ := ret_some hf
      rw [h8, h9]
      exact W.iret (v := 1) hx hb hr (fun t ht hW => ⟨⟨1, (), rfl, rfl, by rw [ht]; exact hP, va_K.moved hW.alike hK, hD⟩, hS.F ht⟩) hS.2.2 dX1_sizeAt_100
    · skip
      rw [if_neg c_10] at hf
      refine lv_iload_n hx hb dX1_sizeAt_27 rfl (lv_at hl 3 rfl) ?_
      refine lv_bipush (v := 40) hx hb dX1_sizeAt_28 (by decide) ?_
      refine lv_icmp_ge (tgt := 99) hx hb dX1_sizeAt_30 (by decide) (fun c_11 => ?_) (fun c_11 => ?_)
      · skip
        rw [if_pos c_11] at hf
        refine lv_iload_n hx hb dX1_sizeAt_99 rfl (lv_at hl 0 rfl) ?_
        obtain ⟨h8, h9⟩ := ret_some hf
        rw [h8, h9]
        exact W.iret (v := 1) hx hb hr (fun t ht hW => ⟨⟨1, (), rfl, rfl, by rw [ht]; exact hP, va_K.moved hW.alike hK, hD⟩, hS.F ht⟩) hS.2.2 dX1_sizeAt_100
      · skip
        rw [if_neg c_11] at hf
        refine lv_aload_n hx hb dX1_sizeAt_33 rfl (lv_at hl 1 rfl) ?_
        obtain ⟨k_12, ek_12, hf⟩ := lnk_some hf
        refine va_get (D := (dC, dI)) (ci := 1) (v := .ref (a k_12)) (C := RX1) (T := TX1) (N := 7) hx hb hts iwd_X1_sizeAt_X1 hown hK hP h0 (Wd_ob kg_1 sg_1 (by decide)) rfl 1 (by decide) (hts _ md_X1_sizeAt_2) (fun _ h9 => h9) (fl_q rfl ek_12) dX1_sizeAt_34 ?_
        refine lv_iload_n hx hb dX1_sizeAt_37 rfl (lv_at hl 2 rfl) ?_
        obtain ⟨g_13, hf⟩ := grd_some hf
        obtain ⟨kg_13, sg_13, ig_13⟩ := okA_at g_13
        refine va_lald hx hb hK hP k_12 2 (Wd_al kg_13 sg_13) rfl ig_13 dX1_sizeAt_38 ?_
        refine lv_l2i (v := ((z_7.2.1 k_12 x0.toNatClampNeg) : Int64).toInt32) hx hb dX1_sizeAt_39 rfl ?_
        refine lv_topi (fun v_14 ev_14 => ?_)
        replace hf := lt_at ev_14 hf
        clear ev_14
        refine lv_istore (lv' := [(4, .int v_14), (3, .int 1), (0, .ref (a h0)), (1, .int x0), (2, .int x1)]) hx hb dX1_sizeAt_40 hl (by decide) rfl (fun ls hl2 => ?_)
        replace hl := hl2
        clear hl2
        refine lv_lconst (v := 0) hx hb dX1_sizeAt_42 (by decide) ?_
        refine lv_lstore (lv' := [(5, .long 0), (4, .int v_14), (3, .int 1), (0, .ref (a h0)), (1, .int x0), (2, .int x1)]) hx hb dX1_sizeAt_43 hl (by decide) rfl (fun ls hl2 => ?_)
        replace hl := hl2
        clear hl2
        have hl0 : lv_has ls 7 [(5, .long 0), (4, .int v_14), (3, .int 1), (0, .ref (a h0)), (1, .int x0), (2, .int x1)] := lv_sub hl [0, 1, 2, 3, 4, 5] rfl
        refine de_loop (h := 45) (fun (x : St × Int32 × Int32 × Int64) ls H locs => lv_has ls 7 [(5, .long x.2.2.2), (4, .int x.2.2.1), (3, .int x.2.1), (0, .ref (a h0)), (1, .int x0), (2, .int x1)] ∧ va_P (dC, dI) vwCl (Wd cy a sh n x.1) H ∧ va_D A (Wd cy a sh n x.1) ∧ va_S A s.heap H locs) (fun f x => fn_X1_sizeAt_L45 F sh n h0 x0 (fn_X1_sizeAt F sh n d) x1 f x.1 x.2.1 x.2.2.1 x.2.2.2) (z8, r8) ?_ (fun _ => rfl) F (z_7, 1, v_14, 0) ls H_9 locs ⟨hl0, hP, hD, hS⟩ hf
        intro f_19 x ls H locs ih45 hI hf
        obtain ⟨z_18, p_15, p_16, p_17⟩ := x
        obtain ⟨hl2, hP2, hD2, hS2⟩ := hI
        replace hl : lv_has ls 7 [(5, .long p_17), (4, .int p_16), (3, .int p_15), (0, .ref (a h0)), (1, .int x0), (2, .int x1)] := hl2
        replace hP := hP2
        replace hD := hD2
        replace hS := hS2
        clear hl2 hP2 hD2 hS2 hl0
        replace hf := fn_X1_sizeAt_L45_s hf
        refine lv_lload hx hb dX1_sizeAt_45 (lv_at hl 0 rfl) ?_
        refine lv_aload_n hx hb dX1_sizeAt_47 rfl (lv_at hl 3 rfl) ?_
        obtain ⟨k_20, ek_20, hf⟩ := lnk_some hf
        refine va_get (D := (dC, dI)) (ci := 1) (v := .ref (a k_20)) (C := RX1) (T := TX1) (N := 7) hx hb hts iwd_X1_sizeAt_X1 hown hK hP h0 (Wd_ob kg_1 sg_1 (by decide)) rfl 2 (by decide) (hts _ md_X1_sizeAt_3) (fun _ h9 => h9) (fl_q rfl ek_20) dX1_sizeAt_48 ?_
        refine lv_iload_n hx hb dX1_sizeAt_51 rfl (lv_at hl 4 rfl) ?_
        obtain ⟨g_21, hf⟩ := grd_some hf
        obtain ⟨kg_21, sg_21, ig_21⟩ := okA_at g_21
        refine va_lald hx hb hK hP k_20 2 (Wd_al kg_21 sg_21) rfl ig_21 dX1_sizeAt_52 ?_
        refine W.lcmp hx hb dX1_sizeAt_53 ?_
        refine lv_if_ge (tgt := 99) hx hb dX1_sizeAt_54 (by decide) (fun c_22 => ?_) (fun c_22 => ?_)
        · skip
          rw [lg_cmp_ge] at c_22
          rw [if_pos c_22] at hf
          refine lv_iload_n hx hb dX1_sizeAt_99 rfl (lv_at hl 2 rfl) ?_
          obtain ⟨h8, h9⟩ := ret_some hf
          rw [h8, h9]
          exact W.iret (v := p_15) hx hb hr (fun t ht hW => ⟨⟨p_15, (), rfl, rfl, by rw [ht]; exact hP, va_K.moved hW.alike hK, hD⟩, hS.F ht⟩) hS.2.2 dX1_sizeAt_100
        · skip
          rw [lg_cmp_ge] at c_22
          rw [if_neg c_22] at hf
          refine lv_iload hx hb dX1_sizeAt_57 (lv_at hl 1 rfl) ?_
          refine lv_if_eq (tgt := 99) hx hb dX1_sizeAt_59 (by decide) (fun c_23 => ?_) (fun c_23 => ?_)
          · skip
            rw [if_pos c_23] at hf
            refine lv_iload_n hx hb dX1_sizeAt_99 rfl (lv_at hl 2 rfl) ?_
            obtain ⟨h8, h9⟩ := ret_some hf
            rw [h8, h9]
            exact W.iret (v := p_15) hx hb hr (fun t ht hW => ⟨⟨p_15, (), rfl, rfl, by rw [ht]; exact hP, va_K.moved hW.alike hK, hD⟩, hS.F ht⟩) hS.2.2 dX1_sizeAt_100
          · skip
            rw [if_neg c_23] at hf
            refine lv_iload_n hx hb dX1_sizeAt_62 rfl (lv_at hl 2 rfl) ?_
            refine lv_sipush (v := 20000) hx hb dX1_sizeAt_63 (by decide) ?_
            refine lv_icmp_gt (tgt := 99) hx hb dX1_sizeAt_66 (by decide) (fun c_24 => ?_) (fun c_24 => ?_)
            · skip
              rw [if_pos c_24] at hf
              refine lv_iload_n hx hb dX1_sizeAt_99 rfl (lv_at hl 2 rfl) ?_
              obtain ⟨h8, h9⟩ := ret_some hf
              rw [h8, h9]
              exact W.iret (v := p_15) hx hb hr (fun t ht hW => ⟨⟨p_15, (), rfl, rfl, by rw [ht]; exact hP, va_K.moved hW.alike hK, hD⟩, hS.F ht⟩) hS.2.2 dX1_sizeAt_100
            · skip
              rw [if_neg c_24] at hf
              refine lv_iload_n hx hb dX1_sizeAt_69 rfl (lv_at hl 2 rfl) ?_
              refine lv_aload_n hx hb dX1_sizeAt_70 rfl (lv_at hl 3 rfl) ?_
              refine lv_iload hx hb dX1_sizeAt_71 (lv_at hl 1 rfl) ?_
              refine lv_iload_n hx hb dX1_sizeAt_73 rfl (lv_at hl 5 rfl) ?_
              refine lv_iconst (v := 1) hx hb dX1_sizeAt_74 (by decide) ?_
              refine lv_iadd hx hb dX1_sizeAt_75 ?_
              obtain ⟨z_25, r_26, hfc, hf⟩ := cal_some hf
              have hFc := de_free hD hS hA
              refine va_calli (va_runV (As := [.int p_16, .int (x1 + 1)]) (rest := [.int p_15]) ⟨hx, hb, hml, hown, hts⟩ (ihd H.size z_18 h0 p_16 (x1 + 1) hfc) (cwV 2 hts gX1_sizeAt_X1_sizeAt rfl rfl rfl (by decide +kernel) ⟨by show _ ≤ d + 1 + 1; (try dsimp only); omega, by show _ ≤ (d + 1) * 26 + 20; (try dsimp only); omega⟩) ⟨fun a U g mk q => by obtain ⟨q0, q1, qP, qK, qD, qN⟩ := q; exact ⟨q0, q1, qP, va_K.moved (u := U) (U := U.calling g mk a) (Vm.Alike.refl U.vm) qK, qD, qN.same rfl⟩, va_recv hK hP (ci := 1) (q0 := h0) rfl (Wd_ob kg_1 sg_1 (by decide)), fun U hU hW => ⟨rfl, by rw [hU], by rw [hU]; exact hP, va_K.moved hW.alike hK, hD.weaken (fun _ _ _ _ => trivial), hN.warm hW⟩⟩ rfl rfl hl.1 rfl (lv_room (Nat.le_of_ble_eq_true rfl)) dX1_sizeAt_76 ⟨Nat.le_of_ble_eq_true rfl, Nat.le_of_ble_eq_true rfl⟩) hS (fun q _ h => hFc q h) hFc (fun rr u t H_27 locs ht hvm hw hB hz1 hk1 hS2 => ?_)
              rw [hw]
              clear hw
              obtain ⟨hP1, -, hD1⟩ := hB
              rw [ht] at hP1
              replace hD := hD1.weaken (fun _ _ _ h => hFc _ h)
              replace hP := hP1
              replace hS := hS2
              clear hP1 hD1 hS2 hFc hfc hz1 hk1 hvm ht
              refine lv_iadd hx hb dX1_sizeAt_79 ?_
              refine lv_topi (fun v_28 ev_28 => ?_)
              replace hf := lt_at ev_28 hf
              clear ev_28
              refine lv_istore_n (lv' := [(3, .int v_28), (5, .long p_17), (4, .int p_16), (0, .ref (a h0)), (1, .int x0), (2, .int x1)]) hx hb dX1_sizeAt_80 rfl hl (by decide) rfl (fun ls hl2 => ?_)
              replace hl := hl2
              clear hl2
              refine lv_aload_n hx hb dX1_sizeAt_81 rfl (lv_at hl 3 rfl) ?_
              obtain ⟨k_29, ek_29, hf⟩ := lnk_some hf
              refine va_get (D := (dC, dI)) (ci := 1) (v := .ref (a k_29)) (C := RX1) (T := TX1) (N := 7) hx hb hts iwd_X1_sizeAt_X1 hown hK hP h0 (Wd_ob kg_1 sg_1 (by decide)) rfl 3 (by decide) (hts _ md_X1_sizeAt_4) (fun _ h9 => h9) (fl_q rfl ek_29) dX1_sizeAt_82 ?_
              refine lv_iload hx hb dX1_sizeAt_85 (lv_at hl 2 rfl) ?_
              obtain ⟨g_30, hf⟩ := grd_some hf
              obtain ⟨kg_30, sg_30, ig_30⟩ := okA_at g_30
              refine va_iald hx hb hK hP k_29 1 (Wd_ai kg_30 sg_30) rfl ig_30 dX1_sizeAt_87 ?_
              refine lv_topi (fun v_31 ev_31 => ?_)
              replace hf := lt_at ev_31 hf
              clear ev_31
              refine lv_istore (lv' := [(4, .int v_31), (3, .int v_28), (5, .long p_17), (0, .ref (a h0)), (1, .int x0), (2, .int x1)]) hx hb dX1_sizeAt_88 hl (by decide) rfl (fun ls hl2 => ?_)
              replace hl := hl2
              clear hl2
              refine lv_lload hx hb dX1_sizeAt_90 (lv_at hl 2 rfl) ?_
              refine lv_lconst (v := 1) hx hb dX1_sizeAt_92 (by decide) ?_
              refine lv_ladd hx hb dX1_sizeAt_93 ?_
              refine lv_topl (fun v_32 ev_32 => ?_)
              replace hf := lt_at ev_32 hf
              clear ev_32
              refine lv_lstore (lv' := [(5, .long v_32), (4, .int v_31), (3, .int v_28), (0, .ref (a h0)), (1, .int x0), (2, .int x1)]) hx hb dX1_sizeAt_94 hl (by decide) rfl (fun ls hl2 => ?_)
              replace hl := hl2
              clear hl2
              refine lv_goto (tgt := 45) hx hb dX1_sizeAt_96 (by decide) ?_
              exact ih45 (z_25, v_28, v_31, v_32) ls H_27 locs ⟨lv_sub hl [0, 1, 2, 3, 4, 5] rfl, hP, hD, hS⟩ hf
  · skip
    rw [if_pos c_4] at hf
    refine lv_iconst (v := 2) hx hb dX1_sizeAt_11 (by decide) ?_
    obtain ⟨h8, h9⟩ := ret_some hf
    rw [h8, h9]
    exact W.iret (v := 2) hx hb hr (fun t ht hW => ⟨⟨2, (), rfl, rfl, by rw [ht]; exact hP, va_K.moved hW.alike hK, hD⟩, hS.F ht⟩) hS.2.2 dX1_sizeAt_12

theorem md_X18_mint_1 : (.fieldLink RX18 612 "ResourceLedgerModel" "minted" "J" : Cond) ∈ wsX18_mint := List.mem_of_getElem? (i := 1) rfl
theorem iwd_X18_mint_X18 : ∀ w ∈ wsX180, w ∈ wsX18_mint := fun _ h => List.mem_cons_of_mem _ (List.mem_append_right _ h)
theorem md_X18_mint_2 : (.fieldLink RX18 615 "ResourceLedgerModel" "burned" "J" : Cond) ∈ wsX18_mint := List.mem_of_getElem? (i := 2) rfl
theorem md_X18_mint_3 : (.constantLong RX18 618 (4611686018427387904) : Cond) ∈ wsX18_mint := List.mem_of_getElem? (i := 3) rfl
theorem md_X18_mint_4 : (.fieldLink RX18 303 "ResourceLedgerModel" "balances" "[J" : Cond) ∈ wsX18_mint := List.mem_of_getElem? (i := 4) rfl
set_option maxHeartbeats 4000000 in
set_option maxRecDepth 100000 in
theorem de_X18_mint (l : Launch) (dC : Nat → ClassId) (dI : Nat → Nat → Nat) (cy : Nat → ClassId) (a : Nat → Nat) (sh : Nat → Nat × Nat) (n sz : Nat) (F : Nat) (z : St) (h0 : Nat) (x0 : Int64) (x1 : Int64) {z8 : St} {r8 : Int32} (hf : fn_X18_mint F sh n z h0 x0 x1 = some (z8, r8)) : Met l yX18_mint wsX18_mint ({ frames := 1, cells := 0, slots := 0, locals := 23 }) (va_Pc [.ref (a h0), .long x0, .long x1] (fun U => U.heap.size = sz ∧ va_P (dC, dI) vwCl (Wd cy a sh n z) U.heap ∧ va_K (dC, dI) vwCl (TYS cy) U ∧ va_D (fun _ => True) (Wd cy a sh n z) ∧ NK U)) (va_Qi (fun (r9 : Int32) (u : Unit) => r9 = r8) (fun u t => va_P (dC, dI) vwCl (Wd cy a sh n z8) t.heap ∧ va_K (dC, dI) vwCl (TYS cy) t ∧ va_D (va_A (Wd cy a sh n z) sz) (Wd cy a sh n z8)) (va_A (Wd cy a sh n z) sz)) 0 0 (va_A (Wd cy a sh n z) sz) := by
  refine Met.ofW (cc := cX18_mint) (maxL := 6) (ret := (some .boolean)) (by decide) rfl ?_
  intro p e s m args below meth c s₁ B hml hv
  obtain ⟨rfl, hsz, hP, hK, hD0, hN⟩ := hv
  have hx := B.exec
  have hb := B.bytes
  have hr := B.returns
  have hts := atoms_spec (ws := wsX18_mint) B.pre
  have hown : s.vm.findClass RX18 = some m.cls := findClass_of_methodNamed B.named
  have hlocks := B.notSynchronized
  subst hsz
  have hD := hD0.self (sz := s.heap.size)
  clear hD0
  generalize hAe : va_A (Wd cy a sh n z) s.heap.size = A at hD ⊢
  have hA : ∀ q : Nat, s.heap.size ≤ q → A q := fun q h => by rw [← hAe]; exact Or.inr h
  clear hAe
  have hS : va_S A s.heap s.heap [] := va_S.rf
  have hl := lv_entry ([.ref (a h0), .long x0, .long x1]) (n := 6) (Nat.le_of_ble_eq_true rfl)
  rw [lg_entry_eq]
  generalize (lg_sl ([.ref (a h0), .long x0, .long x1]) ++ List.replicate (6 - (lg_sl ([.ref (a h0), .long x0, .long x1])).length) Slot.unset).toArray = ls at hl ⊢
  replace hl : lv_has ls 6 [(0, .ref (a h0)), (1, .long x0), (3, .long x1)] := hl
  unfold fn_X18_mint at hf
  refine de_start hS hP (fun H locs hS hP => ?_)
  refine lv_lload_n hx hb dX18_mint_0 rfl (lv_at hl 2 rfl) ?_
  refine lv_lconst (v := 0) hx hb dX18_mint_1 (by decide) ?_
  refine W.lcmp hx hb dX18_mint_2 ?_
  refine lv_if_lt (tgt := 40) hx hb dX18_mint_3 (by decide) (fun c_1 => ?_) (fun c_1 => ?_)
  · skip
    rw [lg_cmp_lt] at c_1
    rw [if_pos c_1] at hf
    refine lv_iconst (v := 0) hx hb dX18_mint_40 (by decide) ?_
    obtain ⟨h8, h9⟩ := ret_some hf
    rw [h8, h9]
    exact W.zret (v := 0) hx hb hr rfl (fun t ht hW => ⟨⟨0, (), rfl, rfl, by rw [ht]; exact hP, va_K.moved hW.alike hK, hD⟩, hS.F ht⟩) hS.2.2 dX18_mint_41
  · skip
    rw [lg_cmp_lt] at c_1
    rw [if_neg c_1] at hf
    refine lv_aload_n hx hb dX18_mint_6 rfl (lv_at hl 0 rfl) ?_
    obtain ⟨g_2, hf⟩ := grd_some hf
    obtain ⟨kg_2, sg_2⟩ := okO_at g_2
    refine va_get (D := (dC, dI)) (ci := 18) (v := .long (z.2.1 h0 20)) (C := RX18) (T := TX18) (N := 78) hx hb hts iwd_X18_mint_X18 hown hK hP h0 (Wd_ob kg_2 sg_2 (by decide)) rfl 20 (by decide) (hts _ md_X18_mint_1) (fun _ h9 => h9) (fl_at (t := 1) rfl) dX18_mint_7 ?_
    refine lv_aload_n hx hb dX18_mint_10 rfl (lv_at hl 0 rfl) ?_
    refine va_get (D := (dC, dI)) (ci := 18) (v := .long (z.2.1 h0 21)) (C := RX18) (T := TX18) (N := 78) hx hb hts iwd_X18_mint_X18 hown hK hP h0 (Wd_ob kg_2 sg_2 (by decide)) rfl 21 (by decide) (hts _ md_X18_mint_2) (fun _ h9 => h9) (fl_at (t := 1) rfl) dX18_mint_11 ?_
    refine lv_lsub hx hb dX18_mint_14 ?_
    refine lv_lload_n hx hb dX18_mint_15 rfl (lv_at hl 2 rfl) ?_
    refine lv_ladd hx hb dX18_mint_16 ?_
    refine lv_ldc2 hx hb hown (hts _ md_X18_mint_3) dX18_mint_17 ?_
    refine W.lcmp hx hb dX18_mint_20 ?_
    refine lv_if_ge (tgt := 40) hx hb dX18_mint_21 (by decide) (fun c_3 => ?_) (fun c_3 => ?_)
    · skip
      rw [lg_cmp_ge] at c_3
      rw [if_pos c_3] at hf
      refine lv_iconst (v := 0) hx hb dX18_mint_40 (by decide) ?_
      obtain ⟨h8, h9⟩ := ret_some hf
      rw [h8, h9]
      exact W.zret (v := 0) hx hb hr rfl (fun t ht hW => ⟨⟨0, (), rfl, rfl, by rw [ht]; exact hP, va_K.moved hW.alike hK, hD⟩, hS.F ht⟩) hS.2.2 dX18_mint_41
    · skip
      rw [lg_cmp_ge] at c_3
      rw [if_neg c_3] at hf
      refine lv_aload_n hx hb dX18_mint_24 rfl (lv_at hl 0 rfl) ?_
      refine va_get (D := (dC, dI)) (ci := 18) (v := .long (z.2.1 h0 20)) (C := RX18) (T := TX18) (N := 78) hx hb hts iwd_X18_mint_X18 hown hK hP h0 (Wd_ob kg_2 sg_2 (by decide)) rfl 20 (by decide) (hts _ md_X18_mint_1) (fun _ h9 => h9) (fl_at (t := 1) rfl) dX18_mint_25 ?_
      refine lv_aload_n hx hb dX18_mint_28 rfl (lv_at hl 0 rfl) ?_
      refine va_get (D := (dC, dI)) (ci := 18) (v := .long (z.2.1 h0 21)) (C := RX18) (T := TX18) (N := 78) hx hb hts iwd_X18_mint_X18 hown hK hP h0 (Wd_ob kg_2 sg_2 (by decide)) rfl 21 (by decide) (hts _ md_X18_mint_2) (fun _ h9 => h9) (fl_at (t := 1) rfl) dX18_mint_29 ?_
      refine lv_lsub hx hb dX18_mint_32 ?_
      refine lv_lload_n hx hb dX18_mint_33 rfl (lv_at hl 2 rfl) ?_
      refine lv_ladd hx hb dX18_mint_34 ?_
      refine lv_lconst (v := 0) hx hb dX18_mint_35 (by decide) ?_
      refine W.lcmp hx hb dX18_mint_36 ?_
      refine lv_if_ge (tgt := 42) hx hb dX18_mint_37 (by decide) (fun c_4 => ?_) (fun c_4 => ?_)
      · skip
        rw [lg_cmp_ge] at c_4
        rw [if_pos c_4] at hf
        refine lv_aload_n hx hb dX18_mint_42 rfl (lv_at hl 0 rfl) ?_
        refine lv_lload_n hx hb dX18_mint_43 rfl (lv_at hl 1 rfl) ?_
        obtain ⟨z_5, r_6, hfc, hf⟩ := cal_some hf
        have hFc := de_free hD hS hA
        refine va_calli (va_runV (As := [.long x0]) (rest := []) ⟨hx, hb, hml, hown, hts⟩ (de_X18_findAccount l dC dI cy a sh n H.size F z h0 x0 hfc) (cwV 1 hts gX18_mint_X18_findAccount rfl rfl rfl (by decide +kernel) ⟨Nat.le_of_ble_eq_true rfl, Nat.le_of_ble_eq_true rfl⟩) ⟨fun a U g mk q => by obtain ⟨q0, q1, qP, qK, qD, qN⟩ := q; exact ⟨q0, q1, qP, va_K.moved (u := U) (U := U.calling g mk a) (Vm.Alike.refl U.vm) qK, qD, qN.same rfl⟩, va_recv hK hP (ci := 18) (q0 := h0) rfl (Wd_ob kg_2 sg_2 (by decide)), fun U hU hW => ⟨rfl, by rw [hU], by rw [hU]; exact hP, va_K.moved hW.alike hK, hD.weaken (fun _ _ _ _ => trivial), hN.warm hW⟩⟩ rfl rfl hl.1 rfl (lv_room (Nat.le_of_ble_eq_true rfl)) dX18_mint_44 ⟨Nat.le_of_ble_eq_true rfl, Nat.le_of_ble_eq_true rfl⟩) hS (fun q _ h => hFc q h) hFc (fun rr u t H_7 locs ht hvm hw hB hz1 hk1 hS2 => ?_)
        rw [hw]
        clear hw
        obtain ⟨hP1, -, hD1⟩ := hB
        rw [ht] at hP1
        replace hD := hD1.weaken (fun _ _ _ h => hFc _ h)
        replace hP := hP1
        replace hS := hS2
        clear hP1 hD1 hS2 hFc hfc hz1 hk1 hvm ht
        refine lv_istore (lv' := [(5, .int r_6), (0, .ref (a h0)), (1, .long x0), (3, .long x1)]) hx hb dX18_mint_47 hl (by decide) rfl (fun ls hl2 => ?_)
        replace hl := hl2
        clear hl2
        refine lv_iload hx hb dX18_mint_49 (lv_at hl 0 rfl) ?_
        refine de_cut (h := 66) (fun (x : St) => []) (fun x ls H locs => lv_has ls 6 [(5, .int r_6), (0, .ref (a h0)), (1, .long x0), (3, .long x1)] ∧ va_P (dC, dI) vwCl (Wd cy a sh n x) H ∧ va_D A (Wd cy a sh n x) ∧ va_S A s.heap H locs) (fun x => fn_X18_mint_B66 F sh n r_6 h0 x1 x0 x) (z8, r8) ?_ (fun B66 => ?_)
        · intro x ls H locs hI hf
          obtain ⟨z_8, ez⟩ : ∃ w, w = x := ⟨_, rfl⟩
          subst ez
          obtain ⟨hl2, hP2, hD2, hS2⟩ := hI
          replace hl : lv_has ls 6 [(5, .int r_6), (0, .ref (a h0)), (1, .long x0), (3, .long x1)] := hl2
          replace hP := hP2
          replace hD := hD2
          replace hS := hS2
          clear hl2 hP2 hD2 hS2
          replace hf := fn_X18_mint_B66_s hf
          refine W.eq (g2 := F0 m 66 ls []) rfl ?_
          refine lv_iload hx hb dX18_mint_66 (lv_at hl 0 rfl) ?_
          refine de_cut (h := 81) (fun (x : St × Int32) => [.int x.2]) (fun x ls H locs => lv_has ls 6 [(0, .ref (a h0)), (3, .long x1)] ∧ va_P (dC, dI) vwCl (Wd cy a sh n x.1) H ∧ va_D A (Wd cy a sh n x.1) ∧ va_S A s.heap H locs) (fun x => fn_X18_mint_B81 F sh n h0 x1 x.1 x.2) (z8, r8) ?_ (fun B81 => ?_)
          · intro x ls H locs hI hf
            obtain ⟨z_10, p_9⟩ := x
            obtain ⟨hl2, hP2, hD2, hS2⟩ := hI
            replace hl : lv_has ls 6 [(0, .ref (a h0)), (3, .long x1)] := hl2
            replace hP := hP2
            replace hD := hD2
            replace hS := hS2
            clear hl2 hP2 hD2 hS2
            replace hf := fn_X18_mint_B81_s hf
            refine W.eq (g2 := F0 m 81 ls [.int p_9]) rfl ?_
            refine lv_istore (lv' := [(5, .int p_9), (0, .ref (a h0)), (3, .long x1)]) hx hb dX18_mint_81 hl (by decide) rfl (fun ls hl2 => ?_)
            replace hl := hl2
            clear hl2
            refine lv_aload_n hx hb dX18_mint_83 rfl (lv_at hl 1 rfl) ?_
            obtain ⟨k_11, ek_11, hf⟩ := lnk_some hf
            refine va_get (D := (dC, dI)) (ci := 18) (v := .ref (a k_11)) (C := RX18) (T := TX18) (N := 78) hx hb hts iwd_X18_mint_X18 hown hK hP h0 (Wd_ob kg_2 sg_2 (by decide)) rfl 1 (by decide) (hts _ md_X18_mint_4) (fun _ h9 => h9) (fl_q rfl ek_11) dX18_mint_84 ?_
            refine lv_iload hx hb dX18_mint_87 (lv_at hl 0 rfl) ?_
            refine lv_dup2_11 hx hb dX18_mint_89 rfl rfl ?_
            obtain ⟨g_12, hf⟩ := grd_some hf
            obtain ⟨kg_12, sg_12, ig_12⟩ := okA_at g_12
            refine va_lald hx hb hK hP k_11 2 (Wd_al kg_12 sg_12) rfl ig_12 dX18_mint_90 ?_
            refine lv_lload_n hx hb dX18_mint_91 rfl (lv_at hl 2 rfl) ?_
            refine lv_ladd hx hb dX18_mint_92 ?_
            obtain ⟨g_13, hf⟩ := grd_some hf
            obtain ⟨kg_13, sg_13, ig_13⟩ := okA_at g_13
            refine va_last hx hb hK hP hD hS k_11 2 (Wd_al kg_13 sg_13) rfl ig_13 dX18_mint_93 (fun H_14 locs hP2 hD2 hS2 => ?_)
            rw [Wd_tl sg_13] at hP2 hD2
            obtain ⟨z_15, ez_15⟩ : ∃ w, w = sl z_10 k_11 p_9.toNatClampNeg ((z_10.2.1 k_11 p_9.toNatClampNeg) + x1) := ⟨_, rfl⟩
            rw [← ez_15] at hP2 hD2
            replace hf := lt_at ez_15 hf
            clear ez_15
            replace hP := hP2
            replace hD := hD2
            replace hS := hS2
            clear hP2 hD2 hS2
            refine lv_aload_n hx hb dX18_mint_94 rfl (lv_at hl 1 rfl) ?_
            refine lv_dup hx hb dX18_mint_95 rfl ?_
            refine va_get (D := (dC, dI)) (ci := 18) (v := .long (z_15.2.1 h0 20)) (C := RX18) (T := TX18) (N := 78) hx hb hts iwd_X18_mint_X18 hown hK hP h0 (Wd_ob kg_2 sg_2 (by decide)) rfl 20 (by decide) (hts _ md_X18_mint_1) (fun _ h9 => h9) (fl_at (t := 1) rfl) dX18_mint_96 ?_
            refine lv_lload_n hx hb dX18_mint_99 rfl (lv_at hl 2 rfl) ?_
            refine lv_ladd hx hb dX18_mint_100 ?_
            refine va_put (D := (dC, dI)) (ci := 18) (v := .long ((z_15.2.1 h0 20) + x1)) (ty := .long) (C := RX18) (T := TX18) (N := 78) hx hb hts iwd_X18_mint_X18 tyX18 tyX18_ok nmX18 hown hK hP hD hS h0 (Wd_ob kg_2 sg_2 (by decide)) rfl 20 (by decide) (hts _ md_X18_mint_1) (fun _ h9 => h9) rfl (by decide +kernel) rfl rfl (by rw [fl_len]; decide) dX18_mint_101 (fun H_16 locs hP2 hD2 hS2 => ?_)
            rw [Wd_sl sg_2 (by decide) rfl] at hP2 hD2
            obtain ⟨z_17, ez_17⟩ : ∃ w, w = sl z_15 h0 20 ((z_15.2.1 h0 20) + x1) := ⟨_, rfl⟩
            rw [← ez_17] at hP2 hD2
            replace hf := lt_at ez_17 hf
            clear ez_17
            replace hP := hP2
            replace hD := hD2
            replace hS := hS2
            clear hP2 hD2 hS2
            refine lv_iconst (v := 1) hx hb dX18_mint_104 (by decide) ?_
            obtain ⟨h8, h9⟩ := ret_some hf
            rw [h8, h9]
            exact W.zret (v := 1) hx hb hr rfl (fun t ht hW => ⟨⟨1, (), rfl, rfl, by rw [ht]; exact hP, va_K.moved hW.alike hK, hD⟩, hS.F ht⟩) hS.2.2 dX18_mint_105
          refine lv_if_ge (tgt := 79) hx hb dX18_mint_68 (by decide) (fun c_18 => ?_) (fun c_18 => ?_)
          · skip
            rw [if_pos c_18] at hf
            refine lv_iload hx hb dX18_mint_79 (lv_at hl 0 rfl) ?_
            exact B81 (z_8, r_6) ls H locs ⟨lv_sub hl [1, 3] rfl, hP, hD, hS⟩ hf
          · skip
            rw [if_neg c_18] at hf
            refine lv_aload_n hx hb dX18_mint_71 rfl (lv_at hl 1 rfl) ?_
            refine lv_lload_n hx hb dX18_mint_72 rfl (lv_at hl 2 rfl) ?_
            obtain ⟨z_19, r_20, hfc, hf⟩ := cal_some hf
            have hFc := de_free hD hS hA
            refine va_calli (va_runV (As := [.long x0]) (rest := []) ⟨hx, hb, hml, hown, hts⟩ (de_X18_newAccount l dC dI cy a sh n H.size F z_8 h0 x0 hfc) (cwV 1 hts gX18_mint_X18_newAccount rfl rfl rfl (by decide +kernel) ⟨Nat.le_of_ble_eq_true rfl, Nat.le_of_ble_eq_true rfl⟩) ⟨fun a U g mk q => by obtain ⟨q0, q1, qP, qK, qD, qN⟩ := q; exact ⟨q0, q1, qP, va_K.moved (u := U) (U := U.calling g mk a) (Vm.Alike.refl U.vm) qK, qD, qN.same rfl⟩, va_recv hK hP (ci := 18) (q0 := h0) rfl (Wd_ob kg_2 sg_2 (by decide)), fun U hU hW => ⟨rfl, by rw [hU], by rw [hU]; exact hP, va_K.moved hW.alike hK, hD.weaken (fun _ _ _ _ => trivial), hN.warm hW⟩⟩ rfl rfl hl.1 rfl (lv_room (Nat.le_of_ble_eq_true rfl)) dX18_mint_73 ⟨Nat.le_of_ble_eq_true rfl, Nat.le_of_ble_eq_true rfl⟩) hS (fun q _ h => hFc q h) hFc (fun rr u t H_21 locs ht hvm hw hB hz1 hk1 hS2 => ?_)
            rw [hw]
            clear hw
            obtain ⟨hP1, -, hD1⟩ := hB
            rw [ht] at hP1
            replace hD := hD1.weaken (fun _ _ _ h => hFc _ h)
            replace hP := hP1
            replace hS := hS2
            clear hP1 hD1 hS2 hFc hfc hz1 hk1 hvm ht
            refine lv_goto (tgt := 81) hx hb dX18_mint_76 (by decide) ?_
            exact B81 (z_19, r_20) ls H_21 locs ⟨lv_sub hl [1, 3] rfl, hP, hD, hS⟩ hf
        refine lv_if_ge (tgt := 66) hx hb dX18_mint_51 (by decide) (fun c_22 => ?_) (fun c_22 => ?_)
        · skip
          rw [if_pos c_22] at hf
          exact B66 (z_5) ls H_7 locs ⟨lv_sub hl [0, 1, 2, 3] rfl, hP, hD, hS⟩ hf
        · skip
          rw [if_neg c_22] at hf
          refine lv_aload_n hx hb dX18_mint_54 rfl (lv_at hl 1 rfl) ?_
          obtain ⟨z_23, r_24, hfc, hf⟩ := cal_some hf
          have hFc := de_free hD hS hA
          refine va_calli (va_runV (As := []) (rest := []) ⟨hx, hb, hml, hown, hts⟩ (de_X18_placeCount l dC dI cy a sh n H_7.size F z_5 h0 hfc) (cwV 0 hts gX18_mint_X18_placeCount rfl rfl rfl (by decide +kernel) ⟨Nat.le_of_ble_eq_true rfl, Nat.le_of_ble_eq_true rfl⟩) ⟨fun a U g mk q => by obtain ⟨q0, q1, qP, qK, qD, qN⟩ := q; exact ⟨q0, q1, qP, va_K.moved (u := U) (U := U.calling g mk a) (Vm.Alike.refl U.vm) qK, qD, qN.same rfl⟩, va_recv hK hP (ci := 18) (q0 := h0) rfl (Wd_ob kg_2 sg_2 (by decide)), fun U hU hW => ⟨rfl, by rw [hU], by rw [hU]; exact hP, va_K.moved hW.alike hK, hD.weaken (fun _ _ _ _ => trivial), hN.warm hW⟩⟩ rfl rfl hl.1 rfl (lv_room (Nat.le_of_ble_eq_true rfl)) dX18_mint_55 ⟨Nat.le_of_ble_eq_true rfl, Nat.le_of_ble_eq_true rfl⟩) hS (fun q _ h => hFc q h) hFc (fun rr u t H_25 locs ht hvm hw hB hz1 hk1 hS2 => ?_)
          rw [hw]
          clear hw
          obtain ⟨hP1, -, hD1⟩ := hB
          rw [ht] at hP1
          replace hD := hD1.weaken (fun _ _ _ h => hFc _ h)
          replace hP := hP1
          replace hS := hS2
          clear hP1 hD1 hS2 hFc hfc hz1 hk1 hvm ht
          refine lv_sipush (v := 256) hx hb dX18_mint_58 (by decide) ?_
          refine lv_icmp_ne (tgt := 66) hx hb dX18_mint_61 (by decide) (fun c_26 => ?_) (fun c_26 => ?_)
          · skip
            rw [if_neg c_26] at hf
            exact B66 (z_23) ls H_25 locs ⟨lv_sub hl [0, 1, 2, 3] rfl, hP, hD, hS⟩ hf
          · skip
            rw [if_pos c_26] at hf
            refine lv_iconst (v := 0) hx hb dX18_mint_64 (by decide) ?_
            obtain ⟨h8, h9⟩ := ret_some hf
            rw [h8, h9]
            exact W.zret (v := 0) hx hb hr rfl (fun t ht hW => ⟨⟨0, (), rfl, rfl, by rw [ht]; exact hP, va_K.moved hW.alike hK, hD⟩, hS.F ht⟩) hS.2.2 dX18_mint_65
      · skip
        rw [lg_cmp_ge] at c_4
        rw [if_neg c_4] at hf
        refine lv_iconst (v := 0) hx hb dX18_mint_40 (by decide) ?_
        obtain ⟨h8, h9⟩ := ret_some hf
        rw [h8, h9]
        exact W.zret (v := 0) hx hb hr rfl (fun t ht hW => ⟨⟨0, (), rfl, rfl, by rw [ht]; exact hP, va_K.moved hW.alike hK, hD⟩, hS.F ht⟩) hS.2.2 dX18_mint_41

theorem md_X18_keepOne_1 : (.fieldLink RX18 34 "ResourceLedgerModel" "rowAt" "I" : Cond) ∈ wsX18_keepOne := List.mem_of_getElem? (i := 1) rfl
theorem iwd_X18_keepOne_X18 : ∀ w ∈ wsX180, w ∈ wsX18_keepOne := fun _ h => List.mem_cons_of_mem _ (List.mem_append_left _ (List.mem_append_right _ h))
theorem md_X18_keepOne_2 : (.fieldLink RX18 44 "ResourceLedgerModel" "rowKinds" "[B" : Cond) ∈ wsX18_keepOne := List.mem_of_getElem? (i := 2) rfl
theorem md_X18_keepOne_3 : (.fieldLink RX18 40 "ResourceLedgerModel" "trees" "LResourceLedgerModel$Trees;" : Cond) ∈ wsX18_keepOne := List.mem_of_getElem? (i := 3) rfl
theorem iwd_X18_keepOne_X15 : ∀ w ∈ wsX150, w ∈ wsX18_keepOne := fun _ h => List.mem_cons_of_mem _ (List.mem_append_right _ h)
theorem md_X18_keepOne_4 : (.fieldLink RX18 48 "ResourceLedgerModel" "rowHighs" "[J" : Cond) ∈ wsX18_keepOne := List.mem_of_getElem? (i := 4) rfl
theorem md_X18_keepOne_5 : (.fieldLink RX18 51 "ResourceLedgerModel" "rowLows" "[J" : Cond) ∈ wsX18_keepOne := List.mem_of_getElem? (i := 5) rfl
theorem md_X18_keepOne_6 : (.fieldLink RX18 60 "ResourceLedgerModel" "rowParts" "[I" : Cond) ∈ wsX18_keepOne := List.mem_of_getElem? (i := 6) rfl
set_option maxHeartbeats 4000000 in
set_option maxRecDepth 100000 in
theorem de_X18_keepOne (l : Launch) (dC : Nat → ClassId) (dI : Nat → Nat → Nat) (cy : Nat → ClassId) (a : Nat → Nat) (sh : Nat → Nat × Nat) (n F : Nat) : ∀ (d sz : Nat) (z : St) (h0 : Nat) (x0 : Int32) {z8 : St} {r8 : Unit} (_ : fn_X18_keepOne F sh n d z h0 x0 = some (z8, r8)), Met l yX18_keepOne wsX18_keepOne ({ frames := d + 1, cells := 0, slots := 0, locals := d * 23 + 23 }) (va_Pc [.ref (a h0), .int x0] (fun U => U.heap.size = sz ∧ va_P (dC, dI) vwCl (Wd cy a sh n z) U.heap ∧ va_K (dC, dI) vwCl (TYS cy) U ∧ va_D (fun _ => True) (Wd cy a sh n z) ∧ NK U)) (va_Qv (fun u : Unit => True) (fun u t => va_P (dC, dI) vwCl (Wd cy a sh n z8) t.heap ∧ va_K (dC, dI) vwCl (TYS cy) t ∧ va_D (va_A (Wd cy a sh n z) sz) (Wd cy a sh n z8)) (va_A (Wd cy a sh n z) sz)) 0 0 (va_A (Wd cy a sh n z) sz) := by
  intro d
  induction d with
  | zero => intro sz z h0 x0 z8 r8 hf; exact absurd hf (by simp [fn_X18_keepOne])
  | succ d ihd =>
  intro sz z h0 x0 z8 r8 hf
  refine Met.ofW (cc := cX18_keepOne) (maxL := 4) (ret := none) (by decide) rfl ?_
  intro p e s m args below meth c s₁ B hml hv
  obtain ⟨rfl, hsz, hP, hK, hD0, hN⟩ := hv
  have hx := B.exec
  have hb := B.bytes
  have hr := B.returns
  have hts := atoms_spec (ws := wsX18_keepOne) B.pre
  have hown : s.vm.findClass RX18 = some m.cls := findClass_of_methodNamed B.named
  have hlocks := B.notSynchronized
  subst hsz
  have hD := hD0.self (sz := s.heap.size)
  clear hD0
  generalize hAe : va_A (Wd cy a sh n z) s.heap.size = A at hD ⊢
  have hA : ∀ q : Nat, s.heap.size ≤ q → A q := fun q h => by rw [← hAe]; exact Or.inr h
  clear hAe
  have hS : va_S A s.heap s.heap [] := va_S.rf
  have hl := lv_entry ([.ref (a h0), .int x0]) (n := 4) (Nat.le_of_ble_eq_true rfl)
  rw [lg_entry_eq]
  generalize (lg_sl ([.ref (a h0), .int x0]) ++ List.replicate (4 - (lg_sl ([.ref (a h0), .int x0])).length) Slot.unset).toArray = ls at hl ⊢
  replace hl : lv_has ls 4 [(0, .ref (a h0)), (1, .int x0)] := hl
  replace hf := fn_X18_keepOne_s hf
  refine de_start hS hP (fun H locs hS hP => ?_)
  refine lv_aload_n hx hb dX18_keepOne_0 rfl (lv_at hl 0 rfl) ?_
  obtain ⟨g_1, hf⟩ := grd_some hf
  obtain ⟨kg_1, sg_1⟩ := okO_at g_1
  refine va_get (D := (dC, dI)) (ci := 18) (v := .int (z.1 h0 14)) (C := RX18) (T := TX18) (N := 78) hx hb hts iwd_X18_keepOne_X18 hown hK hP h0 (Wd_ob kg_1 sg_1 (by decide)) rfl 14 (by decide) (hts _ md_X18_keepOne_1) (fun _ h9 => h9) (fl_at (t := 0) rfl) dX18_keepOne_1 ?_
  refine lv_topi (fun v_2 ev_2 => ?_)
  replace hf := lt_at ev_2 hf
  clear ev_2
  refine lv_istore_n (lv' := [(2, .int v_2), (0, .ref (a h0)), (1, .int x0)]) hx hb dX18_keepOne_4 rfl hl (by decide) rfl (fun ls hl2 => ?_)
  replace hl := hl2
  clear hl2
  refine lv_aload_n hx hb dX18_keepOne_5 rfl (lv_at hl 1 rfl) ?_
  refine lv_dup hx hb dX18_keepOne_6 rfl ?_
  refine va_get (D := (dC, dI)) (ci := 18) (v := .int (z.1 h0 14)) (C := RX18) (T := TX18) (N := 78) hx hb hts iwd_X18_keepOne_X18 hown hK hP h0 (Wd_ob kg_1 sg_1 (by decide)) rfl 14 (by decide) (hts _ md_X18_keepOne_1) (fun _ h9 => h9) (fl_at (t := 0) rfl) dX18_keepOne_7 ?_
  refine lv_iconst (v := 1) hx hb dX18_keepOne_10 (by decide) ?_
  refine lv_iadd hx hb dX18_keepOne_11 ?_
  refine va_put (D := (dC, dI)) (ci := 18) (v := .int ((z.1 h0 14) + 1)) (ty := .int) (C := RX18) (T := TX18) (N := 78) hx hb hts iwd_X18_keepOne_X18 tyX18 tyX18_ok nmX18 hown hK hP hD hS h0 (Wd_ob kg_1 sg_1 (by decide)) rfl 14 (by decide) (hts _ md_X18_keepOne_1) (fun _ h9 => h9) rfl (by decide +kernel) rfl rfl (by rw [fl_len]; decide) dX18_keepOne_12 (fun H_3 locs hP2 hD2 hS2 => ?_)
  rw [Wd_si sg_1 (by decide) rfl] at hP2 hD2
  obtain ⟨z_4, ez_4⟩ : ∃ w, w = si z h0 14 ((z.1 h0 14) + 1) := ⟨_, rfl⟩
  rw [← ez_4] at hP2 hD2
  replace hf := lt_at ez_4 hf
  clear ez_4
  replace hP := hP2
  replace hD := hD2
  replace hS := hS2
  clear hP2 hD2 hS2
  refine lv_aload_n hx hb dX18_keepOne_15 rfl (lv_at hl 1 rfl) ?_
  obtain ⟨k_5, ek_5, hf⟩ := lnk_some hf
  refine va_get (D := (dC, dI)) (ci := 18) (v := .ref (a k_5)) (C := RX18) (T := TX18) (N := 78) hx hb hts iwd_X18_keepOne_X18 hown hK hP h0 (Wd_ob kg_1 sg_1 (by decide)) rfl 10 (by decide) (hts _ md_X18_keepOne_2) (fun _ h9 => h9) (fl_q rfl ek_5) dX18_keepOne_16 ?_
  refine lv_iload_n hx hb dX18_keepOne_19 rfl (lv_at hl 0 rfl) ?_
  refine lv_aload_n hx hb dX18_keepOne_20 rfl (lv_at hl 1 rfl) ?_
  obtain ⟨k_6, ek_6, hf⟩ := lnk_some hf
  refine va_get (D := (dC, dI)) (ci := 18) (v := .ref (a k_6)) (C := RX18) (T := TX18) (N := 78) hx hb hts iwd_X18_keepOne_X18 hown hK hP h0 (Wd_ob kg_1 sg_1 (by decide)) rfl 15 (by decide) (hts _ md_X18_keepOne_3) (fun _ h9 => h9) (fl_q rfl ek_6) dX18_keepOne_21 ?_
  obtain ⟨g_7, hf⟩ := grd_some hf
  obtain ⟨kg_7, sg_7⟩ := okO_at g_7
  obtain ⟨k_8, ek_8, hf⟩ := lnk_some hf
  refine va_getN (D := (dC, dI)) (ci := 15) (v := .ref (a k_8)) (C := RX15) (T := TX15) (N := 6) hx hb hts iwd_X18_keepOne_X15 hown hK hP k_6 (Wd_ob kg_7 sg_7 (by decide)) rfl 0 (by decide) (va_Nw.use rfl (NK_f_X18_71 hN)) (fun _ h9 => h9) (fl_q rfl ek_8) dX18_keepOne_24 ?_
  refine lv_iload_n hx hb dX18_keepOne_27 rfl (lv_at hl 2 rfl) ?_
  obtain ⟨g_9, hf⟩ := grd_some hf
  obtain ⟨kg_9, sg_9, ig_9⟩ := okA_at g_9
  refine va_bald hx hb hK hP k_8 0 (Wd_ab kg_9 sg_9) rfl ig_9 dX18_keepOne_28 ?_
  obtain ⟨g_10, hf⟩ := grd_some hf
  obtain ⟨kg_10, sg_10, ig_10⟩ := okA_at g_10
  refine va_bast hx hb hK hP hD hS k_5 0 (Wd_ab kg_10 sg_10) rfl ig_10 dX18_keepOne_29 (fun H_11 locs hP2 hD2 hS2 => ?_)
  rw [Wd_tb sg_10] at hP2 hD2
  obtain ⟨z_12, ez_12⟩ : ∃ w, w = si z_4 k_5 v_2.toNatClampNeg (vp_nar .byte (z_4.1 k_8 x0.toNatClampNeg)) := ⟨_, rfl⟩
  rw [← ez_12] at hP2 hD2
  replace hf := lt_at ez_12 hf
  clear ez_12
  replace hP := hP2
  replace hD := hD2
  replace hS := hS2
  clear hP2 hD2 hS2
  refine lv_aload_n hx hb dX18_keepOne_30 rfl (lv_at hl 1 rfl) ?_
  obtain ⟨k_13, ek_13, hf⟩ := lnk_some hf
  refine va_get (D := (dC, dI)) (ci := 18) (v := .ref (a k_13)) (C := RX18) (T := TX18) (N := 78) hx hb hts iwd_X18_keepOne_X18 hown hK hP h0 (Wd_ob kg_1 sg_1 (by decide)) rfl 11 (by decide) (hts _ md_X18_keepOne_4) (fun _ h9 => h9) (fl_q rfl ek_13) dX18_keepOne_31 ?_
  refine lv_iload_n hx hb dX18_keepOne_34 rfl (lv_at hl 0 rfl) ?_
  refine lv_aload_n hx hb dX18_keepOne_35 rfl (lv_at hl 1 rfl) ?_
  obtain ⟨k_14, ek_14, hf⟩ := lnk_some hf
  refine va_get (D := (dC, dI)) (ci := 18) (v := .ref (a k_14)) (C := RX18) (T := TX18) (N := 78) hx hb hts iwd_X18_keepOne_X18 hown hK hP h0 (Wd_ob kg_1 sg_1 (by decide)) rfl 15 (by decide) (hts _ md_X18_keepOne_3) (fun _ h9 => h9) (fl_q rfl ek_14) dX18_keepOne_36 ?_
  obtain ⟨g_15, hf⟩ := grd_some hf
  obtain ⟨kg_15, sg_15⟩ := okO_at g_15
  obtain ⟨k_16, ek_16, hf⟩ := lnk_some hf
  refine va_getN (D := (dC, dI)) (ci := 15) (v := .ref (a k_16)) (C := RX15) (T := TX15) (N := 6) hx hb hts iwd_X18_keepOne_X15 hown hK hP k_14 (Wd_ob kg_15 sg_15 (by decide)) rfl 1 (by decide) (va_Nw.use rfl (NK_f_X18_74 hN)) (fun _ h9 => h9) (fl_q rfl ek_16) dX18_keepOne_39 ?_
  refine lv_iload_n hx hb dX18_keepOne_42 rfl (lv_at hl 2 rfl) ?_
  obtain ⟨g_17, hf⟩ := grd_some hf
  obtain ⟨kg_17, sg_17, ig_17⟩ := okA_at g_17
  refine va_lald hx hb hK hP k_16 2 (Wd_al kg_17 sg_17) rfl ig_17 dX18_keepOne_43 ?_
  obtain ⟨g_18, hf⟩ := grd_some hf
  obtain ⟨kg_18, sg_18, ig_18⟩ := okA_at g_18
  refine va_last hx hb hK hP hD hS k_13 2 (Wd_al kg_18 sg_18) rfl ig_18 dX18_keepOne_44 (fun H_19 locs hP2 hD2 hS2 => ?_)
  rw [Wd_tl sg_18] at hP2 hD2
  obtain ⟨z_20, ez_20⟩ : ∃ w, w = sl z_12 k_13 v_2.toNatClampNeg (z_12.2.1 k_16 x0.toNatClampNeg) := ⟨_, rfl⟩
  rw [← ez_20] at hP2 hD2
  replace hf := lt_at ez_20 hf
  clear ez_20
  replace hP := hP2
  replace hD := hD2
  replace hS := hS2
  clear hP2 hD2 hS2
  refine lv_aload_n hx hb dX18_keepOne_45 rfl (lv_at hl 1 rfl) ?_
  obtain ⟨k_21, ek_21, hf⟩ := lnk_some hf
  refine va_get (D := (dC, dI)) (ci := 18) (v := .ref (a k_21)) (C := RX18) (T := TX18) (N := 78) hx hb hts iwd_X18_keepOne_X18 hown hK hP h0 (Wd_ob kg_1 sg_1 (by decide)) rfl 12 (by decide) (hts _ md_X18_keepOne_5) (fun _ h9 => h9) (fl_q rfl ek_21) dX18_keepOne_46 ?_
  refine lv_iload_n hx hb dX18_keepOne_49 rfl (lv_at hl 0 rfl) ?_
  refine lv_aload_n hx hb dX18_keepOne_50 rfl (lv_at hl 1 rfl) ?_
  obtain ⟨k_22, ek_22, hf⟩ := lnk_some hf
  refine va_get (D := (dC, dI)) (ci := 18) (v := .ref (a k_22)) (C := RX18) (T := TX18) (N := 78) hx hb hts iwd_X18_keepOne_X18 hown hK hP h0 (Wd_ob kg_1 sg_1 (by decide)) rfl 15 (by decide) (hts _ md_X18_keepOne_3) (fun _ h9 => h9) (fl_q rfl ek_22) dX18_keepOne_51 ?_
  obtain ⟨g_23, hf⟩ := grd_some hf
  obtain ⟨kg_23, sg_23⟩ := okO_at g_23
  obtain ⟨k_24, ek_24, hf⟩ := lnk_some hf
  refine va_getN (D := (dC, dI)) (ci := 15) (v := .ref (a k_24)) (C := RX15) (T := TX15) (N := 6) hx hb hts iwd_X18_keepOne_X15 hown hK hP k_22 (Wd_ob kg_23 sg_23 (by decide)) rfl 2 (by decide) (va_Nw.use rfl (NK_f_X18_77 hN)) (fun _ h9 => h9) (fl_q rfl ek_24) dX18_keepOne_54 ?_
  refine lv_iload_n hx hb dX18_keepOne_57 rfl (lv_at hl 2 rfl) ?_
  obtain ⟨g_25, hf⟩ := grd_some hf
  obtain ⟨kg_25, sg_25, ig_25⟩ := okA_at g_25
  refine va_lald hx hb hK hP k_24 2 (Wd_al kg_25 sg_25) rfl ig_25 dX18_keepOne_58 ?_
  obtain ⟨g_26, hf⟩ := grd_some hf
  obtain ⟨kg_26, sg_26, ig_26⟩ := okA_at g_26
  refine va_last hx hb hK hP hD hS k_21 2 (Wd_al kg_26 sg_26) rfl ig_26 dX18_keepOne_59 (fun H_27 locs hP2 hD2 hS2 => ?_)
  rw [Wd_tl sg_26] at hP2 hD2
  obtain ⟨z_28, ez_28⟩ : ∃ w, w = sl z_20 k_21 v_2.toNatClampNeg (z_20.2.1 k_24 x0.toNatClampNeg) := ⟨_, rfl⟩
  rw [← ez_28] at hP2 hD2
  replace hf := lt_at ez_28 hf
  clear ez_28
  replace hP := hP2
  replace hD := hD2
  replace hS := hS2
  clear hP2 hD2 hS2
  refine lv_aload_n hx hb dX18_keepOne_60 rfl (lv_at hl 1 rfl) ?_
  obtain ⟨k_29, ek_29, hf⟩ := lnk_some hf
  refine va_get (D := (dC, dI)) (ci := 18) (v := .ref (a k_29)) (C := RX18) (T := TX18) (N := 78) hx hb hts iwd_X18_keepOne_X18 hown hK hP h0 (Wd_ob kg_1 sg_1 (by decide)) rfl 13 (by decide) (hts _ md_X18_keepOne_6) (fun _ h9 => h9) (fl_q rfl ek_29) dX18_keepOne_61 ?_
  refine lv_iload_n hx hb dX18_keepOne_64 rfl (lv_at hl 0 rfl) ?_
  refine lv_aload_n hx hb dX18_keepOne_65 rfl (lv_at hl 1 rfl) ?_
  obtain ⟨k_30, ek_30, hf⟩ := lnk_some hf
  refine va_get (D := (dC, dI)) (ci := 18) (v := .ref (a k_30)) (C := RX18) (T := TX18) (N := 78) hx hb hts iwd_X18_keepOne_X18 hown hK hP h0 (Wd_ob kg_1 sg_1 (by decide)) rfl 15 (by decide) (hts _ md_X18_keepOne_3) (fun _ h9 => h9) (fl_q rfl ek_30) dX18_keepOne_66 ?_
  refine lv_iload_n hx hb dX18_keepOne_69 rfl (lv_at hl 2 rfl) ?_
  obtain ⟨g_33, hf⟩ := grd_some hf
  obtain ⟨kg_33, sg_33⟩ := okO_at g_33
  obtain ⟨z_31, r_32, hfc, hf⟩ := cal_some hf
  have hFc := de_free hD hS hA
  refine va_calli (va_runV (As := [.int x0]) (rest := [.int v_2, .ref (a k_29)]) ⟨hx, hb, hml, hown, hts⟩ (de_X15_count l dC dI cy a sh n H_27.size F z_28 k_30 x0 hfc) (cwV 1 hts gX18_keepOne_X15_count rfl rfl rfl (by decide +kernel) ⟨by show _ ≤ d + 1 + 1; (try dsimp only); omega, by show _ ≤ (d + 1) * 23 + 23; (try dsimp only); omega⟩) ⟨fun a U g mk q => by obtain ⟨q0, q1, qP, qK, qD, qN⟩ := q; exact ⟨q0, q1, qP, va_K.moved (u := U) (U := U.calling g mk a) (Vm.Alike.refl U.vm) qK, qD, qN.same rfl⟩, va_recv hK hP (ci := 15) (q0 := k_30) rfl (Wd_ob kg_33 sg_33 (by decide)), fun U hU hW => ⟨rfl, by rw [hU], by rw [hU]; exact hP, va_K.moved hW.alike hK, hD.weaken (fun _ _ _ _ => trivial), hN.warm hW⟩⟩ rfl rfl hl.1 rfl (lv_room (Nat.le_of_ble_eq_true rfl)) dX18_keepOne_70 ⟨Nat.le_of_ble_eq_true rfl, Nat.le_of_ble_eq_true rfl⟩) hS (fun q _ h => hFc q h) hFc (fun rr u t H_34 locs ht hvm hw hB hz1 hk1 hS2 => ?_)
  rw [hw]
  clear hw
  obtain ⟨hP1, -, hD1⟩ := hB
  rw [ht] at hP1
  replace hD := hD1.weaken (fun _ _ _ h => hFc _ h)
  replace hP := hP1
  replace hS := hS2
  clear hP1 hD1 hS2 hFc hfc hz1 hk1 hvm ht
  obtain ⟨g_35, hf⟩ := grd_some hf
  obtain ⟨kg_35, sg_35, ig_35⟩ := okA_at g_35
  refine va_iast hx hb hK hP hD hS k_29 1 (Wd_ai kg_35 sg_35) rfl ig_35 dX18_keepOne_73 (fun H_36 locs hP2 hD2 hS2 => ?_)
  rw [Wd_ti sg_35] at hP2 hD2
  obtain ⟨z_37, ez_37⟩ : ∃ w, w = si z_31 k_29 v_2.toNatClampNeg r_32 := ⟨_, rfl⟩
  rw [← ez_37] at hP2 hD2
  replace hf := lt_at ez_37 hf
  clear ez_37
  replace hP := hP2
  replace hD := hD2
  replace hS := hS2
  clear hP2 hD2 hS2
  refine lv_aload_n hx hb dX18_keepOne_74 rfl (lv_at hl 1 rfl) ?_
  obtain ⟨k_38, ek_38, hf⟩ := lnk_some hf
  refine va_get (D := (dC, dI)) (ci := 18) (v := .ref (a k_38)) (C := RX18) (T := TX18) (N := 78) hx hb hts iwd_X18_keepOne_X18 hown hK hP h0 (Wd_ob kg_1 sg_1 (by decide)) rfl 15 (by decide) (hts _ md_X18_keepOne_3) (fun _ h9 => h9) (fl_q rfl ek_38) dX18_keepOne_75 ?_
  obtain ⟨g_39, hf⟩ := grd_some hf
  obtain ⟨kg_39, sg_39⟩ := okO_at g_39
  obtain ⟨k_40, ek_40, hf⟩ := lnk_some hf
  refine va_getN (D := (dC, dI)) (ci := 15) (v := .ref (a k_40)) (C := RX15) (T := TX15) (N := 6) hx hb hts iwd_X18_keepOne_X15 hown hK hP k_38 (Wd_ob kg_39 sg_39 (by decide)) rfl 3 (by decide) (va_Nw.use rfl (NK_f_X18_84 hN)) (fun _ h9 => h9) (fl_q rfl ek_40) dX18_keepOne_78 ?_
  refine lv_iload_n hx hb dX18_keepOne_81 rfl (lv_at hl 2 rfl) ?_
  obtain ⟨g_41, hf⟩ := grd_some hf
  obtain ⟨kg_41, sg_41, ig_41⟩ := okA_at g_41
  refine va_iald hx hb hK hP k_40 1 (Wd_ai kg_41 sg_41) rfl ig_41 dX18_keepOne_82 ?_
  refine lv_topi (fun v_42 ev_42 => ?_)
  replace hf := lt_at ev_42 hf
  clear ev_42
  refine lv_istore_n (lv' := [(3, .int v_42), (2, .int v_2), (0, .ref (a h0)), (1, .int x0)]) hx hb dX18_keepOne_83 rfl hl (by decide) rfl (fun ls hl2 => ?_)
  replace hl := hl2
  clear hl2
  have hl0 : lv_has ls 4 [(3, .int v_42), (0, .ref (a h0))] := lv_sub hl [0, 2] rfl
  refine de_loop (h := 84) (fun (x : St × Int32) ls H locs => lv_has ls 4 [(3, .int x.2), (0, .ref (a h0))] ∧ va_P (dC, dI) vwCl (Wd cy a sh n x.1) H ∧ va_D A (Wd cy a sh n x.1) ∧ va_S A s.heap H locs) (fun f x => fn_X18_keepOne_L84 F sh n (fn_X18_keepOne F sh n d) h0 f x.1 x.2) (z8, r8) ?_ (fun _ => rfl) F (z_37, v_42) ls H_36 locs ⟨hl0, hP, hD, hS⟩ hf
  intro f_45 x ls H locs ih84 hI hf
  obtain ⟨z_44, p_43⟩ := x
  obtain ⟨hl2, hP2, hD2, hS2⟩ := hI
  replace hl : lv_has ls 4 [(3, .int p_43), (0, .ref (a h0))] := hl2
  replace hP := hP2
  replace hD := hD2
  replace hS := hS2
  clear hl2 hP2 hD2 hS2 hl0
  replace hf := fn_X18_keepOne_L84_s hf
  refine lv_iload_n hx hb dX18_keepOne_84 rfl (lv_at hl 0 rfl) ?_
  refine lv_iconst (v := (-1)) hx hb dX18_keepOne_85 (by decide) ?_
  refine lv_icmp_eq (tgt := 107) hx hb dX18_keepOne_86 (by decide) (fun c_46 => ?_) (fun c_46 => ?_)
  · skip
    rw [if_pos c_46] at hf
    obtain ⟨h8, h9⟩ := ret_some hf
    rw [h8]
    exact W.vret hx hb hr (fun t ht hW => ⟨⟨(), rfl, trivial, by rw [ht]; exact hP, va_K.moved hW.alike hK, hD⟩, hS.F ht⟩) hS.2.2 dX18_keepOne_107
  · skip
    rw [if_neg c_46] at hf
    refine lv_aload_n hx hb dX18_keepOne_89 rfl (lv_at hl 1 rfl) ?_
    refine lv_iload_n hx hb dX18_keepOne_90 rfl (lv_at hl 0 rfl) ?_
    obtain ⟨z_47, _u, hfc, hf⟩ := cal_some hf
    have hFc := de_free hD hS hA
    refine va_callv (va_runV (As := [.int p_43]) (rest := []) ⟨hx, hb, hml, hown, hts⟩ (ihd H.size z_44 h0 p_43 hfc) (cwV 1 hts gX18_keepOne_X18_keepOne rfl rfl rfl (by decide +kernel) ⟨by show _ ≤ d + 1 + 1; (try dsimp only); omega, by show _ ≤ (d + 1) * 23 + 23; (try dsimp only); omega⟩) ⟨fun a U g mk q => by obtain ⟨q0, q1, qP, qK, qD, qN⟩ := q; exact ⟨q0, q1, qP, va_K.moved (u := U) (U := U.calling g mk a) (Vm.Alike.refl U.vm) qK, qD, qN.same rfl⟩, va_recv hK hP (ci := 18) (q0 := h0) rfl (Wd_ob kg_1 sg_1 (by decide)), fun U hU hW => ⟨rfl, by rw [hU], by rw [hU]; exact hP, va_K.moved hW.alike hK, hD.weaken (fun _ _ _ _ => trivial), hN.warm hW⟩⟩ rfl rfl hl.1 rfl (lv_room (Nat.le_of_ble_eq_true rfl)) dX18_keepOne_91 ⟨Nat.le_of_ble_eq_true rfl, Nat.le_of_ble_eq_true rfl⟩) hS (fun q _ h => hFc q h) hFc (fun u t H_48 locs ht hvm hw hB hz1 hk1 hS2 => ?_)
    obtain ⟨hP1, -, hD1⟩ := hB
    rw [ht] at hP1
    replace hD := hD1.weaken (fun _ _ _ h => hFc _ h)
    replace hP := hP1
    replace hS := hS2
    clear hP1 hD1 hS2 hFc hfc hz1 hk1 hvm ht
    refine lv_aload_n hx hb dX18_keepOne_94 rfl (lv_at hl 1 rfl) ?_
    obtain ⟨k_49, ek_49, hf⟩ := lnk_some hf
    refine va_get (D := (dC, dI)) (ci := 18) (v := .ref (a k_49)) (C := RX18) (T := TX18) (N := 78) hx hb hts iwd_X18_keepOne_X18 hown hK hP h0 (Wd_ob kg_1 sg_1 (by decide)) rfl 15 (by decide) (hts _ md_X18_keepOne_3) (fun _ h9 => h9) (fl_q rfl ek_49) dX18_keepOne_95 ?_
    obtain ⟨g_50, hf⟩ := grd_some hf
    obtain ⟨kg_50, sg_50⟩ := okO_at g_50
    obtain ⟨k_51, ek_51, hf⟩ := lnk_some hf
    refine va_getN (D := (dC, dI)) (ci := 15) (v := .ref (a k_51)) (C := RX15) (T := TX15) (N := 6) hx hb hts iwd_X18_keepOne_X15 hown hK hP k_49 (Wd_ob kg_50 sg_50 (by decide)) rfl 4 (by decide) (va_Nw.use rfl (NK_f_X18_87 hN)) (fun _ h9 => h9) (fl_q rfl ek_51) dX18_keepOne_98 ?_
    refine lv_iload_n hx hb dX18_keepOne_101 rfl (lv_at hl 0 rfl) ?_
    obtain ⟨g_52, hf⟩ := grd_some hf
    obtain ⟨kg_52, sg_52, ig_52⟩ := okA_at g_52
    refine va_iald hx hb hK hP k_51 1 (Wd_ai kg_52 sg_52) rfl ig_52 dX18_keepOne_102 ?_
    refine lv_topi (fun v_53 ev_53 => ?_)
    replace hf := lt_at ev_53 hf
    clear ev_53
    refine lv_istore_n (lv' := [(3, .int v_53), (0, .ref (a h0))]) hx hb dX18_keepOne_103 rfl hl (by decide) rfl (fun ls hl2 => ?_)
    replace hl := hl2
    clear hl2
    refine lv_goto (tgt := 84) hx hb dX18_keepOne_104 (by decide) ?_
    exact ih84 (z_47, v_53) ls H_48 locs ⟨lv_sub hl [0, 1] rfl, hP, hD, hS⟩ hf

theorem md_X1_loadNode_1 : (.fieldLink RX1 75 "ResourceLedger$Heap" "cursor" "I" : Cond) ∈ wsX1_loadNode := List.mem_of_getElem? (i := 1) rfl
theorem iwd_X1_loadNode_X1 : ∀ w ∈ wsX10, w ∈ wsX1_loadNode := fun _ h => List.mem_cons_of_mem _ (List.mem_append_left _ (List.mem_append_right _ h))
theorem md_X1_loadNode_2 : (.fieldLink RX1 60 "ResourceLedger$State" "nodeKind" "[B" : Cond) ∈ wsX1_loadNode := List.mem_of_getElem? (i := 2) rfl
theorem iwd_X1_loadNode_X7 : ∀ w ∈ wsX70, w ∈ wsX1_loadNode := fun _ h => List.mem_cons_of_mem _ (List.mem_append_right _ h)
theorem md_X1_loadNode_3 : (.fieldLink RX1 30 "ResourceLedger$Heap" "slips" "I" : Cond) ∈ wsX1_loadNode := List.mem_of_getElem? (i := 3) rfl
theorem md_X1_loadNode_4 : (.fieldLink RX1 65 "ResourceLedger$State" "nodeHigh" "[J" : Cond) ∈ wsX1_loadNode := List.mem_of_getElem? (i := 4) rfl
theorem md_X1_loadNode_5 : (.fieldLink RX1 68 "ResourceLedger$State" "nodeLow" "[J" : Cond) ∈ wsX1_loadNode := List.mem_of_getElem? (i := 5) rfl
set_option maxHeartbeats 4000000 in
set_option maxRecDepth 100000 in
theorem de_X1_loadNode (l : Launch) (dC : Nat → ClassId) (dI : Nat → Nat → Nat) (cy : Nat → ClassId) (a : Nat → Nat) (sh : Nat → Nat × Nat) (n F : Nat) : ∀ (d sz : Nat) (z : St) (h0 : Nat) (x0 : Nat) (x1 : Int32) {z8 : St} {r8 : Int32} (_ : fn_X1_loadNode F sh n d z h0 x0 x1 = some (z8, r8)), Met l yX1_loadNode wsX1_loadNode ({ frames := d + 1, cells := 0, slots := 0, locals := d * 28 + 25 }) (va_Pc [.ref (a h0), .ref (a x0), .int x1] (fun U => U.heap.size = sz ∧ va_P (dC, dI) vwCl (Wd cy a sh n z) U.heap ∧ va_K (dC, dI) vwCl (TYS cy) U ∧ va_D (fun _ => True) (Wd cy a sh n z) ∧ NK U)) (va_Qi (fun (r9 : Int32) (u : Unit) => r9 = r8) (fun u t => va_P (dC, dI) vwCl (Wd cy a sh n z8) t.heap ∧ va_K (dC, dI) vwCl (TYS cy) t ∧ va_D (va_A (Wd cy a sh n z) sz) (Wd cy a sh n z8)) (va_A (Wd cy a sh n z) sz)) 0 0 (va_A (Wd cy a sh n z) sz) := by
  intro d
  induction d with
  | zero => intro sz z h0 x0 x1 z8 r8 hf; exact absurd hf (by simp [fn_X1_loadNode])
  | succ d ihd =>
  intro sz z h0 x0 x1 z8 r8 hf
  refine Met.ofW (cc := cX1_loadNode) (maxL := 9) (ret := (some .int)) (by decide) rfl ?_
  intro p e s m args below meth c s₁ B hml hv
  obtain ⟨rfl, hsz, hP, hK, hD0, hN⟩ := hv
  have hx := B.exec
  have hb := B.bytes
  have hr := B.returns
  have hts := atoms_spec (ws := wsX1_loadNode) B.pre
  have hown : s.vm.findClass RX1 = some m.cls := findClass_of_methodNamed B.named
  have hlocks := B.notSynchronized
  subst hsz
  have hD := hD0.self (sz := s.heap.size)
  clear hD0
  generalize hAe : va_A (Wd cy a sh n z) s.heap.size = A at hD ⊢
  have hA : ∀ q : Nat, s.heap.size ≤ q → A q := fun q h => by rw [← hAe]; exact Or.inr h
  clear hAe
  have hS : va_S A s.heap s.heap [] := va_S.rf
  have hl := lv_entry ([.ref (a h0), .ref (a x0), .int x1]) (n := 9) (Nat.le_of_ble_eq_true rfl)
  rw [lg_entry_eq]
  generalize (lg_sl ([.ref (a h0), .ref (a x0), .int x1]) ++ List.replicate (9 - (lg_sl ([.ref (a h0), .ref (a x0), .int x1])).length) Slot.unset).toArray = ls at hl ⊢
  replace hl : lv_has ls 9 [(0, .ref (a h0)), (1, .ref (a x0)), (2, .int x1)] := hl
  replace hf := fn_X1_loadNode_s hf
  refine de_start hS hP (fun H locs hS hP => ?_)
  refine lv_aload_n hx hb dX1_loadNode_0 rfl (lv_at hl 0 rfl) ?_
  obtain ⟨g_1, hf⟩ := grd_some hf
  obtain ⟨kg_1, sg_1⟩ := okO_at g_1
  refine va_get (D := (dC, dI)) (ci := 1) (v := .int (z.1 h0 5)) (C := RX1) (T := TX1) (N := 7) hx hb hts iwd_X1_loadNode_X1 hown hK hP h0 (Wd_ob kg_1 sg_1 (by decide)) rfl 5 (by decide) (hts _ md_X1_loadNode_1) (fun _ h9 => h9) (fl_at (t := 0) rfl) dX1_loadNode_1 ?_
  refine lv_aload_n hx hb dX1_loadNode_4 rfl (lv_at hl 1 rfl) ?_
  obtain ⟨g_2, hf⟩ := grd_some hf
  obtain ⟨kg_2, sg_2⟩ := okO_at g_2
  obtain ⟨k_3, ek_3, hf⟩ := lnk_some hf
  refine va_get (D := (dC, dI)) (ci := 7) (v := .ref (a k_3)) (C := RX7) (T := TX7) (N := 16) hx hb hts iwd_X1_loadNode_X7 hown hK hP x0 (Wd_ob kg_2 sg_2 (by decide)) rfl 11 (by decide) (hts _ md_X1_loadNode_2) (fun _ h9 => h9) (fl_q rfl ek_3) dX1_loadNode_5 ?_
  obtain ⟨g_4, hf⟩ := grd_some hf
  obtain ⟨kg_4, sg_4⟩ := okO_at g_4
  refine va_alen (v := Int32.ofNat (sh k_3).2) hx hb hK hP k_3 0 (Wd_ab kg_4 sg_4) rfl rfl dX1_loadNode_8 ?_
  refine de_cut (h := 18) (fun (x : St) => []) (fun x ls H locs => lv_has ls 9 [(0, .ref (a h0))] ∧ va_P (dC, dI) vwCl (Wd cy a sh n x) H ∧ va_D A (Wd cy a sh n x) ∧ va_S A s.heap H locs) (fun x => fn_X1_loadNode_B18 F sh n h0 x) (z8, r8) ?_ (fun B18 => ?_)
  · intro x ls H locs hI hf
    obtain ⟨z_5, ez⟩ : ∃ w, w = x := ⟨_, rfl⟩
    subst ez
    obtain ⟨hl2, hP2, hD2, hS2⟩ := hI
    replace hl : lv_has ls 9 [(0, .ref (a h0))] := hl2
    replace hP := hP2
    replace hD := hD2
    replace hS := hS2
    clear hl2 hP2 hD2 hS2
    replace hf := fn_X1_loadNode_B18_s hf
    refine W.eq (g2 := F0 m 18 ls []) rfl ?_
    refine lv_aload_n hx hb dX1_loadNode_18 rfl (lv_at hl 0 rfl) ?_
    refine lv_dup hx hb dX1_loadNode_19 rfl ?_
    refine va_get (D := (dC, dI)) (ci := 1) (v := .int (z_5.1 h0 6)) (C := RX1) (T := TX1) (N := 7) hx hb hts iwd_X1_loadNode_X1 hown hK hP h0 (Wd_ob kg_1 sg_1 (by decide)) rfl 6 (by decide) (hts _ md_X1_loadNode_3) (fun _ h9 => h9) (fl_at (t := 0) rfl) dX1_loadNode_20 ?_
    refine lv_iconst (v := 1) hx hb dX1_loadNode_23 (by decide) ?_
    refine lv_iadd hx hb dX1_loadNode_24 ?_
    refine va_put (D := (dC, dI)) (ci := 1) (v := .int ((z_5.1 h0 6) + 1)) (ty := .int) (C := RX1) (T := TX1) (N := 7) hx hb hts iwd_X1_loadNode_X1 tyX1 tyX1_ok nmX1 hown hK hP hD hS h0 (Wd_ob kg_1 sg_1 (by decide)) rfl 6 (by decide) (hts _ md_X1_loadNode_3) (fun _ h9 => h9) rfl (by decide +kernel) rfl rfl (by rw [fl_len]; decide) dX1_loadNode_25 (fun H_6 locs hP2 hD2 hS2 => ?_)
    rw [Wd_si sg_1 (by decide) rfl] at hP2 hD2
    obtain ⟨z_7, ez_7⟩ : ∃ w, w = si z_5 h0 6 ((z_5.1 h0 6) + 1) := ⟨_, rfl⟩
    rw [← ez_7] at hP2 hD2
    replace hf := lt_at ez_7 hf
    clear ez_7
    replace hP := hP2
    replace hD := hD2
    replace hS := hS2
    clear hP2 hD2 hS2
    refine lv_iconst (v := 0) hx hb dX1_loadNode_28 (by decide) ?_
    obtain ⟨h8, h9⟩ := ret_some hf
    rw [h8, h9]
    exact W.iret (v := 0) hx hb hr (fun t ht hW => ⟨⟨0, (), rfl, rfl, by rw [ht]; exact hP, va_K.moved hW.alike hK, hD⟩, hS.F ht⟩) hS.2.2 dX1_loadNode_29
  refine lv_icmp_ge (tgt := 18) hx hb dX1_loadNode_9 (by decide) (fun c_8 => ?_) (fun c_8 => ?_)
  · skip
    rw [if_pos c_8] at hf
    exact B18 (z) ls H locs ⟨lv_sub hl [0] rfl, hP, hD, hS⟩ hf
  · skip
    rw [if_neg c_8] at hf
    refine lv_iload_n hx hb dX1_loadNode_12 rfl (lv_at hl 2 rfl) ?_
    refine lv_bipush (v := 40) hx hb dX1_loadNode_13 (by decide) ?_
    refine lv_icmp_le (tgt := 30) hx hb dX1_loadNode_15 (by decide) (fun c_9 => ?_) (fun c_9 => ?_)
    · skip
      rw [if_pos c_9] at hf
      refine lv_aload_n hx hb dX1_loadNode_30 rfl (lv_at hl 1 rfl) ?_
      obtain ⟨k_10, ek_10, hf⟩ := lnk_some hf
      refine va_get (D := (dC, dI)) (ci := 7) (v := .ref (a k_10)) (C := RX7) (T := TX7) (N := 16) hx hb hts iwd_X1_loadNode_X7 hown hK hP x0 (Wd_ob kg_2 sg_2 (by decide)) rfl 11 (by decide) (hts _ md_X1_loadNode_2) (fun _ h9 => h9) (fl_q rfl ek_10) dX1_loadNode_31 ?_
      refine lv_aload_n hx hb dX1_loadNode_34 rfl (lv_at hl 0 rfl) ?_
      refine va_get (D := (dC, dI)) (ci := 1) (v := .int (z.1 h0 5)) (C := RX1) (T := TX1) (N := 7) hx hb hts iwd_X1_loadNode_X1 hown hK hP h0 (Wd_ob kg_1 sg_1 (by decide)) rfl 5 (by decide) (hts _ md_X1_loadNode_1) (fun _ h9 => h9) (fl_at (t := 0) rfl) dX1_loadNode_35 ?_
      obtain ⟨g_11, hf⟩ := grd_some hf
      obtain ⟨kg_11, sg_11, ig_11⟩ := okA_at g_11
      refine va_bald hx hb hK hP k_10 0 (Wd_ab kg_11 sg_11) rfl ig_11 dX1_loadNode_38 ?_
      refine lv_topi (fun v_12 ev_12 => ?_)
      replace hf := lt_at ev_12 hf
      clear ev_12
      refine lv_istore_n (lv' := [(3, .int v_12), (0, .ref (a h0)), (1, .ref (a x0)), (2, .int x1)]) hx hb dX1_loadNode_39 rfl hl (by decide) rfl (fun ls hl2 => ?_)
      replace hl := hl2
      clear hl2
      refine lv_aload_n hx hb dX1_loadNode_40 rfl (lv_at hl 2 rfl) ?_
      obtain ⟨k_13, ek_13, hf⟩ := lnk_some hf
      refine va_get (D := (dC, dI)) (ci := 7) (v := .ref (a k_13)) (C := RX7) (T := TX7) (N := 16) hx hb hts iwd_X1_loadNode_X7 hown hK hP x0 (Wd_ob kg_2 sg_2 (by decide)) rfl 12 (by decide) (hts _ md_X1_loadNode_4) (fun _ h9 => h9) (fl_q rfl ek_13) dX1_loadNode_41 ?_
      refine lv_aload_n hx hb dX1_loadNode_44 rfl (lv_at hl 1 rfl) ?_
      refine va_get (D := (dC, dI)) (ci := 1) (v := .int (z.1 h0 5)) (C := RX1) (T := TX1) (N := 7) hx hb hts iwd_X1_loadNode_X1 hown hK hP h0 (Wd_ob kg_1 sg_1 (by decide)) rfl 5 (by decide) (hts _ md_X1_loadNode_1) (fun _ h9 => h9) (fl_at (t := 0) rfl) dX1_loadNode_45 ?_
      obtain ⟨g_14, hf⟩ := grd_some hf
      obtain ⟨kg_14, sg_14, ig_14⟩ := okA_at g_14
      refine va_lald hx hb hK hP k_13 2 (Wd_al kg_14 sg_14) rfl ig_14 dX1_loadNode_48 ?_
      refine lv_topl (fun v_15 ev_15 => ?_)
      replace hf := lt_at ev_15 hf
      clear ev_15
      refine lv_lstore (lv' := [(4, .long v_15), (3, .int v_12), (0, .ref (a h0)), (1, .ref (a x0)), (2, .int x1)]) hx hb dX1_loadNode_49 hl (by decide) rfl (fun ls hl2 => ?_)
      replace hl := hl2
      clear hl2
      refine lv_iload_n hx hb dX1_loadNode_51 rfl (lv_at hl 1 rfl) ?_
      obtain ⟨z_16, r_17, hfc, hf⟩ := cal_some hf
      have hFc := de_free hD hS hA
      refine va_calli (va_runS (As := [.int v_12]) (rest := []) ⟨hx, hb, hml, hown, hts⟩ (de_X1_holdsOthers l dC dI cy a sh n H.size F z v_12 hfc) (va_cwS 1 hts gX1_loadNode_X1_holdsOthers rfl rfl rfl (by decide +kernel) ⟨by show _ ≤ d + 1 + 1; (try dsimp only); omega, by show _ ≤ (d + 1) * 28 + 25; (try dsimp only); omega⟩) ⟨fun a U g mk q => by obtain ⟨q0, q1, qP, qK, qD, qN⟩ := q; exact ⟨q0, q1, qP, va_K.moved (u := U) (U := U.calling g mk a) (Vm.Alike.refl U.vm) qK, qD, qN.same rfl⟩, fun U hU hW => ⟨rfl, by rw [hU], by rw [hU]; exact hP, va_K.moved hW.alike hK, hD.weaken (fun _ _ _ _ => trivial), hN.warm hW⟩⟩ rfl rfl hl.1 rfl (lv_room (Nat.le_of_ble_eq_true rfl)) dX1_loadNode_52 ⟨Nat.le_of_ble_eq_true rfl, Nat.le_of_ble_eq_true rfl⟩) hS (fun q _ h => hFc q h) hFc (fun rr u t H_18 locs ht hvm hw hB hz1 hk1 hS2 => ?_)
      rw [hw]
      clear hw
      obtain ⟨hP1, -, hD1⟩ := hB
      rw [ht] at hP1
      replace hD := hD1.weaken (fun _ _ _ h => hFc _ h)
      replace hP := hP1
      replace hS := hS2
      clear hP1 hD1 hS2 hFc hfc hz1 hk1 hvm ht
      refine lv_istore (lv' := [(6, .int r_17), (4, .long v_15), (3, .int v_12), (0, .ref (a h0)), (1, .ref (a x0)), (2, .int x1)]) hx hb dX1_loadNode_55 hl (by decide) rfl (fun ls hl2 => ?_)
      replace hl := hl2
      clear hl2
      refine lv_aload_n hx hb dX1_loadNode_57 rfl (lv_at hl 3 rfl) ?_
      refine lv_iload_n hx hb dX1_loadNode_58 rfl (lv_at hl 2 rfl) ?_
      refine lv_iload hx hb dX1_loadNode_59 (lv_at hl 0 rfl) ?_
      refine de_cut (h := 70) (fun (x : St × Int64) => [.long x.2, .int v_12, .ref (a h0)]) (fun x ls H locs => lv_has ls 9 [(6, .int r_17), (4, .long v_15), (0, .ref (a h0)), (1, .ref (a x0)), (2, .int x1)] ∧ va_P (dC, dI) vwCl (Wd cy a sh n x.1) H ∧ va_D A (Wd cy a sh n x.1) ∧ va_S A s.heap H locs) (fun x => fn_X1_loadNode_B70 F sh n x0 h0 v_12 r_17 v_15 (fn_X1_loadNode F sh n d) x1 x.1 x.2) (z8, r8) ?_ (fun B70 => ?_)
      · intro x ls H locs hI hf
        obtain ⟨z_20, p_19⟩ := x
        obtain ⟨hl2, hP2, hD2, hS2⟩ := hI
        replace hl : lv_has ls 9 [(6, .int r_17), (4, .long v_15), (0, .ref (a h0)), (1, .ref (a x0)), (2, .int x1)] := hl2
        replace hP := hP2
        replace hD := hD2
        replace hS := hS2
        clear hl2 hP2 hD2 hS2
        replace hf := fn_X1_loadNode_B70_s hf
        refine W.eq (g2 := F0 m 70 ls [.long p_19, .int v_12, .ref (a h0)]) rfl ?_
        refine lv_aload_n hx hb dX1_loadNode_70 rfl (lv_at hl 3 rfl) ?_
        obtain ⟨k_21, ek_21, hf⟩ := lnk_some hf
        refine va_get (D := (dC, dI)) (ci := 7) (v := .ref (a k_21)) (C := RX7) (T := TX7) (N := 16) hx hb hts iwd_X1_loadNode_X7 hown hK hP x0 (Wd_ob kg_2 sg_2 (by decide)) rfl 13 (by decide) (hts _ md_X1_loadNode_5) (fun _ h9 => h9) (fl_q rfl ek_21) dX1_loadNode_71 ?_
        refine lv_aload_n hx hb dX1_loadNode_74 rfl (lv_at hl 2 rfl) ?_
        refine va_get (D := (dC, dI)) (ci := 1) (v := .int (z_20.1 h0 5)) (C := RX1) (T := TX1) (N := 7) hx hb hts iwd_X1_loadNode_X1 hown hK hP h0 (Wd_ob kg_1 sg_1 (by decide)) rfl 5 (by decide) (hts _ md_X1_loadNode_1) (fun _ h9 => h9) (fl_at (t := 0) rfl) dX1_loadNode_75 ?_
        obtain ⟨g_22, hf⟩ := grd_some hf
        obtain ⟨kg_22, sg_22, ig_22⟩ := okA_at g_22
        refine va_lald hx hb hK hP k_21 2 (Wd_al kg_22 sg_22) rfl ig_22 dX1_loadNode_78 ?_
        obtain ⟨z_23, r_24, hfc, hf⟩ := cal_some hf
        have hFc := de_free hD hS hA
        refine va_calli (va_runV (As := [.int v_12, .long p_19, .long (z_20.2.1 k_21 (z_20.1 h0 5).toNatClampNeg)]) (rest := []) ⟨hx, hb, hml, hown, hts⟩ (de_X1_make l dC dI cy a sh n H.size F z_20 h0 v_12 p_19 (z_20.2.1 k_21 (z_20.1 h0 5).toNatClampNeg) hfc) (cwV 3 hts gX1_loadNode_X1_make rfl rfl rfl (by decide +kernel) ⟨by show _ ≤ d + 1 + 1; (try dsimp only); omega, by show _ ≤ (d + 1) * 28 + 25; (try dsimp only); omega⟩) ⟨fun a U g mk q => by obtain ⟨q0, q1, qP, qK, qD, qN⟩ := q; exact ⟨q0, q1, qP, va_K.moved (u := U) (U := U.calling g mk a) (Vm.Alike.refl U.vm) qK, qD, qN.same rfl⟩, va_recv hK hP (ci := 1) (q0 := h0) rfl (Wd_ob kg_1 sg_1 (by decide)), fun U hU hW => ⟨rfl, by rw [hU], by rw [hU]; exact hP, va_K.moved hW.alike hK, hD.weaken (fun _ _ _ _ => trivial), hN.warm hW⟩⟩ rfl rfl hl.1 rfl (lv_room (Nat.le_of_ble_eq_true rfl)) dX1_loadNode_79 ⟨Nat.le_of_ble_eq_true rfl, Nat.le_of_ble_eq_true rfl⟩) hS (fun q _ h => hFc q h) hFc (fun rr u t H_25 locs ht hvm hw hB hz1 hk1 hS2 => ?_)
        rw [hw]
        clear hw
        obtain ⟨hP1, -, hD1⟩ := hB
        rw [ht] at hP1
        replace hD := hD1.weaken (fun _ _ _ h => hFc _ h)
        replace hP := hP1
        replace hS := hS2
        clear hP1 hD1 hS2 hFc hfc hz1 hk1 hvm ht
        refine lv_istore (lv' := [(7, .int r_24), (6, .int r_17), (4, .long v_15), (0, .ref (a h0)), (1, .ref (a x0)), (2, .int x1)]) hx hb dX1_loadNode_82 hl (by decide) rfl (fun ls hl2 => ?_)
        replace hl := hl2
        clear hl2
        refine lv_aload_n hx hb dX1_loadNode_84 rfl (lv_at hl 3 rfl) ?_
        refine lv_dup hx hb dX1_loadNode_85 rfl ?_
        refine va_get (D := (dC, dI)) (ci := 1) (v := .int (z_23.1 h0 5)) (C := RX1) (T := TX1) (N := 7) hx hb hts iwd_X1_loadNode_X1 hown hK hP h0 (Wd_ob kg_1 sg_1 (by decide)) rfl 5 (by decide) (hts _ md_X1_loadNode_1) (fun _ h9 => h9) (fl_at (t := 0) rfl) dX1_loadNode_86 ?_
        refine lv_iconst (v := 1) hx hb dX1_loadNode_89 (by decide) ?_
        refine lv_iadd hx hb dX1_loadNode_90 ?_
        refine va_put (D := (dC, dI)) (ci := 1) (v := .int ((z_23.1 h0 5) + 1)) (ty := .int) (C := RX1) (T := TX1) (N := 7) hx hb hts iwd_X1_loadNode_X1 tyX1 tyX1_ok nmX1 hown hK hP hD hS h0 (Wd_ob kg_1 sg_1 (by decide)) rfl 5 (by decide) (hts _ md_X1_loadNode_1) (fun _ h9 => h9) rfl (by decide +kernel) rfl rfl (by rw [fl_len]; decide) dX1_loadNode_91 (fun H_26 locs hP2 hD2 hS2 => ?_)
        rw [Wd_si sg_1 (by decide) rfl] at hP2 hD2
        obtain ⟨z_27, ez_27⟩ : ∃ w, w = si z_23 h0 5 ((z_23.1 h0 5) + 1) := ⟨_, rfl⟩
        rw [← ez_27] at hP2 hD2
        replace hf := lt_at ez_27 hf
        clear ez_27
        replace hP := hP2
        replace hD := hD2
        replace hS := hS2
        clear hP2 hD2 hS2
        refine lv_iconst (v := 0) hx hb dX1_loadNode_94 (by decide) ?_
        refine lv_istore (lv' := [(8, .int 0), (7, .int r_24), (6, .int r_17), (4, .long v_15), (0, .ref (a h0)), (1, .ref (a x0)), (2, .int x1)]) hx hb dX1_loadNode_95 hl (by decide) rfl (fun ls hl2 => ?_)
        replace hl := hl2
        clear hl2
        have hl0 : lv_has ls 9 [(8, .int 0), (7, .int r_24), (6, .int r_17), (4, .long v_15), (0, .ref (a h0)), (1, .ref (a x0)), (2, .int x1)] := lv_sub hl [0, 1, 2, 3, 4, 5, 6] rfl
        refine de_loop (h := 97) (fun (x : St × Int32) ls H locs => lv_has ls 9 [(8, .int x.2), (7, .int r_24), (6, .int r_17), (4, .long v_15), (0, .ref (a h0)), (1, .ref (a x0)), (2, .int x1)] ∧ va_P (dC, dI) vwCl (Wd cy a sh n x.1) H ∧ va_D A (Wd cy a sh n x.1) ∧ va_S A s.heap H locs) (fun f x => fn_X1_loadNode_L97 F sh n r_17 r_24 v_15 (fn_X1_loadNode F sh n d) h0 x0 x1 f x.1 x.2) (z8, r8) ?_ (fun _ => rfl) F (z_27, 0) ls H_26 locs ⟨hl0, hP, hD, hS⟩ hf
        intro f_30 x ls H locs ih97 hI hf
        obtain ⟨z_29, p_28⟩ := x
        obtain ⟨hl2, hP2, hD2, hS2⟩ := hI
        replace hl : lv_has ls 9 [(8, .int p_28), (7, .int r_24), (6, .int r_17), (4, .long v_15), (0, .ref (a h0)), (1, .ref (a x0)), (2, .int x1)] := hl2
        replace hP := hP2
        replace hD := hD2
        replace hS := hS2
        clear hl2 hP2 hD2 hS2 hl0
        replace hf := fn_X1_loadNode_L97_s hf
        refine lv_iload hx hb dX1_loadNode_97 (lv_at hl 2 rfl) ?_
        refine lv_if_eq (tgt := 131) hx hb dX1_loadNode_99 (by decide) (fun c_31 => ?_) (fun c_31 => ?_)
        · skip
          rw [if_pos c_31] at hf
          refine lv_iload hx hb dX1_loadNode_131 (lv_at hl 1 rfl) ?_
          obtain ⟨h8, h9⟩ := ret_some hf
          rw [h8, h9]
          exact W.iret (v := r_24) hx hb hr (fun t ht hW => ⟨⟨r_24, (), rfl, rfl, by rw [ht]; exact hP, va_K.moved hW.alike hK, hD⟩, hS.F ht⟩) hS.2.2 dX1_loadNode_133
        · skip
          rw [if_neg c_31] at hf
          refine lv_iload hx hb dX1_loadNode_102 (lv_at hl 0 rfl) ?_
          refine lv_i2l (v := (p_28 : Int32).toInt64) hx hb dX1_loadNode_104 rfl ?_
          refine lv_lload hx hb dX1_loadNode_105 (lv_at hl 3 rfl) ?_
          refine W.lcmp hx hb dX1_loadNode_107 ?_
          refine lv_if_ge (tgt := 131) hx hb dX1_loadNode_108 (by decide) (fun c_32 => ?_) (fun c_32 => ?_)
          · skip
            rw [lg_cmp_ge] at c_32
            rw [if_pos c_32] at hf
            refine lv_iload hx hb dX1_loadNode_131 (lv_at hl 1 rfl) ?_
            obtain ⟨h8, h9⟩ := ret_some hf
            rw [h8, h9]
            exact W.iret (v := r_24) hx hb hr (fun t ht hW => ⟨⟨r_24, (), rfl, rfl, by rw [ht]; exact hP, va_K.moved hW.alike hK, hD⟩, hS.F ht⟩) hS.2.2 dX1_loadNode_133
          · skip
            rw [lg_cmp_ge] at c_32
            rw [if_neg c_32] at hf
            refine lv_aload_n hx hb dX1_loadNode_111 rfl (lv_at hl 4 rfl) ?_
            refine lv_iload hx hb dX1_loadNode_112 (lv_at hl 1 rfl) ?_
            refine lv_aload_n hx hb dX1_loadNode_114 rfl (lv_at hl 4 rfl) ?_
            refine lv_aload_n hx hb dX1_loadNode_115 rfl (lv_at hl 5 rfl) ?_
            refine lv_iload_n hx hb dX1_loadNode_116 rfl (lv_at hl 6 rfl) ?_
            refine lv_iconst (v := 1) hx hb dX1_loadNode_117 (by decide) ?_
            refine lv_iadd hx hb dX1_loadNode_118 ?_
            obtain ⟨z_33, r_34, hfc, hf⟩ := cal_some hf
            have hFc := de_free hD hS hA
            refine va_calli (va_runV (As := [.ref (a x0), .int (x1 + 1)]) (rest := [.int r_24, .ref (a h0)]) ⟨hx, hb, hml, hown, hts⟩ (ihd H.size z_29 h0 x0 (x1 + 1) hfc) (cwV 2 hts gX1_loadNode_X1_loadNode rfl rfl rfl (by decide +kernel) ⟨by show _ ≤ d + 1 + 1; (try dsimp only); omega, by show _ ≤ (d + 1) * 28 + 25; (try dsimp only); omega⟩) ⟨fun a U g mk q => by obtain ⟨q0, q1, qP, qK, qD, qN⟩ := q; exact ⟨q0, q1, qP, va_K.moved (u := U) (U := U.calling g mk a) (Vm.Alike.refl U.vm) qK, qD, qN.same rfl⟩, va_recv hK hP (ci := 1) (q0 := h0) rfl (Wd_ob kg_1 sg_1 (by decide)), fun U hU hW => ⟨rfl, by rw [hU], by rw [hU]; exact hP, va_K.moved hW.alike hK, hD.weaken (fun _ _ _ _ => trivial), hN.warm hW⟩⟩ rfl rfl hl.1 rfl (lv_room (Nat.le_of_ble_eq_true rfl)) dX1_loadNode_119 ⟨Nat.le_of_ble_eq_true rfl, Nat.le_of_ble_eq_true rfl⟩) hS (fun q _ h => hFc q h) hFc (fun rr u t H_35 locs ht hvm hw hB hz1 hk1 hS2 => ?_)
            rw [hw]
            clear hw
            obtain ⟨hP1, -, hD1⟩ := hB
            rw [ht] at hP1
            replace hD := hD1.weaken (fun _ _ _ h => hFc _ h)
            replace hP := hP1
            replace hS := hS2
            clear hP1 hD1 hS2 hFc hfc hz1 hk1 hvm ht
            obtain ⟨z_36, _u, hfc, hf⟩ := cal_some hf
            have hFc := de_free hD hS hA
            refine va_callv (va_runV (As := [.int r_24, .int r_34]) (rest := []) ⟨hx, hb, hml, hown, hts⟩ (de_X1_prepend l dC dI cy a sh n H_35.size F z_33 h0 r_24 r_34 hfc) (cwV 2 hts gX1_loadNode_X1_prepend rfl rfl rfl (by decide +kernel) ⟨by show _ ≤ d + 1 + 1; (try dsimp only); omega, by show _ ≤ (d + 1) * 28 + 25; (try dsimp only); omega⟩) ⟨fun a U g mk q => by obtain ⟨q0, q1, qP, qK, qD, qN⟩ := q; exact ⟨q0, q1, qP, va_K.moved (u := U) (U := U.calling g mk a) (Vm.Alike.refl U.vm) qK, qD, qN.same rfl⟩, va_recv hK hP (ci := 1) (q0 := h0) rfl (Wd_ob kg_1 sg_1 (by decide)), fun U hU hW => ⟨rfl, by rw [hU], by rw [hU]; exact hP, va_K.moved hW.alike hK, hD.weaken (fun _ _ _ _ => trivial), hN.warm hW⟩⟩ rfl rfl hl.1 rfl (lv_room (Nat.le_of_ble_eq_true rfl)) dX1_loadNode_122 ⟨Nat.le_of_ble_eq_true rfl, Nat.le_of_ble_eq_true rfl⟩) hS (fun q _ h => hFc q h) hFc (fun u t H_37 locs ht hvm hw hB hz1 hk1 hS2 => ?_)
            obtain ⟨hP1, -, hD1⟩ := hB
            rw [ht] at hP1
            replace hD := hD1.weaken (fun _ _ _ h => hFc _ h)
            replace hP := hP1
            replace hS := hS2
            clear hP1 hD1 hS2 hFc hfc hz1 hk1 hvm ht
            refine lv_iinc (v := (p_28 + 1)) (lv' := [(8, .int (p_28 + 1)), (7, .int r_24), (6, .int r_17), (4, .long v_15), (0, .ref (a h0)), (1, .ref (a x0)), (2, .int x1)]) hx hb dX1_loadNode_125 hl (k := 0) rfl rfl (by decide) rfl (fun ls hl2 => ?_)
            replace hl := hl2
            clear hl2
            refine lv_goto (tgt := 97) hx hb dX1_loadNode_128 (by decide) ?_
            exact ih97 (z_36, (p_28 + 1)) ls H_37 locs ⟨lv_sub hl [0, 1, 2, 3, 4, 5, 6] rfl, hP, hD, hS⟩ hf
      refine lv_if_eq (tgt := 68) hx hb dX1_loadNode_61 (by decide) (fun c_38 => ?_) (fun c_38 => ?_)
      · skip
        rw [if_pos c_38] at hf
        refine lv_lload hx hb dX1_loadNode_68 (lv_at hl 1 rfl) ?_
        exact B70 (z_16, v_15) ls H_18 locs ⟨lv_sub hl [0, 1, 3, 4, 5] rfl, hP, hD, hS⟩ hf
      · skip
        rw [if_neg c_38] at hf
        refine lv_lconst (v := 0) hx hb dX1_loadNode_64 (by decide) ?_
        refine lv_goto (tgt := 70) hx hb dX1_loadNode_65 (by decide) ?_
        exact B70 (z_16, 0) ls H_18 locs ⟨lv_sub hl [0, 1, 3, 4, 5] rfl, hP, hD, hS⟩ hf
    · skip
      rw [if_neg c_9] at hf
      exact B18 (z) ls H locs ⟨lv_sub hl [0] rfl, hP, hD, hS⟩ hf

theorem md_X7_writeBytes_1 : (.fieldLink RX7 37 "ResourceLedger$State" "nodeCount" "[I" : Cond) ∈ wsX7_writeBytes := List.mem_of_getElem? (i := 1) rfl
theorem iwd_X7_writeBytes_X7 : ∀ w ∈ wsX70, w ∈ wsX7_writeBytes := fun _ h => List.mem_cons_of_mem _ (List.mem_append_right _ h)
theorem md_X7_writeBytes_2 : (.fieldLink RX7 40 "ResourceLedger$State" "nodeKind" "[B" : Cond) ∈ wsX7_writeBytes := List.mem_of_getElem? (i := 2) rfl
theorem md_X7_writeBytes_3 : (.fieldLink RX7 44 "ResourceLedger$State" "nodeHigh" "[J" : Cond) ∈ wsX7_writeBytes := List.mem_of_getElem? (i := 3) rfl
theorem md_X7_writeBytes_4 : (.fieldLink RX7 47 "ResourceLedger$State" "nodeLow" "[J" : Cond) ∈ wsX7_writeBytes := List.mem_of_getElem? (i := 4) rfl
set_option maxHeartbeats 4000000 in
set_option maxRecDepth 100000 in
theorem de_X7_writeBytes (l : Launch) (dC : Nat → ClassId) (dI : Nat → Nat → Nat) (cy : Nat → ClassId) (a : Nat → Nat) (sh : Nat → Nat × Nat) (n sz : Nat) (F : Nat) (z : St) (h0 : Nat) (x0 : Int32) (x1 : Nat) {z8 : St} {r8 : Int32} (hf : fn_X7_writeBytes F sh n z h0 x0 x1 = some (z8, r8)) : Met l yX7_writeBytes wsX7_writeBytes ({ frames := 1, cells := 0, slots := 0, locals := 20 }) (va_Pc [.ref (a h0), .int x0, .ref (a x1)] (fun U => U.heap.size = sz ∧ va_P (dC, dI) vwCl (Wd cy a sh n z) U.heap ∧ va_K (dC, dI) vwCl (TYS cy) U ∧ va_D (fun _ => True) (Wd cy a sh n z) ∧ NK U)) (va_Qi (fun (r9 : Int32) (u : Unit) => r9 = r8) (fun u t => va_P (dC, dI) vwCl (Wd cy a sh n z8) t.heap ∧ va_K (dC, dI) vwCl (TYS cy) t ∧ va_D (va_A (Wd cy a sh n z) sz) (Wd cy a sh n z8)) (va_A (Wd cy a sh n z) sz)) 0 0 (va_A (Wd cy a sh n z) sz) := by
  refine Met.ofW (cc := cX7_writeBytes) (maxL := 11) (ret := (some .int)) (by decide) rfl ?_
  intro p e s m args below meth c s₁ B hml hv
  obtain ⟨rfl, hsz, hP, hK, hD0, hN⟩ := hv
  have hx := B.exec
  have hb := B.bytes
  have hr := B.returns
  have hts := atoms_spec (ws := wsX7_writeBytes) B.pre
  have hown : s.vm.findClass RX7 = some m.cls := findClass_of_methodNamed B.named
  have hlocks := B.notSynchronized
  subst hsz
  have hD := hD0.self (sz := s.heap.size)
  clear hD0
  generalize hAe : va_A (Wd cy a sh n z) s.heap.size = A at hD ⊢
  have hA : ∀ q : Nat, s.heap.size ≤ q → A q := fun q h => by rw [← hAe]; exact Or.inr h
  clear hAe
  have hS : va_S A s.heap s.heap [] := va_S.rf
  have hl := lv_entry ([.ref (a h0), .int x0, .ref (a x1)]) (n := 11) (Nat.le_of_ble_eq_true rfl)
  rw [lg_entry_eq]
  generalize (lg_sl ([.ref (a h0), .int x0, .ref (a x1)]) ++ List.replicate (11 - (lg_sl ([.ref (a h0), .int x0, .ref (a x1)])).length) Slot.unset).toArray = ls at hl ⊢
  replace hl : lv_has ls 11 [(0, .ref (a h0)), (1, .int x0), (2, .ref (a x1))] := hl
  unfold fn_X7_writeBytes at hf
  refine de_start hS hP (fun H locs hS hP => ?_)
  refine lv_iconst (v := 0) hx hb dX7_writeBytes_0 (by decide) ?_
  refine lv_istore_n (lv' := [(3, .int 0), (0, .ref (a h0)), (1, .int x0), (2, .ref (a x1))]) hx hb dX7_writeBytes_1 rfl hl (by decide) rfl (fun ls hl2 => ?_)
  replace hl := hl2
  clear hl2
  refine lv_iload_n hx hb dX7_writeBytes_2 rfl (lv_at hl 2 rfl) ?_
  refine lv_bipush (v := 64) hx hb dX7_writeBytes_3 (by decide) ?_
  refine lv_imul hx hb dX7_writeBytes_5 ?_
  refine lv_topi (fun v_1 ev_1 => ?_)
  replace hf := lt_at ev_1 hf
  clear ev_1
  refine lv_istore (lv' := [(4, .int v_1), (3, .int 0), (0, .ref (a h0)), (1, .int x0), (2, .ref (a x1))]) hx hb dX7_writeBytes_6 hl (by decide) rfl (fun ls hl2 => ?_)
  replace hl := hl2
  clear hl2
  have hl0 : lv_has ls 11 [(4, .int v_1), (3, .int 0), (0, .ref (a h0)), (1, .int x0), (2, .ref (a x1))] := lv_sub hl [0, 1, 2, 3, 4] rfl
  refine de_loop (h := 8) (fun (x : St × Int32 × Int32) ls H locs => lv_has ls 11 [(4, .int x.2.2), (3, .int x.2.1), (0, .ref (a h0)), (1, .int x0), (2, .ref (a x1))] ∧ va_P (dC, dI) vwCl (Wd cy a sh n x.1) H ∧ va_D A (Wd cy a sh n x.1) ∧ va_S A s.heap H locs) (fun f x => fn_X7_writeBytes_L8 F sh n h0 x0 x1 f x.1 x.2.1 x.2.2) (z8, r8) ?_ (fun _ => rfl) F (z, 0, v_1) ls H locs ⟨hl0, hP, hD, hS⟩ hf
  intro f_5 x ls H locs ih8 hI hf
  obtain ⟨z_4, p_2, p_3⟩ := x
  obtain ⟨hl2, hP2, hD2, hS2⟩ := hI
  replace hl : lv_has ls 11 [(4, .int p_3), (3, .int p_2), (0, .ref (a h0)), (1, .int x0), (2, .ref (a x1))] := hl2
  replace hP := hP2
  replace hD := hD2
  replace hS := hS2
  clear hl2 hP2 hD2 hS2 hl0
  replace hf := fn_X7_writeBytes_L8_s hf
  refine lv_iload hx hb dX7_writeBytes_8 (lv_at hl 0 rfl) ?_
  refine lv_iload_n hx hb dX7_writeBytes_10 rfl (lv_at hl 3 rfl) ?_
  refine lv_bipush (v := 64) hx hb dX7_writeBytes_11 (by decide) ?_
  refine lv_imul hx hb dX7_writeBytes_13 ?_
  refine lv_aload_n hx hb dX7_writeBytes_14 rfl (lv_at hl 2 rfl) ?_
  obtain ⟨g_6, hf⟩ := grd_some hf
  obtain ⟨kg_6, sg_6⟩ := okO_at g_6
  obtain ⟨k_7, ek_7, hf⟩ := lnk_some hf
  refine va_get (D := (dC, dI)) (ci := 7) (v := .ref (a k_7)) (C := RX7) (T := TX7) (N := 16) hx hb hts iwd_X7_writeBytes_X7 hown hK hP h0 (Wd_ob kg_6 sg_6 (by decide)) rfl 9 (by decide) (hts _ md_X7_writeBytes_1) (fun _ h9 => h9) (fl_q rfl ek_7) dX7_writeBytes_15 ?_
  refine lv_iload_n hx hb dX7_writeBytes_18 rfl (lv_at hl 3 rfl) ?_
  obtain ⟨g_8, hf⟩ := grd_some hf
  obtain ⟨kg_8, sg_8, ig_8⟩ := okA_at g_8
  refine va_iald hx hb hK hP k_7 1 (Wd_ai kg_8 sg_8) rfl ig_8 dX7_writeBytes_19 ?_
  refine lv_iadd hx hb dX7_writeBytes_20 ?_
  refine lv_icmp_ge (tgt := 141) hx hb dX7_writeBytes_21 (by decide) (fun c_9 => ?_) (fun c_9 => ?_)
  · skip
    rw [if_pos c_9] at hf
    refine lv_iload_n hx hb dX7_writeBytes_141 rfl (lv_at hl 1 rfl) ?_
    obtain ⟨h8, h9⟩ := ret_some hf
    rw [h8, h9]
    exact W.iret (v := p_2) hx hb hr (fun t ht hW => ⟨⟨p_2, (), rfl, rfl, by rw [ht]; exact hP, va_K.moved hW.alike hK, hD⟩, hS.F ht⟩) hS.2.2 dX7_writeBytes_142
  · skip
    rw [if_neg c_9] at hf
    refine lv_aload_n hx hb dX7_writeBytes_24 rfl (lv_at hl 2 rfl) ?_
    obtain ⟨k_10, ek_10, hf⟩ := lnk_some hf
    refine va_get (D := (dC, dI)) (ci := 7) (v := .ref (a k_10)) (C := RX7) (T := TX7) (N := 16) hx hb hts iwd_X7_writeBytes_X7 hown hK hP h0 (Wd_ob kg_6 sg_6 (by decide)) rfl 11 (by decide) (hts _ md_X7_writeBytes_2) (fun _ h9 => h9) (fl_q rfl ek_10) dX7_writeBytes_25 ?_
    refine lv_iload hx hb dX7_writeBytes_28 (lv_at hl 0 rfl) ?_
    obtain ⟨g_11, hf⟩ := grd_some hf
    obtain ⟨kg_11, sg_11, ig_11⟩ := okA_at g_11
    refine va_bald hx hb hK hP k_10 0 (Wd_ab kg_11 sg_11) rfl ig_11 dX7_writeBytes_30 ?_
    refine lv_bipush (v := 7) hx hb dX7_writeBytes_31 (by decide) ?_
    refine de_cut (h := 53) (fun (x : St × Int64) => [.long x.2]) (fun x ls H locs => lv_has ls 11 [(4, .int p_3), (3, .int p_2), (0, .ref (a h0)), (1, .int x0), (2, .ref (a x1))] ∧ va_P (dC, dI) vwCl (Wd cy a sh n x.1) H ∧ va_D A (Wd cy a sh n x.1) ∧ va_S A s.heap H locs) (fun x => fn_X7_writeBytes_B53 F sh n h0 p_3 x1 p_2 (fun z9 q3 q4 => fn_X7_writeBytes_L8 F sh n h0 x0 x1 f_5 z9 q3 q4) x.1 x.2) (z8, r8) ?_ (fun B53 => ?_)
    · intro x ls H locs hI hf
      obtain ⟨z_13, p_12⟩ := x
      obtain ⟨hl2, hP2, hD2, hS2⟩ := hI
      replace hl : lv_has ls 11 [(4, .int p_3), (3, .int p_2), (0, .ref (a h0)), (1, .int x0), (2, .ref (a x1))] := hl2
      replace hP := hP2
      replace hD := hD2
      replace hS := hS2
      clear hl2 hP2 hD2 hS2
      replace hf := fn_X7_writeBytes_B53_s hf
      refine W.eq (g2 := F0 m 53 ls [.long p_12]) rfl ?_
      refine lv_lstore (lv' := [(5, .long p_12), (4, .int p_3), (3, .int p_2), (0, .ref (a h0)), (1, .int x0), (2, .ref (a x1))]) hx hb dX7_writeBytes_53 hl (by decide) rfl (fun ls hl2 => ?_)
      replace hl := hl2
      clear hl2
      refine lv_aload_n hx hb dX7_writeBytes_55 rfl (lv_at hl 3 rfl) ?_
      obtain ⟨k_14, ek_14, hf⟩ := lnk_some hf
      refine va_get (D := (dC, dI)) (ci := 7) (v := .ref (a k_14)) (C := RX7) (T := TX7) (N := 16) hx hb hts iwd_X7_writeBytes_X7 hown hK hP h0 (Wd_ob kg_6 sg_6 (by decide)) rfl 11 (by decide) (hts _ md_X7_writeBytes_2) (fun _ h9 => h9) (fl_q rfl ek_14) dX7_writeBytes_56 ?_
      refine lv_iload hx hb dX7_writeBytes_59 (lv_at hl 1 rfl) ?_
      obtain ⟨g_15, hf⟩ := grd_some hf
      obtain ⟨kg_15, sg_15, ig_15⟩ := okA_at g_15
      refine va_bald hx hb hK hP k_14 0 (Wd_ab kg_15 sg_15) rfl ig_15 dX7_writeBytes_61 ?_
      obtain ⟨z_16, r_17, hfc, hf⟩ := cal_some hf
      have hFc := de_free hD hS hA
      refine va_calli (va_runS (As := [.int (z_13.1 k_14 p_3.toNatClampNeg)]) (rest := []) ⟨hx, hb, hml, hown, hts⟩ (de_X7_widthOf l dC dI cy a sh n H.size F z_13 (z_13.1 k_14 p_3.toNatClampNeg) hfc) (va_cwS 1 hts gX7_writeBytes_X7_widthOf rfl rfl rfl (by decide +kernel) ⟨Nat.le_of_ble_eq_true rfl, Nat.le_of_ble_eq_true rfl⟩) ⟨fun a U g mk q => by obtain ⟨q0, q1, qP, qK, qD, qN⟩ := q; exact ⟨q0, q1, qP, va_K.moved (u := U) (U := U.calling g mk a) (Vm.Alike.refl U.vm) qK, qD, qN.same rfl⟩, fun U hU hW => ⟨rfl, by rw [hU], by rw [hU]; exact hP, va_K.moved hW.alike hK, hD.weaken (fun _ _ _ _ => trivial), hN.warm hW⟩⟩ rfl rfl hl.1 rfl (lv_room (Nat.le_of_ble_eq_true rfl)) dX7_writeBytes_62 ⟨Nat.le_of_ble_eq_true rfl, Nat.le_of_ble_eq_true rfl⟩) hS (fun q _ h => hFc q h) hFc (fun rr u t H_18 locs ht hvm hw hB hz1 hk1 hS2 => ?_)
      rw [hw]
      clear hw
      obtain ⟨hP1, -, hD1⟩ := hB
      rw [ht] at hP1
      replace hD := hD1.weaken (fun _ _ _ h => hFc _ h)
      replace hP := hP1
      replace hS := hS2
      clear hP1 hD1 hS2 hFc hfc hz1 hk1 hvm ht
      refine lv_istore (lv' := [(7, .int r_17), (5, .long p_12), (4, .int p_3), (3, .int p_2), (0, .ref (a h0)), (1, .int x0), (2, .ref (a x1))]) hx hb dX7_writeBytes_65 hl (by decide) rfl (fun ls hl2 => ?_)
      replace hl := hl2
      clear hl2
      refine lv_iload_n hx hb dX7_writeBytes_67 rfl (lv_at hl 3 rfl) ?_
      refine lv_iload hx hb dX7_writeBytes_68 (lv_at hl 0 rfl) ?_
      refine lv_iadd hx hb dX7_writeBytes_70 ?_
      refine lv_aload_n hx hb dX7_writeBytes_71 rfl (lv_at hl 6 rfl) ?_
      obtain ⟨g_19, hf⟩ := grd_some hf
      obtain ⟨kg_19, sg_19⟩ := okO_at g_19
      refine va_alen (v := Int32.ofNat (sh x1).2) hx hb hK hP x1 0 (Wd_ab kg_19 sg_19) rfl rfl dX7_writeBytes_72 ?_
      refine lv_icmp_le (tgt := 78) hx hb dX7_writeBytes_73 (by decide) (fun c_20 => ?_) (fun c_20 => ?_)
      · skip
        rw [if_pos c_20] at hf
        refine lv_iload hx hb dX7_writeBytes_78 (lv_at hl 0 rfl) ?_
        refine lv_iconst (v := 1) hx hb dX7_writeBytes_80 (by decide) ?_
        refine lv_isub hx hb dX7_writeBytes_81 ?_
        refine lv_topi (fun v_21 ev_21 => ?_)
        replace hf := lt_at ev_21 hf
        clear ev_21
        refine lv_istore (lv' := [(8, .int v_21), (7, .int r_17), (5, .long p_12), (4, .int p_3), (3, .int p_2), (0, .ref (a h0)), (1, .int x0), (2, .ref (a x1))]) hx hb dX7_writeBytes_82 hl (by decide) rfl (fun ls hl2 => ?_)
        replace hl := hl2
        clear hl2
        have hl0 : lv_has ls 11 [(8, .int v_21), (5, .long p_12), (4, .int p_3), (3, .int p_2), (0, .ref (a h0)), (1, .int x0), (2, .ref (a x1))] := lv_sub hl [0, 2, 3, 4, 5, 6, 7] rfl
        refine de_loop (h := 84) (fun (x : St × Int32 × Int32) ls H locs => lv_has ls 11 [(8, .int x.2.2), (5, .long p_12), (4, .int p_3), (3, .int x.2.1), (0, .ref (a h0)), (1, .int x0), (2, .ref (a x1))] ∧ va_P (dC, dI) vwCl (Wd cy a sh n x.1) H ∧ va_D A (Wd cy a sh n x.1) ∧ va_S A s.heap H locs) (fun f x => fn_X7_writeBytes_L84 F sh n p_3 x1 p_12 h0 (fun z9 q3 q4 => fn_X7_writeBytes_L8 F sh n h0 x0 x1 f_5 z9 q3 q4) f x.1 x.2.1 x.2.2) (z8, r8) ?_ (fun _ => rfl) F (z_16, p_2, v_21) ls H_18 locs ⟨hl0, hP, hD, hS⟩ hf
        intro f_25 x ls H locs ih84 hI hf
        obtain ⟨z_24, p_22, p_23⟩ := x
        obtain ⟨hl2, hP2, hD2, hS2⟩ := hI
        replace hl : lv_has ls 11 [(8, .int p_23), (5, .long p_12), (4, .int p_3), (3, .int p_22), (0, .ref (a h0)), (1, .int x0), (2, .ref (a x1))] := hl2
        replace hP := hP2
        replace hD := hD2
        replace hS := hS2
        clear hl2 hP2 hD2 hS2 hl0
        replace hf := fn_X7_writeBytes_L84_s hf
        refine lv_iload hx hb dX7_writeBytes_84 (lv_at hl 0 rfl) ?_
        refine lv_if_lt (tgt := 135) hx hb dX7_writeBytes_86 (by decide) (fun c_26 => ?_) (fun c_26 => ?_)
        · skip
          rw [if_pos c_26] at hf
          refine lv_iinc (v := (p_3 + 1)) (lv' := [(4, .int (p_3 + 1)), (8, .int p_23), (5, .long p_12), (3, .int p_22), (0, .ref (a h0)), (1, .int x0), (2, .ref (a x1))]) hx hb dX7_writeBytes_135 hl (k := 2) rfl rfl (by decide) rfl (fun ls hl2 => ?_)
          replace hl := hl2
          clear hl2
          refine lv_goto (tgt := 8) hx hb dX7_writeBytes_138 (by decide) ?_
          exact ih8 (z_24, p_22, (p_3 + 1)) ls H locs ⟨lv_sub hl [0, 3, 4, 5, 6] rfl, hP, hD, hS⟩ hf
        · skip
          rw [if_neg c_26] at hf
          refine lv_iload hx hb dX7_writeBytes_89 (lv_at hl 0 rfl) ?_
          refine lv_bipush (v := 8) hx hb dX7_writeBytes_91 (by decide) ?_
          refine de_cut (h := 108) (fun (x : St × Int64) => [.long x.2]) (fun x ls H locs => lv_has ls 11 [(8, .int p_23), (5, .long p_12), (4, .int p_3), (3, .int p_22), (0, .ref (a h0)), (1, .int x0), (2, .ref (a x1))] ∧ va_P (dC, dI) vwCl (Wd cy a sh n x.1) H ∧ va_D A (Wd cy a sh n x.1) ∧ va_S A s.heap H locs) (fun x => fn_X7_writeBytes_B108 F sh n x1 p_22 p_23 (fun z9 q3 q8 => fn_X7_writeBytes_L84 F sh n p_3 x1 p_12 h0 (fun z9 q3 q4 => fn_X7_writeBytes_L8 F sh n h0 x0 x1 f_5 z9 q3 q4) f_25 z9 q3 q8) x.1 x.2) (z8, r8) ?_ (fun B108 => ?_)
          · intro x ls H locs hI hf
            obtain ⟨z_28, p_27⟩ := x
            obtain ⟨hl2, hP2, hD2, hS2⟩ := hI
            replace hl : lv_has ls 11 [(8, .int p_23), (5, .long p_12), (4, .int p_3), (3, .int p_22), (0, .ref (a h0)), (1, .int x0), (2, .ref (a x1))] := hl2
            replace hP := hP2
            replace hD := hD2
            replace hS := hS2
            clear hl2 hP2 hD2 hS2
            replace hf := fn_X7_writeBytes_B108_s hf
            refine W.eq (g2 := F0 m 108 ls [.long p_27]) rfl ?_
            refine lv_lstore (lv' := [(9, .long p_27), (8, .int p_23), (5, .long p_12), (4, .int p_3), (3, .int p_22), (0, .ref (a h0)), (1, .int x0), (2, .ref (a x1))]) hx hb dX7_writeBytes_108 hl (by decide) rfl (fun ls hl2 => ?_)
            replace hl := hl2
            clear hl2
            refine lv_aload_n hx hb dX7_writeBytes_110 rfl (lv_at hl 7 rfl) ?_
            refine lv_iload_n hx hb dX7_writeBytes_111 rfl (lv_at hl 4 rfl) ?_
            refine lv_iinc (v := (p_22 + 1)) (lv' := [(3, .int (p_22 + 1)), (9, .long p_27), (8, .int p_23), (5, .long p_12), (4, .int p_3), (0, .ref (a h0)), (1, .int x0), (2, .ref (a x1))]) hx hb dX7_writeBytes_112 hl (k := 4) rfl rfl (by decide) rfl (fun ls hl2 => ?_)
            replace hl := hl2
            clear hl2
            refine lv_lload hx hb dX7_writeBytes_115 (lv_at hl 1 rfl) ?_
            refine lv_iload hx hb dX7_writeBytes_117 (lv_at hl 2 rfl) ?_
            refine lv_bipush (v := 8) hx hb dX7_writeBytes_119 (by decide) ?_
            refine lv_irem hx hb dX7_writeBytes_121 (by decide) ?_
            refine lv_bipush (v := 8) hx hb dX7_writeBytes_122 (by decide) ?_
            refine lv_imul hx hb dX7_writeBytes_124 ?_
            refine lv_lushr (v := ((p_27 : Int64).toUInt64 >>> ((((p_23 - p_23 / 8 * 8) * 8) : Int32).toInt64.toUInt64 &&& Int64.toUInt64 63)).toInt64) hx hb dX7_writeBytes_125 rfl ?_
            refine lv_l2i (v := ((((p_27 : Int64).toUInt64 >>> ((((p_23 - p_23 / 8 * 8) * 8) : Int32).toInt64.toUInt64 &&& Int64.toUInt64 63)).toInt64) : Int64).toInt32) hx hb dX7_writeBytes_126 rfl ?_
            refine lv_i2b (v := ((((((p_27 : Int64).toUInt64 >>> ((((p_23 - p_23 / 8 * 8) * 8) : Int32).toInt64.toUInt64 &&& Int64.toUInt64 63)).toInt64) : Int64).toInt32) : Int32).toInt8.toInt32) hx hb dX7_writeBytes_127 rfl ?_
            obtain ⟨g_29, hf⟩ := grd_some hf
            obtain ⟨kg_29, sg_29, ig_29⟩ := okA_at g_29
            refine va_bast hx hb hK hP hD hS x1 0 (Wd_ab kg_29 sg_29) rfl ig_29 dX7_writeBytes_128 (fun H_30 locs hP2 hD2 hS2 => ?_)
            rw [Wd_tb sg_29] at hP2 hD2
            obtain ⟨z_31, ez_31⟩ : ∃ w, w = si z_28 x1 p_22.toNatClampNeg (vp_nar .byte (((((((p_27 : Int64).toUInt64 >>> ((((p_23 - p_23 / 8 * 8) * 8) : Int32).toInt64.toUInt64 &&& Int64.toUInt64 63)).toInt64) : Int64).toInt32) : Int32).toInt8.toInt32)) := ⟨_, rfl⟩
            rw [← ez_31] at hP2 hD2
            replace hf := lt_at ez_31 hf
            clear ez_31
            replace hP := hP2
            replace hD := hD2
            replace hS := hS2
            clear hP2 hD2 hS2
            refine lv_iinc (v := (p_23 + (-1))) (lv' := [(8, .int (p_23 + (-1))), (3, .int (p_22 + 1)), (9, .long p_27), (5, .long p_12), (4, .int p_3), (0, .ref (a h0)), (1, .int x0), (2, .ref (a x1))]) hx hb dX7_writeBytes_129 hl (k := 2) rfl rfl (by decide) rfl (fun ls hl2 => ?_)
            replace hl := hl2
            clear hl2
            refine lv_goto (tgt := 84) hx hb dX7_writeBytes_132 (by decide) ?_
            exact ih84 (z_31, (p_22 + 1), (p_23 + (-1))) ls H_30 locs ⟨lv_sub hl [0, 3, 4, 1, 5, 6, 7] rfl, hP, hD, hS⟩ hf
          refine lv_icmp_lt (tgt := 106) hx hb dX7_writeBytes_93 (by decide) (fun c_32 => ?_) (fun c_32 => ?_)
          · skip
            rw [if_pos c_32] at hf
            refine lv_lload hx hb dX7_writeBytes_106 (lv_at hl 1 rfl) ?_
            exact B108 (z_24, p_12) ls H locs ⟨lv_sub hl [0, 1, 2, 3, 4, 5, 6] rfl, hP, hD, hS⟩ hf
          · skip
            rw [if_neg c_32] at hf
            refine lv_aload_n hx hb dX7_writeBytes_96 rfl (lv_at hl 4 rfl) ?_
            obtain ⟨k_33, ek_33, hf⟩ := lnk_some hf
            refine va_get (D := (dC, dI)) (ci := 7) (v := .ref (a k_33)) (C := RX7) (T := TX7) (N := 16) hx hb hts iwd_X7_writeBytes_X7 hown hK hP h0 (Wd_ob kg_6 sg_6 (by decide)) rfl 12 (by decide) (hts _ md_X7_writeBytes_3) (fun _ h9 => h9) (fl_q rfl ek_33) dX7_writeBytes_97 ?_
            refine lv_iload hx hb dX7_writeBytes_100 (lv_at hl 2 rfl) ?_
            obtain ⟨g_34, hf⟩ := grd_some hf
            obtain ⟨kg_34, sg_34, ig_34⟩ := okA_at g_34
            refine va_lald hx hb hK hP k_33 2 (Wd_al kg_34 sg_34) rfl ig_34 dX7_writeBytes_102 ?_
            refine lv_goto (tgt := 108) hx hb dX7_writeBytes_103 (by decide) ?_
            exact B108 (z_24, (z_24.2.1 k_33 p_3.toNatClampNeg)) ls H locs ⟨lv_sub hl [0, 1, 2, 3, 4, 5, 6] rfl, hP, hD, hS⟩ hf
      · skip
        rw [if_neg c_20] at hf
        refine lv_iload_n hx hb dX7_writeBytes_76 rfl (lv_at hl 3 rfl) ?_
        obtain ⟨h8, h9⟩ := ret_some hf
        rw [h8, h9]
        exact W.iret (v := p_2) hx hb hr (fun t ht hW => ⟨⟨p_2, (), rfl, rfl, by rw [ht]; exact hP, va_K.moved hW.alike hK, hD⟩, hS.F ht⟩) hS.2.2 dX7_writeBytes_77
    refine lv_icmp_ne (tgt := 46) hx hb dX7_writeBytes_33 (by decide) (fun c_35 => ?_) (fun c_35 => ?_)
    · skip
      rw [if_neg c_35] at hf
      refine lv_aload_n hx hb dX7_writeBytes_46 rfl (lv_at hl 2 rfl) ?_
      obtain ⟨k_36, ek_36, hf⟩ := lnk_some hf
      refine va_get (D := (dC, dI)) (ci := 7) (v := .ref (a k_36)) (C := RX7) (T := TX7) (N := 16) hx hb hts iwd_X7_writeBytes_X7 hown hK hP h0 (Wd_ob kg_6 sg_6 (by decide)) rfl 13 (by decide) (hts _ md_X7_writeBytes_4) (fun _ h9 => h9) (fl_q rfl ek_36) dX7_writeBytes_47 ?_
      refine lv_iload hx hb dX7_writeBytes_50 (lv_at hl 0 rfl) ?_
      obtain ⟨g_37, hf⟩ := grd_some hf
      obtain ⟨kg_37, sg_37, ig_37⟩ := okA_at g_37
      refine va_lald hx hb hK hP k_36 2 (Wd_al kg_37 sg_37) rfl ig_37 dX7_writeBytes_52 ?_
      exact B53 (z_4, (z_4.2.1 k_36 p_3.toNatClampNeg)) ls H locs ⟨lv_sub hl [0, 1, 2, 3, 4] rfl, hP, hD, hS⟩ hf
    · skip
      rw [if_pos c_35] at hf
      refine lv_aload_n hx hb dX7_writeBytes_36 rfl (lv_at hl 2 rfl) ?_
      obtain ⟨k_38, ek_38, hf⟩ := lnk_some hf
      refine va_get (D := (dC, dI)) (ci := 7) (v := .ref (a k_38)) (C := RX7) (T := TX7) (N := 16) hx hb hts iwd_X7_writeBytes_X7 hown hK hP h0 (Wd_ob kg_6 sg_6 (by decide)) rfl 12 (by decide) (hts _ md_X7_writeBytes_3) (fun _ h9 => h9) (fl_q rfl ek_38) dX7_writeBytes_37 ?_
      refine lv_iload hx hb dX7_writeBytes_40 (lv_at hl 0 rfl) ?_
      obtain ⟨g_39, hf⟩ := grd_some hf
      obtain ⟨kg_39, sg_39, ig_39⟩ := okA_at g_39
      refine va_lald hx hb hK hP k_38 2 (Wd_al kg_39 sg_39) rfl ig_39 dX7_writeBytes_42 ?_
      refine lv_goto (tgt := 53) hx hb dX7_writeBytes_43 (by decide) ?_
      exact B53 (z_4, (z_4.2.1 k_38 p_3.toNatClampNeg)) ls H locs ⟨lv_sub hl [0, 1, 2, 3, 4] rfl, hP, hD, hS⟩ hf

theorem md_X1_copyAt_1 : (.fieldLink RX1 11 "ResourceLedger$Heap" "kind" "[B" : Cond) ∈ wsX1_copyAt := List.mem_of_getElem? (i := 1) rfl
theorem iwd_X1_copyAt_X1 : ∀ w ∈ wsX10, w ∈ wsX1_copyAt := fun _ h => List.mem_cons_of_mem _ (List.mem_append_right _ h)
theorem md_X1_copyAt_2 : (.fieldLink RX1 19 "ResourceLedger$Heap" "high" "[J" : Cond) ∈ wsX1_copyAt := List.mem_of_getElem? (i := 2) rfl
theorem md_X1_copyAt_3 : (.fieldLink RX1 15 "ResourceLedger$Heap" "low" "[J" : Cond) ∈ wsX1_copyAt := List.mem_of_getElem? (i := 3) rfl
theorem md_X1_copyAt_4 : (.fieldLink RX1 22 "ResourceLedger$Heap" "next" "[I" : Cond) ∈ wsX1_copyAt := List.mem_of_getElem? (i := 4) rfl
set_option maxHeartbeats 4000000 in
set_option maxRecDepth 100000 in
theorem de_X1_copyAt (l : Launch) (dC : Nat → ClassId) (dI : Nat → Nat → Nat) (cy : Nat → ClassId) (a : Nat → Nat) (sh : Nat → Nat × Nat) (n F : Nat) : ∀ (d sz : Nat) (z : St) (h0 : Nat) (x0 : Int32) (x1 : Int32) {z8 : St} {r8 : Int32} (_ : fn_X1_copyAt F sh n d z h0 x0 x1 = some (z8, r8)), Met l yX1_copyAt wsX1_copyAt ({ frames := d + 1, cells := 0, slots := 0, locals := d * 28 + 25 }) (va_Pc [.ref (a h0), .int x0, .int x1] (fun U => U.heap.size = sz ∧ va_P (dC, dI) vwCl (Wd cy a sh n z) U.heap ∧ va_K (dC, dI) vwCl (TYS cy) U ∧ va_D (fun _ => True) (Wd cy a sh n z) ∧ NK U)) (va_Qi (fun (r9 : Int32) (u : Unit) => r9 = r8) (fun u t => va_P (dC, dI) vwCl (Wd cy a sh n z8) t.heap ∧ va_K (dC, dI) vwCl (TYS cy) t ∧ va_D (va_A (Wd cy a sh n z) sz) (Wd cy a sh n z8)) (va_A (Wd cy a sh n z) sz)) 0 0 (va_A (Wd cy a sh n z) sz) := by
  intro d
  induction d with
  | zero => intro sz z h0 x0 x1 z8 r8 hf; exact absurd hf (by simp [fn_X1_copyAt])
  | succ d ihd =>
  intro sz z h0 x0 x1 z8 r8 hf
  refine Met.ofW (cc := cX1_copyAt) (maxL := 9) (ret := (some .int)) (by decide) rfl ?_
  intro p e s m args below meth c s₁ B hml hv
  obtain ⟨rfl, hsz, hP, hK, hD0, hN⟩ := hv
  have hx := B.exec
  have hb := B.bytes
  have hr := B.returns
  have hts := atoms_spec (ws := wsX1_copyAt) B.pre
  have hown : s.vm.findClass RX1 = some m.cls := findClass_of_methodNamed B.named
  have hlocks := B.notSynchronized
  subst hsz
  have hD := hD0.self (sz := s.heap.size)
  clear hD0
  generalize hAe : va_A (Wd cy a sh n z) s.heap.size = A at hD ⊢
  have hA : ∀ q : Nat, s.heap.size ≤ q → A q := fun q h => by rw [← hAe]; exact Or.inr h
  clear hAe
  have hS : va_S A s.heap s.heap [] := va_S.rf
  have hl := lv_entry ([.ref (a h0), .int x0, .int x1]) (n := 9) (Nat.le_of_ble_eq_true rfl)
  rw [lg_entry_eq]
  generalize (lg_sl ([.ref (a h0), .int x0, .int x1]) ++ List.replicate (9 - (lg_sl ([.ref (a h0), .int x0, .int x1])).length) Slot.unset).toArray = ls at hl ⊢
  replace hl : lv_has ls 9 [(0, .ref (a h0)), (1, .int x0), (2, .int x1)] := hl
  replace hf := fn_X1_copyAt_s hf
  refine de_start hS hP (fun H locs hS hP => ?_)
  refine lv_aload_n hx hb dX1_copyAt_0 rfl (lv_at hl 0 rfl) ?_
  refine lv_aload_n hx hb dX1_copyAt_1 rfl (lv_at hl 0 rfl) ?_
  obtain ⟨g_1, hf⟩ := grd_some hf
  obtain ⟨kg_1, sg_1⟩ := okO_at g_1
  obtain ⟨k_2, ek_2, hf⟩ := lnk_some hf
  refine va_get (D := (dC, dI)) (ci := 1) (v := .ref (a k_2)) (C := RX1) (T := TX1) (N := 7) hx hb hts iwd_X1_copyAt_X1 hown hK hP h0 (Wd_ob kg_1 sg_1 (by decide)) rfl 0 (by decide) (hts _ md_X1_copyAt_1) (fun _ h9 => h9) (fl_q rfl ek_2) dX1_copyAt_2 ?_
  refine lv_iload_n hx hb dX1_copyAt_5 rfl (lv_at hl 1 rfl) ?_
  obtain ⟨g_3, hf⟩ := grd_some hf
  obtain ⟨kg_3, sg_3, ig_3⟩ := okA_at g_3
  refine va_bald hx hb hK hP k_2 0 (Wd_ab kg_3 sg_3) rfl ig_3 dX1_copyAt_6 ?_
  refine lv_aload_n hx hb dX1_copyAt_7 rfl (lv_at hl 0 rfl) ?_
  obtain ⟨k_4, ek_4, hf⟩ := lnk_some hf
  refine va_get (D := (dC, dI)) (ci := 1) (v := .ref (a k_4)) (C := RX1) (T := TX1) (N := 7) hx hb hts iwd_X1_copyAt_X1 hown hK hP h0 (Wd_ob kg_1 sg_1 (by decide)) rfl 2 (by decide) (hts _ md_X1_copyAt_2) (fun _ h9 => h9) (fl_q rfl ek_4) dX1_copyAt_8 ?_
  refine lv_iload_n hx hb dX1_copyAt_11 rfl (lv_at hl 1 rfl) ?_
  obtain ⟨g_5, hf⟩ := grd_some hf
  obtain ⟨kg_5, sg_5, ig_5⟩ := okA_at g_5
  refine va_lald hx hb hK hP k_4 2 (Wd_al kg_5 sg_5) rfl ig_5 dX1_copyAt_12 ?_
  refine lv_aload_n hx hb dX1_copyAt_13 rfl (lv_at hl 0 rfl) ?_
  obtain ⟨k_6, ek_6, hf⟩ := lnk_some hf
  refine va_get (D := (dC, dI)) (ci := 1) (v := .ref (a k_6)) (C := RX1) (T := TX1) (N := 7) hx hb hts iwd_X1_copyAt_X1 hown hK hP h0 (Wd_ob kg_1 sg_1 (by decide)) rfl 1 (by decide) (hts _ md_X1_copyAt_3) (fun _ h9 => h9) (fl_q rfl ek_6) dX1_copyAt_14 ?_
  refine lv_iload_n hx hb dX1_copyAt_17 rfl (lv_at hl 1 rfl) ?_
  obtain ⟨g_7, hf⟩ := grd_some hf
  obtain ⟨kg_7, sg_7, ig_7⟩ := okA_at g_7
  refine va_lald hx hb hK hP k_6 2 (Wd_al kg_7 sg_7) rfl ig_7 dX1_copyAt_18 ?_
  obtain ⟨z_8, r_9, hfc, hf⟩ := cal_some hf
  have hFc := de_free hD hS hA
  refine va_calli (va_runV (As := [.int (z.1 k_2 x0.toNatClampNeg), .long (z.2.1 k_4 x0.toNatClampNeg), .long (z.2.1 k_6 x0.toNatClampNeg)]) (rest := []) ⟨hx, hb, hml, hown, hts⟩ (de_X1_make l dC dI cy a sh n H.size F z h0 (z.1 k_2 x0.toNatClampNeg) (z.2.1 k_4 x0.toNatClampNeg) (z.2.1 k_6 x0.toNatClampNeg) hfc) (cwV 3 hts gX1_copyAt_X1_make rfl rfl rfl (by decide +kernel) ⟨by show _ ≤ d + 1 + 1; (try dsimp only); omega, by show _ ≤ (d + 1) * 28 + 25; (try dsimp only); omega⟩) ⟨fun a U g mk q => by obtain ⟨q0, q1, qP, qK, qD, qN⟩ := q; exact ⟨q0, q1, qP, va_K.moved (u := U) (U := U.calling g mk a) (Vm.Alike.refl U.vm) qK, qD, qN.same rfl⟩, va_recv hK hP (ci := 1) (q0 := h0) rfl (Wd_ob kg_1 sg_1 (by decide)), fun U hU hW => ⟨rfl, by rw [hU], by rw [hU]; exact hP, va_K.moved hW.alike hK, hD.weaken (fun _ _ _ _ => trivial), hN.warm hW⟩⟩ rfl rfl hl.1 rfl (lv_room (Nat.le_of_ble_eq_true rfl)) dX1_copyAt_19 ⟨Nat.le_of_ble_eq_true rfl, Nat.le_of_ble_eq_true rfl⟩) hS (fun q _ h => hFc q h) hFc (fun rr u t H_10 locs ht hvm hw hB hz1 hk1 hS2 => ?_)
  rw [hw]
  clear hw
  obtain ⟨hP1, -, hD1⟩ := hB
  rw [ht] at hP1
  replace hD := hD1.weaken (fun _ _ _ h => hFc _ h)
  replace hP := hP1
  replace hS := hS2
  clear hP1 hD1 hS2 hFc hfc hz1 hk1 hvm ht
  refine lv_istore_n (lv' := [(3, .int r_9), (0, .ref (a h0)), (1, .int x0), (2, .int x1)]) hx hb dX1_copyAt_22 rfl hl (by decide) rfl (fun ls hl2 => ?_)
  replace hl := hl2
  clear hl2
  refine lv_iload_n hx hb dX1_copyAt_23 rfl (lv_at hl 0 rfl) ?_
  refine lv_if_eq (tgt := 45) hx hb dX1_copyAt_24 (by decide) (fun c_11 => ?_) (fun c_11 => ?_)
  · skip
    rw [if_pos c_11] at hf
    refine lv_iload_n hx hb dX1_copyAt_45 rfl (lv_at hl 0 rfl) ?_
    obtain ⟨h8, h9⟩ := ret_some hf
    rw [h8, h9]
    exact W.iret (v := r_9) hx hb hr (fun t ht hW => ⟨⟨r_9, (), rfl, rfl, by rw [ht]; exact hP, va_K.moved hW.alike hK, hD⟩, hS.F ht⟩) hS.2.2 dX1_copyAt_46
  · skip
    rw [if_neg c_11] at hf
    refine lv_aload_n hx hb dX1_copyAt_27 rfl (lv_at hl 1 rfl) ?_
    obtain ⟨k_12, ek_12, hf⟩ := lnk_some hf
    refine va_get (D := (dC, dI)) (ci := 1) (v := .ref (a k_12)) (C := RX1) (T := TX1) (N := 7) hx hb hts iwd_X1_copyAt_X1 hown hK hP h0 (Wd_ob kg_1 sg_1 (by decide)) rfl 0 (by decide) (hts _ md_X1_copyAt_1) (fun _ h9 => h9) (fl_q rfl ek_12) dX1_copyAt_28 ?_
    refine lv_iload_n hx hb dX1_copyAt_31 rfl (lv_at hl 2 rfl) ?_
    obtain ⟨g_13, hf⟩ := grd_some hf
    obtain ⟨kg_13, sg_13, ig_13⟩ := okA_at g_13
    refine va_bald hx hb hK hP k_12 0 (Wd_ab kg_13 sg_13) rfl ig_13 dX1_copyAt_32 ?_
    obtain ⟨z_14, r_15, hfc, hf⟩ := cal_some hf
    have hFc := de_free hD hS hA
    refine va_calli (va_runS (As := [.int (z_8.1 k_12 x0.toNatClampNeg)]) (rest := []) ⟨hx, hb, hml, hown, hts⟩ (de_X1_holdsOthers l dC dI cy a sh n H_10.size F z_8 (z_8.1 k_12 x0.toNatClampNeg) hfc) (va_cwS 1 hts gX1_copyAt_X1_holdsOthers rfl rfl rfl (by decide +kernel) ⟨by show _ ≤ d + 1 + 1; (try dsimp only); omega, by show _ ≤ (d + 1) * 28 + 25; (try dsimp only); omega⟩) ⟨fun a U g mk q => by obtain ⟨q0, q1, qP, qK, qD, qN⟩ := q; exact ⟨q0, q1, qP, va_K.moved (u := U) (U := U.calling g mk a) (Vm.Alike.refl U.vm) qK, qD, qN.same rfl⟩, fun U hU hW => ⟨rfl, by rw [hU], by rw [hU]; exact hP, va_K.moved hW.alike hK, hD.weaken (fun _ _ _ _ => trivial), hN.warm hW⟩⟩ rfl rfl hl.1 rfl (lv_room (Nat.le_of_ble_eq_true rfl)) dX1_copyAt_33 ⟨Nat.le_of_ble_eq_true rfl, Nat.le_of_ble_eq_true rfl⟩) hS (fun q _ h => hFc q h) hFc (fun rr u t H_16 locs ht hvm hw hB hz1 hk1 hS2 => ?_)
    rw [hw]
    clear hw
    obtain ⟨hP1, -, hD1⟩ := hB
    rw [ht] at hP1
    replace hD := hD1.weaken (fun _ _ _ h => hFc _ h)
    replace hP := hP1
    replace hS := hS2
    clear hP1 hD1 hS2 hFc hfc hz1 hk1 hvm ht
    refine lv_if_eq (tgt := 45) hx hb dX1_copyAt_36 (by decide) (fun c_17 => ?_) (fun c_17 => ?_)
    · skip
      rw [if_pos c_17] at hf
      refine lv_iload_n hx hb dX1_copyAt_45 rfl (lv_at hl 0 rfl) ?_
      obtain ⟨h8, h9⟩ := ret_some hf
      rw [h8, h9]
      exact W.iret (v := r_9) hx hb hr (fun t ht hW => ⟨⟨r_9, (), rfl, rfl, by rw [ht]; exact hP, va_K.moved hW.alike hK, hD⟩, hS.F ht⟩) hS.2.2 dX1_copyAt_46
    · skip
      rw [if_neg c_17] at hf
      refine lv_iload_n hx hb dX1_copyAt_39 rfl (lv_at hl 3 rfl) ?_
      refine lv_bipush (v := 40) hx hb dX1_copyAt_40 (by decide) ?_
      refine lv_icmp_lt (tgt := 47) hx hb dX1_copyAt_42 (by decide) (fun c_18 => ?_) (fun c_18 => ?_)
      · skip
        rw [if_pos c_18] at hf
        refine lv_aload_n hx hb dX1_copyAt_47 rfl (lv_at hl 1 rfl) ?_
        obtain ⟨k_19, ek_19, hf⟩ := lnk_some hf
        refine va_get (D := (dC, dI)) (ci := 1) (v := .ref (a k_19)) (C := RX1) (T := TX1) (N := 7) hx hb hts iwd_X1_copyAt_X1 hown hK hP h0 (Wd_ob kg_1 sg_1 (by decide)) rfl 1 (by decide) (hts _ md_X1_copyAt_3) (fun _ h9 => h9) (fl_q rfl ek_19) dX1_copyAt_48 ?_
        refine lv_iload_n hx hb dX1_copyAt_51 rfl (lv_at hl 2 rfl) ?_
        obtain ⟨g_20, hf⟩ := grd_some hf
        obtain ⟨kg_20, sg_20, ig_20⟩ := okA_at g_20
        refine va_lald hx hb hK hP k_19 2 (Wd_al kg_20 sg_20) rfl ig_20 dX1_copyAt_52 ?_
        refine lv_l2i (v := ((z_14.2.1 k_19 x0.toNatClampNeg) : Int64).toInt32) hx hb dX1_copyAt_53 rfl ?_
        refine lv_topi (fun v_21 ev_21 => ?_)
        replace hf := lt_at ev_21 hf
        clear ev_21
        refine lv_istore (lv' := [(4, .int v_21), (3, .int r_9), (0, .ref (a h0)), (1, .int x0), (2, .int x1)]) hx hb dX1_copyAt_54 hl (by decide) rfl (fun ls hl2 => ?_)
        replace hl := hl2
        clear hl2
        refine lv_iconst (v := 0) hx hb dX1_copyAt_56 (by decide) ?_
        refine lv_istore (lv' := [(5, .int 0), (4, .int v_21), (3, .int r_9), (0, .ref (a h0)), (1, .int x0), (2, .int x1)]) hx hb dX1_copyAt_57 hl (by decide) rfl (fun ls hl2 => ?_)
        replace hl := hl2
        clear hl2
        refine lv_aload_n hx hb dX1_copyAt_59 rfl (lv_at hl 3 rfl) ?_
        obtain ⟨k_22, ek_22, hf⟩ := lnk_some hf
        refine va_get (D := (dC, dI)) (ci := 1) (v := .ref (a k_22)) (C := RX1) (T := TX1) (N := 7) hx hb hts iwd_X1_copyAt_X1 hown hK hP h0 (Wd_ob kg_1 sg_1 (by decide)) rfl 1 (by decide) (hts _ md_X1_copyAt_3) (fun _ h9 => h9) (fl_q rfl ek_22) dX1_copyAt_60 ?_
        refine lv_iload_n hx hb dX1_copyAt_63 rfl (lv_at hl 2 rfl) ?_
        refine lv_lconst (v := 0) hx hb dX1_copyAt_64 (by decide) ?_
        obtain ⟨g_23, hf⟩ := grd_some hf
        obtain ⟨kg_23, sg_23, ig_23⟩ := okA_at g_23
        refine va_last hx hb hK hP hD hS k_22 2 (Wd_al kg_23 sg_23) rfl ig_23 dX1_copyAt_65 (fun H_24 locs hP2 hD2 hS2 => ?_)
        rw [Wd_tl sg_23] at hP2 hD2
        obtain ⟨z_25, ez_25⟩ : ∃ w, w = sl z_14 k_22 r_9.toNatClampNeg 0 := ⟨_, rfl⟩
        rw [← ez_25] at hP2 hD2
        replace hf := lt_at ez_25 hf
        clear ez_25
        replace hP := hP2
        replace hD := hD2
        replace hS := hS2
        clear hP2 hD2 hS2
        refine lv_lconst (v := 0) hx hb dX1_copyAt_66 (by decide) ?_
        refine lv_lstore (lv' := [(6, .long 0), (5, .int 0), (4, .int v_21), (3, .int r_9), (0, .ref (a h0)), (1, .int x0), (2, .int x1)]) hx hb dX1_copyAt_67 hl (by decide) rfl (fun ls hl2 => ?_)
        replace hl := hl2
        clear hl2
        have hl0 : lv_has ls 9 [(6, .long 0), (5, .int 0), (4, .int v_21), (3, .int r_9), (0, .ref (a h0)), (1, .int x0), (2, .int x1)] := lv_sub hl [0, 1, 2, 3, 4, 5, 6] rfl
        refine de_loop (h := 69) (fun (x : St × Int32 × Int32 × Int64) ls H locs => lv_has ls 9 [(6, .long x.2.2.2), (5, .int x.2.2.1), (4, .int x.2.1), (3, .int r_9), (0, .ref (a h0)), (1, .int x0), (2, .int x1)] ∧ va_P (dC, dI) vwCl (Wd cy a sh n x.1) H ∧ va_D A (Wd cy a sh n x.1) ∧ va_S A s.heap H locs) (fun f x => fn_X1_copyAt_L69 F sh n h0 x0 r_9 (fn_X1_copyAt F sh n d) x1 f x.1 x.2.1 x.2.2.1 x.2.2.2) (z8, r8) ?_ (fun _ => rfl) F (z_25, v_21, 0, 0) ls H_24 locs ⟨hl0, hP, hD, hS⟩ hf
        intro f_30 x ls H locs ih69 hI hf
        obtain ⟨z_29, p_26, p_27, p_28⟩ := x
        obtain ⟨hl2, hP2, hD2, hS2⟩ := hI
        replace hl : lv_has ls 9 [(6, .long p_28), (5, .int p_27), (4, .int p_26), (3, .int r_9), (0, .ref (a h0)), (1, .int x0), (2, .int x1)] := hl2
        replace hP := hP2
        replace hD := hD2
        replace hS := hS2
        clear hl2 hP2 hD2 hS2 hl0
        replace hf := fn_X1_copyAt_L69_s hf
        refine lv_lload hx hb dX1_copyAt_69 (lv_at hl 0 rfl) ?_
        refine lv_aload_n hx hb dX1_copyAt_71 rfl (lv_at hl 4 rfl) ?_
        obtain ⟨k_31, ek_31, hf⟩ := lnk_some hf
        refine va_get (D := (dC, dI)) (ci := 1) (v := .ref (a k_31)) (C := RX1) (T := TX1) (N := 7) hx hb hts iwd_X1_copyAt_X1 hown hK hP h0 (Wd_ob kg_1 sg_1 (by decide)) rfl 2 (by decide) (hts _ md_X1_copyAt_2) (fun _ h9 => h9) (fl_q rfl ek_31) dX1_copyAt_72 ?_
        refine lv_iload_n hx hb dX1_copyAt_75 rfl (lv_at hl 5 rfl) ?_
        obtain ⟨g_32, hf⟩ := grd_some hf
        obtain ⟨kg_32, sg_32, ig_32⟩ := okA_at g_32
        refine va_lald hx hb hK hP k_31 2 (Wd_al kg_32 sg_32) rfl ig_32 dX1_copyAt_76 ?_
        refine W.lcmp hx hb dX1_copyAt_77 ?_
        refine lv_if_ge (tgt := 145) hx hb dX1_copyAt_78 (by decide) (fun c_33 => ?_) (fun c_33 => ?_)
        · skip
          rw [lg_cmp_ge] at c_33
          rw [if_pos c_33] at hf
          refine lv_iload_n hx hb dX1_copyAt_145 rfl (lv_at hl 3 rfl) ?_
          obtain ⟨h8, h9⟩ := ret_some hf
          rw [h8, h9]
          exact W.iret (v := r_9) hx hb hr (fun t ht hW => ⟨⟨r_9, (), rfl, rfl, by rw [ht]; exact hP, va_K.moved hW.alike hK, hD⟩, hS.F ht⟩) hS.2.2 dX1_copyAt_146
        · skip
          rw [lg_cmp_ge] at c_33
          rw [if_neg c_33] at hf
          refine lv_iload hx hb dX1_copyAt_81 (lv_at hl 2 rfl) ?_
          refine lv_if_eq (tgt := 145) hx hb dX1_copyAt_83 (by decide) (fun c_34 => ?_) (fun c_34 => ?_)
          · skip
            rw [if_pos c_34] at hf
            refine lv_iload_n hx hb dX1_copyAt_145 rfl (lv_at hl 3 rfl) ?_
            obtain ⟨h8, h9⟩ := ret_some hf
            rw [h8, h9]
            exact W.iret (v := r_9) hx hb hr (fun t ht hW => ⟨⟨r_9, (), rfl, rfl, by rw [ht]; exact hP, va_K.moved hW.alike hK, hD⟩, hS.F ht⟩) hS.2.2 dX1_copyAt_146
          · skip
            rw [if_neg c_34] at hf
            refine lv_aload_n hx hb dX1_copyAt_86 rfl (lv_at hl 4 rfl) ?_
            refine lv_iload hx hb dX1_copyAt_87 (lv_at hl 2 rfl) ?_
            refine lv_iload_n hx hb dX1_copyAt_89 rfl (lv_at hl 6 rfl) ?_
            refine lv_iconst (v := 1) hx hb dX1_copyAt_90 (by decide) ?_
            refine lv_iadd hx hb dX1_copyAt_91 ?_
            obtain ⟨z_35, r_36, hfc, hf⟩ := cal_some hf
            have hFc := de_free hD hS hA
            refine va_calli (va_runV (As := [.int p_26, .int (x1 + 1)]) (rest := []) ⟨hx, hb, hml, hown, hts⟩ (ihd H.size z_29 h0 p_26 (x1 + 1) hfc) (cwV 2 hts gX1_copyAt_X1_copyAt rfl rfl rfl (by decide +kernel) ⟨by show _ ≤ d + 1 + 1; (try dsimp only); omega, by show _ ≤ (d + 1) * 28 + 25; (try dsimp only); omega⟩) ⟨fun a U g mk q => by obtain ⟨q0, q1, qP, qK, qD, qN⟩ := q; exact ⟨q0, q1, qP, va_K.moved (u := U) (U := U.calling g mk a) (Vm.Alike.refl U.vm) qK, qD, qN.same rfl⟩, va_recv hK hP (ci := 1) (q0 := h0) rfl (Wd_ob kg_1 sg_1 (by decide)), fun U hU hW => ⟨rfl, by rw [hU], by rw [hU]; exact hP, va_K.moved hW.alike hK, hD.weaken (fun _ _ _ _ => trivial), hN.warm hW⟩⟩ rfl rfl hl.1 rfl (lv_room (Nat.le_of_ble_eq_true rfl)) dX1_copyAt_92 ⟨Nat.le_of_ble_eq_true rfl, Nat.le_of_ble_eq_true rfl⟩) hS (fun q _ h => hFc q h) hFc (fun rr u t H_37 locs ht hvm hw hB hz1 hk1 hS2 => ?_)
            rw [hw]
            clear hw
            obtain ⟨hP1, -, hD1⟩ := hB
            rw [ht] at hP1
            replace hD := hD1.weaken (fun _ _ _ h => hFc _ h)
            replace hP := hP1
            replace hS := hS2
            clear hP1 hD1 hS2 hFc hfc hz1 hk1 hvm ht
            refine lv_istore (lv' := [(8, .int r_36), (6, .long p_28), (5, .int p_27), (4, .int p_26), (3, .int r_9), (0, .ref (a h0)), (1, .int x0), (2, .int x1)]) hx hb dX1_copyAt_95 hl (by decide) rfl (fun ls hl2 => ?_)
            replace hl := hl2
            clear hl2
            refine lv_iload hx hb dX1_copyAt_97 (lv_at hl 2 rfl) ?_
            refine de_cut (h := 123) (fun (x : St) => []) (fun x ls H locs => lv_has ls 9 [(8, .int r_36), (6, .long p_28), (4, .int p_26), (3, .int r_9), (0, .ref (a h0)), (1, .int x0), (2, .int x1)] ∧ va_P (dC, dI) vwCl (Wd cy a sh n x) H ∧ va_D A (Wd cy a sh n x) ∧ va_S A s.heap H locs) (fun x => fn_X1_copyAt_B123 F sh n h0 p_26 p_28 r_36 (fun z9 q4 q5 q6 => fn_X1_copyAt_L69 F sh n h0 x0 r_9 (fn_X1_copyAt F sh n d) x1 f_30 z9 q4 q5 q6) x) (z8, r8) ?_ (fun B123 => ?_)
            · intro x ls H locs hI hf
              obtain ⟨z_38, ez⟩ : ∃ w, w = x := ⟨_, rfl⟩
              subst ez
              obtain ⟨hl2, hP2, hD2, hS2⟩ := hI
              replace hl : lv_has ls 9 [(8, .int r_36), (6, .long p_28), (4, .int p_26), (3, .int r_9), (0, .ref (a h0)), (1, .int x0), (2, .int x1)] := hl2
              replace hP := hP2
              replace hD := hD2
              replace hS := hS2
              clear hl2 hP2 hD2 hS2
              replace hf := fn_X1_copyAt_B123_s hf
              refine W.eq (g2 := F0 m 123 ls []) rfl ?_
              refine lv_iload hx hb dX1_copyAt_123 (lv_at hl 0 rfl) ?_
              refine lv_istore (lv' := [(5, .int r_36), (8, .int r_36), (6, .long p_28), (4, .int p_26), (3, .int r_9), (0, .ref (a h0)), (1, .int x0), (2, .int x1)]) hx hb dX1_copyAt_125 hl (by decide) rfl (fun ls hl2 => ?_)
              replace hl := hl2
              clear hl2
              refine lv_aload_n hx hb dX1_copyAt_127 rfl (lv_at hl 5 rfl) ?_
              obtain ⟨k_39, ek_39, hf⟩ := lnk_some hf
              refine va_get (D := (dC, dI)) (ci := 1) (v := .ref (a k_39)) (C := RX1) (T := TX1) (N := 7) hx hb hts iwd_X1_copyAt_X1 hown hK hP h0 (Wd_ob kg_1 sg_1 (by decide)) rfl 3 (by decide) (hts _ md_X1_copyAt_4) (fun _ h9 => h9) (fl_q rfl ek_39) dX1_copyAt_128 ?_
              refine lv_iload hx hb dX1_copyAt_131 (lv_at hl 3 rfl) ?_
              obtain ⟨g_40, hf⟩ := grd_some hf
              obtain ⟨kg_40, sg_40, ig_40⟩ := okA_at g_40
              refine va_iald hx hb hK hP k_39 1 (Wd_ai kg_40 sg_40) rfl ig_40 dX1_copyAt_133 ?_
              refine lv_topi (fun v_41 ev_41 => ?_)
              replace hf := lt_at ev_41 hf
              clear ev_41
              refine lv_istore (lv' := [(4, .int v_41), (5, .int r_36), (8, .int r_36), (6, .long p_28), (3, .int r_9), (0, .ref (a h0)), (1, .int x0), (2, .int x1)]) hx hb dX1_copyAt_134 hl (by decide) rfl (fun ls hl2 => ?_)
              replace hl := hl2
              clear hl2
              refine lv_lload hx hb dX1_copyAt_136 (lv_at hl 3 rfl) ?_
              refine lv_lconst (v := 1) hx hb dX1_copyAt_138 (by decide) ?_
              refine lv_ladd hx hb dX1_copyAt_139 ?_
              refine lv_topl (fun v_42 ev_42 => ?_)
              replace hf := lt_at ev_42 hf
              clear ev_42
              refine lv_lstore (lv' := [(6, .long v_42), (4, .int v_41), (5, .int r_36), (8, .int r_36), (3, .int r_9), (0, .ref (a h0)), (1, .int x0), (2, .int x1)]) hx hb dX1_copyAt_140 hl (by decide) rfl (fun ls hl2 => ?_)
              replace hl := hl2
              clear hl2
              refine lv_goto (tgt := 69) hx hb dX1_copyAt_142 (by decide) ?_
              exact ih69 (z_38, v_41, r_36, v_42) ls H locs ⟨lv_sub hl [0, 2, 1, 4, 5, 6, 7] rfl, hP, hD, hS⟩ hf
            refine lv_if_ne (tgt := 114) hx hb dX1_copyAt_99 (by decide) (fun c_43 => ?_) (fun c_43 => ?_)
            · skip
              rw [if_neg c_43] at hf
              refine lv_aload_n hx hb dX1_copyAt_114 rfl (lv_at hl 5 rfl) ?_
              obtain ⟨k_44, ek_44, hf⟩ := lnk_some hf
              refine va_get (D := (dC, dI)) (ci := 1) (v := .ref (a k_44)) (C := RX1) (T := TX1) (N := 7) hx hb hts iwd_X1_copyAt_X1 hown hK hP h0 (Wd_ob kg_1 sg_1 (by decide)) rfl 3 (by decide) (hts _ md_X1_copyAt_4) (fun _ h9 => h9) (fl_q rfl ek_44) dX1_copyAt_115 ?_
              refine lv_iload hx hb dX1_copyAt_118 (lv_at hl 2 rfl) ?_
              refine lv_iload hx hb dX1_copyAt_120 (lv_at hl 0 rfl) ?_
              obtain ⟨g_45, hf⟩ := grd_some hf
              obtain ⟨kg_45, sg_45, ig_45⟩ := okA_at g_45
              refine va_iast hx hb hK hP hD hS k_44 1 (Wd_ai kg_45 sg_45) rfl ig_45 dX1_copyAt_122 (fun H_46 locs hP2 hD2 hS2 => ?_)
              rw [Wd_ti sg_45] at hP2 hD2
              obtain ⟨z_47, ez_47⟩ : ∃ w, w = si z_35 k_44 p_27.toNatClampNeg r_36 := ⟨_, rfl⟩
              rw [← ez_47] at hP2 hD2
              replace hf := lt_at ez_47 hf
              clear ez_47
              replace hP := hP2
              replace hD := hD2
              replace hS := hS2
              clear hP2 hD2 hS2
              exact B123 (z_47) ls H_46 locs ⟨lv_sub hl [0, 1, 3, 4, 5, 6, 7] rfl, hP, hD, hS⟩ hf
            · skip
              rw [if_pos c_43] at hf
              refine lv_aload_n hx hb dX1_copyAt_102 rfl (lv_at hl 5 rfl) ?_
              obtain ⟨k_48, ek_48, hf⟩ := lnk_some hf
              refine va_get (D := (dC, dI)) (ci := 1) (v := .ref (a k_48)) (C := RX1) (T := TX1) (N := 7) hx hb hts iwd_X1_copyAt_X1 hown hK hP h0 (Wd_ob kg_1 sg_1 (by decide)) rfl 1 (by decide) (hts _ md_X1_copyAt_3) (fun _ h9 => h9) (fl_q rfl ek_48) dX1_copyAt_103 ?_
              refine lv_iload_n hx hb dX1_copyAt_106 rfl (lv_at hl 4 rfl) ?_
              refine lv_iload hx hb dX1_copyAt_107 (lv_at hl 0 rfl) ?_
              refine lv_i2l (v := (r_36 : Int32).toInt64) hx hb dX1_copyAt_109 rfl ?_
              obtain ⟨g_49, hf⟩ := grd_some hf
              obtain ⟨kg_49, sg_49, ig_49⟩ := okA_at g_49
              refine va_last hx hb hK hP hD hS k_48 2 (Wd_al kg_49 sg_49) rfl ig_49 dX1_copyAt_110 (fun H_50 locs hP2 hD2 hS2 => ?_)
              rw [Wd_tl sg_49] at hP2 hD2
              obtain ⟨z_51, ez_51⟩ : ∃ w, w = sl z_35 k_48 r_9.toNatClampNeg ((r_36 : Int32).toInt64) := ⟨_, rfl⟩
              rw [← ez_51] at hP2 hD2
              replace hf := lt_at ez_51 hf
              clear ez_51
              replace hP := hP2
              replace hD := hD2
              replace hS := hS2
              clear hP2 hD2 hS2
              refine lv_goto (tgt := 123) hx hb dX1_copyAt_111 (by decide) ?_
              exact B123 (z_51) ls H_50 locs ⟨lv_sub hl [0, 1, 3, 4, 5, 6, 7] rfl, hP, hD, hS⟩ hf
      · skip
        rw [if_neg c_18] at hf
        refine lv_iload_n hx hb dX1_copyAt_45 rfl (lv_at hl 0 rfl) ?_
        obtain ⟨h8, h9⟩ := ret_some hf
        rw [h8, h9]
        exact W.iret (v := r_9) hx hb hr (fun t ht hW => ⟨⟨r_9, (), rfl, rfl, by rw [ht]; exact hP, va_K.moved hW.alike hK, hD⟩, hS.F ht⟩) hS.2.2 dX1_copyAt_46

theorem md_X18_enter_1 : (.fieldLink RX18 328 "ResourceLedgerModel" "frames" "I" : Cond) ∈ wsX18_enter := List.mem_of_getElem? (i := 1) rfl
theorem iwd_X18_enter_X18 : ∀ w ∈ wsX180, w ∈ wsX18_enter := fun _ h => List.mem_cons_of_mem _ (List.mem_append_right _ h)
theorem md_X18_enter_2 : (.fieldLink RX18 441 "ResourceLedgerModel" "frameUnits" "[I" : Cond) ∈ wsX18_enter := List.mem_of_getElem? (i := 2) rfl
theorem md_X18_enter_3 : (.fieldLink RX18 444 "ResourceLedgerModel" "frameFunctions" "[I" : Cond) ∈ wsX18_enter := List.mem_of_getElem? (i := 3) rfl
theorem md_X18_enter_4 : (.fieldLink RX18 447 "ResourceLedgerModel" "nexts" "[I" : Cond) ∈ wsX18_enter := List.mem_of_getElem? (i := 4) rfl
theorem md_X18_enter_7 : (.fieldLink RX18 312 "ResourceLedgerModel" "height" "I" : Cond) ∈ wsX18_enter := List.mem_of_getElem? (i := 7) rfl
theorem md_X18_enter_10 : (.fieldLink RX18 325 "ResourceLedgerModel" "bases" "[I" : Cond) ∈ wsX18_enter := List.mem_of_getElem? (i := 10) rfl
theorem md_X18_enter_5 : (.fieldLink RX18 347 "ResourceLedgerModel" "locals" "[I" : Cond) ∈ wsX18_enter := List.mem_of_getElem? (i := 5) rfl
theorem md_X18_enter_6 : (.fieldLink RX18 309 "ResourceLedgerModel" "stack" "[I" : Cond) ∈ wsX18_enter := List.mem_of_getElem? (i := 6) rfl
theorem md_X18_enter_8 : (.fieldLink RX18 350 "ResourceLedgerModel" "localRefers" "[Z" : Cond) ∈ wsX18_enter := List.mem_of_getElem? (i := 8) rfl
theorem md_X18_enter_9 : (.fieldLink RX18 315 "ResourceLedgerModel" "refers" "[Z" : Cond) ∈ wsX18_enter := List.mem_of_getElem? (i := 9) rfl
set_option maxHeartbeats 4000000 in
set_option maxRecDepth 100000 in
theorem de_X18_enter (l : Launch) (dC : Nat → ClassId) (dI : Nat → Nat → Nat) (cy : Nat → ClassId) (a : Nat → Nat) (sh : Nat → Nat × Nat) (n sz : Nat) (F : Nat) (z : St) (h0 : Nat) (x0 : Int32) (x1 : Int32) (x2 : Int32) {z8 : St} {r8 : Unit} (hf : fn_X18_enter F sh n z h0 x0 x1 x2 = some (z8, r8)) : Met l yX18_enter wsX18_enter ({ frames := 1, cells := 0, slots := 0, locals := 21 }) (va_Pc [.ref (a h0), .int x0, .int x1, .int x2] (fun U => U.heap.size = sz ∧ va_P (dC, dI) vwCl (Wd cy a sh n z) U.heap ∧ va_K (dC, dI) vwCl (TYS cy) U ∧ va_D (fun _ => True) (Wd cy a sh n z) ∧ NK U)) (va_Qv (fun u : Unit => True) (fun u t => va_P (dC, dI) vwCl (Wd cy a sh n z8) t.heap ∧ va_K (dC, dI) vwCl (TYS cy) t ∧ va_D (va_A (Wd cy a sh n z) sz) (Wd cy a sh n z8)) (va_A (Wd cy a sh n z) sz)) 0 0 (va_A (Wd cy a sh n z) sz) := by
  refine Met.ofW (cc := cX18_enter) (maxL := 6) (ret := none) (by decide) rfl ?_
  intro p e s m args below meth c s₁ B hml hv
  obtain ⟨rfl, hsz, hP, hK, hD0, hN⟩ := hv
  have hx := B.exec
  have hb := B.bytes
  have hr := B.returns
  have hts := atoms_spec (ws := wsX18_enter) B.pre
  have hown : s.vm.findClass RX18 = some m.cls := findClass_of_methodNamed B.named
  have hlocks := B.notSynchronized
  subst hsz
  have hD := hD0.self (sz := s.heap.size)
  clear hD0
  generalize hAe : va_A (Wd cy a sh n z) s.heap.size = A at hD ⊢
  have hA : ∀ q : Nat, s.heap.size ≤ q → A q := fun q h => by rw [← hAe]; exact Or.inr h
  clear hAe
  have hS : va_S A s.heap s.heap [] := va_S.rf
  have hl := lv_entry ([.ref (a h0), .int x0, .int x1, .int x2]) (n := 6) (Nat.le_of_ble_eq_true rfl)
  rw [lg_entry_eq]
  generalize (lg_sl ([.ref (a h0), .int x0, .int x1, .int x2]) ++ List.replicate (6 - (lg_sl ([.ref (a h0), .int x0, .int x1, .int x2])).length) Slot.unset).toArray = ls at hl ⊢
  replace hl : lv_has ls 6 [(0, .ref (a h0)), (1, .int x0), (2, .int x1), (3, .int x2)] := hl
  unfold fn_X18_enter at hf
  refine de_start hS hP (fun H locs hS hP => ?_)
  refine lv_aload_n hx hb dX18_enter_0 rfl (lv_at hl 0 rfl) ?_
  obtain ⟨g_1, hf⟩ := grd_some hf
  obtain ⟨kg_1, sg_1⟩ := okO_at g_1
  refine va_get (D := (dC, dI)) (ci := 18) (v := .int (z.1 h0 36)) (C := RX18) (T := TX18) (N := 78) hx hb hts iwd_X18_enter_X18 hown hK hP h0 (Wd_ob kg_1 sg_1 (by decide)) rfl 36 (by decide) (hts _ md_X18_enter_1) (fun _ h9 => h9) (fl_at (t := 0) rfl) dX18_enter_1 ?_
  refine lv_topi (fun v_2 ev_2 => ?_)
  replace hf := lt_at ev_2 hf
  clear ev_2
  refine lv_istore (lv' := [(4, .int v_2), (0, .ref (a h0)), (1, .int x0), (2, .int x1), (3, .int x2)]) hx hb dX18_enter_4 hl (by decide) rfl (fun ls hl2 => ?_)
  replace hl := hl2
  clear hl2
  refine lv_aload_n hx hb dX18_enter_6 rfl (lv_at hl 1 rfl) ?_
  refine lv_dup hx hb dX18_enter_7 rfl ?_
  refine va_get (D := (dC, dI)) (ci := 18) (v := .int (z.1 h0 36)) (C := RX18) (T := TX18) (N := 78) hx hb hts iwd_X18_enter_X18 hown hK hP h0 (Wd_ob kg_1 sg_1 (by decide)) rfl 36 (by decide) (hts _ md_X18_enter_1) (fun _ h9 => h9) (fl_at (t := 0) rfl) dX18_enter_8 ?_
  refine lv_iconst (v := 1) hx hb dX18_enter_11 (by decide) ?_
  refine lv_iadd hx hb dX18_enter_12 ?_
  refine va_put (D := (dC, dI)) (ci := 18) (v := .int ((z.1 h0 36) + 1)) (ty := .int) (C := RX18) (T := TX18) (N := 78) hx hb hts iwd_X18_enter_X18 tyX18 tyX18_ok nmX18 hown hK hP hD hS h0 (Wd_ob kg_1 sg_1 (by decide)) rfl 36 (by decide) (hts _ md_X18_enter_1) (fun _ h9 => h9) rfl (by decide +kernel) rfl rfl (by rw [fl_len]; decide) dX18_enter_13 (fun H_3 locs hP2 hD2 hS2 => ?_)
  rw [Wd_si sg_1 (by decide) rfl] at hP2 hD2
  obtain ⟨z_4, ez_4⟩ : ∃ w, w = si z h0 36 ((z.1 h0 36) + 1) := ⟨_, rfl⟩
  rw [← ez_4] at hP2 hD2
  replace hf := lt_at ez_4 hf
  clear ez_4
  replace hP := hP2
  replace hD := hD2
  replace hS := hS2
  clear hP2 hD2 hS2
  refine lv_aload_n hx hb dX18_enter_16 rfl (lv_at hl 1 rfl) ?_
  obtain ⟨k_5, ek_5, hf⟩ := lnk_some hf
  refine va_get (D := (dC, dI)) (ci := 18) (v := .ref (a k_5)) (C := RX18) (T := TX18) (N := 78) hx hb hts iwd_X18_enter_X18 hown hK hP h0 (Wd_ob kg_1 sg_1 (by decide)) rfl 37 (by decide) (hts _ md_X18_enter_2) (fun _ h9 => h9) (fl_q rfl ek_5) dX18_enter_17 ?_
  refine lv_iload hx hb dX18_enter_20 (lv_at hl 0 rfl) ?_
  refine lv_iload_n hx hb dX18_enter_22 rfl (lv_at hl 2 rfl) ?_
  obtain ⟨g_6, hf⟩ := grd_some hf
  obtain ⟨kg_6, sg_6, ig_6⟩ := okA_at g_6
  refine va_iast hx hb hK hP hD hS k_5 1 (Wd_ai kg_6 sg_6) rfl ig_6 dX18_enter_23 (fun H_7 locs hP2 hD2 hS2 => ?_)
  rw [Wd_ti sg_6] at hP2 hD2
  obtain ⟨z_8, ez_8⟩ : ∃ w, w = si z_4 k_5 v_2.toNatClampNeg x0 := ⟨_, rfl⟩
  rw [← ez_8] at hP2 hD2
  replace hf := lt_at ez_8 hf
  clear ez_8
  replace hP := hP2
  replace hD := hD2
  replace hS := hS2
  clear hP2 hD2 hS2
  refine lv_aload_n hx hb dX18_enter_24 rfl (lv_at hl 1 rfl) ?_
  obtain ⟨k_9, ek_9, hf⟩ := lnk_some hf
  refine va_get (D := (dC, dI)) (ci := 18) (v := .ref (a k_9)) (C := RX18) (T := TX18) (N := 78) hx hb hts iwd_X18_enter_X18 hown hK hP h0 (Wd_ob kg_1 sg_1 (by decide)) rfl 38 (by decide) (hts _ md_X18_enter_3) (fun _ h9 => h9) (fl_q rfl ek_9) dX18_enter_25 ?_
  refine lv_iload hx hb dX18_enter_28 (lv_at hl 0 rfl) ?_
  refine lv_iload_n hx hb dX18_enter_30 rfl (lv_at hl 3 rfl) ?_
  obtain ⟨g_10, hf⟩ := grd_some hf
  obtain ⟨kg_10, sg_10, ig_10⟩ := okA_at g_10
  refine va_iast hx hb hK hP hD hS k_9 1 (Wd_ai kg_10 sg_10) rfl ig_10 dX18_enter_31 (fun H_11 locs hP2 hD2 hS2 => ?_)
  rw [Wd_ti sg_10] at hP2 hD2
  obtain ⟨z_12, ez_12⟩ : ∃ w, w = si z_8 k_9 v_2.toNatClampNeg x1 := ⟨_, rfl⟩
  rw [← ez_12] at hP2 hD2
  replace hf := lt_at ez_12 hf
  clear ez_12
  replace hP := hP2
  replace hD := hD2
  replace hS := hS2
  clear hP2 hD2 hS2
  refine lv_aload_n hx hb dX18_enter_32 rfl (lv_at hl 1 rfl) ?_
  obtain ⟨k_13, ek_13, hf⟩ := lnk_some hf
  refine va_get (D := (dC, dI)) (ci := 18) (v := .ref (a k_13)) (C := RX18) (T := TX18) (N := 78) hx hb hts iwd_X18_enter_X18 hown hK hP h0 (Wd_ob kg_1 sg_1 (by decide)) rfl 39 (by decide) (hts _ md_X18_enter_4) (fun _ h9 => h9) (fl_q rfl ek_13) dX18_enter_33 ?_
  refine lv_iload hx hb dX18_enter_36 (lv_at hl 0 rfl) ?_
  refine lv_iconst (v := 0) hx hb dX18_enter_38 (by decide) ?_
  obtain ⟨g_14, hf⟩ := grd_some hf
  obtain ⟨kg_14, sg_14, ig_14⟩ := okA_at g_14
  refine va_iast hx hb hK hP hD hS k_13 1 (Wd_ai kg_14 sg_14) rfl ig_14 dX18_enter_39 (fun H_15 locs hP2 hD2 hS2 => ?_)
  rw [Wd_ti sg_14] at hP2 hD2
  obtain ⟨z_16, ez_16⟩ : ∃ w, w = si z_12 k_13 v_2.toNatClampNeg 0 := ⟨_, rfl⟩
  rw [← ez_16] at hP2 hD2
  replace hf := lt_at ez_16 hf
  clear ez_16
  replace hP := hP2
  replace hD := hD2
  replace hS := hS2
  clear hP2 hD2 hS2
  refine lv_iconst (v := 0) hx hb dX18_enter_40 (by decide) ?_
  refine lv_istore (lv' := [(5, .int 0), (4, .int v_2), (0, .ref (a h0)), (1, .int x0), (2, .int x1), (3, .int x2)]) hx hb dX18_enter_41 hl (by decide) rfl (fun ls hl2 => ?_)
  replace hl := hl2
  clear hl2
  have hl0 : lv_has ls 6 [(5, .int 0), (4, .int v_2), (0, .ref (a h0)), (3, .int x2)] := lv_sub hl [0, 1, 2, 5] rfl
  refine de_loop (h := 43) (fun (x : St × Int32) ls H locs => lv_has ls 6 [(5, .int x.2), (4, .int v_2), (0, .ref (a h0)), (3, .int x2)] ∧ va_P (dC, dI) vwCl (Wd cy a sh n x.1) H ∧ va_D A (Wd cy a sh n x.1) ∧ va_S A s.heap H locs) (fun f x => fn_X18_enter_L43 F sh n x2 h0 v_2 f x.1 x.2) (z8, r8) ?_ (fun _ => rfl) F (z_16, 0) ls H_15 locs ⟨hl0, hP, hD, hS⟩ hf
  intro f_19 x ls H locs ih43 hI hf
  obtain ⟨z_18, p_17⟩ := x
  obtain ⟨hl2, hP2, hD2, hS2⟩ := hI
  replace hl : lv_has ls 6 [(5, .int p_17), (4, .int v_2), (0, .ref (a h0)), (3, .int x2)] := hl2
  replace hP := hP2
  replace hD := hD2
  replace hS := hS2
  clear hl2 hP2 hD2 hS2 hl0
  replace hf := fn_X18_enter_L43_s hf
  refine lv_iload hx hb dX18_enter_43 (lv_at hl 0 rfl) ?_
  refine lv_bipush (v := 40) hx hb dX18_enter_45 (by decide) ?_
  refine lv_icmp_ge (tgt := 68) hx hb dX18_enter_47 (by decide) (fun c_20 => ?_) (fun c_20 => ?_)
  · skip
    rw [if_pos c_20] at hf
    refine lv_iconst (v := 0) hx hb dX18_enter_68 (by decide) ?_
    refine lv_istore (lv' := [(5, .int 0), (4, .int v_2), (0, .ref (a h0)), (3, .int x2)]) hx hb dX18_enter_69 hl (by decide) rfl (fun ls hl2 => ?_)
    replace hl := hl2
    clear hl2
    have hl0 : lv_has ls 6 [(5, .int 0), (4, .int v_2), (0, .ref (a h0)), (3, .int x2)] := lv_sub hl [0, 1, 2, 3] rfl
    refine de_loop (h := 71) (fun (x : St × Int32) ls H locs => lv_has ls 6 [(5, .int x.2), (4, .int v_2), (0, .ref (a h0)), (3, .int x2)] ∧ va_P (dC, dI) vwCl (Wd cy a sh n x.1) H ∧ va_D A (Wd cy a sh n x.1) ∧ va_S A s.heap H locs) (fun f x => fn_X18_enter_L71 F sh n x2 h0 v_2 f x.1 x.2) (z8, r8) ?_ (fun _ => rfl) F (z_18, 0) ls H locs ⟨hl0, hP, hD, hS⟩ hf
    intro f_23 x ls H locs ih71 hI hf
    obtain ⟨z_22, p_21⟩ := x
    obtain ⟨hl2, hP2, hD2, hS2⟩ := hI
    replace hl : lv_has ls 6 [(5, .int p_21), (4, .int v_2), (0, .ref (a h0)), (3, .int x2)] := hl2
    replace hP := hP2
    replace hD := hD2
    replace hS := hS2
    clear hl2 hP2 hD2 hS2 hl0
    replace hf := fn_X18_enter_L71_s hf
    refine lv_iload hx hb dX18_enter_71 (lv_at hl 0 rfl) ?_
    refine lv_iload_n hx hb dX18_enter_73 rfl (lv_at hl 3 rfl) ?_
    refine lv_icmp_ge (tgt := 133) hx hb dX18_enter_74 (by decide) (fun c_24 => ?_) (fun c_24 => ?_)
    · skip
      rw [if_pos c_24] at hf
      refine lv_aload_n hx hb dX18_enter_133 rfl (lv_at hl 2 rfl) ?_
      refine lv_dup hx hb dX18_enter_134 rfl ?_
      refine va_get (D := (dC, dI)) (ci := 18) (v := .int (z_22.1 h0 45)) (C := RX18) (T := TX18) (N := 78) hx hb hts iwd_X18_enter_X18 hown hK hP h0 (Wd_ob kg_1 sg_1 (by decide)) rfl 45 (by decide) (hts _ md_X18_enter_7) (fun _ h9 => h9) (fl_at (t := 0) rfl) dX18_enter_135 ?_
      refine lv_iload_n hx hb dX18_enter_138 rfl (lv_at hl 3 rfl) ?_
      refine lv_isub hx hb dX18_enter_139 ?_
      refine va_put (D := (dC, dI)) (ci := 18) (v := .int ((z_22.1 h0 45) - x2)) (ty := .int) (C := RX18) (T := TX18) (N := 78) hx hb hts iwd_X18_enter_X18 tyX18 tyX18_ok nmX18 hown hK hP hD hS h0 (Wd_ob kg_1 sg_1 (by decide)) rfl 45 (by decide) (hts _ md_X18_enter_7) (fun _ h9 => h9) rfl (by decide +kernel) rfl rfl (by rw [fl_len]; decide) dX18_enter_140 (fun H_25 locs hP2 hD2 hS2 => ?_)
      rw [Wd_si sg_1 (by decide) rfl] at hP2 hD2
      obtain ⟨z_26, ez_26⟩ : ∃ w, w = si z_22 h0 45 ((z_22.1 h0 45) - x2) := ⟨_, rfl⟩
      rw [← ez_26] at hP2 hD2
      replace hf := lt_at ez_26 hf
      clear ez_26
      replace hP := hP2
      replace hD := hD2
      replace hS := hS2
      clear hP2 hD2 hS2
      refine lv_aload_n hx hb dX18_enter_143 rfl (lv_at hl 2 rfl) ?_
      obtain ⟨k_27, ek_27, hf⟩ := lnk_some hf
      refine va_get (D := (dC, dI)) (ci := 18) (v := .ref (a k_27)) (C := RX18) (T := TX18) (N := 78) hx hb hts iwd_X18_enter_X18 hown hK hP h0 (Wd_ob kg_1 sg_1 (by decide)) rfl 40 (by decide) (hts _ md_X18_enter_10) (fun _ h9 => h9) (fl_q rfl ek_27) dX18_enter_144 ?_
      refine lv_iload hx hb dX18_enter_147 (lv_at hl 1 rfl) ?_
      refine lv_aload_n hx hb dX18_enter_149 rfl (lv_at hl 2 rfl) ?_
      refine va_get (D := (dC, dI)) (ci := 18) (v := .int (z_26.1 h0 45)) (C := RX18) (T := TX18) (N := 78) hx hb hts iwd_X18_enter_X18 hown hK hP h0 (Wd_ob kg_1 sg_1 (by decide)) rfl 45 (by decide) (hts _ md_X18_enter_7) (fun _ h9 => h9) (fl_at (t := 0) rfl) dX18_enter_150 ?_
      obtain ⟨g_28, hf⟩ := grd_some hf
      obtain ⟨kg_28, sg_28, ig_28⟩ := okA_at g_28
      refine va_iast hx hb hK hP hD hS k_27 1 (Wd_ai kg_28 sg_28) rfl ig_28 dX18_enter_153 (fun H_29 locs hP2 hD2 hS2 => ?_)
      rw [Wd_ti sg_28] at hP2 hD2
      obtain ⟨z_30, ez_30⟩ : ∃ w, w = si z_26 k_27 v_2.toNatClampNeg (z_26.1 h0 45) := ⟨_, rfl⟩
      rw [← ez_30] at hP2 hD2
      replace hf := lt_at ez_30 hf
      clear ez_30
      replace hP := hP2
      replace hD := hD2
      replace hS := hS2
      clear hP2 hD2 hS2
      obtain ⟨h8, h9⟩ := ret_some hf
      rw [h8]
      exact W.vret hx hb hr (fun t ht hW => ⟨⟨(), rfl, trivial, by rw [ht]; exact hP, va_K.moved hW.alike hK, hD⟩, hS.F ht⟩) hS.2.2 dX18_enter_154
    · skip
      rw [if_neg c_24] at hf
      refine lv_aload_n hx hb dX18_enter_77 rfl (lv_at hl 2 rfl) ?_
      obtain ⟨k_31, ek_31, hf⟩ := lnk_some hf
      refine va_get (D := (dC, dI)) (ci := 18) (v := .ref (a k_31)) (C := RX18) (T := TX18) (N := 78) hx hb hts iwd_X18_enter_X18 hown hK hP h0 (Wd_ob kg_1 sg_1 (by decide)) rfl 41 (by decide) (hts _ md_X18_enter_5) (fun _ h9 => h9) (fl_q rfl ek_31) dX18_enter_78 ?_
      refine lv_aload_n hx hb dX18_enter_81 rfl (lv_at hl 2 rfl) ?_
      refine lv_iload hx hb dX18_enter_82 (lv_at hl 0 rfl) ?_
      obtain ⟨z_32, r_33, hfc, hf⟩ := cal_some hf
      have hFc := de_free hD hS hA
      refine va_calli (va_runV (As := [.int p_21]) (rest := [.ref (a k_31)]) ⟨hx, hb, hml, hown, hts⟩ (de_X18_local l dC dI cy a sh n H.size F z_22 h0 p_21 hfc) (cwV 1 hts gX18_enter_X18_local rfl rfl rfl (by decide +kernel) ⟨Nat.le_of_ble_eq_true rfl, Nat.le_of_ble_eq_true rfl⟩) ⟨fun a U g mk q => by obtain ⟨q0, q1, qP, qK, qD, qN⟩ := q; exact ⟨q0, q1, qP, va_K.moved (u := U) (U := U.calling g mk a) (Vm.Alike.refl U.vm) qK, qD, qN.same rfl⟩, va_recv hK hP (ci := 18) (q0 := h0) rfl (Wd_ob kg_1 sg_1 (by decide)), fun U hU hW => ⟨rfl, by rw [hU], by rw [hU]; exact hP, va_K.moved hW.alike hK, hD.weaken (fun _ _ _ _ => trivial), hN.warm hW⟩⟩ rfl rfl hl.1 rfl (lv_room (Nat.le_of_ble_eq_true rfl)) dX18_enter_84 ⟨Nat.le_of_ble_eq_true rfl, Nat.le_of_ble_eq_true rfl⟩) hS (fun q _ h => hFc q h) hFc (fun rr u t H_34 locs ht hvm hw hB hz1 hk1 hS2 => ?_)
      rw [hw]
      clear hw
      obtain ⟨hP1, -, hD1⟩ := hB
      rw [ht] at hP1
      replace hD := hD1.weaken (fun _ _ _ h => hFc _ h)
      replace hP := hP1
      replace hS := hS2
      clear hP1 hD1 hS2 hFc hfc hz1 hk1 hvm ht
      refine lv_aload_n hx hb dX18_enter_87 rfl (lv_at hl 2 rfl) ?_
      obtain ⟨k_35, ek_35, hf⟩ := lnk_some hf
      refine va_get (D := (dC, dI)) (ci := 18) (v := .ref (a k_35)) (C := RX18) (T := TX18) (N := 78) hx hb hts iwd_X18_enter_X18 hown hK hP h0 (Wd_ob kg_1 sg_1 (by decide)) rfl 43 (by decide) (hts _ md_X18_enter_6) (fun _ h9 => h9) (fl_q rfl ek_35) dX18_enter_88 ?_
      refine lv_aload_n hx hb dX18_enter_91 rfl (lv_at hl 2 rfl) ?_
      refine va_get (D := (dC, dI)) (ci := 18) (v := .int (z_32.1 h0 45)) (C := RX18) (T := TX18) (N := 78) hx hb hts iwd_X18_enter_X18 hown hK hP h0 (Wd_ob kg_1 sg_1 (by decide)) rfl 45 (by decide) (hts _ md_X18_enter_7) (fun _ h9 => h9) (fl_at (t := 0) rfl) dX18_enter_92 ?_
      refine lv_iload_n hx hb dX18_enter_95 rfl (lv_at hl 3 rfl) ?_
      refine lv_isub hx hb dX18_enter_96 ?_
      refine lv_iload hx hb dX18_enter_97 (lv_at hl 0 rfl) ?_
      refine lv_iadd hx hb dX18_enter_99 ?_
      obtain ⟨g_36, hf⟩ := grd_some hf
      obtain ⟨kg_36, sg_36, ig_36⟩ := okA_at g_36
      refine va_iald hx hb hK hP k_35 1 (Wd_ai kg_36 sg_36) rfl ig_36 dX18_enter_100 ?_
      obtain ⟨g_37, hf⟩ := grd_some hf
      obtain ⟨kg_37, sg_37, ig_37⟩ := okA_at g_37
      refine va_iast hx hb hK hP hD hS k_31 1 (Wd_ai kg_37 sg_37) rfl ig_37 dX18_enter_101 (fun H_38 locs hP2 hD2 hS2 => ?_)
      rw [Wd_ti sg_37] at hP2 hD2
      obtain ⟨z_39, ez_39⟩ : ∃ w, w = si z_32 k_31 r_33.toNatClampNeg (z_32.1 k_35 (((z_32.1 h0 45) - x2) + p_21).toNatClampNeg) := ⟨_, rfl⟩
      rw [← ez_39] at hP2 hD2
      replace hf := lt_at ez_39 hf
      clear ez_39
      replace hP := hP2
      replace hD := hD2
      replace hS := hS2
      clear hP2 hD2 hS2
      refine lv_aload_n hx hb dX18_enter_102 rfl (lv_at hl 2 rfl) ?_
      obtain ⟨k_40, ek_40, hf⟩ := lnk_some hf
      refine va_get (D := (dC, dI)) (ci := 18) (v := .ref (a k_40)) (C := RX18) (T := TX18) (N := 78) hx hb hts iwd_X18_enter_X18 hown hK hP h0 (Wd_ob kg_1 sg_1 (by decide)) rfl 42 (by decide) (hts _ md_X18_enter_8) (fun _ h9 => h9) (fl_q rfl ek_40) dX18_enter_103 ?_
      refine lv_aload_n hx hb dX18_enter_106 rfl (lv_at hl 2 rfl) ?_
      refine lv_iload hx hb dX18_enter_107 (lv_at hl 0 rfl) ?_
      obtain ⟨z_41, r_42, hfc, hf⟩ := cal_some hf
      have hFc := de_free hD hS hA
      refine va_calli (va_runV (As := [.int p_21]) (rest := [.ref (a k_40)]) ⟨hx, hb, hml, hown, hts⟩ (de_X18_local l dC dI cy a sh n H_38.size F z_39 h0 p_21 hfc) (cwV 1 hts gX18_enter_X18_local rfl rfl rfl (by decide +kernel) ⟨Nat.le_of_ble_eq_true rfl, Nat.le_of_ble_eq_true rfl⟩) ⟨fun a U g mk q => by obtain ⟨q0, q1, qP, qK, qD, qN⟩ := q; exact ⟨q0, q1, qP, va_K.moved (u := U) (U := U.calling g mk a) (Vm.Alike.refl U.vm) qK, qD, qN.same rfl⟩, va_recv hK hP (ci := 18) (q0 := h0) rfl (Wd_ob kg_1 sg_1 (by decide)), fun U hU hW => ⟨rfl, by rw [hU], by rw [hU]; exact hP, va_K.moved hW.alike hK, hD.weaken (fun _ _ _ _ => trivial), hN.warm hW⟩⟩ rfl rfl hl.1 rfl (lv_room (Nat.le_of_ble_eq_true rfl)) dX18_enter_109 ⟨Nat.le_of_ble_eq_true rfl, Nat.le_of_ble_eq_true rfl⟩) hS (fun q _ h => hFc q h) hFc (fun rr u t H_43 locs ht hvm hw hB hz1 hk1 hS2 => ?_)
      rw [hw]
      clear hw
      obtain ⟨hP1, -, hD1⟩ := hB
      rw [ht] at hP1
      replace hD := hD1.weaken (fun _ _ _ h => hFc _ h)
      replace hP := hP1
      replace hS := hS2
      clear hP1 hD1 hS2 hFc hfc hz1 hk1 hvm ht
      refine lv_aload_n hx hb dX18_enter_112 rfl (lv_at hl 2 rfl) ?_
      obtain ⟨k_44, ek_44, hf⟩ := lnk_some hf
      refine va_get (D := (dC, dI)) (ci := 18) (v := .ref (a k_44)) (C := RX18) (T := TX18) (N := 78) hx hb hts iwd_X18_enter_X18 hown hK hP h0 (Wd_ob kg_1 sg_1 (by decide)) rfl 44 (by decide) (hts _ md_X18_enter_9) (fun _ h9 => h9) (fl_q rfl ek_44) dX18_enter_113 ?_
      refine lv_aload_n hx hb dX18_enter_116 rfl (lv_at hl 2 rfl) ?_
      refine va_get (D := (dC, dI)) (ci := 18) (v := .int (z_41.1 h0 45)) (C := RX18) (T := TX18) (N := 78) hx hb hts iwd_X18_enter_X18 hown hK hP h0 (Wd_ob kg_1 sg_1 (by decide)) rfl 45 (by decide) (hts _ md_X18_enter_7) (fun _ h9 => h9) (fl_at (t := 0) rfl) dX18_enter_117 ?_
      refine lv_iload_n hx hb dX18_enter_120 rfl (lv_at hl 3 rfl) ?_
      refine lv_isub hx hb dX18_enter_121 ?_
      refine lv_iload hx hb dX18_enter_122 (lv_at hl 0 rfl) ?_
      refine lv_iadd hx hb dX18_enter_124 ?_
      obtain ⟨g_45, hf⟩ := grd_some hf
      obtain ⟨kg_45, sg_45, ig_45⟩ := okA_at g_45
      refine va_zald hx hb hK hP k_44 3 (Wd_az kg_45 sg_45) rfl ig_45 dX18_enter_125 ?_
      obtain ⟨g_46, hf⟩ := grd_some hf
      obtain ⟨kg_46, sg_46, ig_46⟩ := okA_at g_46
      refine va_zast hx hb hK hP hD hS k_40 3 (Wd_az kg_46 sg_46) rfl ig_46 dX18_enter_126 (fun H_47 locs hP2 hD2 hS2 => ?_)
      rw [Wd_tz sg_46] at hP2 hD2
      obtain ⟨z_48, ez_48⟩ : ∃ w, w = si z_41 k_40 r_42.toNatClampNeg (vp_nar .boolean (z_41.1 k_44 (((z_41.1 h0 45) - x2) + p_21).toNatClampNeg)) := ⟨_, rfl⟩
      rw [← ez_48] at hP2 hD2
      replace hf := lt_at ez_48 hf
      clear ez_48
      replace hP := hP2
      replace hD := hD2
      replace hS := hS2
      clear hP2 hD2 hS2
      refine lv_iinc (v := (p_21 + 1)) (lv' := [(5, .int (p_21 + 1)), (4, .int v_2), (0, .ref (a h0)), (3, .int x2)]) hx hb dX18_enter_127 hl (k := 0) rfl rfl (by decide) rfl (fun ls hl2 => ?_)
      replace hl := hl2
      clear hl2
      refine lv_goto (tgt := 71) hx hb dX18_enter_130 (by decide) ?_
      exact ih71 (z_48, (p_21 + 1)) ls H_47 locs ⟨lv_sub hl [0, 1, 2, 3] rfl, hP, hD, hS⟩ hf
  · skip
    rw [if_neg c_20] at hf
    refine lv_aload_n hx hb dX18_enter_50 rfl (lv_at hl 2 rfl) ?_
    obtain ⟨k_49, ek_49, hf⟩ := lnk_some hf
    refine va_get (D := (dC, dI)) (ci := 18) (v := .ref (a k_49)) (C := RX18) (T := TX18) (N := 78) hx hb hts iwd_X18_enter_X18 hown hK hP h0 (Wd_ob kg_1 sg_1 (by decide)) rfl 41 (by decide) (hts _ md_X18_enter_5) (fun _ h9 => h9) (fl_q rfl ek_49) dX18_enter_51 ?_
    refine lv_aload_n hx hb dX18_enter_54 rfl (lv_at hl 2 rfl) ?_
    refine lv_iload hx hb dX18_enter_55 (lv_at hl 0 rfl) ?_
    obtain ⟨z_50, r_51, hfc, hf⟩ := cal_some hf
    have hFc := de_free hD hS hA
    refine va_calli (va_runV (As := [.int p_17]) (rest := [.ref (a k_49)]) ⟨hx, hb, hml, hown, hts⟩ (de_X18_local l dC dI cy a sh n H.size F z_18 h0 p_17 hfc) (cwV 1 hts gX18_enter_X18_local rfl rfl rfl (by decide +kernel) ⟨Nat.le_of_ble_eq_true rfl, Nat.le_of_ble_eq_true rfl⟩) ⟨fun a U g mk q => by obtain ⟨q0, q1, qP, qK, qD, qN⟩ := q; exact ⟨q0, q1, qP, va_K.moved (u := U) (U := U.calling g mk a) (Vm.Alike.refl U.vm) qK, qD, qN.same rfl⟩, va_recv hK hP (ci := 18) (q0 := h0) rfl (Wd_ob kg_1 sg_1 (by decide)), fun U hU hW => ⟨rfl, by rw [hU], by rw [hU]; exact hP, va_K.moved hW.alike hK, hD.weaken (fun _ _ _ _ => trivial), hN.warm hW⟩⟩ rfl rfl hl.1 rfl (lv_room (Nat.le_of_ble_eq_true rfl)) dX18_enter_57 ⟨Nat.le_of_ble_eq_true rfl, Nat.le_of_ble_eq_true rfl⟩) hS (fun q _ h => hFc q h) hFc (fun rr u t H_52 locs ht hvm hw hB hz1 hk1 hS2 => ?_)
    rw [hw]
    clear hw
    obtain ⟨hP1, -, hD1⟩ := hB
    rw [ht] at hP1
    replace hD := hD1.weaken (fun _ _ _ h => hFc _ h)
    replace hP := hP1
    replace hS := hS2
    clear hP1 hD1 hS2 hFc hfc hz1 hk1 hvm ht
    refine lv_iconst (v := (-1)) hx hb dX18_enter_60 (by decide) ?_
    obtain ⟨g_53, hf⟩ := grd_some hf
    obtain ⟨kg_53, sg_53, ig_53⟩ := okA_at g_53
    refine va_iast hx hb hK hP hD hS k_49 1 (Wd_ai kg_53 sg_53) rfl ig_53 dX18_enter_61 (fun H_54 locs hP2 hD2 hS2 => ?_)
    rw [Wd_ti sg_53] at hP2 hD2
    obtain ⟨z_55, ez_55⟩ : ∃ w, w = si z_50 k_49 r_51.toNatClampNeg (-1) := ⟨_, rfl⟩
    rw [← ez_55] at hP2 hD2
    replace hf := lt_at ez_55 hf
    clear ez_55
    replace hP := hP2
    replace hD := hD2
    replace hS := hS2
    clear hP2 hD2 hS2
    refine lv_iinc (v := (p_17 + 1)) (lv' := [(5, .int (p_17 + 1)), (4, .int v_2), (0, .ref (a h0)), (3, .int x2)]) hx hb dX18_enter_62 hl (k := 0) rfl rfl (by decide) rfl (fun ls hl2 => ?_)
    replace hl := hl2
    clear hl2
    refine lv_goto (tgt := 43) hx hb dX18_enter_65 (by decide) ?_
    exact ih43 (z_55, (p_17 + 1)) ls H_54 locs ⟨lv_sub hl [0, 1, 2, 3] rfl, hP, hD, hS⟩ hf

theorem md_X10_multiply_1 : (.fieldLink RX10 17 "ResourceLedger$Wide" "high" "J" : Cond) ∈ wsX10_multiply := List.mem_of_getElem? (i := 1) rfl
theorem iwd_X10_multiply_X10 : ∀ w ∈ wsX100, w ∈ wsX10_multiply := fun _ h => List.mem_cons_of_mem _ (List.mem_append_right _ h)
theorem md_X10_multiply_2 : (.fieldLink RX10 21 "ResourceLedger$Wide" "low" "J" : Cond) ∈ wsX10_multiply := List.mem_of_getElem? (i := 2) rfl
theorem md_X10_multiply_3 : (.fieldLink RX10 24 "ResourceLedger$Wide" "beyond" "Z" : Cond) ∈ wsX10_multiply := List.mem_of_getElem? (i := 3) rfl
set_option maxHeartbeats 4000000 in
set_option maxRecDepth 100000 in
theorem de_X10_multiply (l : Launch) (dC : Nat → ClassId) (dI : Nat → Nat → Nat) (cy : Nat → ClassId) (a : Nat → Nat) (sh : Nat → Nat × Nat) (n sz : Nat) (F : Nat) (z : St) (h0 : Nat) (x0 : Int64) (x1 : Int64) {z8 : St} {r8 : Unit} (hf : fn_X10_multiply F sh n z h0 x0 x1 = some (z8, r8)) : Met l yX10_multiply wsX10_multiply ({ frames := 1, cells := 0, slots := 0, locals := 37 }) (va_Pc [.ref (a h0), .long x0, .long x1] (fun U => U.heap.size = sz ∧ va_P (dC, dI) vwCl (Wd cy a sh n z) U.heap ∧ va_K (dC, dI) vwCl (TYS cy) U ∧ va_D (fun _ => True) (Wd cy a sh n z) ∧ NK U)) (va_Qv (fun u : Unit => True) (fun u t => va_P (dC, dI) vwCl (Wd cy a sh n z8) t.heap ∧ va_K (dC, dI) vwCl (TYS cy) t ∧ va_D (va_A (Wd cy a sh n z) sz) (Wd cy a sh n z8)) (va_A (Wd cy a sh n z) sz)) 0 0 (va_A (Wd cy a sh n z) sz) := by
  refine Met.ofW (cc := cX10_multiply) (maxL := 14) (ret := none) (by decide) rfl ?_
  intro p e s m args below meth c s₁ B hml hv
  obtain ⟨rfl, hsz, hP, hK, hD0, hN⟩ := hv
  have hx := B.exec
  have hb := B.bytes
  have hr := B.returns
  have hts := atoms_spec (ws := wsX10_multiply) B.pre
  have hown : s.vm.findClass RX10 = some m.cls := findClass_of_methodNamed B.named
  have hlocks := B.notSynchronized
  subst hsz
  have hD := hD0.self (sz := s.heap.size)
  clear hD0
  generalize hAe : va_A (Wd cy a sh n z) s.heap.size = A at hD ⊢
  have hA : ∀ q : Nat, s.heap.size ≤ q → A q := fun q h => by rw [← hAe]; exact Or.inr h
  clear hAe
  have hS : va_S A s.heap s.heap [] := va_S.rf
  have hl := lv_entry ([.ref (a h0), .long x0, .long x1]) (n := 14) (Nat.le_of_ble_eq_true rfl)
  rw [lg_entry_eq]
  generalize (lg_sl ([.ref (a h0), .long x0, .long x1]) ++ List.replicate (14 - (lg_sl ([.ref (a h0), .long x0, .long x1])).length) Slot.unset).toArray = ls at hl ⊢
  replace hl : lv_has ls 14 [(0, .ref (a h0)), (1, .long x0), (3, .long x1)] := hl
  unfold fn_X10_multiply at hf
  refine de_start hS hP (fun H locs hS hP => ?_)
  refine lv_aload_n hx hb dX10_multiply_0 rfl (lv_at hl 0 rfl) ?_
  obtain ⟨g_1, hf⟩ := grd_some hf
  obtain ⟨kg_1, sg_1⟩ := okO_at g_1
  refine va_get (D := (dC, dI)) (ci := 10) (v := .long (z.2.1 h0 0)) (C := RX10) (T := TX10) (N := 5) hx hb hts iwd_X10_multiply_X10 hown hK hP h0 (Wd_ob kg_1 sg_1 (by decide)) rfl 0 (by decide) (hts _ md_X10_multiply_1) (fun _ h9 => h9) (fl_at (t := 1) rfl) dX10_multiply_1 ?_
  refine lv_lconst (v := 0) hx hb dX10_multiply_4 (by decide) ?_
  refine W.lcmp hx hb dX10_multiply_5 ?_
  refine de_cut (h := 20) (fun (x : St × Int32) => [.int x.2]) (fun x ls H locs => lv_has ls 14 [(0, .ref (a h0)), (1, .long x0), (3, .long x1)] ∧ va_P (dC, dI) vwCl (Wd cy a sh n x.1) H ∧ va_D A (Wd cy a sh n x.1) ∧ va_S A s.heap H locs) (fun x => fn_X10_multiply_B20 F sh n h0 x0 x1 x.1 x.2) (z8, r8) ?_ (fun B20 => ?_)
  · intro x ls H locs hI hf
    obtain ⟨z_3, p_2⟩ := x
    obtain ⟨hl2, hP2, hD2, hS2⟩ := hI
    replace hl : lv_has ls 14 [(0, .ref (a h0)), (1, .long x0), (3, .long x1)] := hl2
    replace hP := hP2
    replace hD := hD2
    replace hS := hS2
    clear hl2 hP2 hD2 hS2
    replace hf := fn_X10_multiply_B20_s hf
    refine W.eq (g2 := F0 m 20 ls [.int p_2]) rfl ?_
    refine lv_istore (lv' := [(5, .int p_2), (0, .ref (a h0)), (1, .long x0), (3, .long x1)]) hx hb dX10_multiply_20 hl (by decide) rfl (fun ls hl2 => ?_)
    replace hl := hl2
    clear hl2
    refine lv_aload_n hx hb dX10_multiply_22 rfl (lv_at hl 1 rfl) ?_
    refine va_get (D := (dC, dI)) (ci := 10) (v := .long (z_3.2.1 h0 0)) (C := RX10) (T := TX10) (N := 5) hx hb hts iwd_X10_multiply_X10 hown hK hP h0 (Wd_ob kg_1 sg_1 (by decide)) rfl 0 (by decide) (hts _ md_X10_multiply_1) (fun _ h9 => h9) (fl_at (t := 1) rfl) dX10_multiply_23 ?_
    refine lv_topl (fun v_4 ev_4 => ?_)
    replace hf := lt_at ev_4 hf
    clear ev_4
    refine lv_lstore (lv' := [(6, .long v_4), (5, .int p_2), (0, .ref (a h0)), (1, .long x0), (3, .long x1)]) hx hb dX10_multiply_26 hl (by decide) rfl (fun ls hl2 => ?_)
    replace hl := hl2
    clear hl2
    refine lv_aload_n hx hb dX10_multiply_28 rfl (lv_at hl 2 rfl) ?_
    refine va_get (D := (dC, dI)) (ci := 10) (v := .long (z_3.2.1 h0 1)) (C := RX10) (T := TX10) (N := 5) hx hb hts iwd_X10_multiply_X10 hown hK hP h0 (Wd_ob kg_1 sg_1 (by decide)) rfl 1 (by decide) (hts _ md_X10_multiply_2) (fun _ h9 => h9) (fl_at (t := 1) rfl) dX10_multiply_29 ?_
    refine lv_topl (fun v_5 ev_5 => ?_)
    replace hf := lt_at ev_5 hf
    clear ev_5
    refine lv_lstore (lv' := [(8, .long v_5), (6, .long v_4), (5, .int p_2), (0, .ref (a h0)), (1, .long x0), (3, .long x1)]) hx hb dX10_multiply_32 hl (by decide) rfl (fun ls hl2 => ?_)
    replace hl := hl2
    clear hl2
    refine lv_lconst (v := 0) hx hb dX10_multiply_34 (by decide) ?_
    refine lv_lstore (lv' := [(10, .long 0), (8, .long v_5), (6, .long v_4), (5, .int p_2), (0, .ref (a h0)), (1, .long x0), (3, .long x1)]) hx hb dX10_multiply_35 hl (by decide) rfl (fun ls hl2 => ?_)
    replace hl := hl2
    clear hl2
    refine lv_lload hx hb dX10_multiply_37 (lv_at hl 2 rfl) ?_
    refine lv_lconst (v := 0) hx hb dX10_multiply_39 (by decide) ?_
    refine W.lcmp hx hb dX10_multiply_40 ?_
    refine de_cut (h := 111) (fun (x : St × Int32 × Int64) => []) (fun x ls H locs => lv_has ls 14 [(5, .int x.2.1), (10, .long x.2.2), (8, .long v_5), (0, .ref (a h0)), (3, .long x1)] ∧ va_P (dC, dI) vwCl (Wd cy a sh n x.1) H ∧ va_D A (Wd cy a sh n x.1) ∧ va_S A s.heap H locs) (fun x => fn_X10_multiply_B111 F sh n v_5 x1 h0 x.1 x.2.1 x.2.2) (z8, r8) ?_ (fun B111 => ?_)
    · intro x ls H locs hI hf
      obtain ⟨z_8, p_6, p_7⟩ := x
      obtain ⟨hl2, hP2, hD2, hS2⟩ := hI
      replace hl : lv_has ls 14 [(5, .int p_6), (10, .long p_7), (8, .long v_5), (0, .ref (a h0)), (3, .long x1)] := hl2
      replace hP := hP2
      replace hD := hD2
      replace hS := hS2
      clear hl2 hP2 hD2 hS2
      replace hf := fn_X10_multiply_B111_s hf
      refine W.eq (g2 := F0 m 111 ls []) rfl ?_
      refine lv_lload hx hb dX10_multiply_111 (lv_at hl 2 rfl) ?_
      refine lv_lload_n hx hb dX10_multiply_113 rfl (lv_at hl 4 rfl) ?_
      obtain ⟨z_9, r_10, hfc, hf⟩ := cal_some hf
      have hFc := de_free hD hS hA
      refine va_calll (va_runS (As := [.long v_5, .long x1]) (rest := []) ⟨hx, hb, hml, hown, hts⟩ (de_X10_upperProduct l dC dI cy a sh n H.size F z_8 v_5 x1 hfc) (va_cwS 2 hts gX10_multiply_X10_upperProduct rfl rfl rfl (by decide +kernel) ⟨Nat.le_of_ble_eq_true rfl, Nat.le_of_ble_eq_true rfl⟩) ⟨fun a U g mk q => by obtain ⟨q0, q1, qP, qK, qD, qN⟩ := q; exact ⟨q0, q1, qP, va_K.moved (u := U) (U := U.calling g mk a) (Vm.Alike.refl U.vm) qK, qD, qN.same rfl⟩, fun U hU hW => ⟨rfl, by rw [hU], by rw [hU]; exact hP, va_K.moved hW.alike hK, hD.weaken (fun _ _ _ _ => trivial), hN.warm hW⟩⟩ rfl rfl hl.1 rfl (lv_room (Nat.le_of_ble_eq_true rfl)) dX10_multiply_114 ⟨Nat.le_of_ble_eq_true rfl, Nat.le_of_ble_eq_true rfl⟩) hS (fun q _ h => hFc q h) hFc (fun rr u t H_11 locs ht hvm hw hB hz1 hk1 hS2 => ?_)
      rw [hw]
      clear hw
      obtain ⟨hP1, -, hD1⟩ := hB
      rw [ht] at hP1
      replace hD := hD1.weaken (fun _ _ _ h => hFc _ h)
      replace hP := hP1
      replace hS := hS2
      clear hP1 hD1 hS2 hFc hfc hz1 hk1 hvm ht
      refine lv_lstore (lv' := [(12, .long r_10), (5, .int p_6), (10, .long p_7), (8, .long v_5), (0, .ref (a h0)), (3, .long x1)]) hx hb dX10_multiply_117 hl (by decide) rfl (fun ls hl2 => ?_)
      replace hl := hl2
      clear hl2
      refine lv_aload_n hx hb dX10_multiply_119 rfl (lv_at hl 4 rfl) ?_
      refine lv_lload hx hb dX10_multiply_120 (lv_at hl 3 rfl) ?_
      refine lv_lload_n hx hb dX10_multiply_122 rfl (lv_at hl 5 rfl) ?_
      refine lv_lmul hx hb dX10_multiply_123 ?_
      refine va_put (D := (dC, dI)) (ci := 10) (v := .long (v_5 * x1)) (ty := .long) (C := RX10) (T := TX10) (N := 5) hx hb hts iwd_X10_multiply_X10 tyX10 tyX10_ok nmX10 hown hK hP hD hS h0 (Wd_ob kg_1 sg_1 (by decide)) rfl 1 (by decide) (hts _ md_X10_multiply_2) (fun _ h9 => h9) rfl (by decide +kernel) rfl rfl (by rw [fl_len]; decide) dX10_multiply_124 (fun H_12 locs hP2 hD2 hS2 => ?_)
      rw [Wd_sl sg_1 (by decide) rfl] at hP2 hD2
      obtain ⟨z_13, ez_13⟩ : ∃ w, w = sl z_9 h0 1 (v_5 * x1) := ⟨_, rfl⟩
      rw [← ez_13] at hP2 hD2
      replace hf := lt_at ez_13 hf
      clear ez_13
      replace hP := hP2
      replace hD := hD2
      replace hS := hS2
      clear hP2 hD2 hS2
      refine lv_aload_n hx hb dX10_multiply_127 rfl (lv_at hl 4 rfl) ?_
      refine lv_lload hx hb dX10_multiply_128 (lv_at hl 0 rfl) ?_
      refine lv_lload hx hb dX10_multiply_130 (lv_at hl 2 rfl) ?_
      refine lv_ladd hx hb dX10_multiply_132 ?_
      refine va_put (D := (dC, dI)) (ci := 10) (v := .long (r_10 + p_7)) (ty := .long) (C := RX10) (T := TX10) (N := 5) hx hb hts iwd_X10_multiply_X10 tyX10 tyX10_ok nmX10 hown hK hP hD hS h0 (Wd_ob kg_1 sg_1 (by decide)) rfl 0 (by decide) (hts _ md_X10_multiply_1) (fun _ h9 => h9) rfl (by decide +kernel) rfl rfl (by rw [fl_len]; decide) dX10_multiply_133 (fun H_14 locs hP2 hD2 hS2 => ?_)
      rw [Wd_sl sg_1 (by decide) rfl] at hP2 hD2
      obtain ⟨z_15, ez_15⟩ : ∃ w, w = sl z_13 h0 0 (r_10 + p_7) := ⟨_, rfl⟩
      rw [← ez_15] at hP2 hD2
      replace hf := lt_at ez_15 hf
      clear ez_15
      replace hP := hP2
      replace hD := hD2
      replace hS := hS2
      clear hP2 hD2 hS2
      refine lv_aload_n hx hb dX10_multiply_136 rfl (lv_at hl 4 rfl) ?_
      refine lv_iload hx hb dX10_multiply_137 (lv_at hl 1 rfl) ?_
      refine lv_if_ne (tgt := 154) hx hb dX10_multiply_139 (by decide) (fun c_16 => ?_) (fun c_16 => ?_)
      · skip
        rw [if_neg c_16] at hf
        refine lv_iconst (v := 1) hx hb dX10_multiply_154 (by decide) ?_
        refine lv_goto (tgt := 159) hx hb dX10_multiply_155 (by decide) ?_
        refine va_put (D := (dC, dI)) (ci := 10) (v := .int 1) (ty := .boolean) (C := RX10) (T := TX10) (N := 5) hx hb hts iwd_X10_multiply_X10 tyX10 tyX10_ok nmX10 hown hK hP hD hS h0 (Wd_ob kg_1 sg_1 (by decide)) rfl 2 (by decide) (hts _ md_X10_multiply_3) (fun _ h9 => h9) rfl (by decide +kernel) rfl rfl (by rw [fl_len]; decide) dX10_multiply_159 (fun H_17 locs hP2 hD2 hS2 => ?_)
        rw [Wd_si sg_1 (by decide) rfl] at hP2 hD2
        obtain ⟨z_18, ez_18⟩ : ∃ w, w = si z_15 h0 2 1 := ⟨_, rfl⟩
        rw [← ez_18] at hP2 hD2
        replace hf := lt_at ez_18 hf
        clear ez_18
        replace hP := hP2
        replace hD := hD2
        replace hS := hS2
        clear hP2 hD2 hS2
        obtain ⟨h8, h9⟩ := ret_some hf
        rw [h8]
        exact W.vret hx hb hr (fun t ht hW => ⟨⟨(), rfl, trivial, by rw [ht]; exact hP, va_K.moved hW.alike hK, hD⟩, hS.F ht⟩) hS.2.2 dX10_multiply_162
      · skip
        rw [if_pos c_16] at hf
        refine lv_aload_n hx hb dX10_multiply_142 rfl (lv_at hl 4 rfl) ?_
        refine va_get (D := (dC, dI)) (ci := 10) (v := .long (z_15.2.1 h0 0)) (C := RX10) (T := TX10) (N := 5) hx hb hts iwd_X10_multiply_X10 hown hK hP h0 (Wd_ob kg_1 sg_1 (by decide)) rfl 0 (by decide) (hts _ md_X10_multiply_1) (fun _ h9 => h9) (fl_at (t := 1) rfl) dX10_multiply_143 ?_
        refine lv_lload hx hb dX10_multiply_146 (lv_at hl 2 rfl) ?_
        obtain ⟨z_19, r_20, hfc, hf⟩ := cal_some hf
        have hFc := de_free hD hS hA
        refine va_calli (va_runS (As := [.long (z_15.2.1 h0 0), .long p_7]) (rest := [.ref (a h0)]) ⟨hx, hb, hml, hown, hts⟩ (de_X10_below l dC dI cy a sh n H_14.size F z_15 (z_15.2.1 h0 0) p_7 hfc) (va_cwS 2 hts gX10_multiply_X10_below rfl rfl rfl (by decide +kernel) ⟨Nat.le_of_ble_eq_true rfl, Nat.le_of_ble_eq_true rfl⟩) ⟨fun a U g mk q => by obtain ⟨q0, q1, qP, qK, qD, qN⟩ := q; exact ⟨q0, q1, qP, va_K.moved (u := U) (U := U.calling g mk a) (Vm.Alike.refl U.vm) qK, qD, qN.same rfl⟩, fun U hU hW => ⟨rfl, by rw [hU], by rw [hU]; exact hP, va_K.moved hW.alike hK, hD.weaken (fun _ _ _ _ => trivial), hN.warm hW⟩⟩ rfl rfl hl.1 rfl (lv_room (Nat.le_of_ble_eq_true rfl)) dX10_multiply_148 ⟨Nat.le_of_ble_eq_true rfl, Nat.le_of_ble_eq_true rfl⟩) hS (fun q _ h => hFc q h) hFc (fun rr u t H_21 locs ht hvm hw hB hz1 hk1 hS2 => ?_)
        rw [hw]
        clear hw
        obtain ⟨hP1, -, hD1⟩ := hB
        rw [ht] at hP1
        replace hD := hD1.weaken (fun _ _ _ h => hFc _ h)
        replace hP := hP1
        replace hS := hS2
        clear hP1 hD1 hS2 hFc hfc hz1 hk1 hvm ht
        refine lv_if_eq (tgt := 158) hx hb dX10_multiply_151 (by decide) (fun c_22 => ?_) (fun c_22 => ?_)
        · skip
          rw [if_pos c_22] at hf
          refine lv_iconst (v := 0) hx hb dX10_multiply_158 (by decide) ?_
          refine va_put (D := (dC, dI)) (ci := 10) (v := .int 0) (ty := .boolean) (C := RX10) (T := TX10) (N := 5) hx hb hts iwd_X10_multiply_X10 tyX10 tyX10_ok nmX10 hown hK hP hD hS h0 (Wd_ob kg_1 sg_1 (by decide)) rfl 2 (by decide) (hts _ md_X10_multiply_3) (fun _ h9 => h9) rfl (by decide +kernel) rfl rfl (by rw [fl_len]; decide) dX10_multiply_159 (fun H_23 locs hP2 hD2 hS2 => ?_)
          rw [Wd_si sg_1 (by decide) rfl] at hP2 hD2
          obtain ⟨z_24, ez_24⟩ : ∃ w, w = si z_19 h0 2 0 := ⟨_, rfl⟩
          rw [← ez_24] at hP2 hD2
          replace hf := lt_at ez_24 hf
          clear ez_24
          replace hP := hP2
          replace hD := hD2
          replace hS := hS2
          clear hP2 hD2 hS2
          obtain ⟨h8, h9⟩ := ret_some hf
          rw [h8]
          exact W.vret hx hb hr (fun t ht hW => ⟨⟨(), rfl, trivial, by rw [ht]; exact hP, va_K.moved hW.alike hK, hD⟩, hS.F ht⟩) hS.2.2 dX10_multiply_162
        · skip
          rw [if_neg c_22] at hf
          refine lv_iconst (v := 1) hx hb dX10_multiply_154 (by decide) ?_
          refine lv_goto (tgt := 159) hx hb dX10_multiply_155 (by decide) ?_
          refine va_put (D := (dC, dI)) (ci := 10) (v := .int 1) (ty := .boolean) (C := RX10) (T := TX10) (N := 5) hx hb hts iwd_X10_multiply_X10 tyX10 tyX10_ok nmX10 hown hK hP hD hS h0 (Wd_ob kg_1 sg_1 (by decide)) rfl 2 (by decide) (hts _ md_X10_multiply_3) (fun _ h9 => h9) rfl (by decide +kernel) rfl rfl (by rw [fl_len]; decide) dX10_multiply_159 (fun H_25 locs hP2 hD2 hS2 => ?_)
          rw [Wd_si sg_1 (by decide) rfl] at hP2 hD2
          obtain ⟨z_26, ez_26⟩ : ∃ w, w = si z_19 h0 2 1 := ⟨_, rfl⟩
          rw [← ez_26] at hP2 hD2
          replace hf := lt_at ez_26 hf
          clear ez_26
          replace hP := hP2
          replace hD := hD2
          replace hS := hS2
          clear hP2 hD2 hS2
          obtain ⟨h8, h9⟩ := ret_some hf
          rw [h8]
          exact W.vret hx hb hr (fun t ht hW => ⟨⟨(), rfl, trivial, by rw [ht]; exact hP, va_K.moved hW.alike hK, hD⟩, hS.F ht⟩) hS.2.2 dX10_multiply_162
    refine lv_if_eq (tgt := 76) hx hb dX10_multiply_41 (by decide) (fun c_27 => ?_) (fun c_27 => ?_)
    · skip
      rw [lg_cmp_eq] at c_27
      rw [if_pos c_27] at hf
      refine lv_lload_n hx hb dX10_multiply_76 rfl (lv_at hl 5 rfl) ?_
      refine lv_lconst (v := 0) hx hb dX10_multiply_77 (by decide) ?_
      refine W.lcmp hx hb dX10_multiply_78 ?_
      refine lv_if_eq (tgt := 111) hx hb dX10_multiply_79 (by decide) (fun c_28 => ?_) (fun c_28 => ?_)
      · skip
        rw [lg_cmp_eq] at c_28
        rw [if_pos c_28] at hf
        exact B111 (z_3, p_2, 0) ls H locs ⟨lv_sub hl [3, 0, 1, 4, 6] rfl, hP, hD, hS⟩ hf
      · skip
        rw [lg_cmp_eq] at c_28
        rw [if_neg c_28] at hf
        refine lv_iload hx hb dX10_multiply_82 (lv_at hl 3 rfl) ?_
        refine de_cut (h := 103) (fun (x : St × Int32) => [.int x.2]) (fun x ls H locs => lv_has ls 14 [(8, .long v_5), (0, .ref (a h0)), (1, .long x0), (3, .long x1)] ∧ va_P (dC, dI) vwCl (Wd cy a sh n x.1) H ∧ va_D A (Wd cy a sh n x.1) ∧ va_S A s.heap H locs) (fun x => fn_X10_multiply_B103 F sh n v_5 x0 x1 h0 x.1 x.2) (z8, r8) ?_ (fun B103 => ?_)
        · intro x ls H locs hI hf
          obtain ⟨z_30, p_29⟩ := x
          obtain ⟨hl2, hP2, hD2, hS2⟩ := hI
          replace hl : lv_has ls 14 [(8, .long v_5), (0, .ref (a h0)), (1, .long x0), (3, .long x1)] := hl2
          replace hP := hP2
          replace hD := hD2
          replace hS := hS2
          clear hl2 hP2 hD2 hS2
          replace hf := fn_X10_multiply_B103_s hf
          refine W.eq (g2 := F0 m 103 ls [.int p_29]) rfl ?_
          refine lv_istore (lv' := [(5, .int p_29), (8, .long v_5), (0, .ref (a h0)), (1, .long x0), (3, .long x1)]) hx hb dX10_multiply_103 hl (by decide) rfl (fun ls hl2 => ?_)
          replace hl := hl2
          clear hl2
          refine lv_lload hx hb dX10_multiply_105 (lv_at hl 1 rfl) ?_
          refine lv_lload_n hx hb dX10_multiply_107 rfl (lv_at hl 3 rfl) ?_
          refine lv_lmul hx hb dX10_multiply_108 ?_
          refine lv_topl (fun v_31 ev_31 => ?_)
          replace hf := lt_at ev_31 hf
          clear ev_31
          refine lv_lstore (lv' := [(10, .long v_31), (5, .int p_29), (8, .long v_5), (0, .ref (a h0)), (1, .long x0), (3, .long x1)]) hx hb dX10_multiply_109 hl (by decide) rfl (fun ls hl2 => ?_)
          replace hl := hl2
          clear hl2
          exact B111 (z_30, p_29, v_31) ls H locs ⟨lv_sub hl [1, 0, 2, 3, 5] rfl, hP, hD, hS⟩ hf
        refine de_cut (h := 98) (fun (x : St) => []) (fun x ls H locs => lv_has ls 14 [(8, .long v_5), (0, .ref (a h0)), (1, .long x0), (3, .long x1)] ∧ va_P (dC, dI) vwCl (Wd cy a sh n x) H ∧ va_D A (Wd cy a sh n x) ∧ va_S A s.heap H locs) (fun x => fn_X10_multiply_B98 F sh n v_5 x0 x1 h0 x) (z8, r8) ?_ (fun B98 => ?_)
        · intro x ls H locs hI hf
          obtain ⟨z_32, ez⟩ : ∃ w, w = x := ⟨_, rfl⟩
          subst ez
          obtain ⟨hl2, hP2, hD2, hS2⟩ := hI
          replace hl : lv_has ls 14 [(8, .long v_5), (0, .ref (a h0)), (1, .long x0), (3, .long x1)] := hl2
          replace hP := hP2
          replace hD := hD2
          replace hS := hS2
          clear hl2 hP2 hD2 hS2
          replace hf := fn_X10_multiply_B98_s hf
          refine W.eq (g2 := F0 m 98 ls []) rfl ?_
          refine lv_iconst (v := 1) hx hb dX10_multiply_98 (by decide) ?_
          refine lv_goto (tgt := 103) hx hb dX10_multiply_99 (by decide) ?_
          exact B103 (z_32, 1) ls H locs ⟨lv_sub hl [0, 1, 2, 3] rfl, hP, hD, hS⟩ hf
        refine lv_if_ne (tgt := 98) hx hb dX10_multiply_84 (by decide) (fun c_33 => ?_) (fun c_33 => ?_)
        · skip
          rw [if_neg c_33] at hf
          exact B98 (z_3) ls H locs ⟨lv_sub hl [1, 4, 5, 6] rfl, hP, hD, hS⟩ hf
        · skip
          rw [if_pos c_33] at hf
          refine lv_lload hx hb dX10_multiply_87 (lv_at hl 1 rfl) ?_
          refine lv_lload_n hx hb dX10_multiply_89 rfl (lv_at hl 5 rfl) ?_
          obtain ⟨z_34, r_35, hfc, hf⟩ := cal_some hf
          have hFc := de_free hD hS hA
          refine va_calll (va_runS (As := [.long v_5, .long x0]) (rest := []) ⟨hx, hb, hml, hown, hts⟩ (de_X10_upperProduct l dC dI cy a sh n H.size F z_3 v_5 x0 hfc) (va_cwS 2 hts gX10_multiply_X10_upperProduct rfl rfl rfl (by decide +kernel) ⟨Nat.le_of_ble_eq_true rfl, Nat.le_of_ble_eq_true rfl⟩) ⟨fun a U g mk q => by obtain ⟨q0, q1, qP, qK, qD, qN⟩ := q; exact ⟨q0, q1, qP, va_K.moved (u := U) (U := U.calling g mk a) (Vm.Alike.refl U.vm) qK, qD, qN.same rfl⟩, fun U hU hW => ⟨rfl, by rw [hU], by rw [hU]; exact hP, va_K.moved hW.alike hK, hD.weaken (fun _ _ _ _ => trivial), hN.warm hW⟩⟩ rfl rfl hl.1 rfl (lv_room (Nat.le_of_ble_eq_true rfl)) dX10_multiply_90 ⟨Nat.le_of_ble_eq_true rfl, Nat.le_of_ble_eq_true rfl⟩) hS (fun q _ h => hFc q h) hFc (fun rr u t H_36 locs ht hvm hw hB hz1 hk1 hS2 => ?_)
          rw [hw]
          clear hw
          obtain ⟨hP1, -, hD1⟩ := hB
          rw [ht] at hP1
          replace hD := hD1.weaken (fun _ _ _ h => hFc _ h)
          replace hP := hP1
          replace hS := hS2
          clear hP1 hD1 hS2 hFc hfc hz1 hk1 hvm ht
          refine lv_lconst (v := 0) hx hb dX10_multiply_93 (by decide) ?_
          refine W.lcmp hx hb dX10_multiply_94 ?_
          refine lv_if_eq (tgt := 102) hx hb dX10_multiply_95 (by decide) (fun c_37 => ?_) (fun c_37 => ?_)
          · skip
            rw [lg_cmp_eq] at c_37
            rw [if_pos c_37] at hf
            refine lv_iconst (v := 0) hx hb dX10_multiply_102 (by decide) ?_
            exact B103 (z_34, 0) ls H_36 locs ⟨lv_sub hl [1, 4, 5, 6] rfl, hP, hD, hS⟩ hf
          · skip
            rw [lg_cmp_eq] at c_37
            rw [if_neg c_37] at hf
            exact B98 (z_34) ls H_36 locs ⟨lv_sub hl [1, 4, 5, 6] rfl, hP, hD, hS⟩ hf
    · skip
      rw [lg_cmp_eq] at c_27
      rw [if_neg c_27] at hf
      refine lv_iload hx hb dX10_multiply_44 (lv_at hl 3 rfl) ?_
      refine de_cut (h := 65) (fun (x : St × Int32) => [.int x.2]) (fun x ls H locs => lv_has ls 14 [(8, .long v_5), (6, .long v_4), (0, .ref (a h0)), (3, .long x1)] ∧ va_P (dC, dI) vwCl (Wd cy a sh n x.1) H ∧ va_D A (Wd cy a sh n x.1) ∧ va_S A s.heap H locs) (fun x => fn_X10_multiply_B65 F sh n v_4 x1 v_5 h0 x.1 x.2) (z8, r8) ?_ (fun B65 => ?_)
      · intro x ls H locs hI hf
        obtain ⟨z_39, p_38⟩ := x
        obtain ⟨hl2, hP2, hD2, hS2⟩ := hI
        replace hl : lv_has ls 14 [(8, .long v_5), (6, .long v_4), (0, .ref (a h0)), (3, .long x1)] := hl2
        replace hP := hP2
        replace hD := hD2
        replace hS := hS2
        clear hl2 hP2 hD2 hS2
        replace hf := fn_X10_multiply_B65_s hf
        refine W.eq (g2 := F0 m 65 ls [.int p_38]) rfl ?_
        refine lv_istore (lv' := [(5, .int p_38), (8, .long v_5), (6, .long v_4), (0, .ref (a h0)), (3, .long x1)]) hx hb dX10_multiply_65 hl (by decide) rfl (fun ls hl2 => ?_)
        replace hl := hl2
        clear hl2
        refine lv_lload hx hb dX10_multiply_67 (lv_at hl 2 rfl) ?_
        refine lv_lload_n hx hb dX10_multiply_69 rfl (lv_at hl 4 rfl) ?_
        refine lv_lmul hx hb dX10_multiply_70 ?_
        refine lv_topl (fun v_40 ev_40 => ?_)
        replace hf := lt_at ev_40 hf
        clear ev_40
        refine lv_lstore (lv' := [(10, .long v_40), (5, .int p_38), (8, .long v_5), (6, .long v_4), (0, .ref (a h0)), (3, .long x1)]) hx hb dX10_multiply_71 hl (by decide) rfl (fun ls hl2 => ?_)
        replace hl := hl2
        clear hl2
        refine lv_goto (tgt := 111) hx hb dX10_multiply_73 (by decide) ?_
        exact B111 (z_39, p_38, v_40) ls H locs ⟨lv_sub hl [1, 0, 2, 4, 5] rfl, hP, hD, hS⟩ hf
      refine de_cut (h := 60) (fun (x : St) => []) (fun x ls H locs => lv_has ls 14 [(8, .long v_5), (6, .long v_4), (0, .ref (a h0)), (3, .long x1)] ∧ va_P (dC, dI) vwCl (Wd cy a sh n x) H ∧ va_D A (Wd cy a sh n x) ∧ va_S A s.heap H locs) (fun x => fn_X10_multiply_B60 F sh n v_4 x1 v_5 h0 x) (z8, r8) ?_ (fun B60 => ?_)
      · intro x ls H locs hI hf
        obtain ⟨z_41, ez⟩ : ∃ w, w = x := ⟨_, rfl⟩
        subst ez
        obtain ⟨hl2, hP2, hD2, hS2⟩ := hI
        replace hl : lv_has ls 14 [(8, .long v_5), (6, .long v_4), (0, .ref (a h0)), (3, .long x1)] := hl2
        replace hP := hP2
        replace hD := hD2
        replace hS := hS2
        clear hl2 hP2 hD2 hS2
        replace hf := fn_X10_multiply_B60_s hf
        refine W.eq (g2 := F0 m 60 ls []) rfl ?_
        refine lv_iconst (v := 1) hx hb dX10_multiply_60 (by decide) ?_
        refine lv_goto (tgt := 65) hx hb dX10_multiply_61 (by decide) ?_
        exact B65 (z_41, 1) ls H locs ⟨lv_sub hl [0, 1, 2, 3] rfl, hP, hD, hS⟩ hf
      refine lv_if_ne (tgt := 60) hx hb dX10_multiply_46 (by decide) (fun c_42 => ?_) (fun c_42 => ?_)
      · skip
        rw [if_neg c_42] at hf
        exact B60 (z_3) ls H locs ⟨lv_sub hl [1, 2, 4, 6] rfl, hP, hD, hS⟩ hf
      · skip
        rw [if_pos c_42] at hf
        refine lv_lload hx hb dX10_multiply_49 (lv_at hl 2 rfl) ?_
        refine lv_lload_n hx hb dX10_multiply_51 rfl (lv_at hl 6 rfl) ?_
        obtain ⟨z_43, r_44, hfc, hf⟩ := cal_some hf
        have hFc := de_free hD hS hA
        refine va_calll (va_runS (As := [.long v_4, .long x1]) (rest := []) ⟨hx, hb, hml, hown, hts⟩ (de_X10_upperProduct l dC dI cy a sh n H.size F z_3 v_4 x1 hfc) (va_cwS 2 hts gX10_multiply_X10_upperProduct rfl rfl rfl (by decide +kernel) ⟨Nat.le_of_ble_eq_true rfl, Nat.le_of_ble_eq_true rfl⟩) ⟨fun a U g mk q => by obtain ⟨q0, q1, qP, qK, qD, qN⟩ := q; exact ⟨q0, q1, qP, va_K.moved (u := U) (U := U.calling g mk a) (Vm.Alike.refl U.vm) qK, qD, qN.same rfl⟩, fun U hU hW => ⟨rfl, by rw [hU], by rw [hU]; exact hP, va_K.moved hW.alike hK, hD.weaken (fun _ _ _ _ => trivial), hN.warm hW⟩⟩ rfl rfl hl.1 rfl (lv_room (Nat.le_of_ble_eq_true rfl)) dX10_multiply_52 ⟨Nat.le_of_ble_eq_true rfl, Nat.le_of_ble_eq_true rfl⟩) hS (fun q _ h => hFc q h) hFc (fun rr u t H_45 locs ht hvm hw hB hz1 hk1 hS2 => ?_)
        rw [hw]
        clear hw
        obtain ⟨hP1, -, hD1⟩ := hB
        rw [ht] at hP1
        replace hD := hD1.weaken (fun _ _ _ h => hFc _ h)
        replace hP := hP1
        replace hS := hS2
        clear hP1 hD1 hS2 hFc hfc hz1 hk1 hvm ht
        refine lv_lconst (v := 0) hx hb dX10_multiply_55 (by decide) ?_
        refine W.lcmp hx hb dX10_multiply_56 ?_
        refine lv_if_eq (tgt := 64) hx hb dX10_multiply_57 (by decide) (fun c_46 => ?_) (fun c_46 => ?_)
        · skip
          rw [lg_cmp_eq] at c_46
          rw [if_pos c_46] at hf
          refine lv_iconst (v := 0) hx hb dX10_multiply_64 (by decide) ?_
          exact B65 (z_43, 0) ls H_45 locs ⟨lv_sub hl [1, 2, 4, 6] rfl, hP, hD, hS⟩ hf
        · skip
          rw [lg_cmp_eq] at c_46
          rw [if_neg c_46] at hf
          exact B60 (z_43) ls H_45 locs ⟨lv_sub hl [1, 2, 4, 6] rfl, hP, hD, hS⟩ hf
  refine de_cut (h := 19) (fun (x : St) => []) (fun x ls H locs => lv_has ls 14 [(0, .ref (a h0)), (1, .long x0), (3, .long x1)] ∧ va_P (dC, dI) vwCl (Wd cy a sh n x) H ∧ va_D A (Wd cy a sh n x) ∧ va_S A s.heap H locs) (fun x => fn_X10_multiply_B19 F sh n h0 x0 x1 x) (z8, r8) ?_ (fun B19 => ?_)
  · intro x ls H locs hI hf
    obtain ⟨z_47, ez⟩ : ∃ w, w = x := ⟨_, rfl⟩
    subst ez
    obtain ⟨hl2, hP2, hD2, hS2⟩ := hI
    replace hl : lv_has ls 14 [(0, .ref (a h0)), (1, .long x0), (3, .long x1)] := hl2
    replace hP := hP2
    replace hD := hD2
    replace hS := hS2
    clear hl2 hP2 hD2 hS2
    replace hf := fn_X10_multiply_B19_s hf
    refine W.eq (g2 := F0 m 19 ls []) rfl ?_
    refine lv_iconst (v := 0) hx hb dX10_multiply_19 (by decide) ?_
    exact B20 (z_47, 0) ls H locs ⟨lv_sub hl [0, 1, 2] rfl, hP, hD, hS⟩ hf
  refine lv_if_eq (tgt := 19) hx hb dX10_multiply_6 (by decide) (fun c_48 => ?_) (fun c_48 => ?_)
  · skip
    rw [lg_cmp_eq] at c_48
    rw [if_pos c_48] at hf
    exact B19 (z) ls H locs ⟨lv_sub hl [0, 1, 2] rfl, hP, hD, hS⟩ hf
  · skip
    rw [lg_cmp_eq] at c_48
    rw [if_neg c_48] at hf
    refine lv_lload_n hx hb dX10_multiply_9 rfl (lv_at hl 1 rfl) ?_
    refine lv_lconst (v := 0) hx hb dX10_multiply_10 (by decide) ?_
    refine W.lcmp hx hb dX10_multiply_11 ?_
    refine lv_if_eq (tgt := 19) hx hb dX10_multiply_12 (by decide) (fun c_49 => ?_) (fun c_49 => ?_)
    · skip
      rw [lg_cmp_eq] at c_49
      rw [if_pos c_49] at hf
      exact B19 (z) ls H locs ⟨lv_sub hl [0, 1, 2] rfl, hP, hD, hS⟩ hf
    · skip
      rw [lg_cmp_eq] at c_49
      rw [if_neg c_49] at hf
      refine lv_iconst (v := 1) hx hb dX10_multiply_15 (by decide) ?_
      refine lv_goto (tgt := 20) hx hb dX10_multiply_16 (by decide) ?_
      exact B20 (z, 1) ls H locs ⟨lv_sub hl [0, 1, 2] rfl, hP, hD, hS⟩ hf

theorem md_X6_readOneType_1 : (.fieldLink RX6 32 "ResourceLedger$Reader" "at" "I" : Cond) ∈ wsX6_readOneType := List.mem_of_getElem? (i := 1) rfl
theorem iwd_X6_readOneType_X6 : ∀ w ∈ wsX60, w ∈ wsX6_readOneType := fun _ h => List.mem_cons_of_mem _ (List.mem_append_left _ (List.mem_append_right _ h))
theorem md_X6_readOneType_2 : (.fieldLink RX6 28 "ResourceLedger$Reader" "judging" "Z" : Cond) ∈ wsX6_readOneType := List.mem_of_getElem? (i := 2) rfl
theorem md_X6_readOneType_3 : (.fieldLink RX6 17 "ResourceLedger$Reader" "p" "LResourceLedger$Program;" : Cond) ∈ wsX6_readOneType := List.mem_of_getElem? (i := 3) rfl
theorem md_X6_readOneType_4 : (.fieldLink RX6 103 "ResourceLedger$Program" "allStructures" "I" : Cond) ∈ wsX6_readOneType := List.mem_of_getElem? (i := 4) rfl
theorem iwd_X6_readOneType_X5 : ∀ w ∈ wsX50, w ∈ wsX6_readOneType := fun _ h => List.mem_cons_of_mem _ (List.mem_append_right _ h)
set_option maxHeartbeats 4000000 in
set_option maxRecDepth 100000 in
theorem de_X6_readOneType (l : Launch) (dC : Nat → ClassId) (dI : Nat → Nat → Nat) (cy : Nat → ClassId) (a : Nat → Nat) (sh : Nat → Nat × Nat) (n sz : Nat) (F : Nat) (sk : Nat → Nat) (z : St) (h0 : Nat) (x0 : Int32) {z8 : St} {r8 : Int64} (hf : fn_X6_readOneType F sh n z h0 x0 = some (z8, r8)) : Met l yX6_readOneType wsX6_readOneType ({ frames := 1, cells := 0, slots := 0, locals := 22 }) (va_Pc [.ref (a h0), .int x0] (fun U => U.heap.size = sz ∧ va_P (dC, dI) vwCl (Wd cy a sh n z) U.heap ∧ va_K (dC, dI) vwCl (TYS cy) U ∧ va_D (fun _ => True) (Wd cy a sh n z) ∧ NK U ∧ SKs sk (a CBK) (va_A (Wd cy a sh n z) sz) U U.heap)) (va_Ql (fun (r9 : Int64) (u : Unit) => r9 = r8) (fun u t => va_P (dC, dI) vwCl (Wd cy a sh n z8) t.heap ∧ va_K (dC, dI) vwCl (TYS cy) t ∧ va_D (va_A (Wd cy a sh n z) sz) (Wd cy a sh n z8)) (va_A (Wd cy a sh n z) sz)) 0 0 (va_A (Wd cy a sh n z) sz) := by
  refine Met.ofW (cc := cX6_readOneType) (maxL := 7) (ret := (some .long)) (by decide) rfl ?_
  intro p e s m args below meth c s₁ B hml hv
  obtain ⟨rfl, hsz, hP, hK, hD0, hN, hSK⟩ := hv
  have hx := B.exec
  have hb := B.bytes
  have hr := B.returns
  have hts := atoms_spec (ws := wsX6_readOneType) B.pre
  have hown : s.vm.findClass RX6 = some m.cls := findClass_of_methodNamed B.named
  have hlocks := B.notSynchronized
  subst hsz
  have hD := hD0.self (sz := s.heap.size)
  clear hD0
  generalize hAe : va_A (Wd cy a sh n z) s.heap.size = A at hD hSK ⊢
  have hA : ∀ q : Nat, s.heap.size ≤ q → A q := fun q h => by rw [← hAe]; exact Or.inr h
  clear hAe
  have hS : va_S A s.heap s.heap [] := va_S.rf
  have hl := lv_entry ([.ref (a h0), .int x0]) (n := 7) (Nat.le_of_ble_eq_true rfl)
  rw [lg_entry_eq]
  generalize (lg_sl ([.ref (a h0), .int x0]) ++ List.replicate (7 - (lg_sl ([.ref (a h0), .int x0])).length) Slot.unset).toArray = ls at hl ⊢
  replace hl : lv_has ls 7 [(0, .ref (a h0)), (1, .int x0)] := hl
  unfold fn_X6_readOneType at hf
  refine de_start hS hP (fun H locs hS hP => ?_)
  refine lv_lconst (v := 0) hx hb dX6_readOneType_0 (by decide) ?_
  refine lv_lstore_n (lv' := [(2, .long 0), (0, .ref (a h0)), (1, .int x0)]) hx hb dX6_readOneType_1 rfl hl (by decide) rfl (fun ls hl2 => ?_)
  replace hl := hl2
  clear hl2
  refine lv_aload_n hx hb dX6_readOneType_2 rfl (lv_at hl 1 rfl) ?_
  obtain ⟨g_1, hf⟩ := grd_some hf
  obtain ⟨kg_1, sg_1⟩ := okO_at g_1
  refine va_get (D := (dC, dI)) (ci := 6) (v := .int (z.1 h0 3)) (C := RX6) (T := TX6) (N := 9) hx hb hts iwd_X6_readOneType_X6 hown hK hP h0 (Wd_ob kg_1 sg_1 (by decide)) rfl 3 (by decide) (hts _ md_X6_readOneType_1) (fun _ h9 => h9) (fl_at (t := 0) rfl) dX6_readOneType_3 ?_
  refine lv_topi (fun v_2 ev_2 => ?_)
  replace hf := lt_at ev_2 hf
  clear ev_2
  refine lv_istore (lv' := [(4, .int v_2), (2, .long 0), (0, .ref (a h0)), (1, .int x0)]) hx hb dX6_readOneType_6 hl (by decide) rfl (fun ls hl2 => ?_)
  replace hl := hl2
  clear hl2
  refine lv_aload_n hx hb dX6_readOneType_8 rfl (lv_at hl 2 rfl) ?_
  obtain ⟨z_3, r_4, hfc, hf⟩ := cal_some hf
  have hFc := de_free hD hS hA
  refine va_calli (va_runV (As := []) (rest := []) ⟨hx, hb, hml, hown, hts⟩ (de_X6_readByte l dC dI cy a sh n H.size F sk z h0 hfc) (cwV 0 hts gX6_readOneType_X6_readByte rfl rfl rfl (by decide +kernel) ⟨Nat.le_of_ble_eq_true rfl, Nat.le_of_ble_eq_true rfl⟩) ⟨fun a U g mk q => by obtain ⟨q0, q1, qP, qK, qD, qN, qS⟩ := q; exact ⟨q0, q1, qP, va_K.moved (u := U) (U := U.calling g mk a) (Vm.Alike.refl U.vm) qK, qD, qN.same rfl, SKs.moved (u := U) (U := U.calling g mk a) (Vm.Alike.refl U.vm) qS⟩, va_recv hK hP (ci := 6) (q0 := h0) rfl (Wd_ob kg_1 sg_1 (by decide)), fun U hU hW => ⟨rfl, by rw [hU], by rw [hU]; exact hP, va_K.moved hW.alike hK, hD.weaken (fun _ _ _ _ => trivial), hN.warm hW, by rw [hU]; exact ((hSK.kept hS.2.1).narrow hFc).moved hW.alike⟩⟩ rfl rfl hl.1 rfl (lv_room (Nat.le_of_ble_eq_true rfl)) dX6_readOneType_9 ⟨Nat.le_of_ble_eq_true rfl, Nat.le_of_ble_eq_true rfl⟩) hS (fun q _ h => hFc q h) hFc (fun rr u t H_5 locs ht hvm hw hB hz1 hk1 hS2 => ?_)
  rw [hw]
  clear hw
  obtain ⟨hP1, -, hD1⟩ := hB
  rw [ht] at hP1
  replace hD := hD1.weaken (fun _ _ _ h => hFc _ h)
  replace hP := hP1
  replace hS := hS2
  clear hP1 hD1 hS2 hFc hfc hz1 hk1 hvm ht
  refine lv_istore (lv' := [(5, .int r_4), (4, .int v_2), (2, .long 0), (0, .ref (a h0)), (1, .int x0)]) hx hb dX6_readOneType_12 hl (by decide) rfl (fun ls hl2 => ?_)
  replace hl := hl2
  clear hl2
  refine lv_iload_n hx hb dX6_readOneType_14 rfl (lv_at hl 4 rfl) ?_
  refine de_cut (h := 48) (fun (x : St × Int64 × Int32 × Int32) => []) (fun x ls H locs => lv_has ls 7 [(2, .long x.2.1), (4, .int x.2.2.1), (5, .int x.2.2.2), (0, .ref (a h0))] ∧ va_P (dC, dI) vwCl (Wd cy a sh n x.1) H ∧ va_D A (Wd cy a sh n x.1) ∧ va_S A s.heap H locs) (fun x => fn_X6_readOneType_B48 F sh n h0 x.1 x.2.1 x.2.2.1 x.2.2.2) (z8, r8) ?_ (fun B48 => ?_)
  · intro x ls H locs hI hf
    obtain ⟨z_9, p_6, p_7, p_8⟩ := x
    obtain ⟨hl2, hP2, hD2, hS2⟩ := hI
    replace hl : lv_has ls 7 [(2, .long p_6), (4, .int p_7), (5, .int p_8), (0, .ref (a h0))] := hl2
    replace hP := hP2
    replace hD := hD2
    replace hS := hS2
    clear hl2 hP2 hD2 hS2
    replace hf := fn_X6_readOneType_B48_s hf
    refine W.eq (g2 := F0 m 48 ls []) rfl ?_
    refine lv_iconst (v := 0) hx hb dX6_readOneType_48 (by decide) ?_
    refine lv_istore (lv' := [(6, .int 0), (2, .long p_6), (4, .int p_7), (5, .int p_8), (0, .ref (a h0))]) hx hb dX6_readOneType_49 hl (by decide) rfl (fun ls hl2 => ?_)
    replace hl := hl2
    clear hl2
    have hl0 : lv_has ls 7 [(6, .int 0), (2, .long p_6), (4, .int p_7), (5, .int p_8), (0, .ref (a h0))] := lv_sub hl [0, 1, 2, 3, 4] rfl
    refine de_loop (h := 51) (fun (x : St × Int64 × Int32 × Int32 × Int32) ls H locs => lv_has ls 7 [(6, .int x.2.2.2.2), (2, .long x.2.1), (4, .int x.2.2.1), (5, .int x.2.2.2.1), (0, .ref (a h0))] ∧ va_P (dC, dI) vwCl (Wd cy a sh n x.1) H ∧ va_D A (Wd cy a sh n x.1) ∧ va_S A s.heap H locs) (fun f x => fn_X6_readOneType_L51 F sh n h0 f x.1 x.2.1 x.2.2.1 x.2.2.2.1 x.2.2.2.2) (z8, r8) ?_ (fun _ => rfl) F (z_9, p_6, p_7, p_8, 0) ls H locs ⟨hl0, hP, hD, hS⟩ hf
    intro f_15 x ls H locs ih51 hI hf
    obtain ⟨z_14, p_10, p_11, p_12, p_13⟩ := x
    obtain ⟨hl2, hP2, hD2, hS2⟩ := hI
    replace hl : lv_has ls 7 [(6, .int p_13), (2, .long p_10), (4, .int p_11), (5, .int p_12), (0, .ref (a h0))] := hl2
    replace hP := hP2
    replace hD := hD2
    replace hS := hS2
    clear hl2 hP2 hD2 hS2 hl0
    replace hf := fn_X6_readOneType_L51_s hf
    refine lv_iload hx hb dX6_readOneType_51 (lv_at hl 0 rfl) ?_
    refine lv_iconst (v := 4) hx hb dX6_readOneType_53 (by decide) ?_
    refine de_cut (h := 91) (fun (x : St × Int64 × Int32 × Int32) => []) (fun x ls H locs => lv_has ls 7 [(2, .long x.2.1), (4, .int x.2.2.1), (5, .int x.2.2.2), (0, .ref (a h0))] ∧ va_P (dC, dI) vwCl (Wd cy a sh n x.1) H ∧ va_D A (Wd cy a sh n x.1) ∧ va_S A s.heap H locs) (fun x => fn_X6_readOneType_B91 F sh n h0 x.1 x.2.1 x.2.2.1 x.2.2.2) (z8, r8) ?_ (fun B91 => ?_)
    · intro x ls H locs hI hf
      obtain ⟨z_19, p_16, p_17, p_18⟩ := x
      obtain ⟨hl2, hP2, hD2, hS2⟩ := hI
      replace hl : lv_has ls 7 [(2, .long p_16), (4, .int p_17), (5, .int p_18), (0, .ref (a h0))] := hl2
      replace hP := hP2
      replace hD := hD2
      replace hS := hS2
      clear hl2 hP2 hD2 hS2
      replace hf := fn_X6_readOneType_B91_s hf
      refine W.eq (g2 := F0 m 91 ls []) rfl ?_
      refine lv_iload hx hb dX6_readOneType_91 (lv_at hl 2 rfl) ?_
      refine lv_iconst (v := 1) hx hb dX6_readOneType_93 (by decide) ?_
      refine de_cut (h := 111) (fun (x : St) => []) (fun x ls H locs => lv_has ls 7 [(2, .long p_16), (5, .int p_18), (0, .ref (a h0))] ∧ va_P (dC, dI) vwCl (Wd cy a sh n x) H ∧ va_D A (Wd cy a sh n x) ∧ va_S A s.heap H locs) (fun x => fn_X6_readOneType_B111 F sh n p_16 p_18 h0 x) (z8, r8) ?_ (fun B111 => ?_)
      · intro x ls H locs hI hf
        obtain ⟨z_20, ez⟩ : ∃ w, w = x := ⟨_, rfl⟩
        subst ez
        obtain ⟨hl2, hP2, hD2, hS2⟩ := hI
        replace hl : lv_has ls 7 [(2, .long p_16), (5, .int p_18), (0, .ref (a h0))] := hl2
        replace hP := hP2
        replace hD := hD2
        replace hS := hS2
        clear hl2 hP2 hD2 hS2
        replace hf := fn_X6_readOneType_B111_s hf
        refine W.eq (g2 := F0 m 111 ls []) rfl ?_
        refine lv_lload_n hx hb dX6_readOneType_111 rfl (lv_at hl 0 rfl) ?_
        refine lv_bipush (v := 8) hx hb dX6_readOneType_112 (by decide) ?_
        refine lv_lshl (v := (p_16 <<< ((8 : Int32).toInt64 &&& 63))) hx hb dX6_readOneType_114 rfl ?_
        refine lv_iload hx hb dX6_readOneType_115 (lv_at hl 1 rfl) ?_
        refine lv_i2l (v := (p_18 : Int32).toInt64) hx hb dX6_readOneType_117 rfl ?_
        refine lv_lor hx hb dX6_readOneType_118 ?_
        refine lv_topl (fun v_21 ev_21 => ?_)
        replace hf := lt_at ev_21 hf
        clear ev_21
        refine lv_lstore_n (lv' := [(2, .long v_21), (5, .int p_18), (0, .ref (a h0))]) hx hb dX6_readOneType_119 rfl hl (by decide) rfl (fun ls hl2 => ?_)
        replace hl := hl2
        clear hl2
        refine lv_iload hx hb dX6_readOneType_120 (lv_at hl 1 rfl) ?_
        refine lv_bipush (v := 6) hx hb dX6_readOneType_122 (by decide) ?_
        refine lv_icmp_eq (tgt := 129) hx hb dX6_readOneType_124 (by decide) (fun c_22 => ?_) (fun c_22 => ?_)
        · skip
          rw [if_pos c_22] at hf
          refine lv_aload_n hx hb dX6_readOneType_129 rfl (lv_at hl 2 rfl) ?_
          refine va_get (D := (dC, dI)) (ci := 6) (v := .int (z_20.1 h0 3)) (C := RX6) (T := TX6) (N := 9) hx hb hts iwd_X6_readOneType_X6 hown hK hP h0 (Wd_ob kg_1 sg_1 (by decide)) rfl 3 (by decide) (hts _ md_X6_readOneType_1) (fun _ h9 => h9) (fl_at (t := 0) rfl) dX6_readOneType_130 ?_
          refine lv_topi (fun v_23 ev_23 => ?_)
          replace hf := lt_at ev_23 hf
          clear ev_23
          refine lv_istore (lv' := [(4, .int v_23), (2, .long v_21), (5, .int p_18), (0, .ref (a h0))]) hx hb dX6_readOneType_133 hl (by decide) rfl (fun ls hl2 => ?_)
          replace hl := hl2
          clear hl2
          refine lv_aload_n hx hb dX6_readOneType_135 rfl (lv_at hl 3 rfl) ?_
          obtain ⟨z_24, r_25, hfc, hf⟩ := cal_some hf
          have hFc := de_free hD hS hA
          refine va_calli (va_runV (As := []) (rest := []) ⟨hx, hb, hml, hown, hts⟩ (de_X6_readByte l dC dI cy a sh n H.size F sk z_20 h0 hfc) (cwV 0 hts gX6_readOneType_X6_readByte rfl rfl rfl (by decide +kernel) ⟨Nat.le_of_ble_eq_true rfl, Nat.le_of_ble_eq_true rfl⟩) ⟨fun a U g mk q => by obtain ⟨q0, q1, qP, qK, qD, qN, qS⟩ := q; exact ⟨q0, q1, qP, va_K.moved (u := U) (U := U.calling g mk a) (Vm.Alike.refl U.vm) qK, qD, qN.same rfl, SKs.moved (u := U) (U := U.calling g mk a) (Vm.Alike.refl U.vm) qS⟩, va_recv hK hP (ci := 6) (q0 := h0) rfl (Wd_ob kg_1 sg_1 (by decide)), fun U hU hW => ⟨rfl, by rw [hU], by rw [hU]; exact hP, va_K.moved hW.alike hK, hD.weaken (fun _ _ _ _ => trivial), hN.warm hW, by rw [hU]; exact ((hSK.kept hS.2.1).narrow hFc).moved hW.alike⟩⟩ rfl rfl hl.1 rfl (lv_room (Nat.le_of_ble_eq_true rfl)) dX6_readOneType_136 ⟨Nat.le_of_ble_eq_true rfl, Nat.le_of_ble_eq_true rfl⟩) hS (fun q _ h => hFc q h) hFc (fun rr u t H_26 locs ht hvm hw hB hz1 hk1 hS2 => ?_)
          rw [hw]
          clear hw
          obtain ⟨hP1, -, hD1⟩ := hB
          rw [ht] at hP1
          replace hD := hD1.weaken (fun _ _ _ h => hFc _ h)
          replace hP := hP1
          replace hS := hS2
          clear hP1 hD1 hS2 hFc hfc hz1 hk1 hvm ht
          refine lv_istore (lv' := [(6, .int r_25), (4, .int v_23), (2, .long v_21), (5, .int p_18), (0, .ref (a h0))]) hx hb dX6_readOneType_139 hl (by decide) rfl (fun ls hl2 => ?_)
          replace hl := hl2
          clear hl2
          refine lv_aload_n hx hb dX6_readOneType_141 rfl (lv_at hl 4 rfl) ?_
          refine va_get (D := (dC, dI)) (ci := 6) (v := .int (z_24.1 h0 4)) (C := RX6) (T := TX6) (N := 9) hx hb hts iwd_X6_readOneType_X6 hown hK hP h0 (Wd_ob kg_1 sg_1 (by decide)) rfl 4 (by decide) (hts _ md_X6_readOneType_2) (fun _ h9 => h9) (fl_at (t := 0) rfl) dX6_readOneType_142 ?_
          refine lv_if_eq (tgt := 168) hx hb dX6_readOneType_145 (by decide) (fun c_27 => ?_) (fun c_27 => ?_)
          · skip
            rw [if_pos c_27] at hf
            refine lv_lload_n hx hb dX6_readOneType_168 rfl (lv_at hl 2 rfl) ?_
            refine lv_bipush (v := 8) hx hb dX6_readOneType_169 (by decide) ?_
            refine lv_lshl (v := (v_21 <<< ((8 : Int32).toInt64 &&& 63))) hx hb dX6_readOneType_171 rfl ?_
            refine lv_iload hx hb dX6_readOneType_172 (lv_at hl 0 rfl) ?_
            refine lv_i2l (v := (r_25 : Int32).toInt64) hx hb dX6_readOneType_174 rfl ?_
            refine lv_lor hx hb dX6_readOneType_175 ?_
            obtain ⟨h8, h9⟩ := ret_some hf
            rw [h8, h9]
            exact W.lret (v := (((v_21 <<< ((8 : Int32).toInt64 &&& 63))) ||| ((r_25 : Int32).toInt64))) hx hb hr (fun t ht hW => ⟨⟨(((v_21 <<< ((8 : Int32).toInt64 &&& 63))) ||| ((r_25 : Int32).toInt64)), (), rfl, rfl, by rw [ht]; exact hP, va_K.moved hW.alike hK, hD⟩, hS.F ht⟩) hS.2.2 dX6_readOneType_176
          · skip
            rw [if_neg c_27] at hf
            refine lv_iload hx hb dX6_readOneType_148 (lv_at hl 0 rfl) ?_
            refine lv_aload_n hx hb dX6_readOneType_150 rfl (lv_at hl 4 rfl) ?_
            obtain ⟨k_28, ek_28, hf⟩ := lnk_some hf
            refine va_get (D := (dC, dI)) (ci := 6) (v := .ref (a k_28)) (C := RX6) (T := TX6) (N := 9) hx hb hts iwd_X6_readOneType_X6 hown hK hP h0 (Wd_ob kg_1 sg_1 (by decide)) rfl 2 (by decide) (hts _ md_X6_readOneType_3) (fun _ h9 => h9) (fl_q rfl ek_28) dX6_readOneType_151 ?_
            obtain ⟨g_29, hf⟩ := grd_some hf
            obtain ⟨kg_29, sg_29⟩ := okO_at g_29
            refine va_get (D := (dC, dI)) (ci := 5) (v := .int (z_24.1 k_28 9)) (C := RX5) (T := TX5) (N := 15) hx hb hts iwd_X6_readOneType_X5 hown hK hP k_28 (Wd_ob kg_29 sg_29 (by decide)) rfl 9 (by decide) (hts _ md_X6_readOneType_4) (fun _ h9 => h9) (fl_at (t := 0) rfl) dX6_readOneType_154 ?_
            refine lv_icmp_lt (tgt := 168) hx hb dX6_readOneType_157 (by decide) (fun c_30 => ?_) (fun c_30 => ?_)
            · skip
              rw [if_pos c_30] at hf
              refine lv_lload_n hx hb dX6_readOneType_168 rfl (lv_at hl 2 rfl) ?_
              refine lv_bipush (v := 8) hx hb dX6_readOneType_169 (by decide) ?_
              refine lv_lshl (v := (v_21 <<< ((8 : Int32).toInt64 &&& 63))) hx hb dX6_readOneType_171 rfl ?_
              refine lv_iload hx hb dX6_readOneType_172 (lv_at hl 0 rfl) ?_
              refine lv_i2l (v := (r_25 : Int32).toInt64) hx hb dX6_readOneType_174 rfl ?_
              refine lv_lor hx hb dX6_readOneType_175 ?_
              obtain ⟨h8, h9⟩ := ret_some hf
              rw [h8, h9]
              exact W.lret (v := (((v_21 <<< ((8 : Int32).toInt64 &&& 63))) ||| ((r_25 : Int32).toInt64))) hx hb hr (fun t ht hW => ⟨⟨(((v_21 <<< ((8 : Int32).toInt64 &&& 63))) ||| ((r_25 : Int32).toInt64)), (), rfl, rfl, by rw [ht]; exact hP, va_K.moved hW.alike hK, hD⟩, hS.F ht⟩) hS.2.2 dX6_readOneType_176
            · skip
              rw [if_neg c_30] at hf
              refine lv_aload_n hx hb dX6_readOneType_160 rfl (lv_at hl 4 rfl) ?_
              refine lv_bipush (v := 7) hx hb dX6_readOneType_161 (by decide) ?_
              refine lv_iload hx hb dX6_readOneType_163 (lv_at hl 1 rfl) ?_
              obtain ⟨z_31, _u, hfc, hf⟩ := cal_some hf
              have hFc := de_free hD hS hA
              refine va_callv (va_runV (As := [.int 7, .int v_23]) (rest := []) ⟨hx, hb, hml, hown, hts⟩ (de_X6_fail l dC dI cy a sh n H_26.size F z_24 h0 7 v_23 hfc) (cwV 2 hts gX6_readOneType_X6_fail rfl rfl rfl (by decide +kernel) ⟨Nat.le_of_ble_eq_true rfl, Nat.le_of_ble_eq_true rfl⟩) ⟨fun a U g mk q => by obtain ⟨q0, q1, qP, qK, qD, qN⟩ := q; exact ⟨q0, q1, qP, va_K.moved (u := U) (U := U.calling g mk a) (Vm.Alike.refl U.vm) qK, qD, qN.same rfl⟩, va_recv hK hP (ci := 6) (q0 := h0) rfl (Wd_ob kg_1 sg_1 (by decide)), fun U hU hW => ⟨rfl, by rw [hU], by rw [hU]; exact hP, va_K.moved hW.alike hK, hD.weaken (fun _ _ _ _ => trivial), hN.warm hW⟩⟩ rfl rfl hl.1 rfl (lv_room (Nat.le_of_ble_eq_true rfl)) dX6_readOneType_165 ⟨Nat.le_of_ble_eq_true rfl, Nat.le_of_ble_eq_true rfl⟩) hS (fun q _ h => hFc q h) hFc (fun u t H_32 locs ht hvm hw hB hz1 hk1 hS2 => ?_)
              obtain ⟨hP1, -, hD1⟩ := hB
              rw [ht] at hP1
              replace hD := hD1.weaken (fun _ _ _ h => hFc _ h)
              replace hP := hP1
              replace hS := hS2
              clear hP1 hD1 hS2 hFc hfc hz1 hk1 hvm ht
              refine lv_lload_n hx hb dX6_readOneType_168 rfl (lv_at hl 2 rfl) ?_
              refine lv_bipush (v := 8) hx hb dX6_readOneType_169 (by decide) ?_
              refine lv_lshl (v := (v_21 <<< ((8 : Int32).toInt64 &&& 63))) hx hb dX6_readOneType_171 rfl ?_
              refine lv_iload hx hb dX6_readOneType_172 (lv_at hl 0 rfl) ?_
              refine lv_i2l (v := (r_25 : Int32).toInt64) hx hb dX6_readOneType_174 rfl ?_
              refine lv_lor hx hb dX6_readOneType_175 ?_
              obtain ⟨h8, h9⟩ := ret_some hf
              rw [h8, h9]
              exact W.lret (v := (((v_21 <<< ((8 : Int32).toInt64 &&& 63))) ||| ((r_25 : Int32).toInt64))) hx hb hr (fun t ht hW => ⟨⟨(((v_21 <<< ((8 : Int32).toInt64 &&& 63))) ||| ((r_25 : Int32).toInt64)), (), rfl, rfl, by rw [ht]; exact hP, va_K.moved hW.alike hK, hD⟩, hS.F ht⟩) hS.2.2 dX6_readOneType_176
        · skip
          rw [if_neg c_22] at hf
          refine lv_lload_n hx hb dX6_readOneType_127 rfl (lv_at hl 0 rfl) ?_
          obtain ⟨h8, h9⟩ := ret_some hf
          rw [h8, h9]
          exact W.lret (v := v_21) hx hb hr (fun t ht hW => ⟨⟨v_21, (), rfl, rfl, by rw [ht]; exact hP, va_K.moved hW.alike hK, hD⟩, hS.F ht⟩) hS.2.2 dX6_readOneType_128
      refine de_cut (h := 104) (fun (x : St) => []) (fun x ls H locs => lv_has ls 7 [(2, .long p_16), (4, .int p_17), (5, .int p_18), (0, .ref (a h0))] ∧ va_P (dC, dI) vwCl (Wd cy a sh n x) H ∧ va_D A (Wd cy a sh n x) ∧ va_S A s.heap H locs) (fun x => fn_X6_readOneType_B104 F sh n h0 p_17 p_16 p_18 x) (z8, r8) ?_ (fun B104 => ?_)
      · intro x ls H locs hI hf
        obtain ⟨z_33, ez⟩ : ∃ w, w = x := ⟨_, rfl⟩
        subst ez
        obtain ⟨hl2, hP2, hD2, hS2⟩ := hI
        replace hl : lv_has ls 7 [(2, .long p_16), (4, .int p_17), (5, .int p_18), (0, .ref (a h0))] := hl2
        replace hP := hP2
        replace hD := hD2
        replace hS := hS2
        clear hl2 hP2 hD2 hS2
        replace hf := fn_X6_readOneType_B104_s hf
        refine W.eq (g2 := F0 m 104 ls []) rfl ?_
        refine lv_aload_n hx hb dX6_readOneType_104 rfl (lv_at hl 3 rfl) ?_
        refine lv_iconst (v := 4) hx hb dX6_readOneType_105 (by decide) ?_
        refine lv_iload hx hb dX6_readOneType_106 (lv_at hl 1 rfl) ?_
        obtain ⟨z_34, _u, hfc, hf⟩ := cal_some hf
        have hFc := de_free hD hS hA
        refine va_callv (va_runV (As := [.int 4, .int p_17]) (rest := []) ⟨hx, hb, hml, hown, hts⟩ (de_X6_fail l dC dI cy a sh n H.size F z_33 h0 4 p_17 hfc) (cwV 2 hts gX6_readOneType_X6_fail rfl rfl rfl (by decide +kernel) ⟨Nat.le_of_ble_eq_true rfl, Nat.le_of_ble_eq_true rfl⟩) ⟨fun a U g mk q => by obtain ⟨q0, q1, qP, qK, qD, qN⟩ := q; exact ⟨q0, q1, qP, va_K.moved (u := U) (U := U.calling g mk a) (Vm.Alike.refl U.vm) qK, qD, qN.same rfl⟩, va_recv hK hP (ci := 6) (q0 := h0) rfl (Wd_ob kg_1 sg_1 (by decide)), fun U hU hW => ⟨rfl, by rw [hU], by rw [hU]; exact hP, va_K.moved hW.alike hK, hD.weaken (fun _ _ _ _ => trivial), hN.warm hW⟩⟩ rfl rfl hl.1 rfl (lv_room (Nat.le_of_ble_eq_true rfl)) dX6_readOneType_108 ⟨Nat.le_of_ble_eq_true rfl, Nat.le_of_ble_eq_true rfl⟩) hS (fun q _ h => hFc q h) hFc (fun u t H_35 locs ht hvm hw hB hz1 hk1 hS2 => ?_)
        obtain ⟨hP1, -, hD1⟩ := hB
        rw [ht] at hP1
        replace hD := hD1.weaken (fun _ _ _ h => hFc _ h)
        replace hP := hP1
        replace hS := hS2
        clear hP1 hD1 hS2 hFc hfc hz1 hk1 hvm ht
        exact B111 (z_34) ls H_35 locs ⟨lv_sub hl [0, 2, 3] rfl, hP, hD, hS⟩ hf
      refine lv_icmp_lt (tgt := 104) hx hb dX6_readOneType_94 (by decide) (fun c_36 => ?_) (fun c_36 => ?_)
      · skip
        rw [if_pos c_36] at hf
        exact B104 (z_19) ls H locs ⟨lv_sub hl [0, 1, 2, 3] rfl, hP, hD, hS⟩ hf
      · skip
        rw [if_neg c_36] at hf
        refine lv_iload hx hb dX6_readOneType_97 (lv_at hl 2 rfl) ?_
        refine lv_bipush (v := 6) hx hb dX6_readOneType_99 (by decide) ?_
        refine lv_icmp_le (tgt := 111) hx hb dX6_readOneType_101 (by decide) (fun c_37 => ?_) (fun c_37 => ?_)
        · skip
          rw [if_pos c_37] at hf
          exact B111 (z_19) ls H locs ⟨lv_sub hl [0, 2, 3] rfl, hP, hD, hS⟩ hf
        · skip
          rw [if_neg c_37] at hf
          exact B104 (z_19) ls H locs ⟨lv_sub hl [0, 1, 2, 3] rfl, hP, hD, hS⟩ hf
    refine lv_icmp_ge (tgt := 91) hx hb dX6_readOneType_54 (by decide) (fun c_38 => ?_) (fun c_38 => ?_)
    · skip
      rw [if_pos c_38] at hf
      exact B91 (z_14, p_10, p_11, p_12) ls H locs ⟨lv_sub hl [1, 2, 3, 4] rfl, hP, hD, hS⟩ hf
    · skip
      rw [if_neg c_38] at hf
      refine lv_iload hx hb dX6_readOneType_57 (lv_at hl 3 rfl) ?_
      refine lv_bipush (v := 7) hx hb dX6_readOneType_59 (by decide) ?_
      refine lv_icmp_ne (tgt := 91) hx hb dX6_readOneType_61 (by decide) (fun c_39 => ?_) (fun c_39 => ?_)
      · skip
        rw [if_neg c_39] at hf
        exact B91 (z_14, p_10, p_11, p_12) ls H locs ⟨lv_sub hl [1, 2, 3, 4] rfl, hP, hD, hS⟩ hf
      · skip
        rw [if_pos c_39] at hf
        refine lv_lload_n hx hb dX6_readOneType_64 rfl (lv_at hl 1 rfl) ?_
        refine lv_bipush (v := 8) hx hb dX6_readOneType_65 (by decide) ?_
        refine lv_lshl (v := (p_10 <<< ((8 : Int32).toInt64 &&& 63))) hx hb dX6_readOneType_67 rfl ?_
        refine lv_iload hx hb dX6_readOneType_68 (lv_at hl 3 rfl) ?_
        refine lv_i2l (v := (p_12 : Int32).toInt64) hx hb dX6_readOneType_70 rfl ?_
        refine lv_lor hx hb dX6_readOneType_71 ?_
        refine lv_topl (fun v_40 ev_40 => ?_)
        replace hf := lt_at ev_40 hf
        clear ev_40
        refine lv_lstore_n (lv' := [(2, .long v_40), (6, .int p_13), (4, .int p_11), (5, .int p_12), (0, .ref (a h0))]) hx hb dX6_readOneType_72 rfl hl (by decide) rfl (fun ls hl2 => ?_)
        replace hl := hl2
        clear hl2
        refine lv_aload_n hx hb dX6_readOneType_73 rfl (lv_at hl 4 rfl) ?_
        refine va_get (D := (dC, dI)) (ci := 6) (v := .int (z_14.1 h0 3)) (C := RX6) (T := TX6) (N := 9) hx hb hts iwd_X6_readOneType_X6 hown hK hP h0 (Wd_ob kg_1 sg_1 (by decide)) rfl 3 (by decide) (hts _ md_X6_readOneType_1) (fun _ h9 => h9) (fl_at (t := 0) rfl) dX6_readOneType_74 ?_
        refine lv_topi (fun v_41 ev_41 => ?_)
        replace hf := lt_at ev_41 hf
        clear ev_41
        refine lv_istore (lv' := [(4, .int v_41), (2, .long v_40), (6, .int p_13), (5, .int p_12), (0, .ref (a h0))]) hx hb dX6_readOneType_77 hl (by decide) rfl (fun ls hl2 => ?_)
        replace hl := hl2
        clear hl2
        refine lv_aload_n hx hb dX6_readOneType_79 rfl (lv_at hl 4 rfl) ?_
        obtain ⟨z_42, r_43, hfc, hf⟩ := cal_some hf
        have hFc := de_free hD hS hA
        refine va_calli (va_runV (As := []) (rest := []) ⟨hx, hb, hml, hown, hts⟩ (de_X6_readByte l dC dI cy a sh n H.size F sk z_14 h0 hfc) (cwV 0 hts gX6_readOneType_X6_readByte rfl rfl rfl (by decide +kernel) ⟨Nat.le_of_ble_eq_true rfl, Nat.le_of_ble_eq_true rfl⟩) ⟨fun a U g mk q => by obtain ⟨q0, q1, qP, qK, qD, qN, qS⟩ := q; exact ⟨q0, q1, qP, va_K.moved (u := U) (U := U.calling g mk a) (Vm.Alike.refl U.vm) qK, qD, qN.same rfl, SKs.moved (u := U) (U := U.calling g mk a) (Vm.Alike.refl U.vm) qS⟩, va_recv hK hP (ci := 6) (q0 := h0) rfl (Wd_ob kg_1 sg_1 (by decide)), fun U hU hW => ⟨rfl, by rw [hU], by rw [hU]; exact hP, va_K.moved hW.alike hK, hD.weaken (fun _ _ _ _ => trivial), hN.warm hW, by rw [hU]; exact ((hSK.kept hS.2.1).narrow hFc).moved hW.alike⟩⟩ rfl rfl hl.1 rfl (lv_room (Nat.le_of_ble_eq_true rfl)) dX6_readOneType_80 ⟨Nat.le_of_ble_eq_true rfl, Nat.le_of_ble_eq_true rfl⟩) hS (fun q _ h => hFc q h) hFc (fun rr u t H_44 locs ht hvm hw hB hz1 hk1 hS2 => ?_)
        rw [hw]
        clear hw
        obtain ⟨hP1, -, hD1⟩ := hB
        rw [ht] at hP1
        replace hD := hD1.weaken (fun _ _ _ h => hFc _ h)
        replace hP := hP1
        replace hS := hS2
        clear hP1 hD1 hS2 hFc hfc hz1 hk1 hvm ht
        refine lv_istore (lv' := [(5, .int r_43), (4, .int v_41), (2, .long v_40), (6, .int p_13), (0, .ref (a h0))]) hx hb dX6_readOneType_83 hl (by decide) rfl (fun ls hl2 => ?_)
        replace hl := hl2
        clear hl2
        refine lv_iinc (v := (p_13 + 1)) (lv' := [(6, .int (p_13 + 1)), (5, .int r_43), (4, .int v_41), (2, .long v_40), (0, .ref (a h0))]) hx hb dX6_readOneType_85 hl (k := 3) rfl rfl (by decide) rfl (fun ls hl2 => ?_)
        replace hl := hl2
        clear hl2
        refine lv_goto (tgt := 51) hx hb dX6_readOneType_88 (by decide) ?_
        exact ih51 (z_42, v_40, v_41, r_43, (p_13 + 1)) ls H_44 locs ⟨lv_sub hl [0, 3, 2, 1, 4] rfl, hP, hD, hS⟩ hf
  refine lv_if_eq (tgt := 48) hx hb dX6_readOneType_15 (by decide) (fun c_45 => ?_) (fun c_45 => ?_)
  · skip
    rw [if_pos c_45] at hf
    exact B48 (z_3, 0, v_2, r_4) ls H_5 locs ⟨lv_sub hl [2, 1, 0, 3] rfl, hP, hD, hS⟩ hf
  · skip
    rw [if_neg c_45] at hf
    refine lv_iload hx hb dX6_readOneType_18 (lv_at hl 0 rfl) ?_
    refine lv_bipush (v := 8) hx hb dX6_readOneType_20 (by decide) ?_
    refine de_cut (h := 32) (fun (x : St) => []) (fun x ls H locs => lv_has ls 7 [(5, .int r_4), (0, .ref (a h0))] ∧ va_P (dC, dI) vwCl (Wd cy a sh n x) H ∧ va_D A (Wd cy a sh n x) ∧ va_S A s.heap H locs) (fun x => fn_X6_readOneType_B32 F sh n r_4 h0 x) (z8, r8) ?_ (fun B32 => ?_)
    · intro x ls H locs hI hf
      obtain ⟨z_46, ez⟩ : ∃ w, w = x := ⟨_, rfl⟩
      subst ez
      obtain ⟨hl2, hP2, hD2, hS2⟩ := hI
      replace hl : lv_has ls 7 [(5, .int r_4), (0, .ref (a h0))] := hl2
      replace hP := hP2
      replace hD := hD2
      replace hS := hS2
      clear hl2 hP2 hD2 hS2
      replace hf := fn_X6_readOneType_B32_s hf
      refine W.eq (g2 := F0 m 32 ls []) rfl ?_
      refine lv_iload hx hb dX6_readOneType_32 (lv_at hl 0 rfl) ?_
      refine lv_i2l (v := (r_4 : Int32).toInt64) hx hb dX6_readOneType_34 rfl ?_
      refine lv_topl (fun v_47 ev_47 => ?_)
      replace hf := lt_at ev_47 hf
      clear ev_47
      refine lv_lstore_n (lv' := [(2, .long v_47), (5, .int r_4), (0, .ref (a h0))]) hx hb dX6_readOneType_35 rfl hl (by decide) rfl (fun ls hl2 => ?_)
      replace hl := hl2
      clear hl2
      refine lv_aload_n hx hb dX6_readOneType_36 rfl (lv_at hl 2 rfl) ?_
      refine va_get (D := (dC, dI)) (ci := 6) (v := .int (z_46.1 h0 3)) (C := RX6) (T := TX6) (N := 9) hx hb hts iwd_X6_readOneType_X6 hown hK hP h0 (Wd_ob kg_1 sg_1 (by decide)) rfl 3 (by decide) (hts _ md_X6_readOneType_1) (fun _ h9 => h9) (fl_at (t := 0) rfl) dX6_readOneType_37 ?_
      refine lv_topi (fun v_48 ev_48 => ?_)
      replace hf := lt_at ev_48 hf
      clear ev_48
      refine lv_istore (lv' := [(4, .int v_48), (2, .long v_47), (5, .int r_4), (0, .ref (a h0))]) hx hb dX6_readOneType_40 hl (by decide) rfl (fun ls hl2 => ?_)
      replace hl := hl2
      clear hl2
      refine lv_aload_n hx hb dX6_readOneType_42 rfl (lv_at hl 3 rfl) ?_
      obtain ⟨z_49, r_50, hfc, hf⟩ := cal_some hf
      have hFc := de_free hD hS hA
      refine va_calli (va_runV (As := []) (rest := []) ⟨hx, hb, hml, hown, hts⟩ (de_X6_readByte l dC dI cy a sh n H.size F sk z_46 h0 hfc) (cwV 0 hts gX6_readOneType_X6_readByte rfl rfl rfl (by decide +kernel) ⟨Nat.le_of_ble_eq_true rfl, Nat.le_of_ble_eq_true rfl⟩) ⟨fun a U g mk q => by obtain ⟨q0, q1, qP, qK, qD, qN, qS⟩ := q; exact ⟨q0, q1, qP, va_K.moved (u := U) (U := U.calling g mk a) (Vm.Alike.refl U.vm) qK, qD, qN.same rfl, SKs.moved (u := U) (U := U.calling g mk a) (Vm.Alike.refl U.vm) qS⟩, va_recv hK hP (ci := 6) (q0 := h0) rfl (Wd_ob kg_1 sg_1 (by decide)), fun U hU hW => ⟨rfl, by rw [hU], by rw [hU]; exact hP, va_K.moved hW.alike hK, hD.weaken (fun _ _ _ _ => trivial), hN.warm hW, by rw [hU]; exact ((hSK.kept hS.2.1).narrow hFc).moved hW.alike⟩⟩ rfl rfl hl.1 rfl (lv_room (Nat.le_of_ble_eq_true rfl)) dX6_readOneType_43 ⟨Nat.le_of_ble_eq_true rfl, Nat.le_of_ble_eq_true rfl⟩) hS (fun q _ h => hFc q h) hFc (fun rr u t H_51 locs ht hvm hw hB hz1 hk1 hS2 => ?_)
      rw [hw]
      clear hw
      obtain ⟨hP1, -, hD1⟩ := hB
      rw [ht] at hP1
      replace hD := hD1.weaken (fun _ _ _ h => hFc _ h)
      replace hP := hP1
      replace hS := hS2
      clear hP1 hD1 hS2 hFc hfc hz1 hk1 hvm ht
      refine lv_istore (lv' := [(5, .int r_50), (4, .int v_48), (2, .long v_47), (0, .ref (a h0))]) hx hb dX6_readOneType_46 hl (by decide) rfl (fun ls hl2 => ?_)
      replace hl := hl2
      clear hl2
      exact B48 (z_49, v_47, v_48, r_50) ls H_51 locs ⟨lv_sub hl [2, 1, 0, 3] rfl, hP, hD, hS⟩ hf
    refine lv_icmp_eq (tgt := 32) hx hb dX6_readOneType_22 (by decide) (fun c_52 => ?_) (fun c_52 => ?_)
    · skip
      rw [if_pos c_52] at hf
      exact B32 (z_3) ls H_5 locs ⟨lv_sub hl [0, 3] rfl, hP, hD, hS⟩ hf
    · skip
      rw [if_neg c_52] at hf
      refine lv_iload hx hb dX6_readOneType_25 (lv_at hl 0 rfl) ?_
      refine lv_bipush (v := 9) hx hb dX6_readOneType_27 (by decide) ?_
      refine lv_icmp_ne (tgt := 48) hx hb dX6_readOneType_29 (by decide) (fun c_53 => ?_) (fun c_53 => ?_)
      · skip
        rw [if_neg c_53] at hf
        exact B48 (z_3, 0, v_2, r_4) ls H_5 locs ⟨lv_sub hl [2, 1, 0, 3] rfl, hP, hD, hS⟩ hf
      · skip
        rw [if_pos c_53] at hf
        exact B32 (z_3) ls H_5 locs ⟨lv_sub hl [0, 3] rfl, hP, hD, hS⟩ hf

theorem md_X1_alikeAt_1 : (.fieldLink RX1 11 "ResourceLedger$Heap" "kind" "[B" : Cond) ∈ wsX1_alikeAt := List.mem_of_getElem? (i := 1) rfl
theorem iwd_X1_alikeAt_X1 : ∀ w ∈ wsX10, w ∈ wsX1_alikeAt := fun _ h => List.mem_cons_of_mem _ (List.mem_append_right _ h)
theorem md_X1_alikeAt_2 : (.fieldLink RX1 19 "ResourceLedger$Heap" "high" "[J" : Cond) ∈ wsX1_alikeAt := List.mem_of_getElem? (i := 2) rfl
theorem md_X1_alikeAt_3 : (.fieldLink RX1 15 "ResourceLedger$Heap" "low" "[J" : Cond) ∈ wsX1_alikeAt := List.mem_of_getElem? (i := 3) rfl
theorem md_X1_alikeAt_4 : (.fieldLink RX1 22 "ResourceLedger$Heap" "next" "[I" : Cond) ∈ wsX1_alikeAt := List.mem_of_getElem? (i := 4) rfl
set_option maxHeartbeats 4000000 in
set_option maxRecDepth 100000 in
theorem de_X1_alikeAt (l : Launch) (dC : Nat → ClassId) (dI : Nat → Nat → Nat) (cy : Nat → ClassId) (a : Nat → Nat) (sh : Nat → Nat × Nat) (n F : Nat) : ∀ (d sz : Nat) (z : St) (h0 : Nat) (x0 : Int32) (x1 : Int32) (x2 : Int32) {z8 : St} {r8 : Int32} (_ : fn_X1_alikeAt F sh n d z h0 x0 x1 x2 = some (z8, r8)), Met l yX1_alikeAt wsX1_alikeAt ({ frames := d + 1, cells := 0, slots := 0, locals := d * 27 + 20 }) (va_Pc [.ref (a h0), .int x0, .int x1, .int x2] (fun U => U.heap.size = sz ∧ va_P (dC, dI) vwCl (Wd cy a sh n z) U.heap ∧ va_K (dC, dI) vwCl (TYS cy) U ∧ va_D (fun _ => True) (Wd cy a sh n z) ∧ NK U)) (va_Qi (fun (r9 : Int32) (u : Unit) => r9 = r8) (fun u t => va_P (dC, dI) vwCl (Wd cy a sh n z8) t.heap ∧ va_K (dC, dI) vwCl (TYS cy) t ∧ va_D (va_A (Wd cy a sh n z) sz) (Wd cy a sh n z8)) (va_A (Wd cy a sh n z) sz)) 0 0 (va_A (Wd cy a sh n z) sz) := by
  intro d
  induction d with
  | zero => intro sz z h0 x0 x1 x2 z8 r8 hf; exact absurd hf (by simp [fn_X1_alikeAt])
  | succ d ihd =>
  intro sz z h0 x0 x1 x2 z8 r8 hf
  refine Met.ofW (cc := cX1_alikeAt) (maxL := 8) (ret := (some .boolean)) (by decide) rfl ?_
  intro p e s m args below meth c s₁ B hml hv
  obtain ⟨rfl, hsz, hP, hK, hD0, hN⟩ := hv
  have hx := B.exec
  have hb := B.bytes
  have hr := B.returns
  have hts := atoms_spec (ws := wsX1_alikeAt) B.pre
  have hown : s.vm.findClass RX1 = some m.cls := findClass_of_methodNamed B.named
  have hlocks := B.notSynchronized
  subst hsz
  have hD := hD0.self (sz := s.heap.size)
  clear hD0
  generalize hAe : va_A (Wd cy a sh n z) s.heap.size = A at hD ⊢
  have hA : ∀ q : Nat, s.heap.size ≤ q → A q := fun q h => by rw [← hAe]; exact Or.inr h
  clear hAe
  have hS : va_S A s.heap s.heap [] := va_S.rf
  have hl := lv_entry ([.ref (a h0), .int x0, .int x1, .int x2]) (n := 8) (Nat.le_of_ble_eq_true rfl)
  rw [lg_entry_eq]
  generalize (lg_sl ([.ref (a h0), .int x0, .int x1, .int x2]) ++ List.replicate (8 - (lg_sl ([.ref (a h0), .int x0, .int x1, .int x2])).length) Slot.unset).toArray = ls at hl ⊢
  replace hl : lv_has ls 8 [(0, .ref (a h0)), (1, .int x0), (2, .int x1), (3, .int x2)] := hl
  replace hf := fn_X1_alikeAt_s hf
  refine de_start hS hP (fun H locs hS hP => ?_)
  refine lv_aload_n hx hb dX1_alikeAt_0 rfl (lv_at hl 0 rfl) ?_
  obtain ⟨g_1, hf⟩ := grd_some hf
  obtain ⟨kg_1, sg_1⟩ := okO_at g_1
  obtain ⟨k_2, ek_2, hf⟩ := lnk_some hf
  refine va_get (D := (dC, dI)) (ci := 1) (v := .ref (a k_2)) (C := RX1) (T := TX1) (N := 7) hx hb hts iwd_X1_alikeAt_X1 hown hK hP h0 (Wd_ob kg_1 sg_1 (by decide)) rfl 0 (by decide) (hts _ md_X1_alikeAt_1) (fun _ h9 => h9) (fl_q rfl ek_2) dX1_alikeAt_1 ?_
  refine lv_iload_n hx hb dX1_alikeAt_4 rfl (lv_at hl 1 rfl) ?_
  obtain ⟨g_3, hf⟩ := grd_some hf
  obtain ⟨kg_3, sg_3, ig_3⟩ := okA_at g_3
  refine va_bald hx hb hK hP k_2 0 (Wd_ab kg_3 sg_3) rfl ig_3 dX1_alikeAt_5 ?_
  refine lv_aload_n hx hb dX1_alikeAt_6 rfl (lv_at hl 0 rfl) ?_
  obtain ⟨k_4, ek_4, hf⟩ := lnk_some hf
  refine va_get (D := (dC, dI)) (ci := 1) (v := .ref (a k_4)) (C := RX1) (T := TX1) (N := 7) hx hb hts iwd_X1_alikeAt_X1 hown hK hP h0 (Wd_ob kg_1 sg_1 (by decide)) rfl 0 (by decide) (hts _ md_X1_alikeAt_1) (fun _ h9 => h9) (fl_q rfl ek_4) dX1_alikeAt_7 ?_
  refine lv_iload_n hx hb dX1_alikeAt_10 rfl (lv_at hl 2 rfl) ?_
  obtain ⟨g_5, hf⟩ := grd_some hf
  obtain ⟨kg_5, sg_5, ig_5⟩ := okA_at g_5
  refine va_bald hx hb hK hP k_4 0 (Wd_ab kg_5 sg_5) rfl ig_5 dX1_alikeAt_11 ?_
  refine lv_icmp_ne (tgt := 31) hx hb dX1_alikeAt_12 (by decide) (fun c_6 => ?_) (fun c_6 => ?_)
  · skip
    rw [if_neg c_6] at hf
    refine lv_iconst (v := 0) hx hb dX1_alikeAt_31 (by decide) ?_
    obtain ⟨h8, h9⟩ := ret_some hf
    rw [h8, h9]
    exact W.zret (v := 0) hx hb hr rfl (fun t ht hW => ⟨⟨0, (), rfl, rfl, by rw [ht]; exact hP, va_K.moved hW.alike hK, hD⟩, hS.F ht⟩) hS.2.2 dX1_alikeAt_32
  · skip
    rw [if_pos c_6] at hf
    refine lv_aload_n hx hb dX1_alikeAt_15 rfl (lv_at hl 0 rfl) ?_
    obtain ⟨k_7, ek_7, hf⟩ := lnk_some hf
    refine va_get (D := (dC, dI)) (ci := 1) (v := .ref (a k_7)) (C := RX1) (T := TX1) (N := 7) hx hb hts iwd_X1_alikeAt_X1 hown hK hP h0 (Wd_ob kg_1 sg_1 (by decide)) rfl 2 (by decide) (hts _ md_X1_alikeAt_2) (fun _ h9 => h9) (fl_q rfl ek_7) dX1_alikeAt_16 ?_
    refine lv_iload_n hx hb dX1_alikeAt_19 rfl (lv_at hl 1 rfl) ?_
    obtain ⟨g_8, hf⟩ := grd_some hf
    obtain ⟨kg_8, sg_8, ig_8⟩ := okA_at g_8
    refine va_lald hx hb hK hP k_7 2 (Wd_al kg_8 sg_8) rfl ig_8 dX1_alikeAt_20 ?_
    refine lv_aload_n hx hb dX1_alikeAt_21 rfl (lv_at hl 0 rfl) ?_
    obtain ⟨k_9, ek_9, hf⟩ := lnk_some hf
    refine va_get (D := (dC, dI)) (ci := 1) (v := .ref (a k_9)) (C := RX1) (T := TX1) (N := 7) hx hb hts iwd_X1_alikeAt_X1 hown hK hP h0 (Wd_ob kg_1 sg_1 (by decide)) rfl 2 (by decide) (hts _ md_X1_alikeAt_2) (fun _ h9 => h9) (fl_q rfl ek_9) dX1_alikeAt_22 ?_
    refine lv_iload_n hx hb dX1_alikeAt_25 rfl (lv_at hl 2 rfl) ?_
    obtain ⟨g_10, hf⟩ := grd_some hf
    obtain ⟨kg_10, sg_10, ig_10⟩ := okA_at g_10
    refine va_lald hx hb hK hP k_9 2 (Wd_al kg_10 sg_10) rfl ig_10 dX1_alikeAt_26 ?_
    refine W.lcmp hx hb dX1_alikeAt_27 ?_
    refine lv_if_eq (tgt := 33) hx hb dX1_alikeAt_28 (by decide) (fun c_11 => ?_) (fun c_11 => ?_)
    · skip
      rw [lg_cmp_eq] at c_11
      rw [if_pos c_11] at hf
      refine lv_aload_n hx hb dX1_alikeAt_33 rfl (lv_at hl 0 rfl) ?_
      obtain ⟨k_12, ek_12, hf⟩ := lnk_some hf
      refine va_get (D := (dC, dI)) (ci := 1) (v := .ref (a k_12)) (C := RX1) (T := TX1) (N := 7) hx hb hts iwd_X1_alikeAt_X1 hown hK hP h0 (Wd_ob kg_1 sg_1 (by decide)) rfl 0 (by decide) (hts _ md_X1_alikeAt_1) (fun _ h9 => h9) (fl_q rfl ek_12) dX1_alikeAt_34 ?_
      refine lv_iload_n hx hb dX1_alikeAt_37 rfl (lv_at hl 1 rfl) ?_
      obtain ⟨g_13, hf⟩ := grd_some hf
      obtain ⟨kg_13, sg_13, ig_13⟩ := okA_at g_13
      refine va_bald hx hb hK hP k_12 0 (Wd_ab kg_13 sg_13) rfl ig_13 dX1_alikeAt_38 ?_
      obtain ⟨z_14, r_15, hfc, hf⟩ := cal_some hf
      have hFc := de_free hD hS hA
      refine va_calli (va_runS (As := [.int (z.1 k_12 x0.toNatClampNeg)]) (rest := []) ⟨hx, hb, hml, hown, hts⟩ (de_X1_holdsOthers l dC dI cy a sh n H.size F z (z.1 k_12 x0.toNatClampNeg) hfc) (va_cwS 1 hts gX1_alikeAt_X1_holdsOthers rfl rfl rfl (by decide +kernel) ⟨by show _ ≤ d + 1 + 1; (try dsimp only); omega, by show _ ≤ (d + 1) * 27 + 20; (try dsimp only); omega⟩) ⟨fun a U g mk q => by obtain ⟨q0, q1, qP, qK, qD, qN⟩ := q; exact ⟨q0, q1, qP, va_K.moved (u := U) (U := U.calling g mk a) (Vm.Alike.refl U.vm) qK, qD, qN.same rfl⟩, fun U hU hW => ⟨rfl, by rw [hU], by rw [hU]; exact hP, va_K.moved hW.alike hK, hD.weaken (fun _ _ _ _ => trivial), hN.warm hW⟩⟩ rfl rfl hl.1 rfl (lv_room (Nat.le_of_ble_eq_true rfl)) dX1_alikeAt_39 ⟨Nat.le_of_ble_eq_true rfl, Nat.le_of_ble_eq_true rfl⟩) hS (fun q _ h => hFc q h) hFc (fun rr u t H_16 locs ht hvm hw hB hz1 hk1 hS2 => ?_)
      rw [hw]
      clear hw
      obtain ⟨hP1, -, hD1⟩ := hB
      rw [ht] at hP1
      replace hD := hD1.weaken (fun _ _ _ h => hFc _ h)
      replace hP := hP1
      replace hS := hS2
      clear hP1 hD1 hS2 hFc hfc hz1 hk1 hvm ht
      refine lv_if_ne (tgt := 67) hx hb dX1_alikeAt_42 (by decide) (fun c_17 => ?_) (fun c_17 => ?_)
      · skip
        rw [if_neg c_17] at hf
        refine lv_aload_n hx hb dX1_alikeAt_67 rfl (lv_at hl 0 rfl) ?_
        obtain ⟨k_18, ek_18, hf⟩ := lnk_some hf
        refine va_get (D := (dC, dI)) (ci := 1) (v := .ref (a k_18)) (C := RX1) (T := TX1) (N := 7) hx hb hts iwd_X1_alikeAt_X1 hown hK hP h0 (Wd_ob kg_1 sg_1 (by decide)) rfl 1 (by decide) (hts _ md_X1_alikeAt_3) (fun _ h9 => h9) (fl_q rfl ek_18) dX1_alikeAt_68 ?_
        refine lv_iload_n hx hb dX1_alikeAt_71 rfl (lv_at hl 1 rfl) ?_
        obtain ⟨g_19, hf⟩ := grd_some hf
        obtain ⟨kg_19, sg_19, ig_19⟩ := okA_at g_19
        refine va_lald hx hb hK hP k_18 2 (Wd_al kg_19 sg_19) rfl ig_19 dX1_alikeAt_72 ?_
        refine lv_l2i (v := ((z_14.2.1 k_18 x0.toNatClampNeg) : Int64).toInt32) hx hb dX1_alikeAt_73 rfl ?_
        refine lv_topi (fun v_20 ev_20 => ?_)
        replace hf := lt_at ev_20 hf
        clear ev_20
        refine lv_istore (lv' := [(4, .int v_20), (0, .ref (a h0)), (1, .int x0), (2, .int x1), (3, .int x2)]) hx hb dX1_alikeAt_74 hl (by decide) rfl (fun ls hl2 => ?_)
        replace hl := hl2
        clear hl2
        refine lv_aload_n hx hb dX1_alikeAt_76 rfl (lv_at hl 1 rfl) ?_
        obtain ⟨k_21, ek_21, hf⟩ := lnk_some hf
        refine va_get (D := (dC, dI)) (ci := 1) (v := .ref (a k_21)) (C := RX1) (T := TX1) (N := 7) hx hb hts iwd_X1_alikeAt_X1 hown hK hP h0 (Wd_ob kg_1 sg_1 (by decide)) rfl 1 (by decide) (hts _ md_X1_alikeAt_3) (fun _ h9 => h9) (fl_q rfl ek_21) dX1_alikeAt_77 ?_
        refine lv_iload_n hx hb dX1_alikeAt_80 rfl (lv_at hl 3 rfl) ?_
        obtain ⟨g_22, hf⟩ := grd_some hf
        obtain ⟨kg_22, sg_22, ig_22⟩ := okA_at g_22
        refine va_lald hx hb hK hP k_21 2 (Wd_al kg_22 sg_22) rfl ig_22 dX1_alikeAt_81 ?_
        refine lv_l2i (v := ((z_14.2.1 k_21 x1.toNatClampNeg) : Int64).toInt32) hx hb dX1_alikeAt_82 rfl ?_
        refine lv_topi (fun v_23 ev_23 => ?_)
        replace hf := lt_at ev_23 hf
        clear ev_23
        refine lv_istore (lv' := [(5, .int v_23), (4, .int v_20), (0, .ref (a h0)), (1, .int x0), (2, .int x1), (3, .int x2)]) hx hb dX1_alikeAt_83 hl (by decide) rfl (fun ls hl2 => ?_)
        replace hl := hl2
        clear hl2
        refine lv_lconst (v := 0) hx hb dX1_alikeAt_85 (by decide) ?_
        refine lv_lstore (lv' := [(6, .long 0), (5, .int v_23), (4, .int v_20), (0, .ref (a h0)), (1, .int x0), (2, .int x1), (3, .int x2)]) hx hb dX1_alikeAt_86 hl (by decide) rfl (fun ls hl2 => ?_)
        replace hl := hl2
        clear hl2
        have hl0 : lv_has ls 8 [(6, .long 0), (5, .int v_23), (4, .int v_20), (0, .ref (a h0)), (1, .int x0), (3, .int x2)] := lv_sub hl [0, 1, 2, 3, 4, 6] rfl
        refine de_loop (h := 88) (fun (x : St × Int32 × Int32 × Int64) ls H locs => lv_has ls 8 [(6, .long x.2.2.2), (5, .int x.2.2.1), (4, .int x.2.1), (0, .ref (a h0)), (1, .int x0), (3, .int x2)] ∧ va_P (dC, dI) vwCl (Wd cy a sh n x.1) H ∧ va_D A (Wd cy a sh n x.1) ∧ va_S A s.heap H locs) (fun f x => fn_X1_alikeAt_L88 F sh n h0 x0 x2 (fn_X1_alikeAt F sh n d) f x.1 x.2.1 x.2.2.1 x.2.2.2) (z8, r8) ?_ (fun _ => rfl) F (z_14, v_20, v_23, 0) ls H_16 locs ⟨hl0, hP, hD, hS⟩ hf
        intro f_28 x ls H locs ih88 hI hf
        obtain ⟨z_27, p_24, p_25, p_26⟩ := x
        obtain ⟨hl2, hP2, hD2, hS2⟩ := hI
        replace hl : lv_has ls 8 [(6, .long p_26), (5, .int p_25), (4, .int p_24), (0, .ref (a h0)), (1, .int x0), (3, .int x2)] := hl2
        replace hP := hP2
        replace hD := hD2
        replace hS := hS2
        clear hl2 hP2 hD2 hS2 hl0
        replace hf := fn_X1_alikeAt_L88_s hf
        refine lv_lload hx hb dX1_alikeAt_88 (lv_at hl 0 rfl) ?_
        refine lv_aload_n hx hb dX1_alikeAt_90 rfl (lv_at hl 3 rfl) ?_
        obtain ⟨k_29, ek_29, hf⟩ := lnk_some hf
        refine va_get (D := (dC, dI)) (ci := 1) (v := .ref (a k_29)) (C := RX1) (T := TX1) (N := 7) hx hb hts iwd_X1_alikeAt_X1 hown hK hP h0 (Wd_ob kg_1 sg_1 (by decide)) rfl 2 (by decide) (hts _ md_X1_alikeAt_2) (fun _ h9 => h9) (fl_q rfl ek_29) dX1_alikeAt_91 ?_
        refine lv_iload_n hx hb dX1_alikeAt_94 rfl (lv_at hl 4 rfl) ?_
        obtain ⟨g_30, hf⟩ := grd_some hf
        obtain ⟨kg_30, sg_30, ig_30⟩ := okA_at g_30
        refine va_lald hx hb hK hP k_29 2 (Wd_al kg_30 sg_30) rfl ig_30 dX1_alikeAt_95 ?_
        refine W.lcmp hx hb dX1_alikeAt_96 ?_
        refine lv_if_ge (tgt := 159) hx hb dX1_alikeAt_97 (by decide) (fun c_31 => ?_) (fun c_31 => ?_)
        · skip
          rw [lg_cmp_ge] at c_31
          rw [if_pos c_31] at hf
          refine lv_iconst (v := 1) hx hb dX1_alikeAt_159 (by decide) ?_
          obtain ⟨h8, h9⟩ := ret_some hf
          rw [h8, h9]
          exact W.zret (v := 1) hx hb hr rfl (fun t ht hW => ⟨⟨1, (), rfl, rfl, by rw [ht]; exact hP, va_K.moved hW.alike hK, hD⟩, hS.F ht⟩) hS.2.2 dX1_alikeAt_160
        · skip
          rw [lg_cmp_ge] at c_31
          rw [if_neg c_31] at hf
          refine lv_iload_n hx hb dX1_alikeAt_100 rfl (lv_at hl 5 rfl) ?_
          refine lv_bipush (v := 40) hx hb dX1_alikeAt_101 (by decide) ?_
          refine lv_icmp_ge (tgt := 159) hx hb dX1_alikeAt_103 (by decide) (fun c_32 => ?_) (fun c_32 => ?_)
          · skip
            rw [if_pos c_32] at hf
            refine lv_iconst (v := 1) hx hb dX1_alikeAt_159 (by decide) ?_
            obtain ⟨h8, h9⟩ := ret_some hf
            rw [h8, h9]
            exact W.zret (v := 1) hx hb hr rfl (fun t ht hW => ⟨⟨1, (), rfl, rfl, by rw [ht]; exact hP, va_K.moved hW.alike hK, hD⟩, hS.F ht⟩) hS.2.2 dX1_alikeAt_160
          · skip
            rw [if_neg c_32] at hf
            refine lv_iload hx hb dX1_alikeAt_106 (lv_at hl 2 rfl) ?_
            refine lv_if_eq (tgt := 159) hx hb dX1_alikeAt_108 (by decide) (fun c_33 => ?_) (fun c_33 => ?_)
            · skip
              rw [if_pos c_33] at hf
              refine lv_iconst (v := 1) hx hb dX1_alikeAt_159 (by decide) ?_
              obtain ⟨h8, h9⟩ := ret_some hf
              rw [h8, h9]
              exact W.zret (v := 1) hx hb hr rfl (fun t ht hW => ⟨⟨1, (), rfl, rfl, by rw [ht]; exact hP, va_K.moved hW.alike hK, hD⟩, hS.F ht⟩) hS.2.2 dX1_alikeAt_160
            · skip
              rw [if_neg c_33] at hf
              refine lv_iload hx hb dX1_alikeAt_111 (lv_at hl 1 rfl) ?_
              refine lv_if_eq (tgt := 159) hx hb dX1_alikeAt_113 (by decide) (fun c_34 => ?_) (fun c_34 => ?_)
              · skip
                rw [if_pos c_34] at hf
                refine lv_iconst (v := 1) hx hb dX1_alikeAt_159 (by decide) ?_
                obtain ⟨h8, h9⟩ := ret_some hf
                rw [h8, h9]
                exact W.zret (v := 1) hx hb hr rfl (fun t ht hW => ⟨⟨1, (), rfl, rfl, by rw [ht]; exact hP, va_K.moved hW.alike hK, hD⟩, hS.F ht⟩) hS.2.2 dX1_alikeAt_160
              · skip
                rw [if_neg c_34] at hf
                refine lv_aload_n hx hb dX1_alikeAt_116 rfl (lv_at hl 3 rfl) ?_
                refine lv_iload hx hb dX1_alikeAt_117 (lv_at hl 2 rfl) ?_
                refine lv_iload hx hb dX1_alikeAt_119 (lv_at hl 1 rfl) ?_
                refine lv_iload_n hx hb dX1_alikeAt_121 rfl (lv_at hl 5 rfl) ?_
                refine lv_iconst (v := 1) hx hb dX1_alikeAt_122 (by decide) ?_
                refine lv_iadd hx hb dX1_alikeAt_123 ?_
                obtain ⟨z_35, r_36, hfc, hf⟩ := cal_some hf
                have hFc := de_free hD hS hA
                refine va_calli (va_runV (As := [.int p_24, .int p_25, .int (x2 + 1)]) (rest := []) ⟨hx, hb, hml, hown, hts⟩ (ihd H.size z_27 h0 p_24 p_25 (x2 + 1) hfc) (cwV 3 hts gX1_alikeAt_X1_alikeAt rfl rfl rfl (by decide +kernel) ⟨by show _ ≤ d + 1 + 1; (try dsimp only); omega, by show _ ≤ (d + 1) * 27 + 20; (try dsimp only); omega⟩) ⟨fun a U g mk q => by obtain ⟨q0, q1, qP, qK, qD, qN⟩ := q; exact ⟨q0, q1, qP, va_K.moved (u := U) (U := U.calling g mk a) (Vm.Alike.refl U.vm) qK, qD, qN.same rfl⟩, va_recv hK hP (ci := 1) (q0 := h0) rfl (Wd_ob kg_1 sg_1 (by decide)), fun U hU hW => ⟨rfl, by rw [hU], by rw [hU]; exact hP, va_K.moved hW.alike hK, hD.weaken (fun _ _ _ _ => trivial), hN.warm hW⟩⟩ rfl rfl hl.1 rfl (lv_room (Nat.le_of_ble_eq_true rfl)) dX1_alikeAt_124 ⟨Nat.le_of_ble_eq_true rfl, Nat.le_of_ble_eq_true rfl⟩) hS (fun q _ h => hFc q h) hFc (fun rr u t H_37 locs ht hvm hw hB hz1 hk1 hS2 => ?_)
                rw [hw]
                clear hw
                obtain ⟨hP1, -, hD1⟩ := hB
                rw [ht] at hP1
                replace hD := hD1.weaken (fun _ _ _ h => hFc _ h)
                replace hP := hP1
                replace hS := hS2
                clear hP1 hD1 hS2 hFc hfc hz1 hk1 hvm ht
                refine lv_if_ne (tgt := 132) hx hb dX1_alikeAt_127 (by decide) (fun c_38 => ?_) (fun c_38 => ?_)
                · skip
                  rw [if_neg c_38] at hf
                  refine lv_aload_n hx hb dX1_alikeAt_132 rfl (lv_at hl 3 rfl) ?_
                  obtain ⟨k_39, ek_39, hf⟩ := lnk_some hf
                  refine va_get (D := (dC, dI)) (ci := 1) (v := .ref (a k_39)) (C := RX1) (T := TX1) (N := 7) hx hb hts iwd_X1_alikeAt_X1 hown hK hP h0 (Wd_ob kg_1 sg_1 (by decide)) rfl 3 (by decide) (hts _ md_X1_alikeAt_4) (fun _ h9 => h9) (fl_q rfl ek_39) dX1_alikeAt_133 ?_
                  refine lv_iload hx hb dX1_alikeAt_136 (lv_at hl 2 rfl) ?_
                  obtain ⟨g_40, hf⟩ := grd_some hf
                  obtain ⟨kg_40, sg_40, ig_40⟩ := okA_at g_40
                  refine va_iald hx hb hK hP k_39 1 (Wd_ai kg_40 sg_40) rfl ig_40 dX1_alikeAt_138 ?_
                  refine lv_topi (fun v_41 ev_41 => ?_)
                  replace hf := lt_at ev_41 hf
                  clear ev_41
                  refine lv_istore (lv' := [(4, .int v_41), (6, .long p_26), (5, .int p_25), (0, .ref (a h0)), (1, .int x0), (3, .int x2)]) hx hb dX1_alikeAt_139 hl (by decide) rfl (fun ls hl2 => ?_)
                  replace hl := hl2
                  clear hl2
                  refine lv_aload_n hx hb dX1_alikeAt_141 rfl (lv_at hl 3 rfl) ?_
                  obtain ⟨k_42, ek_42, hf⟩ := lnk_some hf
                  refine va_get (D := (dC, dI)) (ci := 1) (v := .ref (a k_42)) (C := RX1) (T := TX1) (N := 7) hx hb hts iwd_X1_alikeAt_X1 hown hK hP h0 (Wd_ob kg_1 sg_1 (by decide)) rfl 3 (by decide) (hts _ md_X1_alikeAt_4) (fun _ h9 => h9) (fl_q rfl ek_42) dX1_alikeAt_142 ?_
                  refine lv_iload hx hb dX1_alikeAt_145 (lv_at hl 2 rfl) ?_
                  obtain ⟨g_43, hf⟩ := grd_some hf
                  obtain ⟨kg_43, sg_43, ig_43⟩ := okA_at g_43
                  refine va_iald hx hb hK hP k_42 1 (Wd_ai kg_43 sg_43) rfl ig_43 dX1_alikeAt_147 ?_
                  refine lv_topi (fun v_44 ev_44 => ?_)
                  replace hf := lt_at ev_44 hf
                  clear ev_44
                  refine lv_istore (lv' := [(5, .int v_44), (4, .int v_41), (6, .long p_26), (0, .ref (a h0)), (1, .int x0), (3, .int x2)]) hx hb dX1_alikeAt_148 hl (by decide) rfl (fun ls hl2 => ?_)
                  replace hl := hl2
                  clear hl2
                  refine lv_lload hx hb dX1_alikeAt_150 (lv_at hl 2 rfl) ?_
                  refine lv_lconst (v := 1) hx hb dX1_alikeAt_152 (by decide) ?_
                  refine lv_ladd hx hb dX1_alikeAt_153 ?_
                  refine lv_topl (fun v_45 ev_45 => ?_)
                  replace hf := lt_at ev_45 hf
                  clear ev_45
                  refine lv_lstore (lv' := [(6, .long v_45), (5, .int v_44), (4, .int v_41), (0, .ref (a h0)), (1, .int x0), (3, .int x2)]) hx hb dX1_alikeAt_154 hl (by decide) rfl (fun ls hl2 => ?_)
                  replace hl := hl2
                  clear hl2
                  refine lv_goto (tgt := 88) hx hb dX1_alikeAt_156 (by decide) ?_
                  exact ih88 (z_35, v_41, v_44, v_45) ls H_37 locs ⟨lv_sub hl [0, 1, 2, 3, 4, 5] rfl, hP, hD, hS⟩ hf
                · skip
                  rw [if_pos c_38] at hf
                  refine lv_iconst (v := 0) hx hb dX1_alikeAt_130 (by decide) ?_
                  obtain ⟨h8, h9⟩ := ret_some hf
                  rw [h8, h9]
                  exact W.zret (v := 0) hx hb hr rfl (fun t ht hW => ⟨⟨0, (), rfl, rfl, by rw [ht]; exact hP, va_K.moved hW.alike hK, hD⟩, hS.F ht⟩) hS.2.2 dX1_alikeAt_131
      · skip
        rw [if_pos c_17] at hf
        refine lv_aload_n hx hb dX1_alikeAt_45 rfl (lv_at hl 0 rfl) ?_
        obtain ⟨k_46, ek_46, hf⟩ := lnk_some hf
        refine va_get (D := (dC, dI)) (ci := 1) (v := .ref (a k_46)) (C := RX1) (T := TX1) (N := 7) hx hb hts iwd_X1_alikeAt_X1 hown hK hP h0 (Wd_ob kg_1 sg_1 (by decide)) rfl 1 (by decide) (hts _ md_X1_alikeAt_3) (fun _ h9 => h9) (fl_q rfl ek_46) dX1_alikeAt_46 ?_
        refine lv_iload_n hx hb dX1_alikeAt_49 rfl (lv_at hl 1 rfl) ?_
        obtain ⟨g_47, hf⟩ := grd_some hf
        obtain ⟨kg_47, sg_47, ig_47⟩ := okA_at g_47
        refine va_lald hx hb hK hP k_46 2 (Wd_al kg_47 sg_47) rfl ig_47 dX1_alikeAt_50 ?_
        refine lv_aload_n hx hb dX1_alikeAt_51 rfl (lv_at hl 0 rfl) ?_
        obtain ⟨k_48, ek_48, hf⟩ := lnk_some hf
        refine va_get (D := (dC, dI)) (ci := 1) (v := .ref (a k_48)) (C := RX1) (T := TX1) (N := 7) hx hb hts iwd_X1_alikeAt_X1 hown hK hP h0 (Wd_ob kg_1 sg_1 (by decide)) rfl 1 (by decide) (hts _ md_X1_alikeAt_3) (fun _ h9 => h9) (fl_q rfl ek_48) dX1_alikeAt_52 ?_
        refine lv_iload_n hx hb dX1_alikeAt_55 rfl (lv_at hl 2 rfl) ?_
        obtain ⟨g_49, hf⟩ := grd_some hf
        obtain ⟨kg_49, sg_49, ig_49⟩ := okA_at g_49
        refine va_lald hx hb hK hP k_48 2 (Wd_al kg_49 sg_49) rfl ig_49 dX1_alikeAt_56 ?_
        refine W.lcmp hx hb dX1_alikeAt_57 ?_
        refine lv_if_ne (tgt := 65) hx hb dX1_alikeAt_58 (by decide) (fun c_50 => ?_) (fun c_50 => ?_)
        · skip
          rw [lg_cmp_eq] at c_50
          rw [if_neg c_50] at hf
          refine lv_iconst (v := 0) hx hb dX1_alikeAt_65 (by decide) ?_
          obtain ⟨h8, h9⟩ := ret_some hf
          rw [h8, h9]
          exact W.zret (v := 0) hx hb hr rfl (fun t ht hW => ⟨⟨0, (), rfl, rfl, by rw [ht]; exact hP, va_K.moved hW.alike hK, hD⟩, hS.F ht⟩) hS.2.2 dX1_alikeAt_66
        · skip
          rw [lg_cmp_eq] at c_50
          rw [if_pos c_50] at hf
          refine lv_iconst (v := 1) hx hb dX1_alikeAt_61 (by decide) ?_
          refine lv_goto (tgt := 66) hx hb dX1_alikeAt_62 (by decide) ?_
          obtain ⟨h8, h9⟩ := ret_some hf
          rw [h8, h9]
          exact W.zret (v := 1) hx hb hr rfl (fun t ht hW => ⟨⟨1, (), rfl, rfl, by rw [ht]; exact hP, va_K.moved hW.alike hK, hD⟩, hS.F ht⟩) hS.2.2 dX1_alikeAt_66
    · skip
      rw [lg_cmp_eq] at c_11
      rw [if_neg c_11] at hf
      refine lv_iconst (v := 0) hx hb dX1_alikeAt_31 (by decide) ?_
      obtain ⟨h8, h9⟩ := ret_some hf
      rw [h8, h9]
      exact W.zret (v := 0) hx hb hr rfl (fun t ht hW => ⟨⟨0, (), rfl, rfl, by rw [ht]; exact hP, va_K.moved hW.alike hK, hD⟩, hS.F ht⟩) hS.2.2 dX1_alikeAt_32

theorem md_X3_comeBack_1 : (.fieldLink RX3 34 "ResourceLedger$Looker" "keptThere" "[J" : Cond) ∈ wsX3_comeBack := List.mem_of_getElem? (i := 1) rfl
theorem iwd_X3_comeBack_X3 : ∀ w ∈ wsX30, w ∈ wsX3_comeBack := fun _ h => List.mem_cons_of_mem _ (List.mem_append_right _ h)
theorem md_X3_comeBack_2 : (.fieldLink RX3 105 "ResourceLedger$Looker" "there" "J" : Cond) ∈ wsX3_comeBack := List.mem_of_getElem? (i := 2) rfl
theorem md_X3_comeBack_3 : (.constantLong RX3 185 (-1) : Cond) ∈ wsX3_comeBack := List.mem_of_getElem? (i := 3) rfl
theorem md_X3_comeBack_7 : (.fieldLink RX3 25 "ResourceLedger$Looker" "localOrigins" "[J" : Cond) ∈ wsX3_comeBack := List.mem_of_getElem? (i := 7) rfl
theorem md_X3_comeBack_8 : (.fieldLink RX3 41 "ResourceLedger$Looker" "keptOrigins" "[J" : Cond) ∈ wsX3_comeBack := List.mem_of_getElem? (i := 8) rfl
theorem md_X3_comeBack_4 : (.fieldLink RX3 108 "ResourceLedger$Looker" "droppable" "J" : Cond) ∈ wsX3_comeBack := List.mem_of_getElem? (i := 4) rfl
theorem md_X3_comeBack_5 : (.fieldLink RX3 98 "ResourceLedger$Looker" "inside" "J" : Cond) ∈ wsX3_comeBack := List.mem_of_getElem? (i := 5) rfl
theorem md_X3_comeBack_6 : (.fieldLink RX3 37 "ResourceLedger$Looker" "keptInside" "[J" : Cond) ∈ wsX3_comeBack := List.mem_of_getElem? (i := 6) rfl
set_option maxHeartbeats 4000000 in
set_option maxRecDepth 100000 in
theorem de_X3_comeBack (l : Launch) (dC : Nat → ClassId) (dI : Nat → Nat → Nat) (cy : Nat → ClassId) (a : Nat → Nat) (sh : Nat → Nat × Nat) (n sz : Nat) (F : Nat) (z : St) (h0 : Nat) (x0 : Int32) {z8 : St} {r8 : Unit} (hf : fn_X3_comeBack F sh n z h0 x0 = some (z8, r8)) : Met l yX3_comeBack wsX3_comeBack ({ frames := 1, cells := 0, slots := 0, locals := 21 }) (va_Pc [.ref (a h0), .int x0] (fun U => U.heap.size = sz ∧ va_P (dC, dI) vwCl (Wd cy a sh n z) U.heap ∧ va_K (dC, dI) vwCl (TYS cy) U ∧ va_D (fun _ => True) (Wd cy a sh n z) ∧ NK U)) (va_Qv (fun u : Unit => True) (fun u t => va_P (dC, dI) vwCl (Wd cy a sh n z8) t.heap ∧ va_K (dC, dI) vwCl (TYS cy) t ∧ va_D (va_A (Wd cy a sh n z) sz) (Wd cy a sh n z8)) (va_A (Wd cy a sh n z) sz)) 0 0 (va_A (Wd cy a sh n z) sz) := by
  refine Met.ofW (cc := cX3_comeBack) (maxL := 5) (ret := none) (by decide) rfl ?_
  intro p e s m args below meth c s₁ B hml hv
  obtain ⟨rfl, hsz, hP, hK, hD0, hN⟩ := hv
  have hx := B.exec
  have hb := B.bytes
  have hr := B.returns
  have hts := atoms_spec (ws := wsX3_comeBack) B.pre
  have hown : s.vm.findClass RX3 = some m.cls := findClass_of_methodNamed B.named
  have hlocks := B.notSynchronized
  subst hsz
  have hD := hD0.self (sz := s.heap.size)
  clear hD0
  generalize hAe : va_A (Wd cy a sh n z) s.heap.size = A at hD ⊢
  have hA : ∀ q : Nat, s.heap.size ≤ q → A q := fun q h => by rw [← hAe]; exact Or.inr h
  clear hAe
  have hS : va_S A s.heap s.heap [] := va_S.rf
  have hl := lv_entry ([.ref (a h0), .int x0]) (n := 5) (Nat.le_of_ble_eq_true rfl)
  rw [lg_entry_eq]
  generalize (lg_sl ([.ref (a h0), .int x0]) ++ List.replicate (5 - (lg_sl ([.ref (a h0), .int x0])).length) Slot.unset).toArray = ls at hl ⊢
  replace hl : lv_has ls 5 [(0, .ref (a h0)), (1, .int x0)] := hl
  unfold fn_X3_comeBack at hf
  refine de_start hS hP (fun H locs hS hP => ?_)
  refine lv_aload_n hx hb dX3_comeBack_0 rfl (lv_at hl 0 rfl) ?_
  obtain ⟨g_1, hf⟩ := grd_some hf
  obtain ⟨kg_1, sg_1⟩ := okO_at g_1
  obtain ⟨k_2, ek_2, hf⟩ := lnk_some hf
  refine va_get (D := (dC, dI)) (ci := 3) (v := .ref (a k_2)) (C := RX3) (T := TX3) (N := 22) hx hb hts iwd_X3_comeBack_X3 hown hK hP h0 (Wd_ob kg_1 sg_1 (by decide)) rfl 19 (by decide) (hts _ md_X3_comeBack_1) (fun _ h9 => h9) (fl_q rfl ek_2) dX3_comeBack_1 ?_
  refine lv_iload_n hx hb dX3_comeBack_4 rfl (lv_at hl 1 rfl) ?_
  obtain ⟨g_3, hf⟩ := grd_some hf
  obtain ⟨kg_3, sg_3, ig_3⟩ := okA_at g_3
  refine va_lald hx hb hK hP k_2 2 (Wd_al kg_3 sg_3) rfl ig_3 dX3_comeBack_5 ?_
  refine lv_aload_n hx hb dX3_comeBack_6 rfl (lv_at hl 0 rfl) ?_
  refine va_get (D := (dC, dI)) (ci := 3) (v := .long (z.2.1 h0 12)) (C := RX3) (T := TX3) (N := 22) hx hb hts iwd_X3_comeBack_X3 hown hK hP h0 (Wd_ob kg_1 sg_1 (by decide)) rfl 12 (by decide) (hts _ md_X3_comeBack_2) (fun _ h9 => h9) (fl_at (t := 1) rfl) dX3_comeBack_7 ?_
  refine lv_ldc2 hx hb hown (hts _ md_X3_comeBack_3) dX3_comeBack_10 ?_
  refine lv_lxor hx hb dX3_comeBack_13 ?_
  refine lv_land hx hb dX3_comeBack_14 ?_
  refine lv_lconst (v := 0) hx hb dX3_comeBack_15 (by decide) ?_
  refine W.lcmp hx hb dX3_comeBack_16 ?_
  refine de_cut (h := 81) (fun (x : St × Int32) => [.int x.2]) (fun x ls H locs => lv_has ls 5 [(0, .ref (a h0)), (1, .int x0)] ∧ va_P (dC, dI) vwCl (Wd cy a sh n x.1) H ∧ va_D A (Wd cy a sh n x.1) ∧ va_S A s.heap H locs) (fun x => fn_X3_comeBack_B81 F sh n h0 x0 x.1 x.2) (z8, r8) ?_ (fun B81 => ?_)
  · intro x ls H locs hI hf
    obtain ⟨z_5, p_4⟩ := x
    obtain ⟨hl2, hP2, hD2, hS2⟩ := hI
    replace hl : lv_has ls 5 [(0, .ref (a h0)), (1, .int x0)] := hl2
    replace hP := hP2
    replace hD := hD2
    replace hS := hS2
    clear hl2 hP2 hD2 hS2
    replace hf := fn_X3_comeBack_B81_s hf
    refine W.eq (g2 := F0 m 81 ls [.int p_4]) rfl ?_
    refine lv_istore_n (lv' := [(2, .int p_4), (0, .ref (a h0)), (1, .int x0)]) hx hb dX3_comeBack_81 rfl hl (by decide) rfl (fun ls hl2 => ?_)
    replace hl := hl2
    clear hl2
    refine lv_iconst (v := 0) hx hb dX3_comeBack_82 (by decide) ?_
    refine lv_istore_n (lv' := [(3, .int 0), (2, .int p_4), (0, .ref (a h0)), (1, .int x0)]) hx hb dX3_comeBack_83 rfl hl (by decide) rfl (fun ls hl2 => ?_)
    replace hl := hl2
    clear hl2
    have hl0 : lv_has ls 5 [(3, .int 0), (2, .int p_4), (0, .ref (a h0)), (1, .int x0)] := lv_sub hl [0, 1, 2, 3] rfl
    refine de_loop (h := 84) (fun (x : St × Int32 × Int32) ls H locs => lv_has ls 5 [(3, .int x.2.2), (2, .int x.2.1), (0, .ref (a h0)), (1, .int x0)] ∧ va_P (dC, dI) vwCl (Wd cy a sh n x.1) H ∧ va_D A (Wd cy a sh n x.1) ∧ va_S A s.heap H locs) (fun f x => fn_X3_comeBack_L84 F sh n h0 x0 f x.1 x.2.1 x.2.2) (z8, r8) ?_ (fun _ => rfl) F (z_5, p_4, 0) ls H locs ⟨hl0, hP, hD, hS⟩ hf
    intro f_9 x ls H locs ih84 hI hf
    obtain ⟨z_8, p_6, p_7⟩ := x
    obtain ⟨hl2, hP2, hD2, hS2⟩ := hI
    replace hl : lv_has ls 5 [(3, .int p_7), (2, .int p_6), (0, .ref (a h0)), (1, .int x0)] := hl2
    replace hP := hP2
    replace hD := hD2
    replace hS := hS2
    clear hl2 hP2 hD2 hS2 hl0
    replace hf := fn_X3_comeBack_L84_s hf
    refine lv_iload_n hx hb dX3_comeBack_84 rfl (lv_at hl 0 rfl) ?_
    refine lv_bipush (v := 40) hx hb dX3_comeBack_85 (by decide) ?_
    refine lv_icmp_ge (tgt := 152) hx hb dX3_comeBack_87 (by decide) (fun c_10 => ?_) (fun c_10 => ?_)
    · skip
      rw [if_pos c_10] at hf
      refine lv_iload_n hx hb dX3_comeBack_152 rfl (lv_at hl 1 rfl) ?_
      refine lv_if_ne (tgt := 162) hx hb dX3_comeBack_153 (by decide) (fun c_11 => ?_) (fun c_11 => ?_)
      · skip
        rw [if_neg c_11] at hf
        obtain ⟨h8, h9⟩ := ret_some hf
        rw [h8]
        exact W.vret hx hb hr (fun t ht hW => ⟨⟨(), rfl, trivial, by rw [ht]; exact hP, va_K.moved hW.alike hK, hD⟩, hS.F ht⟩) hS.2.2 dX3_comeBack_162
      · skip
        rw [if_pos c_11] at hf
        refine lv_aload_n hx hb dX3_comeBack_156 rfl (lv_at hl 2 rfl) ?_
        refine lv_bipush (v := 9) hx hb dX3_comeBack_157 (by decide) ?_
        obtain ⟨z_12, _u, hfc, hf⟩ := cal_some hf
        have hFc := de_free hD hS hA
        refine va_callv (va_runV (As := [.int 9]) (rest := []) ⟨hx, hb, hml, hown, hts⟩ (de_X3_fail l dC dI cy a sh n H.size F z_8 h0 9 hfc) (cwV 1 hts gX3_comeBack_X3_fail rfl rfl rfl (by decide +kernel) ⟨Nat.le_of_ble_eq_true rfl, Nat.le_of_ble_eq_true rfl⟩) ⟨fun a U g mk q => by obtain ⟨q0, q1, qP, qK, qD, qN⟩ := q; exact ⟨q0, q1, qP, va_K.moved (u := U) (U := U.calling g mk a) (Vm.Alike.refl U.vm) qK, qD, qN.same rfl⟩, va_recv hK hP (ci := 3) (q0 := h0) rfl (Wd_ob kg_1 sg_1 (by decide)), fun U hU hW => ⟨rfl, by rw [hU], by rw [hU]; exact hP, va_K.moved hW.alike hK, hD.weaken (fun _ _ _ _ => trivial), hN.warm hW⟩⟩ rfl rfl hl.1 rfl (lv_room (Nat.le_of_ble_eq_true rfl)) dX3_comeBack_159 ⟨Nat.le_of_ble_eq_true rfl, Nat.le_of_ble_eq_true rfl⟩) hS (fun q _ h => hFc q h) hFc (fun u t H_13 locs ht hvm hw hB hz1 hk1 hS2 => ?_)
        obtain ⟨hP1, -, hD1⟩ := hB
        rw [ht] at hP1
        replace hD := hD1.weaken (fun _ _ _ h => hFc _ h)
        replace hP := hP1
        replace hS := hS2
        clear hP1 hD1 hS2 hFc hfc hz1 hk1 hvm ht
        obtain ⟨h8, h9⟩ := ret_some hf
        rw [h8]
        exact W.vret hx hb hr (fun t ht hW => ⟨⟨(), rfl, trivial, by rw [ht]; exact hP, va_K.moved hW.alike hK, hD⟩, hS.F ht⟩) hS.2.2 dX3_comeBack_162
    · skip
      rw [if_neg c_10] at hf
      refine lv_aload_n hx hb dX3_comeBack_90 rfl (lv_at hl 2 rfl) ?_
      obtain ⟨k_14, ek_14, hf⟩ := lnk_some hf
      refine va_get (D := (dC, dI)) (ci := 3) (v := .ref (a k_14)) (C := RX3) (T := TX3) (N := 22) hx hb hts iwd_X3_comeBack_X3 hown hK hP h0 (Wd_ob kg_1 sg_1 (by decide)) rfl 19 (by decide) (hts _ md_X3_comeBack_1) (fun _ h9 => h9) (fl_q rfl ek_14) dX3_comeBack_91 ?_
      refine lv_iload_n hx hb dX3_comeBack_94 rfl (lv_at hl 3 rfl) ?_
      obtain ⟨g_15, hf⟩ := grd_some hf
      obtain ⟨kg_15, sg_15, ig_15⟩ := okA_at g_15
      refine va_lald hx hb hK hP k_14 2 (Wd_al kg_15 sg_15) rfl ig_15 dX3_comeBack_95 ?_
      refine lv_iload_n hx hb dX3_comeBack_96 rfl (lv_at hl 0 rfl) ?_
      refine lv_lushr (v := (((z_8.2.1 k_14 x0.toNatClampNeg) : Int64).toUInt64 >>> ((p_7 : Int32).toInt64.toUInt64 &&& Int64.toUInt64 63)).toInt64) hx hb dX3_comeBack_97 rfl ?_
      refine lv_lconst (v := 1) hx hb dX3_comeBack_98 (by decide) ?_
      refine lv_land hx hb dX3_comeBack_99 ?_
      refine lv_lconst (v := 0) hx hb dX3_comeBack_100 (by decide) ?_
      refine W.lcmp hx hb dX3_comeBack_101 ?_
      refine de_cut (h := 110) (fun (x : St × Int32) => [.int x.2]) (fun x ls H locs => lv_has ls 5 [(3, .int p_7), (2, .int p_6), (0, .ref (a h0)), (1, .int x0)] ∧ va_P (dC, dI) vwCl (Wd cy a sh n x.1) H ∧ va_D A (Wd cy a sh n x.1) ∧ va_S A s.heap H locs) (fun x => fn_X3_comeBack_B110 F sh n p_7 p_6 h0 x0 (fun z9 q2 q3 => fn_X3_comeBack_L84 F sh n h0 x0 f_9 z9 q2 q3) x.1 x.2) (z8, r8) ?_ (fun B110 => ?_)
      · intro x ls H locs hI hf
        obtain ⟨z_17, p_16⟩ := x
        obtain ⟨hl2, hP2, hD2, hS2⟩ := hI
        replace hl : lv_has ls 5 [(3, .int p_7), (2, .int p_6), (0, .ref (a h0)), (1, .int x0)] := hl2
        replace hP := hP2
        replace hD := hD2
        replace hS := hS2
        clear hl2 hP2 hD2 hS2
        replace hf := fn_X3_comeBack_B110_s hf
        refine W.eq (g2 := F0 m 110 ls [.int p_16]) rfl ?_
        refine lv_istore (lv' := [(4, .int p_16), (3, .int p_7), (2, .int p_6), (0, .ref (a h0)), (1, .int x0)]) hx hb dX3_comeBack_110 hl (by decide) rfl (fun ls hl2 => ?_)
        replace hl := hl2
        clear hl2
        refine lv_iload hx hb dX3_comeBack_112 (lv_at hl 0 rfl) ?_
        refine de_cut (h := 146) (fun (x : St × Int32) => []) (fun x ls H locs => lv_has ls 5 [(2, .int x.2), (3, .int p_7), (0, .ref (a h0)), (1, .int x0)] ∧ va_P (dC, dI) vwCl (Wd cy a sh n x.1) H ∧ va_D A (Wd cy a sh n x.1) ∧ va_S A s.heap H locs) (fun x => fn_X3_comeBack_B146 F sh n p_7 (fun z9 q2 q3 => fn_X3_comeBack_L84 F sh n h0 x0 f_9 z9 q2 q3) x.1 x.2) (z8, r8) ?_ (fun B146 => ?_)
        · intro x ls H locs hI hf
          obtain ⟨z_19, p_18⟩ := x
          obtain ⟨hl2, hP2, hD2, hS2⟩ := hI
          replace hl : lv_has ls 5 [(2, .int p_18), (3, .int p_7), (0, .ref (a h0)), (1, .int x0)] := hl2
          replace hP := hP2
          replace hD := hD2
          replace hS := hS2
          clear hl2 hP2 hD2 hS2
          replace hf := fn_X3_comeBack_B146_s hf
          refine W.eq (g2 := F0 m 146 ls []) rfl ?_
          refine lv_iinc (v := (p_7 + 1)) (lv' := [(3, .int (p_7 + 1)), (2, .int p_18), (0, .ref (a h0)), (1, .int x0)]) hx hb dX3_comeBack_146 hl (k := 1) rfl rfl (by decide) rfl (fun ls hl2 => ?_)
          replace hl := hl2
          clear hl2
          refine lv_goto (tgt := 84) hx hb dX3_comeBack_149 (by decide) ?_
          exact ih84 (z_19, p_18, (p_7 + 1)) ls H locs ⟨lv_sub hl [0, 1, 2, 3] rfl, hP, hD, hS⟩ hf
        refine lv_if_eq (tgt := 146) hx hb dX3_comeBack_114 (by decide) (fun c_20 => ?_) (fun c_20 => ?_)
        · skip
          rw [if_pos c_20] at hf
          exact B146 (z_17, p_6) ls H locs ⟨lv_sub hl [2, 1, 3, 4] rfl, hP, hD, hS⟩ hf
        · skip
          rw [if_neg c_20] at hf
          refine lv_aload_n hx hb dX3_comeBack_117 rfl (lv_at hl 3 rfl) ?_
          obtain ⟨k_21, ek_21, hf⟩ := lnk_some hf
          refine va_get (D := (dC, dI)) (ci := 3) (v := .ref (a k_21)) (C := RX3) (T := TX3) (N := 22) hx hb hts iwd_X3_comeBack_X3 hown hK hP h0 (Wd_ob kg_1 sg_1 (by decide)) rfl 10 (by decide) (hts _ md_X3_comeBack_7) (fun _ h9 => h9) (fl_q rfl ek_21) dX3_comeBack_118 ?_
          refine lv_iload_n hx hb dX3_comeBack_121 rfl (lv_at hl 1 rfl) ?_
          obtain ⟨g_22, hf⟩ := grd_some hf
          obtain ⟨kg_22, sg_22, ig_22⟩ := okA_at g_22
          refine va_lald hx hb hK hP k_21 2 (Wd_al kg_22 sg_22) rfl ig_22 dX3_comeBack_122 ?_
          refine lv_aload_n hx hb dX3_comeBack_123 rfl (lv_at hl 3 rfl) ?_
          obtain ⟨k_23, ek_23, hf⟩ := lnk_some hf
          refine va_get (D := (dC, dI)) (ci := 3) (v := .ref (a k_23)) (C := RX3) (T := TX3) (N := 22) hx hb hts iwd_X3_comeBack_X3 hown hK hP h0 (Wd_ob kg_1 sg_1 (by decide)) rfl 21 (by decide) (hts _ md_X3_comeBack_8) (fun _ h9 => h9) (fl_q rfl ek_23) dX3_comeBack_124 ?_
          refine lv_iload_n hx hb dX3_comeBack_127 rfl (lv_at hl 4 rfl) ?_
          refine lv_bipush (v := 40) hx hb dX3_comeBack_128 (by decide) ?_
          refine lv_imul hx hb dX3_comeBack_130 ?_
          refine lv_iload_n hx hb dX3_comeBack_131 rfl (lv_at hl 1 rfl) ?_
          refine lv_iadd hx hb dX3_comeBack_132 ?_
          obtain ⟨g_24, hf⟩ := grd_some hf
          obtain ⟨kg_24, sg_24, ig_24⟩ := okA_at g_24
          refine va_lald hx hb hK hP k_23 2 (Wd_al kg_24 sg_24) rfl ig_24 dX3_comeBack_133 ?_
          refine lv_ldc2 hx hb hown (hts _ md_X3_comeBack_3) dX3_comeBack_134 ?_
          refine lv_lxor hx hb dX3_comeBack_137 ?_
          refine lv_land hx hb dX3_comeBack_138 ?_
          refine lv_lconst (v := 0) hx hb dX3_comeBack_139 (by decide) ?_
          refine W.lcmp hx hb dX3_comeBack_140 ?_
          refine lv_if_eq (tgt := 146) hx hb dX3_comeBack_141 (by decide) (fun c_25 => ?_) (fun c_25 => ?_)
          · skip
            rw [lg_cmp_eq] at c_25
            rw [if_pos c_25] at hf
            exact B146 (z_17, p_6) ls H locs ⟨lv_sub hl [2, 1, 3, 4] rfl, hP, hD, hS⟩ hf
          · skip
            rw [lg_cmp_eq] at c_25
            rw [if_neg c_25] at hf
            refine lv_iconst (v := 0) hx hb dX3_comeBack_144 (by decide) ?_
            refine lv_istore_n (lv' := [(2, .int 0), (4, .int p_16), (3, .int p_7), (0, .ref (a h0)), (1, .int x0)]) hx hb dX3_comeBack_145 rfl hl (by decide) rfl (fun ls hl2 => ?_)
            replace hl := hl2
            clear hl2
            exact B146 (z_17, 0) ls H locs ⟨lv_sub hl [0, 2, 3, 4] rfl, hP, hD, hS⟩ hf
      refine lv_if_eq (tgt := 109) hx hb dX3_comeBack_102 (by decide) (fun c_26 => ?_) (fun c_26 => ?_)
      · skip
        rw [lg_cmp_eq] at c_26
        rw [if_pos c_26] at hf
        refine lv_iconst (v := 0) hx hb dX3_comeBack_109 (by decide) ?_
        exact B110 (z_8, 0) ls H locs ⟨lv_sub hl [0, 1, 2, 3] rfl, hP, hD, hS⟩ hf
      · skip
        rw [lg_cmp_eq] at c_26
        rw [if_neg c_26] at hf
        refine lv_iconst (v := 1) hx hb dX3_comeBack_105 (by decide) ?_
        refine lv_goto (tgt := 110) hx hb dX3_comeBack_106 (by decide) ?_
        exact B110 (z_8, 1) ls H locs ⟨lv_sub hl [0, 1, 2, 3] rfl, hP, hD, hS⟩ hf
  refine de_cut (h := 80) (fun (x : St) => []) (fun x ls H locs => lv_has ls 5 [(0, .ref (a h0)), (1, .int x0)] ∧ va_P (dC, dI) vwCl (Wd cy a sh n x) H ∧ va_D A (Wd cy a sh n x) ∧ va_S A s.heap H locs) (fun x => fn_X3_comeBack_B80 F sh n h0 x0 x) (z8, r8) ?_ (fun B80 => ?_)
  · intro x ls H locs hI hf
    obtain ⟨z_27, ez⟩ : ∃ w, w = x := ⟨_, rfl⟩
    subst ez
    obtain ⟨hl2, hP2, hD2, hS2⟩ := hI
    replace hl : lv_has ls 5 [(0, .ref (a h0)), (1, .int x0)] := hl2
    replace hP := hP2
    replace hD := hD2
    replace hS := hS2
    clear hl2 hP2 hD2 hS2
    replace hf := fn_X3_comeBack_B80_s hf
    refine W.eq (g2 := F0 m 80 ls []) rfl ?_
    refine lv_iconst (v := 0) hx hb dX3_comeBack_80 (by decide) ?_
    exact B81 (z_27, 0) ls H locs ⟨lv_sub hl [0, 1] rfl, hP, hD, hS⟩ hf
  refine lv_if_ne (tgt := 80) hx hb dX3_comeBack_17 (by decide) (fun c_28 => ?_) (fun c_28 => ?_)
  · skip
    rw [lg_cmp_eq] at c_28
    rw [if_neg c_28] at hf
    exact B80 (z) ls H locs ⟨lv_sub hl [0, 1] rfl, hP, hD, hS⟩ hf
  · skip
    rw [lg_cmp_eq] at c_28
    rw [if_pos c_28] at hf
    refine lv_aload_n hx hb dX3_comeBack_20 rfl (lv_at hl 0 rfl) ?_
    refine va_get (D := (dC, dI)) (ci := 3) (v := .long (z.2.1 h0 12)) (C := RX3) (T := TX3) (N := 22) hx hb hts iwd_X3_comeBack_X3 hown hK hP h0 (Wd_ob kg_1 sg_1 (by decide)) rfl 12 (by decide) (hts _ md_X3_comeBack_2) (fun _ h9 => h9) (fl_at (t := 1) rfl) dX3_comeBack_21 ?_
    refine lv_aload_n hx hb dX3_comeBack_24 rfl (lv_at hl 0 rfl) ?_
    obtain ⟨k_29, ek_29, hf⟩ := lnk_some hf
    refine va_get (D := (dC, dI)) (ci := 3) (v := .ref (a k_29)) (C := RX3) (T := TX3) (N := 22) hx hb hts iwd_X3_comeBack_X3 hown hK hP h0 (Wd_ob kg_1 sg_1 (by decide)) rfl 19 (by decide) (hts _ md_X3_comeBack_1) (fun _ h9 => h9) (fl_q rfl ek_29) dX3_comeBack_25 ?_
    refine lv_iload_n hx hb dX3_comeBack_28 rfl (lv_at hl 1 rfl) ?_
    obtain ⟨g_30, hf⟩ := grd_some hf
    obtain ⟨kg_30, sg_30, ig_30⟩ := okA_at g_30
    refine va_lald hx hb hK hP k_29 2 (Wd_al kg_30 sg_30) rfl ig_30 dX3_comeBack_29 ?_
    refine lv_ldc2 hx hb hown (hts _ md_X3_comeBack_3) dX3_comeBack_30 ?_
    refine lv_lxor hx hb dX3_comeBack_33 ?_
    refine lv_land hx hb dX3_comeBack_34 ?_
    refine lv_aload_n hx hb dX3_comeBack_35 rfl (lv_at hl 0 rfl) ?_
    refine va_get (D := (dC, dI)) (ci := 3) (v := .long (z.2.1 h0 11)) (C := RX3) (T := TX3) (N := 22) hx hb hts iwd_X3_comeBack_X3 hown hK hP h0 (Wd_ob kg_1 sg_1 (by decide)) rfl 11 (by decide) (hts _ md_X3_comeBack_4) (fun _ h9 => h9) (fl_at (t := 1) rfl) dX3_comeBack_36 ?_
    refine lv_ldc2 hx hb hown (hts _ md_X3_comeBack_3) dX3_comeBack_39 ?_
    refine lv_lxor hx hb dX3_comeBack_42 ?_
    refine lv_land hx hb dX3_comeBack_43 ?_
    refine lv_lconst (v := 0) hx hb dX3_comeBack_44 (by decide) ?_
    refine W.lcmp hx hb dX3_comeBack_45 ?_
    refine lv_if_ne (tgt := 80) hx hb dX3_comeBack_46 (by decide) (fun c_31 => ?_) (fun c_31 => ?_)
    · skip
      rw [lg_cmp_eq] at c_31
      rw [if_neg c_31] at hf
      exact B80 (z) ls H locs ⟨lv_sub hl [0, 1] rfl, hP, hD, hS⟩ hf
    · skip
      rw [lg_cmp_eq] at c_31
      rw [if_pos c_31] at hf
      refine lv_aload_n hx hb dX3_comeBack_49 rfl (lv_at hl 0 rfl) ?_
      refine va_get (D := (dC, dI)) (ci := 3) (v := .long (z.2.1 h0 13)) (C := RX3) (T := TX3) (N := 22) hx hb hts iwd_X3_comeBack_X3 hown hK hP h0 (Wd_ob kg_1 sg_1 (by decide)) rfl 13 (by decide) (hts _ md_X3_comeBack_5) (fun _ h9 => h9) (fl_at (t := 1) rfl) dX3_comeBack_50 ?_
      refine lv_aload_n hx hb dX3_comeBack_53 rfl (lv_at hl 0 rfl) ?_
      obtain ⟨k_32, ek_32, hf⟩ := lnk_some hf
      refine va_get (D := (dC, dI)) (ci := 3) (v := .ref (a k_32)) (C := RX3) (T := TX3) (N := 22) hx hb hts iwd_X3_comeBack_X3 hown hK hP h0 (Wd_ob kg_1 sg_1 (by decide)) rfl 19 (by decide) (hts _ md_X3_comeBack_1) (fun _ h9 => h9) (fl_q rfl ek_32) dX3_comeBack_54 ?_
      refine lv_iload_n hx hb dX3_comeBack_57 rfl (lv_at hl 1 rfl) ?_
      obtain ⟨g_33, hf⟩ := grd_some hf
      obtain ⟨kg_33, sg_33, ig_33⟩ := okA_at g_33
      refine va_lald hx hb hK hP k_32 2 (Wd_al kg_33 sg_33) rfl ig_33 dX3_comeBack_58 ?_
      refine lv_land hx hb dX3_comeBack_59 ?_
      refine lv_aload_n hx hb dX3_comeBack_60 rfl (lv_at hl 0 rfl) ?_
      obtain ⟨k_34, ek_34, hf⟩ := lnk_some hf
      refine va_get (D := (dC, dI)) (ci := 3) (v := .ref (a k_34)) (C := RX3) (T := TX3) (N := 22) hx hb hts iwd_X3_comeBack_X3 hown hK hP h0 (Wd_ob kg_1 sg_1 (by decide)) rfl 20 (by decide) (hts _ md_X3_comeBack_6) (fun _ h9 => h9) (fl_q rfl ek_34) dX3_comeBack_61 ?_
      refine lv_iload_n hx hb dX3_comeBack_64 rfl (lv_at hl 1 rfl) ?_
      obtain ⟨g_35, hf⟩ := grd_some hf
      obtain ⟨kg_35, sg_35, ig_35⟩ := okA_at g_35
      refine va_lald hx hb hK hP k_34 2 (Wd_al kg_35 sg_35) rfl ig_35 dX3_comeBack_65 ?_
      refine lv_ldc2 hx hb hown (hts _ md_X3_comeBack_3) dX3_comeBack_66 ?_
      refine lv_lxor hx hb dX3_comeBack_69 ?_
      refine lv_land hx hb dX3_comeBack_70 ?_
      refine lv_lconst (v := 0) hx hb dX3_comeBack_71 (by decide) ?_
      refine W.lcmp hx hb dX3_comeBack_72 ?_
      refine lv_if_ne (tgt := 80) hx hb dX3_comeBack_73 (by decide) (fun c_36 => ?_) (fun c_36 => ?_)
      · skip
        rw [lg_cmp_eq] at c_36
        rw [if_neg c_36] at hf
        exact B80 (z) ls H locs ⟨lv_sub hl [0, 1] rfl, hP, hD, hS⟩ hf
      · skip
        rw [lg_cmp_eq] at c_36
        rw [if_pos c_36] at hf
        refine lv_iconst (v := 1) hx hb dX3_comeBack_76 (by decide) ?_
        refine lv_goto (tgt := 81) hx hb dX3_comeBack_77 (by decide) ?_
        exact B81 (z, 1) ls H locs ⟨lv_sub hl [0, 1] rfl, hP, hD, hS⟩ hf

theorem md_X18_isTooMuch_1 : (.fieldLink RX18 271 "ResourceLedgerModel" "asked" "I" : Cond) ∈ wsX18_isTooMuch := List.mem_of_getElem? (i := 1) rfl
theorem iwd_X18_isTooMuch_X18 : ∀ w ∈ wsX180, w ∈ wsX18_isTooMuch := fun _ h => List.mem_cons_of_mem _ (List.mem_append_left _ (List.mem_append_right _ h))
theorem md_X18_isTooMuch_2 : (.fieldLink RX18 274 "ResourceLedgerModel" "askedSorts" "[I" : Cond) ∈ wsX18_isTooMuch := List.mem_of_getElem? (i := 2) rfl
theorem md_X18_isTooMuch_5 : (.fieldLink RX18 296 "ResourceLedgerModel" "askedThere" "[Z" : Cond) ∈ wsX18_isTooMuch := List.mem_of_getElem? (i := 5) rfl
theorem md_X18_isTooMuch_6 : (.fieldLink RX18 40 "ResourceLedgerModel" "trees" "LResourceLedgerModel$Trees;" : Cond) ∈ wsX18_isTooMuch := List.mem_of_getElem? (i := 6) rfl
theorem md_X18_isTooMuch_7 : (.fieldLink RX18 285 "ResourceLedgerModel" "askedTrees" "[I" : Cond) ∈ wsX18_isTooMuch := List.mem_of_getElem? (i := 7) rfl
theorem md_X18_isTooMuch_3 : (.fieldLink RX18 277 "ResourceLedgerModel" "askedAddresses" "[J" : Cond) ∈ wsX18_isTooMuch := List.mem_of_getElem? (i := 3) rfl
theorem md_X18_isTooMuch_4 : (.fieldLink RX18 280 "ResourceLedgerModel" "askedKinds" "[I" : Cond) ∈ wsX18_isTooMuch := List.mem_of_getElem? (i := 4) rfl
set_option maxHeartbeats 4000000 in
set_option maxRecDepth 100000 in
theorem de_X18_isTooMuch (l : Launch) (dC : Nat → ClassId) (dI : Nat → Nat → Nat) (cy : Nat → ClassId) (a : Nat → Nat) (sh : Nat → Nat × Nat) (n sz : Nat) (F : Nat) (z : St) (h0 : Nat) {z8 : St} {r8 : Int32} (hf : fn_X18_isTooMuch F sh n z h0 = some (z8, r8)) : Met l yX18_isTooMuch wsX18_isTooMuch ({ frames := 49, cells := 0, slots := 0, locals := 1127 }) (va_Pc [.ref (a h0)] (fun U => U.heap.size = sz ∧ va_P (dC, dI) vwCl (Wd cy a sh n z) U.heap ∧ va_K (dC, dI) vwCl (TYS cy) U ∧ va_D (fun _ => True) (Wd cy a sh n z) ∧ NK U)) (va_Qi (fun (r9 : Int32) (u : Unit) => r9 = r8) (fun u t => va_P (dC, dI) vwCl (Wd cy a sh n z8) t.heap ∧ va_K (dC, dI) vwCl (TYS cy) t ∧ va_D (va_A (Wd cy a sh n z) sz) (Wd cy a sh n z8)) (va_A (Wd cy a sh n z) sz)) 0 0 (va_A (Wd cy a sh n z) sz) := by
  refine Met.ofW (cc := cX18_isTooMuch) (maxL := 5) (ret := (some .boolean)) (by decide) rfl ?_
  intro p e s m args below meth c s₁ B hml hv
  obtain ⟨rfl, hsz, hP, hK, hD0, hN⟩ := hv
  have hx := B.exec
  have hb := B.bytes
  have hr := B.returns
  have hts := atoms_spec (ws := wsX18_isTooMuch) B.pre
  have hown : s.vm.findClass RX18 = some m.cls := findClass_of_methodNamed B.named
  have hlocks := B.notSynchronized
  subst hsz
  have hD := hD0.self (sz := s.heap.size)
  clear hD0
  generalize hAe : va_A (Wd cy a sh n z) s.heap.size = A at hD ⊢
  have hA : ∀ q : Nat, s.heap.size ≤ q → A q := fun q h => by rw [← hAe]; exact Or.inr h
  clear hAe
  have hS : va_S A s.heap s.heap [] := va_S.rf
  have hl := lv_entry ([.ref (a h0)]) (n := 5) (Nat.le_of_ble_eq_true rfl)
  rw [lg_entry_eq]
  generalize (lg_sl ([.ref (a h0)]) ++ List.replicate (5 - (lg_sl ([.ref (a h0)])).length) Slot.unset).toArray = ls at hl ⊢
  replace hl : lv_has ls 5 [(0, .ref (a h0))] := hl
  unfold fn_X18_isTooMuch at hf
  refine de_start hS hP (fun H locs hS hP => ?_)
  refine lv_iconst (v := 0) hx hb dX18_isTooMuch_0 (by decide) ?_
  refine lv_istore_n (lv' := [(1, .int 0), (0, .ref (a h0))]) hx hb dX18_isTooMuch_1 rfl hl (by decide) rfl (fun ls hl2 => ?_)
  replace hl := hl2
  clear hl2
  refine lv_iconst (v := 0) hx hb dX18_isTooMuch_2 (by decide) ?_
  refine lv_istore_n (lv' := [(2, .int 0), (1, .int 0), (0, .ref (a h0))]) hx hb dX18_isTooMuch_3 rfl hl (by decide) rfl (fun ls hl2 => ?_)
  replace hl := hl2
  clear hl2
  refine lv_iconst (v := 0) hx hb dX18_isTooMuch_4 (by decide) ?_
  refine lv_istore_n (lv' := [(3, .int 0), (2, .int 0), (1, .int 0), (0, .ref (a h0))]) hx hb dX18_isTooMuch_5 rfl hl (by decide) rfl (fun ls hl2 => ?_)
  replace hl := hl2
  clear hl2
  have hl0 : lv_has ls 5 [(3, .int 0), (2, .int 0), (1, .int 0), (0, .ref (a h0))] := lv_sub hl [0, 1, 2, 3] rfl
  refine de_loop (h := 6) (fun (x : St × Int32 × Int32 × Int32) ls H locs => lv_has ls 5 [(3, .int x.2.2.2), (2, .int x.2.2.1), (1, .int x.2.1), (0, .ref (a h0))] ∧ va_P (dC, dI) vwCl (Wd cy a sh n x.1) H ∧ va_D A (Wd cy a sh n x.1) ∧ va_S A s.heap H locs) (fun f x => fn_X18_isTooMuch_L6 F sh n h0 f x.1 x.2.1 x.2.2.1 x.2.2.2) (z8, r8) ?_ (fun _ => rfl) F (z, 0, 0, 0) ls H locs ⟨hl0, hP, hD, hS⟩ hf
  intro f_5 x ls H locs ih6 hI hf
  obtain ⟨z_4, p_1, p_2, p_3⟩ := x
  obtain ⟨hl2, hP2, hD2, hS2⟩ := hI
  replace hl : lv_has ls 5 [(3, .int p_3), (2, .int p_2), (1, .int p_1), (0, .ref (a h0))] := hl2
  replace hP := hP2
  replace hD := hD2
  replace hS := hS2
  clear hl2 hP2 hD2 hS2 hl0
  replace hf := fn_X18_isTooMuch_L6_s hf
  refine lv_iload_n hx hb dX18_isTooMuch_6 rfl (lv_at hl 0 rfl) ?_
  refine lv_aload_n hx hb dX18_isTooMuch_7 rfl (lv_at hl 3 rfl) ?_
  obtain ⟨g_6, hf⟩ := grd_some hf
  obtain ⟨kg_6, sg_6⟩ := okO_at g_6
  refine va_get (D := (dC, dI)) (ci := 18) (v := .int (z_4.1 h0 29)) (C := RX18) (T := TX18) (N := 78) hx hb hts iwd_X18_isTooMuch_X18 hown hK hP h0 (Wd_ob kg_6 sg_6 (by decide)) rfl 29 (by decide) (hts _ md_X18_isTooMuch_1) (fun _ h9 => h9) (fl_at (t := 0) rfl) dX18_isTooMuch_8 ?_
  refine lv_icmp_ge (tgt := 175) hx hb dX18_isTooMuch_11 (by decide) (fun c_7 => ?_) (fun c_7 => ?_)
  · skip
    rw [if_pos c_7] at hf
    refine lv_iload_n hx hb dX18_isTooMuch_175 rfl (lv_at hl 1 rfl) ?_
    refine lv_if_ne (tgt := 191) hx hb dX18_isTooMuch_176 (by decide) (fun c_8 => ?_) (fun c_8 => ?_)
    · skip
      rw [if_neg c_8] at hf
      refine lv_iconst (v := 1) hx hb dX18_isTooMuch_191 (by decide) ?_
      refine lv_goto (tgt := 196) hx hb dX18_isTooMuch_192 (by decide) ?_
      obtain ⟨h8, h9⟩ := ret_some hf
      rw [h8, h9]
      exact W.zret (v := 1) hx hb hr rfl (fun t ht hW => ⟨⟨1, (), rfl, rfl, by rw [ht]; exact hP, va_K.moved hW.alike hK, hD⟩, hS.F ht⟩) hS.2.2 dX18_isTooMuch_196
    · skip
      rw [if_pos c_8] at hf
      refine lv_aload_n hx hb dX18_isTooMuch_179 rfl (lv_at hl 3 rfl) ?_
      obtain ⟨z_9, r_10, hfc, hf⟩ := cal_some hf
      have hFc := de_free hD hS hA
      refine va_calli (va_runV (As := []) (rest := []) ⟨hx, hb, hml, hown, hts⟩ (de_X18_placeCount l dC dI cy a sh n H.size F z_4 h0 hfc) (cwV 0 hts gX18_isTooMuch_X18_placeCount rfl rfl rfl (by decide +kernel) ⟨Nat.le_of_ble_eq_true rfl, Nat.le_of_ble_eq_true rfl⟩) ⟨fun a U g mk q => by obtain ⟨q0, q1, qP, qK, qD, qN⟩ := q; exact ⟨q0, q1, qP, va_K.moved (u := U) (U := U.calling g mk a) (Vm.Alike.refl U.vm) qK, qD, qN.same rfl⟩, va_recv hK hP (ci := 18) (q0 := h0) rfl (Wd_ob kg_6 sg_6 (by decide)), fun U hU hW => ⟨rfl, by rw [hU], by rw [hU]; exact hP, va_K.moved hW.alike hK, hD.weaken (fun _ _ _ _ => trivial), hN.warm hW⟩⟩ rfl rfl hl.1 rfl (lv_room (Nat.le_of_ble_eq_true rfl)) dX18_isTooMuch_180 ⟨Nat.le_of_ble_eq_true rfl, Nat.le_of_ble_eq_true rfl⟩) hS (fun q _ h => hFc q h) hFc (fun rr u t H_11 locs ht hvm hw hB hz1 hk1 hS2 => ?_)
      rw [hw]
      clear hw
      obtain ⟨hP1, -, hD1⟩ := hB
      rw [ht] at hP1
      replace hD := hD1.weaken (fun _ _ _ h => hFc _ h)
      replace hP := hP1
      replace hS := hS2
      clear hP1 hD1 hS2 hFc hfc hz1 hk1 hvm ht
      refine lv_iload_n hx hb dX18_isTooMuch_183 rfl (lv_at hl 2 rfl) ?_
      refine lv_iadd hx hb dX18_isTooMuch_184 ?_
      refine lv_sipush (v := 256) hx hb dX18_isTooMuch_185 (by decide) ?_
      refine lv_icmp_le (tgt := 195) hx hb dX18_isTooMuch_188 (by decide) (fun c_12 => ?_) (fun c_12 => ?_)
      · skip
        rw [if_pos c_12] at hf
        refine lv_iconst (v := 0) hx hb dX18_isTooMuch_195 (by decide) ?_
        obtain ⟨h8, h9⟩ := ret_some hf
        rw [h8, h9]
        exact W.zret (v := 0) hx hb hr rfl (fun t ht hW => ⟨⟨0, (), rfl, rfl, by rw [ht]; exact hP, va_K.moved hW.alike hK, hD⟩, hS.F ht⟩) hS.2.2 dX18_isTooMuch_196
      · skip
        rw [if_neg c_12] at hf
        refine lv_iconst (v := 1) hx hb dX18_isTooMuch_191 (by decide) ?_
        refine lv_goto (tgt := 196) hx hb dX18_isTooMuch_192 (by decide) ?_
        obtain ⟨h8, h9⟩ := ret_some hf
        rw [h8, h9]
        exact W.zret (v := 1) hx hb hr rfl (fun t ht hW => ⟨⟨1, (), rfl, rfl, by rw [ht]; exact hP, va_K.moved hW.alike hK, hD⟩, hS.F ht⟩) hS.2.2 dX18_isTooMuch_196
  · skip
    rw [if_neg c_7] at hf
    refine lv_aload_n hx hb dX18_isTooMuch_14 rfl (lv_at hl 3 rfl) ?_
    obtain ⟨k_13, ek_13, hf⟩ := lnk_some hf
    refine va_get (D := (dC, dI)) (ci := 18) (v := .ref (a k_13)) (C := RX18) (T := TX18) (N := 78) hx hb hts iwd_X18_isTooMuch_X18 hown hK hP h0 (Wd_ob kg_6 sg_6 (by decide)) rfl 30 (by decide) (hts _ md_X18_isTooMuch_2) (fun _ h9 => h9) (fl_q rfl ek_13) dX18_isTooMuch_15 ?_
    refine lv_iload_n hx hb dX18_isTooMuch_18 rfl (lv_at hl 0 rfl) ?_
    obtain ⟨g_14, hf⟩ := grd_some hf
    obtain ⟨kg_14, sg_14, ig_14⟩ := okA_at g_14
    refine va_iald hx hb hK hP k_13 1 (Wd_ai kg_14 sg_14) rfl ig_14 dX18_isTooMuch_19 ?_
    refine lv_iconst (v := 1) hx hb dX18_isTooMuch_20 (by decide) ?_
    refine de_cut (h := 79) (fun (x : St × Int32) => [.int x.2]) (fun x ls H locs => lv_has ls 5 [(3, .int p_3), (2, .int p_2), (1, .int p_1), (0, .ref (a h0))] ∧ va_P (dC, dI) vwCl (Wd cy a sh n x.1) H ∧ va_D A (Wd cy a sh n x.1) ∧ va_S A s.heap H locs) (fun x => fn_X18_isTooMuch_B79 F sh n h0 p_3 p_1 p_2 (fun z9 q1 q2 q3 => fn_X18_isTooMuch_L6 F sh n h0 f_5 z9 q1 q2 q3) x.1 x.2) (z8, r8) ?_ (fun B79 => ?_)
    · intro x ls H locs hI hf
      obtain ⟨z_16, p_15⟩ := x
      obtain ⟨hl2, hP2, hD2, hS2⟩ := hI
      replace hl : lv_has ls 5 [(3, .int p_3), (2, .int p_2), (1, .int p_1), (0, .ref (a h0))] := hl2
      replace hP := hP2
      replace hD := hD2
      replace hS := hS2
      clear hl2 hP2 hD2 hS2
      replace hf := fn_X18_isTooMuch_B79_s hf
      refine W.eq (g2 := F0 m 79 ls [.int p_15]) rfl ?_
      refine lv_istore (lv' := [(4, .int p_15), (3, .int p_3), (2, .int p_2), (1, .int p_1), (0, .ref (a h0))]) hx hb dX18_isTooMuch_79 hl (by decide) rfl (fun ls hl2 => ?_)
      replace hl := hl2
      clear hl2
      refine lv_aload_n hx hb dX18_isTooMuch_81 rfl (lv_at hl 4 rfl) ?_
      obtain ⟨k_17, ek_17, hf⟩ := lnk_some hf
      refine va_get (D := (dC, dI)) (ci := 18) (v := .ref (a k_17)) (C := RX18) (T := TX18) (N := 78) hx hb hts iwd_X18_isTooMuch_X18 hown hK hP h0 (Wd_ob kg_6 sg_6 (by decide)) rfl 30 (by decide) (hts _ md_X18_isTooMuch_2) (fun _ h9 => h9) (fl_q rfl ek_17) dX18_isTooMuch_82 ?_
      refine lv_iload_n hx hb dX18_isTooMuch_85 rfl (lv_at hl 1 rfl) ?_
      obtain ⟨g_18, hf⟩ := grd_some hf
      obtain ⟨kg_18, sg_18, ig_18⟩ := okA_at g_18
      refine va_iald hx hb hK hP k_17 1 (Wd_ai kg_18 sg_18) rfl ig_18 dX18_isTooMuch_86 ?_
      refine lv_iconst (v := 2) hx hb dX18_isTooMuch_87 (by decide) ?_
      refine de_cut (h := 169) (fun (x : St × Int32 × Int32) => []) (fun x ls H locs => lv_has ls 5 [(1, .int x.2.1), (2, .int x.2.2), (3, .int p_3), (0, .ref (a h0))] ∧ va_P (dC, dI) vwCl (Wd cy a sh n x.1) H ∧ va_D A (Wd cy a sh n x.1) ∧ va_S A s.heap H locs) (fun x => fn_X18_isTooMuch_B169 F sh n p_3 (fun z9 q1 q2 q3 => fn_X18_isTooMuch_L6 F sh n h0 f_5 z9 q1 q2 q3) x.1 x.2.1 x.2.2) (z8, r8) ?_ (fun B169 => ?_)
      · intro x ls H locs hI hf
        obtain ⟨z_21, p_19, p_20⟩ := x
        obtain ⟨hl2, hP2, hD2, hS2⟩ := hI
        replace hl : lv_has ls 5 [(1, .int p_19), (2, .int p_20), (3, .int p_3), (0, .ref (a h0))] := hl2
        replace hP := hP2
        replace hD := hD2
        replace hS := hS2
        clear hl2 hP2 hD2 hS2
        replace hf := fn_X18_isTooMuch_B169_s hf
        refine W.eq (g2 := F0 m 169 ls []) rfl ?_
        refine lv_iinc (v := (p_3 + 1)) (lv' := [(3, .int (p_3 + 1)), (1, .int p_19), (2, .int p_20), (0, .ref (a h0))]) hx hb dX18_isTooMuch_169 hl (k := 2) rfl rfl (by decide) rfl (fun ls hl2 => ?_)
        replace hl := hl2
        clear hl2
        refine lv_goto (tgt := 6) hx hb dX18_isTooMuch_172 (by decide) ?_
        exact ih6 (z_21, p_19, p_20, (p_3 + 1)) ls H locs ⟨lv_sub hl [0, 2, 1, 3] rfl, hP, hD, hS⟩ hf
      refine lv_icmp_ne (tgt := 94) hx hb dX18_isTooMuch_88 (by decide) (fun c_22 => ?_) (fun c_22 => ?_)
      · skip
        rw [if_neg c_22] at hf
        refine lv_iload_n hx hb dX18_isTooMuch_94 rfl (lv_at hl 3 rfl) ?_
        refine lv_aload_n hx hb dX18_isTooMuch_95 rfl (lv_at hl 4 rfl) ?_
        obtain ⟨k_23, ek_23, hf⟩ := lnk_some hf
        refine va_get (D := (dC, dI)) (ci := 18) (v := .ref (a k_23)) (C := RX18) (T := TX18) (N := 78) hx hb hts iwd_X18_isTooMuch_X18 hown hK hP h0 (Wd_ob kg_6 sg_6 (by decide)) rfl 35 (by decide) (hts _ md_X18_isTooMuch_5) (fun _ h9 => h9) (fl_q rfl ek_23) dX18_isTooMuch_96 ?_
        refine lv_iload_n hx hb dX18_isTooMuch_99 rfl (lv_at hl 1 rfl) ?_
        obtain ⟨g_24, hf⟩ := grd_some hf
        obtain ⟨kg_24, sg_24, ig_24⟩ := okA_at g_24
        refine va_zald hx hb hK hP k_23 3 (Wd_az kg_24 sg_24) rfl ig_24 dX18_isTooMuch_100 ?_
        refine de_cut (h := 109) (fun (x : St × Int32) => [.int x.2, .int p_1]) (fun x ls H locs => lv_has ls 5 [(4, .int p_15), (3, .int p_3), (2, .int p_2), (0, .ref (a h0))] ∧ va_P (dC, dI) vwCl (Wd cy a sh n x.1) H ∧ va_D A (Wd cy a sh n x.1) ∧ va_S A s.heap H locs) (fun x => fn_X18_isTooMuch_B109 F sh n p_15 p_1 p_2 h0 p_3 (fun z9 q1 q2 q3 => fn_X18_isTooMuch_L6 F sh n h0 f_5 z9 q1 q2 q3) x.1 x.2) (z8, r8) ?_ (fun B109 => ?_)
        · intro x ls H locs hI hf
          obtain ⟨z_26, p_25⟩ := x
          obtain ⟨hl2, hP2, hD2, hS2⟩ := hI
          replace hl : lv_has ls 5 [(4, .int p_15), (3, .int p_3), (2, .int p_2), (0, .ref (a h0))] := hl2
          replace hP := hP2
          replace hD := hD2
          replace hS := hS2
          clear hl2 hP2 hD2 hS2
          replace hf := fn_X18_isTooMuch_B109_s hf
          refine W.eq (g2 := F0 m 109 ls [.int p_25, .int p_1]) rfl ?_
          refine lv_iload hx hb dX18_isTooMuch_109 (lv_at hl 0 rfl) ?_
          refine de_cut (h := 119) (fun (x : St × Int32) => [.int x.2, .int p_25, .int p_1]) (fun x ls H locs => lv_has ls 5 [(3, .int p_3), (2, .int p_2), (0, .ref (a h0))] ∧ va_P (dC, dI) vwCl (Wd cy a sh n x.1) H ∧ va_D A (Wd cy a sh n x.1) ∧ va_S A s.heap H locs) (fun x => fn_X18_isTooMuch_B119 F sh n p_1 p_25 p_2 h0 p_3 (fun z9 q1 q2 q3 => fn_X18_isTooMuch_L6 F sh n h0 f_5 z9 q1 q2 q3) x.1 x.2) (z8, r8) ?_ (fun B119 => ?_)
          · intro x ls H locs hI hf
            obtain ⟨z_28, p_27⟩ := x
            obtain ⟨hl2, hP2, hD2, hS2⟩ := hI
            replace hl : lv_has ls 5 [(3, .int p_3), (2, .int p_2), (0, .ref (a h0))] := hl2
            replace hP := hP2
            replace hD := hD2
            replace hS := hS2
            clear hl2 hP2 hD2 hS2
            replace hf := fn_X18_isTooMuch_B119_s hf
            refine W.eq (g2 := F0 m 119 ls [.int p_27, .int p_25, .int p_1]) rfl ?_
            refine lv_isub hx hb dX18_isTooMuch_119 ?_
            refine lv_iadd hx hb dX18_isTooMuch_120 ?_
            refine lv_topi (fun v_29 ev_29 => ?_)
            replace hf := lt_at ev_29 hf
            clear ev_29
            refine lv_istore_n (lv' := [(1, .int v_29), (3, .int p_3), (2, .int p_2), (0, .ref (a h0))]) hx hb dX18_isTooMuch_121 rfl hl (by decide) rfl (fun ls hl2 => ?_)
            replace hl := hl2
            clear hl2
            refine lv_iload_n hx hb dX18_isTooMuch_122 rfl (lv_at hl 2 rfl) ?_
            refine de_cut (h := 168) (fun (x : St × Int32) => [.int x.2]) (fun x ls H locs => lv_has ls 5 [(1, .int v_29), (3, .int p_3), (0, .ref (a h0))] ∧ va_P (dC, dI) vwCl (Wd cy a sh n x.1) H ∧ va_D A (Wd cy a sh n x.1) ∧ va_S A s.heap H locs) (fun x => fn_X18_isTooMuch_B168 F sh n p_3 v_29 (fun z9 q1 q2 q3 => fn_X18_isTooMuch_L6 F sh n h0 f_5 z9 q1 q2 q3) x.1 x.2) (z8, r8) ?_ (fun B168 => ?_)
            · intro x ls H locs hI hf
              obtain ⟨z_31, p_30⟩ := x
              obtain ⟨hl2, hP2, hD2, hS2⟩ := hI
              replace hl : lv_has ls 5 [(1, .int v_29), (3, .int p_3), (0, .ref (a h0))] := hl2
              replace hP := hP2
              replace hD := hD2
              replace hS := hS2
              clear hl2 hP2 hD2 hS2
              replace hf := fn_X18_isTooMuch_B168_s hf
              refine W.eq (g2 := F0 m 168 ls [.int p_30]) rfl ?_
              refine lv_istore_n (lv' := [(2, .int p_30), (1, .int v_29), (3, .int p_3), (0, .ref (a h0))]) hx hb dX18_isTooMuch_168 rfl hl (by decide) rfl (fun ls hl2 => ?_)
              replace hl := hl2
              clear hl2
              exact B169 (z_31, v_29, p_30) ls H locs ⟨lv_sub hl [1, 0, 2, 3] rfl, hP, hD, hS⟩ hf
            refine de_cut (h := 163) (fun (x : St) => []) (fun x ls H locs => lv_has ls 5 [(1, .int v_29), (3, .int p_3), (0, .ref (a h0))] ∧ va_P (dC, dI) vwCl (Wd cy a sh n x) H ∧ va_D A (Wd cy a sh n x) ∧ va_S A s.heap H locs) (fun x => fn_X18_isTooMuch_B163 F sh n p_3 v_29 (fun z9 q1 q2 q3 => fn_X18_isTooMuch_L6 F sh n h0 f_5 z9 q1 q2 q3) x) (z8, r8) ?_ (fun B163 => ?_)
            · intro x ls H locs hI hf
              obtain ⟨z_32, ez⟩ : ∃ w, w = x := ⟨_, rfl⟩
              subst ez
              obtain ⟨hl2, hP2, hD2, hS2⟩ := hI
              replace hl : lv_has ls 5 [(1, .int v_29), (3, .int p_3), (0, .ref (a h0))] := hl2
              replace hP := hP2
              replace hD := hD2
              replace hS := hS2
              clear hl2 hP2 hD2 hS2
              replace hf := fn_X18_isTooMuch_B163_s hf
              refine W.eq (g2 := F0 m 163 ls []) rfl ?_
              refine lv_iconst (v := 1) hx hb dX18_isTooMuch_163 (by decide) ?_
              refine lv_goto (tgt := 168) hx hb dX18_isTooMuch_164 (by decide) ?_
              exact B168 (z_32, 1) ls H locs ⟨lv_sub hl [0, 1, 2] rfl, hP, hD, hS⟩ hf
            refine lv_if_ne (tgt := 163) hx hb dX18_isTooMuch_123 (by decide) (fun c_33 => ?_) (fun c_33 => ?_)
            · skip
              rw [if_neg c_33] at hf
              exact B163 (z_28) ls H locs ⟨lv_sub hl [0, 1, 3] rfl, hP, hD, hS⟩ hf
            · skip
              rw [if_pos c_33] at hf
              refine lv_aload_n hx hb dX18_isTooMuch_126 rfl (lv_at hl 3 rfl) ?_
              obtain ⟨k_34, ek_34, hf⟩ := lnk_some hf
              refine va_get (D := (dC, dI)) (ci := 18) (v := .ref (a k_34)) (C := RX18) (T := TX18) (N := 78) hx hb hts iwd_X18_isTooMuch_X18 hown hK hP h0 (Wd_ob kg_6 sg_6 (by decide)) rfl 30 (by decide) (hts _ md_X18_isTooMuch_2) (fun _ h9 => h9) (fl_q rfl ek_34) dX18_isTooMuch_127 ?_
              refine lv_iload_n hx hb dX18_isTooMuch_130 rfl (lv_at hl 1 rfl) ?_
              obtain ⟨g_35, hf⟩ := grd_some hf
              obtain ⟨kg_35, sg_35, ig_35⟩ := okA_at g_35
              refine va_iald hx hb hK hP k_34 1 (Wd_ai kg_35 sg_35) rfl ig_35 dX18_isTooMuch_131 ?_
              refine lv_iconst (v := 3) hx hb dX18_isTooMuch_132 (by decide) ?_
              refine de_cut (h := 167) (fun (x : St) => []) (fun x ls H locs => lv_has ls 5 [(1, .int v_29), (3, .int p_3), (0, .ref (a h0))] ∧ va_P (dC, dI) vwCl (Wd cy a sh n x) H ∧ va_D A (Wd cy a sh n x) ∧ va_S A s.heap H locs) (fun x => fn_X18_isTooMuch_B167 F sh n p_3 v_29 (fun z9 q1 q2 q3 => fn_X18_isTooMuch_L6 F sh n h0 f_5 z9 q1 q2 q3) x) (z8, r8) ?_ (fun B167 => ?_)
              · intro x ls H locs hI hf
                obtain ⟨z_36, ez⟩ : ∃ w, w = x := ⟨_, rfl⟩
                subst ez
                obtain ⟨hl2, hP2, hD2, hS2⟩ := hI
                replace hl : lv_has ls 5 [(1, .int v_29), (3, .int p_3), (0, .ref (a h0))] := hl2
                replace hP := hP2
                replace hD := hD2
                replace hS := hS2
                clear hl2 hP2 hD2 hS2
                replace hf := fn_X18_isTooMuch_B167_s hf
                refine W.eq (g2 := F0 m 167 ls []) rfl ?_
                refine lv_iconst (v := 0) hx hb dX18_isTooMuch_167 (by decide) ?_
                exact B168 (z_36, 0) ls H locs ⟨lv_sub hl [0, 1, 2] rfl, hP, hD, hS⟩ hf
              refine lv_icmp_ne (tgt := 167) hx hb dX18_isTooMuch_133 (by decide) (fun c_37 => ?_) (fun c_37 => ?_)
              · skip
                rw [if_neg c_37] at hf
                exact B167 (z_28) ls H locs ⟨lv_sub hl [0, 1, 3] rfl, hP, hD, hS⟩ hf
              · skip
                rw [if_pos c_37] at hf
                refine lv_aload_n hx hb dX18_isTooMuch_136 rfl (lv_at hl 3 rfl) ?_
                obtain ⟨k_38, ek_38, hf⟩ := lnk_some hf
                refine va_get (D := (dC, dI)) (ci := 18) (v := .ref (a k_38)) (C := RX18) (T := TX18) (N := 78) hx hb hts iwd_X18_isTooMuch_X18 hown hK hP h0 (Wd_ob kg_6 sg_6 (by decide)) rfl 35 (by decide) (hts _ md_X18_isTooMuch_5) (fun _ h9 => h9) (fl_q rfl ek_38) dX18_isTooMuch_137 ?_
                refine lv_iload_n hx hb dX18_isTooMuch_140 rfl (lv_at hl 1 rfl) ?_
                obtain ⟨g_39, hf⟩ := grd_some hf
                obtain ⟨kg_39, sg_39, ig_39⟩ := okA_at g_39
                refine va_zald hx hb hK hP k_38 3 (Wd_az kg_39 sg_39) rfl ig_39 dX18_isTooMuch_141 ?_
                refine lv_if_eq (tgt := 167) hx hb dX18_isTooMuch_142 (by decide) (fun c_40 => ?_) (fun c_40 => ?_)
                · skip
                  rw [if_pos c_40] at hf
                  exact B167 (z_28) ls H locs ⟨lv_sub hl [0, 1, 3] rfl, hP, hD, hS⟩ hf
                · skip
                  rw [if_neg c_40] at hf
                  refine lv_aload_n hx hb dX18_isTooMuch_145 rfl (lv_at hl 3 rfl) ?_
                  obtain ⟨k_41, ek_41, hf⟩ := lnk_some hf
                  refine va_get (D := (dC, dI)) (ci := 18) (v := .ref (a k_41)) (C := RX18) (T := TX18) (N := 78) hx hb hts iwd_X18_isTooMuch_X18 hown hK hP h0 (Wd_ob kg_6 sg_6 (by decide)) rfl 15 (by decide) (hts _ md_X18_isTooMuch_6) (fun _ h9 => h9) (fl_q rfl ek_41) dX18_isTooMuch_146 ?_
                  refine lv_aload_n hx hb dX18_isTooMuch_149 rfl (lv_at hl 3 rfl) ?_
                  obtain ⟨k_42, ek_42, hf⟩ := lnk_some hf
                  refine va_get (D := (dC, dI)) (ci := 18) (v := .ref (a k_42)) (C := RX18) (T := TX18) (N := 78) hx hb hts iwd_X18_isTooMuch_X18 hown hK hP h0 (Wd_ob kg_6 sg_6 (by decide)) rfl 34 (by decide) (hts _ md_X18_isTooMuch_7) (fun _ h9 => h9) (fl_q rfl ek_42) dX18_isTooMuch_150 ?_
                  refine lv_iload_n hx hb dX18_isTooMuch_153 rfl (lv_at hl 1 rfl) ?_
                  obtain ⟨g_43, hf⟩ := grd_some hf
                  obtain ⟨kg_43, sg_43, ig_43⟩ := okA_at g_43
                  refine va_iald hx hb hK hP k_42 1 (Wd_ai kg_43 sg_43) rfl ig_43 dX18_isTooMuch_154 ?_
                  obtain ⟨g_46, hf⟩ := grd_some hf
                  obtain ⟨kg_46, sg_46⟩ := okO_at g_46
                  obtain ⟨z_44, r_45, hfc, hf⟩ := cal_some hf
                  have hFc := de_free hD hS hA
                  refine va_calli (va_runV (As := [.int (z_28.1 k_42 p_3.toNatClampNeg)]) (rest := []) ⟨hx, hb, hml, hown, hts⟩ (de_X15_sizeOf l dC dI cy a sh n F 48 H.size z_28 k_41 (z_28.1 k_42 p_3.toNatClampNeg) hfc) (cwV 1 hts gX18_isTooMuch_X15_sizeOf rfl rfl rfl (by decide +kernel) ⟨Nat.le_of_ble_eq_true rfl, Nat.le_of_ble_eq_true rfl⟩) ⟨fun a U g mk q => by obtain ⟨q0, q1, qP, qK, qD, qN⟩ := q; exact ⟨q0, q1, qP, va_K.moved (u := U) (U := U.calling g mk a) (Vm.Alike.refl U.vm) qK, qD, qN.same rfl⟩, va_recv hK hP (ci := 15) (q0 := k_41) rfl (Wd_ob kg_46 sg_46 (by decide)), fun U hU hW => ⟨rfl, by rw [hU], by rw [hU]; exact hP, va_K.moved hW.alike hK, hD.weaken (fun _ _ _ _ => trivial), hN.warm hW⟩⟩ rfl rfl hl.1 rfl (lv_room (Nat.le_of_ble_eq_true rfl)) dX18_isTooMuch_155 ⟨Nat.le_of_ble_eq_true rfl, Nat.le_of_ble_eq_true rfl⟩) hS (fun q _ h => hFc q h) hFc (fun rr u t H_47 locs ht hvm hw hB hz1 hk1 hS2 => ?_)
                  rw [hw]
                  clear hw
                  obtain ⟨hP1, -, hD1⟩ := hB
                  rw [ht] at hP1
                  replace hD := hD1.weaken (fun _ _ _ h => hFc _ h)
                  replace hP := hP1
                  replace hS := hS2
                  clear hP1 hD1 hS2 hFc hfc hz1 hk1 hvm ht
                  refine lv_bipush (v := 64) hx hb dX18_isTooMuch_158 (by decide) ?_
                  refine lv_icmp_le (tgt := 167) hx hb dX18_isTooMuch_160 (by decide) (fun c_48 => ?_) (fun c_48 => ?_)
                  · skip
                    rw [if_pos c_48] at hf
                    exact B167 (z_44) ls H_47 locs ⟨lv_sub hl [0, 1, 3] rfl, hP, hD, hS⟩ hf
                  · skip
                    rw [if_neg c_48] at hf
                    exact B163 (z_44) ls H_47 locs ⟨lv_sub hl [0, 1, 3] rfl, hP, hD, hS⟩ hf
          refine lv_if_eq (tgt := 118) hx hb dX18_isTooMuch_111 (by decide) (fun c_49 => ?_) (fun c_49 => ?_)
          · skip
            rw [if_pos c_49] at hf
            refine lv_iconst (v := 0) hx hb dX18_isTooMuch_118 (by decide) ?_
            exact B119 (z_26, 0) ls H locs ⟨lv_sub hl [1, 2, 3] rfl, hP, hD, hS⟩ hf
          · skip
            rw [if_neg c_49] at hf
            refine lv_iconst (v := 1) hx hb dX18_isTooMuch_114 (by decide) ?_
            refine lv_goto (tgt := 119) hx hb dX18_isTooMuch_115 (by decide) ?_
            exact B119 (z_26, 1) ls H locs ⟨lv_sub hl [1, 2, 3] rfl, hP, hD, hS⟩ hf
        refine lv_if_eq (tgt := 108) hx hb dX18_isTooMuch_101 (by decide) (fun c_50 => ?_) (fun c_50 => ?_)
        · skip
          rw [if_pos c_50] at hf
          refine lv_iconst (v := 0) hx hb dX18_isTooMuch_108 (by decide) ?_
          exact B109 (z_16, 0) ls H locs ⟨lv_sub hl [0, 1, 2, 4] rfl, hP, hD, hS⟩ hf
        · skip
          rw [if_neg c_50] at hf
          refine lv_iconst (v := 1) hx hb dX18_isTooMuch_104 (by decide) ?_
          refine lv_goto (tgt := 109) hx hb dX18_isTooMuch_105 (by decide) ?_
          exact B109 (z_16, 1) ls H locs ⟨lv_sub hl [0, 1, 2, 4] rfl, hP, hD, hS⟩ hf
      · skip
        rw [if_pos c_22] at hf
        refine lv_goto (tgt := 169) hx hb dX18_isTooMuch_91 (by decide) ?_
        exact B169 (z_16, p_1, p_2) ls H locs ⟨lv_sub hl [3, 2, 1, 4] rfl, hP, hD, hS⟩ hf
    refine lv_icmp_ne (tgt := 45) hx hb dX18_isTooMuch_21 (by decide) (fun c_51 => ?_) (fun c_51 => ?_)
    · skip
      rw [if_neg c_51] at hf
      refine lv_aload_n hx hb dX18_isTooMuch_45 rfl (lv_at hl 3 rfl) ?_
      obtain ⟨k_52, ek_52, hf⟩ := lnk_some hf
      refine va_get (D := (dC, dI)) (ci := 18) (v := .ref (a k_52)) (C := RX18) (T := TX18) (N := 78) hx hb hts iwd_X18_isTooMuch_X18 hown hK hP h0 (Wd_ob kg_6 sg_6 (by decide)) rfl 30 (by decide) (hts _ md_X18_isTooMuch_2) (fun _ h9 => h9) (fl_q rfl ek_52) dX18_isTooMuch_46 ?_
      refine lv_iload_n hx hb dX18_isTooMuch_49 rfl (lv_at hl 0 rfl) ?_
      obtain ⟨g_53, hf⟩ := grd_some hf
      obtain ⟨kg_53, sg_53, ig_53⟩ := okA_at g_53
      refine va_iald hx hb hK hP k_52 1 (Wd_ai kg_53 sg_53) rfl ig_53 dX18_isTooMuch_50 ?_
      refine lv_iconst (v := 3) hx hb dX18_isTooMuch_51 (by decide) ?_
      refine de_cut (h := 78) (fun (x : St) => []) (fun x ls H locs => lv_has ls 5 [(3, .int p_3), (2, .int p_2), (1, .int p_1), (0, .ref (a h0))] ∧ va_P (dC, dI) vwCl (Wd cy a sh n x) H ∧ va_D A (Wd cy a sh n x) ∧ va_S A s.heap H locs) (fun x => fn_X18_isTooMuch_B78 F sh n h0 p_3 p_1 p_2 (fun z9 q1 q2 q3 => fn_X18_isTooMuch_L6 F sh n h0 f_5 z9 q1 q2 q3) x) (z8, r8) ?_ (fun B78 => ?_)
      · intro x ls H locs hI hf
        obtain ⟨z_54, ez⟩ : ∃ w, w = x := ⟨_, rfl⟩
        subst ez
        obtain ⟨hl2, hP2, hD2, hS2⟩ := hI
        replace hl : lv_has ls 5 [(3, .int p_3), (2, .int p_2), (1, .int p_1), (0, .ref (a h0))] := hl2
        replace hP := hP2
        replace hD := hD2
        replace hS := hS2
        clear hl2 hP2 hD2 hS2
        replace hf := fn_X18_isTooMuch_B78_s hf
        refine W.eq (g2 := F0 m 78 ls []) rfl ?_
        refine lv_iconst (v := 0) hx hb dX18_isTooMuch_78 (by decide) ?_
        exact B79 (z_54, 0) ls H locs ⟨lv_sub hl [0, 1, 2, 3] rfl, hP, hD, hS⟩ hf
      refine lv_icmp_ne (tgt := 78) hx hb dX18_isTooMuch_52 (by decide) (fun c_55 => ?_) (fun c_55 => ?_)
      · skip
        rw [if_neg c_55] at hf
        exact B78 (z_4) ls H locs ⟨lv_sub hl [0, 1, 2, 3] rfl, hP, hD, hS⟩ hf
      · skip
        rw [if_pos c_55] at hf
        refine lv_aload_n hx hb dX18_isTooMuch_55 rfl (lv_at hl 3 rfl) ?_
        refine lv_aload_n hx hb dX18_isTooMuch_56 rfl (lv_at hl 3 rfl) ?_
        obtain ⟨k_56, ek_56, hf⟩ := lnk_some hf
        refine va_get (D := (dC, dI)) (ci := 18) (v := .ref (a k_56)) (C := RX18) (T := TX18) (N := 78) hx hb hts iwd_X18_isTooMuch_X18 hown hK hP h0 (Wd_ob kg_6 sg_6 (by decide)) rfl 31 (by decide) (hts _ md_X18_isTooMuch_3) (fun _ h9 => h9) (fl_q rfl ek_56) dX18_isTooMuch_57 ?_
        refine lv_iload_n hx hb dX18_isTooMuch_60 rfl (lv_at hl 0 rfl) ?_
        obtain ⟨g_57, hf⟩ := grd_some hf
        obtain ⟨kg_57, sg_57, ig_57⟩ := okA_at g_57
        refine va_lald hx hb hK hP k_56 2 (Wd_al kg_57 sg_57) rfl ig_57 dX18_isTooMuch_61 ?_
        refine lv_aload_n hx hb dX18_isTooMuch_62 rfl (lv_at hl 3 rfl) ?_
        obtain ⟨k_58, ek_58, hf⟩ := lnk_some hf
        refine va_get (D := (dC, dI)) (ci := 18) (v := .ref (a k_58)) (C := RX18) (T := TX18) (N := 78) hx hb hts iwd_X18_isTooMuch_X18 hown hK hP h0 (Wd_ob kg_6 sg_6 (by decide)) rfl 32 (by decide) (hts _ md_X18_isTooMuch_4) (fun _ h9 => h9) (fl_q rfl ek_58) dX18_isTooMuch_63 ?_
        refine lv_iload_n hx hb dX18_isTooMuch_66 rfl (lv_at hl 0 rfl) ?_
        obtain ⟨g_59, hf⟩ := grd_some hf
        obtain ⟨kg_59, sg_59, ig_59⟩ := okA_at g_59
        refine va_iald hx hb hK hP k_58 1 (Wd_ai kg_59 sg_59) rfl ig_59 dX18_isTooMuch_67 ?_
        obtain ⟨z_60, r_61, hfc, hf⟩ := cal_some hf
        have hFc := de_free hD hS hA
        refine va_calli (va_runV (As := [.long (z_4.2.1 k_56 p_3.toNatClampNeg), .int (z_4.1 k_58 p_3.toNatClampNeg)]) (rest := []) ⟨hx, hb, hml, hown, hts⟩ (de_X18_findResource l dC dI cy a sh n H.size F z_4 h0 (z_4.2.1 k_56 p_3.toNatClampNeg) (z_4.1 k_58 p_3.toNatClampNeg) hfc) (cwV 2 hts gX18_isTooMuch_X18_findResource rfl rfl rfl (by decide +kernel) ⟨Nat.le_of_ble_eq_true rfl, Nat.le_of_ble_eq_true rfl⟩) ⟨fun a U g mk q => by obtain ⟨q0, q1, qP, qK, qD, qN⟩ := q; exact ⟨q0, q1, qP, va_K.moved (u := U) (U := U.calling g mk a) (Vm.Alike.refl U.vm) qK, qD, qN.same rfl⟩, va_recv hK hP (ci := 18) (q0 := h0) rfl (Wd_ob kg_6 sg_6 (by decide)), fun U hU hW => ⟨rfl, by rw [hU], by rw [hU]; exact hP, va_K.moved hW.alike hK, hD.weaken (fun _ _ _ _ => trivial), hN.warm hW⟩⟩ rfl rfl hl.1 rfl (lv_room (Nat.le_of_ble_eq_true rfl)) dX18_isTooMuch_68 ⟨Nat.le_of_ble_eq_true rfl, Nat.le_of_ble_eq_true rfl⟩) hS (fun q _ h => hFc q h) hFc (fun rr u t H_62 locs ht hvm hw hB hz1 hk1 hS2 => ?_)
        rw [hw]
        clear hw
        obtain ⟨hP1, -, hD1⟩ := hB
        rw [ht] at hP1
        replace hD := hD1.weaken (fun _ _ _ h => hFc _ h)
        replace hP := hP1
        replace hS := hS2
        clear hP1 hD1 hS2 hFc hfc hz1 hk1 hvm ht
        refine lv_if_lt (tgt := 78) hx hb dX18_isTooMuch_71 (by decide) (fun c_63 => ?_) (fun c_63 => ?_)
        · skip
          rw [if_pos c_63] at hf
          exact B78 (z_60) ls H_62 locs ⟨lv_sub hl [0, 1, 2, 3] rfl, hP, hD, hS⟩ hf
        · skip
          rw [if_neg c_63] at hf
          refine lv_iconst (v := 1) hx hb dX18_isTooMuch_74 (by decide) ?_
          refine lv_goto (tgt := 79) hx hb dX18_isTooMuch_75 (by decide) ?_
          exact B79 (z_60, 1) ls H_62 locs ⟨lv_sub hl [0, 1, 2, 3] rfl, hP, hD, hS⟩ hf
    · skip
      rw [if_pos c_51] at hf
      refine lv_aload_n hx hb dX18_isTooMuch_24 rfl (lv_at hl 3 rfl) ?_
      refine lv_aload_n hx hb dX18_isTooMuch_25 rfl (lv_at hl 3 rfl) ?_
      obtain ⟨k_64, ek_64, hf⟩ := lnk_some hf
      refine va_get (D := (dC, dI)) (ci := 18) (v := .ref (a k_64)) (C := RX18) (T := TX18) (N := 78) hx hb hts iwd_X18_isTooMuch_X18 hown hK hP h0 (Wd_ob kg_6 sg_6 (by decide)) rfl 31 (by decide) (hts _ md_X18_isTooMuch_3) (fun _ h9 => h9) (fl_q rfl ek_64) dX18_isTooMuch_26 ?_
      refine lv_iload_n hx hb dX18_isTooMuch_29 rfl (lv_at hl 0 rfl) ?_
      obtain ⟨g_65, hf⟩ := grd_some hf
      obtain ⟨kg_65, sg_65, ig_65⟩ := okA_at g_65
      refine va_lald hx hb hK hP k_64 2 (Wd_al kg_65 sg_65) rfl ig_65 dX18_isTooMuch_30 ?_
      obtain ⟨z_66, r_67, hfc, hf⟩ := cal_some hf
      have hFc := de_free hD hS hA
      refine va_calli (va_runV (As := [.long (z_4.2.1 k_64 p_3.toNatClampNeg)]) (rest := []) ⟨hx, hb, hml, hown, hts⟩ (de_X18_findAccount l dC dI cy a sh n H.size F z_4 h0 (z_4.2.1 k_64 p_3.toNatClampNeg) hfc) (cwV 1 hts gX18_isTooMuch_X18_findAccount rfl rfl rfl (by decide +kernel) ⟨Nat.le_of_ble_eq_true rfl, Nat.le_of_ble_eq_true rfl⟩) ⟨fun a U g mk q => by obtain ⟨q0, q1, qP, qK, qD, qN⟩ := q; exact ⟨q0, q1, qP, va_K.moved (u := U) (U := U.calling g mk a) (Vm.Alike.refl U.vm) qK, qD, qN.same rfl⟩, va_recv hK hP (ci := 18) (q0 := h0) rfl (Wd_ob kg_6 sg_6 (by decide)), fun U hU hW => ⟨rfl, by rw [hU], by rw [hU]; exact hP, va_K.moved hW.alike hK, hD.weaken (fun _ _ _ _ => trivial), hN.warm hW⟩⟩ rfl rfl hl.1 rfl (lv_room (Nat.le_of_ble_eq_true rfl)) dX18_isTooMuch_31 ⟨Nat.le_of_ble_eq_true rfl, Nat.le_of_ble_eq_true rfl⟩) hS (fun q _ h => hFc q h) hFc (fun rr u t H_68 locs ht hvm hw hB hz1 hk1 hS2 => ?_)
      rw [hw]
      clear hw
      obtain ⟨hP1, -, hD1⟩ := hB
      rw [ht] at hP1
      replace hD := hD1.weaken (fun _ _ _ h => hFc _ h)
      replace hP := hP1
      replace hS := hS2
      clear hP1 hD1 hS2 hFc hfc hz1 hk1 hvm ht
      refine lv_if_lt (tgt := 41) hx hb dX18_isTooMuch_34 (by decide) (fun c_69 => ?_) (fun c_69 => ?_)
      · skip
        rw [if_pos c_69] at hf
        refine lv_iconst (v := 0) hx hb dX18_isTooMuch_41 (by decide) ?_
        refine lv_goto (tgt := 79) hx hb dX18_isTooMuch_42 (by decide) ?_
        exact B79 (z_66, 0) ls H_68 locs ⟨lv_sub hl [0, 1, 2, 3] rfl, hP, hD, hS⟩ hf
      · skip
        rw [if_neg c_69] at hf
        refine lv_iconst (v := 1) hx hb dX18_isTooMuch_37 (by decide) ?_
        refine lv_goto (tgt := 79) hx hb dX18_isTooMuch_38 (by decide) ?_
        exact B79 (z_66, 1) ls H_68 locs ⟨lv_sub hl [0, 1, 2, 3] rfl, hP, hD, hS⟩ hf

theorem md_X3_join_1 : (.fieldLink RX3 31 "ResourceLedger$Looker" "reached" "[Z" : Cond) ∈ wsX3_join := List.mem_of_getElem? (i := 1) rfl
theorem iwd_X3_join_X3 : ∀ w ∈ wsX30, w ∈ wsX3_join := fun _ h => List.mem_cons_of_mem _ (List.mem_append_right _ h)
theorem md_X3_join_3 : (.fieldLink RX3 105 "ResourceLedger$Looker" "there" "J" : Cond) ∈ wsX3_join := List.mem_of_getElem? (i := 3) rfl
theorem md_X3_join_2 : (.fieldLink RX3 34 "ResourceLedger$Looker" "keptThere" "[J" : Cond) ∈ wsX3_join := List.mem_of_getElem? (i := 2) rfl
theorem md_X3_join_12 : (.fieldLink RX3 108 "ResourceLedger$Looker" "droppable" "J" : Cond) ∈ wsX3_join := List.mem_of_getElem? (i := 12) rfl
theorem md_X3_join_13 : (.constantLong RX3 185 (-1) : Cond) ∈ wsX3_join := List.mem_of_getElem? (i := 13) rfl
theorem md_X3_join_4 : (.fieldLink RX3 37 "ResourceLedger$Looker" "keptInside" "[J" : Cond) ∈ wsX3_join := List.mem_of_getElem? (i := 4) rfl
theorem md_X3_join_5 : (.fieldLink RX3 98 "ResourceLedger$Looker" "inside" "J" : Cond) ∈ wsX3_join := List.mem_of_getElem? (i := 5) rfl
theorem md_X3_join_7 : (.fieldLink RX3 41 "ResourceLedger$Looker" "keptOrigins" "[J" : Cond) ∈ wsX3_join := List.mem_of_getElem? (i := 7) rfl
theorem md_X3_join_6 : (.fieldLink RX3 25 "ResourceLedger$Looker" "localOrigins" "[J" : Cond) ∈ wsX3_join := List.mem_of_getElem? (i := 6) rfl
theorem md_X3_join_8 : (.methodLink RX3 134 arraycopyName : Cond) ∈ wsX3_join := List.mem_of_getElem? (i := 8) rfl
theorem md_X3_join_9 : (.native arraycopyName : Cond) ∈ wsX3_join := List.mem_of_getElem? (i := 9) rfl
theorem md_X3_join_10 : (.static arraycopyName : Cond) ∈ wsX3_join := List.mem_of_getElem? (i := 10) rfl
theorem md_X3_join_11 : (.initialized "java/lang/System" : Cond) ∈ wsX3_join := List.mem_of_getElem? (i := 11) rfl
set_option maxHeartbeats 4000000 in
set_option maxRecDepth 100000 in
theorem de_X3_join (l : Launch) (dC : Nat → ClassId) (dI : Nat → Nat → Nat) (cy : Nat → ClassId) (a : Nat → Nat) (sh : Nat → Nat × Nat) (n sz : Nat) (F : Nat) (z : St) (h0 : Nat) (x0 : Int32) {z8 : St} {r8 : Unit} (hf : fn_X3_join F sh n z h0 x0 = some (z8, r8)) : Met l yX3_join wsX3_join ({ frames := 1, cells := 0, slots := 0, locals := 40 }) (va_Pc [.ref (a h0), .int x0] (fun U => U.heap.size = sz ∧ va_P (dC, dI) vwCl (Wd cy a sh n z) U.heap ∧ va_K (dC, dI) vwCl (TYS cy) U ∧ va_D (fun _ => True) (Wd cy a sh n z) ∧ NK U)) (va_Qv (fun u : Unit => True) (fun u t => va_P (dC, dI) vwCl (Wd cy a sh n z8) t.heap ∧ va_K (dC, dI) vwCl (TYS cy) t ∧ va_D (va_A (Wd cy a sh n z) sz) (Wd cy a sh n z8)) (va_A (Wd cy a sh n z) sz)) 0 0 (va_A (Wd cy a sh n z) sz) := by
  refine Met.ofW (cc := cX3_join) (maxL := 5) (ret := none) (by decide) rfl ?_
  intro p e s m args below meth c s₁ B hml hv
  obtain ⟨rfl, hsz, hP, hK, hD0, hN⟩ := hv
  have hx := B.exec
  have hb := B.bytes
  have hr := B.returns
  have hts := atoms_spec (ws := wsX3_join) B.pre
  have hown : s.vm.findClass RX3 = some m.cls := findClass_of_methodNamed B.named
  have hlocks := B.notSynchronized
  subst hsz
  have hD := hD0.self (sz := s.heap.size)
  clear hD0
  generalize hAe : va_A (Wd cy a sh n z) s.heap.size = A at hD ⊢
  have hA : ∀ q : Nat, s.heap.size ≤ q → A q := fun q h => by rw [← hAe]; exact Or.inr h
  clear hAe
  have hS : va_S A s.heap s.heap [] := va_S.rf
  have hl := lv_entry ([.ref (a h0), .int x0]) (n := 5) (Nat.le_of_ble_eq_true rfl)
  rw [lg_entry_eq]
  generalize (lg_sl ([.ref (a h0), .int x0]) ++ List.replicate (5 - (lg_sl ([.ref (a h0), .int x0])).length) Slot.unset).toArray = ls at hl ⊢
  replace hl : lv_has ls 5 [(0, .ref (a h0)), (1, .int x0)] := hl
  unfold fn_X3_join at hf
  refine de_start hS hP (fun H locs hS hP => ?_)
  refine lv_iload_n hx hb dX3_join_0 rfl (lv_at hl 1 rfl) ?_
  refine lv_bipush (v := 40) hx hb dX3_join_1 (by decide) ?_
  refine lv_imul hx hb dX3_join_3 ?_
  refine lv_topi (fun v_1 ev_1 => ?_)
  replace hf := lt_at ev_1 hf
  clear ev_1
  refine lv_istore_n (lv' := [(2, .int v_1), (0, .ref (a h0)), (1, .int x0)]) hx hb dX3_join_4 rfl hl (by decide) rfl (fun ls hl2 => ?_)
  replace hl := hl2
  clear hl2
  refine lv_aload_n hx hb dX3_join_5 rfl (lv_at hl 1 rfl) ?_
  obtain ⟨g_2, hf⟩ := grd_some hf
  obtain ⟨kg_2, sg_2⟩ := okO_at g_2
  obtain ⟨k_3, ek_3, hf⟩ := lnk_some hf
  refine va_get (D := (dC, dI)) (ci := 3) (v := .ref (a k_3)) (C := RX3) (T := TX3) (N := 22) hx hb hts iwd_X3_join_X3 hown hK hP h0 (Wd_ob kg_2 sg_2 (by decide)) rfl 18 (by decide) (hts _ md_X3_join_1) (fun _ h9 => h9) (fl_q rfl ek_3) dX3_join_6 ?_
  refine lv_iload_n hx hb dX3_join_9 rfl (lv_at hl 2 rfl) ?_
  obtain ⟨g_4, hf⟩ := grd_some hf
  obtain ⟨kg_4, sg_4, ig_4⟩ := okA_at g_4
  refine va_zald hx hb hK hP k_3 3 (Wd_az kg_4 sg_4) rfl ig_4 dX3_join_10 ?_
  refine lv_if_ne (tgt := 57) hx hb dX3_join_11 (by decide) (fun c_5 => ?_) (fun c_5 => ?_)
  · skip
    rw [if_neg c_5] at hf
    refine lv_aload_n hx hb dX3_join_57 rfl (lv_at hl 1 rfl) ?_
    refine va_get (D := (dC, dI)) (ci := 3) (v := .long (z.2.1 h0 12)) (C := RX3) (T := TX3) (N := 22) hx hb hts iwd_X3_join_X3 hown hK hP h0 (Wd_ob kg_2 sg_2 (by decide)) rfl 12 (by decide) (hts _ md_X3_join_3) (fun _ h9 => h9) (fl_at (t := 1) rfl) dX3_join_58 ?_
    refine lv_aload_n hx hb dX3_join_61 rfl (lv_at hl 1 rfl) ?_
    obtain ⟨k_6, ek_6, hf⟩ := lnk_some hf
    refine va_get (D := (dC, dI)) (ci := 3) (v := .ref (a k_6)) (C := RX3) (T := TX3) (N := 22) hx hb hts iwd_X3_join_X3 hown hK hP h0 (Wd_ob kg_2 sg_2 (by decide)) rfl 19 (by decide) (hts _ md_X3_join_2) (fun _ h9 => h9) (fl_q rfl ek_6) dX3_join_62 ?_
    refine lv_iload_n hx hb dX3_join_65 rfl (lv_at hl 2 rfl) ?_
    obtain ⟨g_7, hf⟩ := grd_some hf
    obtain ⟨kg_7, sg_7, ig_7⟩ := okA_at g_7
    refine va_lald hx hb hK hP k_6 2 (Wd_al kg_7 sg_7) rfl ig_7 dX3_join_66 ?_
    refine lv_lxor hx hb dX3_join_67 ?_
    refine lv_aload_n hx hb dX3_join_68 rfl (lv_at hl 1 rfl) ?_
    refine va_get (D := (dC, dI)) (ci := 3) (v := .long (z.2.1 h0 11)) (C := RX3) (T := TX3) (N := 22) hx hb hts iwd_X3_join_X3 hown hK hP h0 (Wd_ob kg_2 sg_2 (by decide)) rfl 11 (by decide) (hts _ md_X3_join_12) (fun _ h9 => h9) (fl_at (t := 1) rfl) dX3_join_69 ?_
    refine lv_ldc2 hx hb hown (hts _ md_X3_join_13) dX3_join_72 ?_
    refine lv_lxor hx hb dX3_join_75 ?_
    refine lv_land hx hb dX3_join_76 ?_
    refine lv_lconst (v := 0) hx hb dX3_join_77 (by decide) ?_
    refine W.lcmp hx hb dX3_join_78 ?_
    refine de_cut (h := 88) (fun (x : St) => []) (fun x ls H locs => lv_has ls 5 [(2, .int v_1), (0, .ref (a h0)), (1, .int x0)] ∧ va_P (dC, dI) vwCl (Wd cy a sh n x) H ∧ va_D A (Wd cy a sh n x) ∧ va_S A s.heap H locs) (fun x => fn_X3_join_B88 F sh n h0 x0 v_1 x) (z8, r8) ?_ (fun B88 => ?_)
    · intro x ls H locs hI hf
      obtain ⟨z_8, ez⟩ : ∃ w, w = x := ⟨_, rfl⟩
      subst ez
      obtain ⟨hl2, hP2, hD2, hS2⟩ := hI
      replace hl : lv_has ls 5 [(2, .int v_1), (0, .ref (a h0)), (1, .int x0)] := hl2
      replace hP := hP2
      replace hD := hD2
      replace hS := hS2
      clear hl2 hP2 hD2 hS2
      replace hf := fn_X3_join_B88_s hf
      refine W.eq (g2 := F0 m 88 ls []) rfl ?_
      refine lv_aload_n hx hb dX3_join_88 rfl (lv_at hl 1 rfl) ?_
      obtain ⟨k_9, ek_9, hf⟩ := lnk_some hf
      refine va_get (D := (dC, dI)) (ci := 3) (v := .ref (a k_9)) (C := RX3) (T := TX3) (N := 22) hx hb hts iwd_X3_join_X3 hown hK hP h0 (Wd_ob kg_2 sg_2 (by decide)) rfl 19 (by decide) (hts _ md_X3_join_2) (fun _ h9 => h9) (fl_q rfl ek_9) dX3_join_89 ?_
      refine lv_iload_n hx hb dX3_join_92 rfl (lv_at hl 2 rfl) ?_
      refine lv_dup2_11 hx hb dX3_join_93 rfl rfl ?_
      obtain ⟨g_10, hf⟩ := grd_some hf
      obtain ⟨kg_10, sg_10, ig_10⟩ := okA_at g_10
      refine va_lald hx hb hK hP k_9 2 (Wd_al kg_10 sg_10) rfl ig_10 dX3_join_94 ?_
      refine lv_aload_n hx hb dX3_join_95 rfl (lv_at hl 1 rfl) ?_
      refine va_get (D := (dC, dI)) (ci := 3) (v := .long (z_8.2.1 h0 12)) (C := RX3) (T := TX3) (N := 22) hx hb hts iwd_X3_join_X3 hown hK hP h0 (Wd_ob kg_2 sg_2 (by decide)) rfl 12 (by decide) (hts _ md_X3_join_3) (fun _ h9 => h9) (fl_at (t := 1) rfl) dX3_join_96 ?_
      refine lv_land hx hb dX3_join_99 ?_
      obtain ⟨g_11, hf⟩ := grd_some hf
      obtain ⟨kg_11, sg_11, ig_11⟩ := okA_at g_11
      refine va_last hx hb hK hP hD hS k_9 2 (Wd_al kg_11 sg_11) rfl ig_11 dX3_join_100 (fun H_12 locs hP2 hD2 hS2 => ?_)
      rw [Wd_tl sg_11] at hP2 hD2
      obtain ⟨z_13, ez_13⟩ : ∃ w, w = sl z_8 k_9 x0.toNatClampNeg ((z_8.2.1 k_9 x0.toNatClampNeg) &&& (z_8.2.1 h0 12)) := ⟨_, rfl⟩
      rw [← ez_13] at hP2 hD2
      replace hf := lt_at ez_13 hf
      clear ez_13
      replace hP := hP2
      replace hD := hD2
      replace hS := hS2
      clear hP2 hD2 hS2
      refine lv_aload_n hx hb dX3_join_101 rfl (lv_at hl 1 rfl) ?_
      obtain ⟨k_14, ek_14, hf⟩ := lnk_some hf
      refine va_get (D := (dC, dI)) (ci := 3) (v := .ref (a k_14)) (C := RX3) (T := TX3) (N := 22) hx hb hts iwd_X3_join_X3 hown hK hP h0 (Wd_ob kg_2 sg_2 (by decide)) rfl 20 (by decide) (hts _ md_X3_join_4) (fun _ h9 => h9) (fl_q rfl ek_14) dX3_join_102 ?_
      refine lv_iload_n hx hb dX3_join_105 rfl (lv_at hl 2 rfl) ?_
      refine lv_aload_n hx hb dX3_join_106 rfl (lv_at hl 1 rfl) ?_
      obtain ⟨k_15, ek_15, hf⟩ := lnk_some hf
      refine va_get (D := (dC, dI)) (ci := 3) (v := .ref (a k_15)) (C := RX3) (T := TX3) (N := 22) hx hb hts iwd_X3_join_X3 hown hK hP h0 (Wd_ob kg_2 sg_2 (by decide)) rfl 20 (by decide) (hts _ md_X3_join_4) (fun _ h9 => h9) (fl_q rfl ek_15) dX3_join_107 ?_
      refine lv_iload_n hx hb dX3_join_110 rfl (lv_at hl 2 rfl) ?_
      obtain ⟨g_16, hf⟩ := grd_some hf
      obtain ⟨kg_16, sg_16, ig_16⟩ := okA_at g_16
      refine va_lald hx hb hK hP k_15 2 (Wd_al kg_16 sg_16) rfl ig_16 dX3_join_111 ?_
      refine lv_aload_n hx hb dX3_join_112 rfl (lv_at hl 1 rfl) ?_
      refine va_get (D := (dC, dI)) (ci := 3) (v := .long (z_13.2.1 h0 13)) (C := RX3) (T := TX3) (N := 22) hx hb hts iwd_X3_join_X3 hown hK hP h0 (Wd_ob kg_2 sg_2 (by decide)) rfl 13 (by decide) (hts _ md_X3_join_5) (fun _ h9 => h9) (fl_at (t := 1) rfl) dX3_join_113 ?_
      refine lv_lor hx hb dX3_join_116 ?_
      refine lv_aload_n hx hb dX3_join_117 rfl (lv_at hl 1 rfl) ?_
      obtain ⟨k_17, ek_17, hf⟩ := lnk_some hf
      refine va_get (D := (dC, dI)) (ci := 3) (v := .ref (a k_17)) (C := RX3) (T := TX3) (N := 22) hx hb hts iwd_X3_join_X3 hown hK hP h0 (Wd_ob kg_2 sg_2 (by decide)) rfl 19 (by decide) (hts _ md_X3_join_2) (fun _ h9 => h9) (fl_q rfl ek_17) dX3_join_118 ?_
      refine lv_iload_n hx hb dX3_join_121 rfl (lv_at hl 2 rfl) ?_
      obtain ⟨g_18, hf⟩ := grd_some hf
      obtain ⟨kg_18, sg_18, ig_18⟩ := okA_at g_18
      refine va_lald hx hb hK hP k_17 2 (Wd_al kg_18 sg_18) rfl ig_18 dX3_join_122 ?_
      refine lv_land hx hb dX3_join_123 ?_
      obtain ⟨g_19, hf⟩ := grd_some hf
      obtain ⟨kg_19, sg_19, ig_19⟩ := okA_at g_19
      refine va_last hx hb hK hP hD hS k_14 2 (Wd_al kg_19 sg_19) rfl ig_19 dX3_join_124 (fun H_20 locs hP2 hD2 hS2 => ?_)
      rw [Wd_tl sg_19] at hP2 hD2
      obtain ⟨z_21, ez_21⟩ : ∃ w, w = sl z_13 k_14 x0.toNatClampNeg (((z_13.2.1 k_15 x0.toNatClampNeg) ||| (z_13.2.1 h0 13)) &&& (z_13.2.1 k_17 x0.toNatClampNeg)) := ⟨_, rfl⟩
      rw [← ez_21] at hP2 hD2
      replace hf := lt_at ez_21 hf
      clear ez_21
      replace hP := hP2
      replace hD := hD2
      replace hS := hS2
      clear hP2 hD2 hS2
      refine lv_iconst (v := 0) hx hb dX3_join_125 (by decide) ?_
      refine lv_istore_n (lv' := [(3, .int 0), (2, .int v_1), (0, .ref (a h0)), (1, .int x0)]) hx hb dX3_join_126 rfl hl (by decide) rfl (fun ls hl2 => ?_)
      replace hl := hl2
      clear hl2
      have hl0 : lv_has ls 5 [(3, .int 0), (2, .int v_1), (0, .ref (a h0)), (1, .int x0)] := lv_sub hl [0, 1, 2, 3] rfl
      refine de_loop (h := 127) (fun (x : St × Int32) ls H locs => lv_has ls 5 [(3, .int x.2), (2, .int v_1), (0, .ref (a h0)), (1, .int x0)] ∧ va_P (dC, dI) vwCl (Wd cy a sh n x.1) H ∧ va_D A (Wd cy a sh n x.1) ∧ va_S A s.heap H locs) (fun f x => fn_X3_join_L127 F sh n h0 x0 v_1 f x.1 x.2) (z8, r8) ?_ (fun _ => rfl) F (z_21, 0) ls H_20 locs ⟨hl0, hP, hD, hS⟩ hf
      intro f_24 x ls H locs ih127 hI hf
      obtain ⟨z_23, p_22⟩ := x
      obtain ⟨hl2, hP2, hD2, hS2⟩ := hI
      replace hl : lv_has ls 5 [(3, .int p_22), (2, .int v_1), (0, .ref (a h0)), (1, .int x0)] := hl2
      replace hP := hP2
      replace hD := hD2
      replace hS := hS2
      clear hl2 hP2 hD2 hS2 hl0
      replace hf := fn_X3_join_L127_s hf
      refine lv_iload_n hx hb dX3_join_127 rfl (lv_at hl 0 rfl) ?_
      refine lv_bipush (v := 40) hx hb dX3_join_128 (by decide) ?_
      refine lv_icmp_ge (tgt := 193) hx hb dX3_join_130 (by decide) (fun c_25 => ?_) (fun c_25 => ?_)
      · skip
        rw [if_pos c_25] at hf
        obtain ⟨h8, h9⟩ := ret_some hf
        rw [h8]
        exact W.vret hx hb hr (fun t ht hW => ⟨⟨(), rfl, trivial, by rw [ht]; exact hP, va_K.moved hW.alike hK, hD⟩, hS.F ht⟩) hS.2.2 dX3_join_193
      · skip
        rw [if_neg c_25] at hf
        refine lv_aload_n hx hb dX3_join_133 rfl (lv_at hl 2 rfl) ?_
        obtain ⟨k_26, ek_26, hf⟩ := lnk_some hf
        refine va_get (D := (dC, dI)) (ci := 3) (v := .ref (a k_26)) (C := RX3) (T := TX3) (N := 22) hx hb hts iwd_X3_join_X3 hown hK hP h0 (Wd_ob kg_2 sg_2 (by decide)) rfl 19 (by decide) (hts _ md_X3_join_2) (fun _ h9 => h9) (fl_q rfl ek_26) dX3_join_134 ?_
        refine lv_iload_n hx hb dX3_join_137 rfl (lv_at hl 3 rfl) ?_
        obtain ⟨g_27, hf⟩ := grd_some hf
        obtain ⟨kg_27, sg_27, ig_27⟩ := okA_at g_27
        refine va_lald hx hb hK hP k_26 2 (Wd_al kg_27 sg_27) rfl ig_27 dX3_join_138 ?_
        refine lv_iload_n hx hb dX3_join_139 rfl (lv_at hl 0 rfl) ?_
        refine lv_lushr (v := (((z_23.2.1 k_26 x0.toNatClampNeg) : Int64).toUInt64 >>> ((p_22 : Int32).toInt64.toUInt64 &&& Int64.toUInt64 63)).toInt64) hx hb dX3_join_140 rfl ?_
        refine lv_lconst (v := 1) hx hb dX3_join_141 (by decide) ?_
        refine lv_land hx hb dX3_join_142 ?_
        refine lv_lconst (v := 0) hx hb dX3_join_143 (by decide) ?_
        refine W.lcmp hx hb dX3_join_144 ?_
        refine de_cut (h := 153) (fun (x : St × Int32) => [.int x.2]) (fun x ls H locs => lv_has ls 5 [(3, .int p_22), (2, .int v_1), (0, .ref (a h0)), (1, .int x0)] ∧ va_P (dC, dI) vwCl (Wd cy a sh n x.1) H ∧ va_D A (Wd cy a sh n x.1) ∧ va_S A s.heap H locs) (fun x => fn_X3_join_B153 F sh n h0 v_1 p_22 (fun z9 q3 => fn_X3_join_L127 F sh n h0 x0 v_1 f_24 z9 q3) x.1 x.2) (z8, r8) ?_ (fun B153 => ?_)
        · intro x ls H locs hI hf
          obtain ⟨z_29, p_28⟩ := x
          obtain ⟨hl2, hP2, hD2, hS2⟩ := hI
          replace hl : lv_has ls 5 [(3, .int p_22), (2, .int v_1), (0, .ref (a h0)), (1, .int x0)] := hl2
          replace hP := hP2
          replace hD := hD2
          replace hS := hS2
          clear hl2 hP2 hD2 hS2
          replace hf := fn_X3_join_B153_s hf
          refine W.eq (g2 := F0 m 153 ls [.int p_28]) rfl ?_
          refine lv_istore (lv' := [(4, .int p_28), (3, .int p_22), (2, .int v_1), (0, .ref (a h0)), (1, .int x0)]) hx hb dX3_join_153 hl (by decide) rfl (fun ls hl2 => ?_)
          replace hl := hl2
          clear hl2
          refine lv_aload_n hx hb dX3_join_155 rfl (lv_at hl 3 rfl) ?_
          obtain ⟨k_30, ek_30, hf⟩ := lnk_some hf
          refine va_get (D := (dC, dI)) (ci := 3) (v := .ref (a k_30)) (C := RX3) (T := TX3) (N := 22) hx hb hts iwd_X3_join_X3 hown hK hP h0 (Wd_ob kg_2 sg_2 (by decide)) rfl 21 (by decide) (hts _ md_X3_join_7) (fun _ h9 => h9) (fl_q rfl ek_30) dX3_join_156 ?_
          refine lv_iload_n hx hb dX3_join_159 rfl (lv_at hl 2 rfl) ?_
          refine lv_iload_n hx hb dX3_join_160 rfl (lv_at hl 1 rfl) ?_
          refine lv_iadd hx hb dX3_join_161 ?_
          refine lv_iload hx hb dX3_join_162 (lv_at hl 0 rfl) ?_
          refine de_cut (h := 186) (fun (x : St × Int64) => [.long x.2, .int (v_1 + p_22), .ref (a k_30)]) (fun x ls H locs => lv_has ls 5 [(3, .int p_22), (2, .int v_1), (0, .ref (a h0)), (1, .int x0)] ∧ va_P (dC, dI) vwCl (Wd cy a sh n x.1) H ∧ va_D A (Wd cy a sh n x.1) ∧ va_S A s.heap H locs) (fun x => fn_X3_join_B186 F sh n k_30 v_1 p_22 (fun z9 q3 => fn_X3_join_L127 F sh n h0 x0 v_1 f_24 z9 q3) x.1 x.2) (z8, r8) ?_ (fun B186 => ?_)
          · intro x ls H locs hI hf
            obtain ⟨z_32, p_31⟩ := x
            obtain ⟨hl2, hP2, hD2, hS2⟩ := hI
            replace hl : lv_has ls 5 [(3, .int p_22), (2, .int v_1), (0, .ref (a h0)), (1, .int x0)] := hl2
            replace hP := hP2
            replace hD := hD2
            replace hS := hS2
            clear hl2 hP2 hD2 hS2
            replace hf := fn_X3_join_B186_s hf
            refine W.eq (g2 := F0 m 186 ls [.long p_31, .int (v_1 + p_22), .ref (a k_30)]) rfl ?_
            obtain ⟨g_33, hf⟩ := grd_some hf
            obtain ⟨kg_33, sg_33, ig_33⟩ := okA_at g_33
            refine va_last hx hb hK hP hD hS k_30 2 (Wd_al kg_33 sg_33) rfl ig_33 dX3_join_186 (fun H_34 locs hP2 hD2 hS2 => ?_)
            rw [Wd_tl sg_33] at hP2 hD2
            obtain ⟨z_35, ez_35⟩ : ∃ w, w = sl z_32 k_30 (v_1 + p_22).toNatClampNeg p_31 := ⟨_, rfl⟩
            rw [← ez_35] at hP2 hD2
            replace hf := lt_at ez_35 hf
            clear ez_35
            replace hP := hP2
            replace hD := hD2
            replace hS := hS2
            clear hP2 hD2 hS2
            refine lv_iinc (v := (p_22 + 1)) (lv' := [(3, .int (p_22 + 1)), (2, .int v_1), (0, .ref (a h0)), (1, .int x0)]) hx hb dX3_join_187 hl (k := 0) rfl rfl (by decide) rfl (fun ls hl2 => ?_)
            replace hl := hl2
            clear hl2
            refine lv_goto (tgt := 127) hx hb dX3_join_190 (by decide) ?_
            exact ih127 (z_35, (p_22 + 1)) ls H_34 locs ⟨lv_sub hl [0, 1, 2, 3] rfl, hP, hD, hS⟩ hf
          refine lv_if_eq (tgt := 185) hx hb dX3_join_164 (by decide) (fun c_36 => ?_) (fun c_36 => ?_)
          · skip
            rw [if_pos c_36] at hf
            refine lv_lconst (v := 0) hx hb dX3_join_185 (by decide) ?_
            exact B186 (z_29, 0) ls H locs ⟨lv_sub hl [1, 2, 3, 4] rfl, hP, hD, hS⟩ hf
          · skip
            rw [if_neg c_36] at hf
            refine lv_aload_n hx hb dX3_join_167 rfl (lv_at hl 3 rfl) ?_
            obtain ⟨k_37, ek_37, hf⟩ := lnk_some hf
            refine va_get (D := (dC, dI)) (ci := 3) (v := .ref (a k_37)) (C := RX3) (T := TX3) (N := 22) hx hb hts iwd_X3_join_X3 hown hK hP h0 (Wd_ob kg_2 sg_2 (by decide)) rfl 21 (by decide) (hts _ md_X3_join_7) (fun _ h9 => h9) (fl_q rfl ek_37) dX3_join_168 ?_
            refine lv_iload_n hx hb dX3_join_171 rfl (lv_at hl 2 rfl) ?_
            refine lv_iload_n hx hb dX3_join_172 rfl (lv_at hl 1 rfl) ?_
            refine lv_iadd hx hb dX3_join_173 ?_
            obtain ⟨g_38, hf⟩ := grd_some hf
            obtain ⟨kg_38, sg_38, ig_38⟩ := okA_at g_38
            refine va_lald hx hb hK hP k_37 2 (Wd_al kg_38 sg_38) rfl ig_38 dX3_join_174 ?_
            refine lv_aload_n hx hb dX3_join_175 rfl (lv_at hl 3 rfl) ?_
            obtain ⟨k_39, ek_39, hf⟩ := lnk_some hf
            refine va_get (D := (dC, dI)) (ci := 3) (v := .ref (a k_39)) (C := RX3) (T := TX3) (N := 22) hx hb hts iwd_X3_join_X3 hown hK hP h0 (Wd_ob kg_2 sg_2 (by decide)) rfl 10 (by decide) (hts _ md_X3_join_6) (fun _ h9 => h9) (fl_q rfl ek_39) dX3_join_176 ?_
            refine lv_iload_n hx hb dX3_join_179 rfl (lv_at hl 1 rfl) ?_
            obtain ⟨g_40, hf⟩ := grd_some hf
            obtain ⟨kg_40, sg_40, ig_40⟩ := okA_at g_40
            refine va_lald hx hb hK hP k_39 2 (Wd_al kg_40 sg_40) rfl ig_40 dX3_join_180 ?_
            refine lv_lor hx hb dX3_join_181 ?_
            refine lv_goto (tgt := 186) hx hb dX3_join_182 (by decide) ?_
            exact B186 (z_29, ((z_29.2.1 k_37 (v_1 + p_22).toNatClampNeg) ||| (z_29.2.1 k_39 p_22.toNatClampNeg))) ls H locs ⟨lv_sub hl [1, 2, 3, 4] rfl, hP, hD, hS⟩ hf
        refine lv_if_eq (tgt := 152) hx hb dX3_join_145 (by decide) (fun c_41 => ?_) (fun c_41 => ?_)
        · skip
          rw [lg_cmp_eq] at c_41
          rw [if_pos c_41] at hf
          refine lv_iconst (v := 0) hx hb dX3_join_152 (by decide) ?_
          exact B153 (z_23, 0) ls H locs ⟨lv_sub hl [0, 1, 2, 3] rfl, hP, hD, hS⟩ hf
        · skip
          rw [lg_cmp_eq] at c_41
          rw [if_neg c_41] at hf
          refine lv_iconst (v := 1) hx hb dX3_join_148 (by decide) ?_
          refine lv_goto (tgt := 153) hx hb dX3_join_149 (by decide) ?_
          exact B153 (z_23, 1) ls H locs ⟨lv_sub hl [0, 1, 2, 3] rfl, hP, hD, hS⟩ hf
    refine lv_if_eq (tgt := 88) hx hb dX3_join_79 (by decide) (fun c_42 => ?_) (fun c_42 => ?_)
    · skip
      rw [lg_cmp_eq] at c_42
      rw [if_pos c_42] at hf
      exact B88 (z) ls H locs ⟨lv_sub hl [0, 1, 2] rfl, hP, hD, hS⟩ hf
    · skip
      rw [lg_cmp_eq] at c_42
      rw [if_neg c_42] at hf
      refine lv_aload_n hx hb dX3_join_82 rfl (lv_at hl 1 rfl) ?_
      refine lv_bipush (v := 9) hx hb dX3_join_83 (by decide) ?_
      obtain ⟨z_43, _u, hfc, hf⟩ := cal_some hf
      have hFc := de_free hD hS hA
      refine va_callv (va_runV (As := [.int 9]) (rest := []) ⟨hx, hb, hml, hown, hts⟩ (de_X3_fail l dC dI cy a sh n H.size F z h0 9 hfc) (cwV 1 hts gX3_join_X3_fail rfl rfl rfl (by decide +kernel) ⟨Nat.le_of_ble_eq_true rfl, Nat.le_of_ble_eq_true rfl⟩) ⟨fun a U g mk q => by obtain ⟨q0, q1, qP, qK, qD, qN⟩ := q; exact ⟨q0, q1, qP, va_K.moved (u := U) (U := U.calling g mk a) (Vm.Alike.refl U.vm) qK, qD, qN.same rfl⟩, va_recv hK hP (ci := 3) (q0 := h0) rfl (Wd_ob kg_2 sg_2 (by decide)), fun U hU hW => ⟨rfl, by rw [hU], by rw [hU]; exact hP, va_K.moved hW.alike hK, hD.weaken (fun _ _ _ _ => trivial), hN.warm hW⟩⟩ rfl rfl hl.1 rfl (lv_room (Nat.le_of_ble_eq_true rfl)) dX3_join_85 ⟨Nat.le_of_ble_eq_true rfl, Nat.le_of_ble_eq_true rfl⟩) hS (fun q _ h => hFc q h) hFc (fun u t H_44 locs ht hvm hw hB hz1 hk1 hS2 => ?_)
      obtain ⟨hP1, -, hD1⟩ := hB
      rw [ht] at hP1
      replace hD := hD1.weaken (fun _ _ _ h => hFc _ h)
      replace hP := hP1
      replace hS := hS2
      clear hP1 hD1 hS2 hFc hfc hz1 hk1 hvm ht
      exact B88 (z_43) ls H_44 locs ⟨lv_sub hl [0, 1, 2] rfl, hP, hD, hS⟩ hf
  · skip
    rw [if_pos c_5] at hf
    refine lv_aload_n hx hb dX3_join_14 rfl (lv_at hl 1 rfl) ?_
    obtain ⟨k_45, ek_45, hf⟩ := lnk_some hf
    refine va_get (D := (dC, dI)) (ci := 3) (v := .ref (a k_45)) (C := RX3) (T := TX3) (N := 22) hx hb hts iwd_X3_join_X3 hown hK hP h0 (Wd_ob kg_2 sg_2 (by decide)) rfl 18 (by decide) (hts _ md_X3_join_1) (fun _ h9 => h9) (fl_q rfl ek_45) dX3_join_15 ?_
    refine lv_iload_n hx hb dX3_join_18 rfl (lv_at hl 2 rfl) ?_
    refine lv_iconst (v := 1) hx hb dX3_join_19 (by decide) ?_
    obtain ⟨g_46, hf⟩ := grd_some hf
    obtain ⟨kg_46, sg_46, ig_46⟩ := okA_at g_46
    refine va_zast hx hb hK hP hD hS k_45 3 (Wd_az kg_46 sg_46) rfl ig_46 dX3_join_20 (fun H_47 locs hP2 hD2 hS2 => ?_)
    rw [Wd_tz sg_46] at hP2 hD2
    obtain ⟨z_48, ez_48⟩ : ∃ w, w = si z k_45 x0.toNatClampNeg (vp_nar .boolean 1) := ⟨_, rfl⟩
    rw [← ez_48] at hP2 hD2
    replace hf := lt_at ez_48 hf
    clear ez_48
    replace hP := hP2
    replace hD := hD2
    replace hS := hS2
    clear hP2 hD2 hS2
    refine lv_aload_n hx hb dX3_join_21 rfl (lv_at hl 1 rfl) ?_
    obtain ⟨k_49, ek_49, hf⟩ := lnk_some hf
    refine va_get (D := (dC, dI)) (ci := 3) (v := .ref (a k_49)) (C := RX3) (T := TX3) (N := 22) hx hb hts iwd_X3_join_X3 hown hK hP h0 (Wd_ob kg_2 sg_2 (by decide)) rfl 19 (by decide) (hts _ md_X3_join_2) (fun _ h9 => h9) (fl_q rfl ek_49) dX3_join_22 ?_
    refine lv_iload_n hx hb dX3_join_25 rfl (lv_at hl 2 rfl) ?_
    refine lv_aload_n hx hb dX3_join_26 rfl (lv_at hl 1 rfl) ?_
    refine va_get (D := (dC, dI)) (ci := 3) (v := .long (z_48.2.1 h0 12)) (C := RX3) (T := TX3) (N := 22) hx hb hts iwd_X3_join_X3 hown hK hP h0 (Wd_ob kg_2 sg_2 (by decide)) rfl 12 (by decide) (hts _ md_X3_join_3) (fun _ h9 => h9) (fl_at (t := 1) rfl) dX3_join_27 ?_
    obtain ⟨g_50, hf⟩ := grd_some hf
    obtain ⟨kg_50, sg_50, ig_50⟩ := okA_at g_50
    refine va_last hx hb hK hP hD hS k_49 2 (Wd_al kg_50 sg_50) rfl ig_50 dX3_join_30 (fun H_51 locs hP2 hD2 hS2 => ?_)
    rw [Wd_tl sg_50] at hP2 hD2
    obtain ⟨z_52, ez_52⟩ : ∃ w, w = sl z_48 k_49 x0.toNatClampNeg (z_48.2.1 h0 12) := ⟨_, rfl⟩
    rw [← ez_52] at hP2 hD2
    replace hf := lt_at ez_52 hf
    clear ez_52
    replace hP := hP2
    replace hD := hD2
    replace hS := hS2
    clear hP2 hD2 hS2
    refine lv_aload_n hx hb dX3_join_31 rfl (lv_at hl 1 rfl) ?_
    obtain ⟨k_53, ek_53, hf⟩ := lnk_some hf
    refine va_get (D := (dC, dI)) (ci := 3) (v := .ref (a k_53)) (C := RX3) (T := TX3) (N := 22) hx hb hts iwd_X3_join_X3 hown hK hP h0 (Wd_ob kg_2 sg_2 (by decide)) rfl 20 (by decide) (hts _ md_X3_join_4) (fun _ h9 => h9) (fl_q rfl ek_53) dX3_join_32 ?_
    refine lv_iload_n hx hb dX3_join_35 rfl (lv_at hl 2 rfl) ?_
    refine lv_aload_n hx hb dX3_join_36 rfl (lv_at hl 1 rfl) ?_
    refine va_get (D := (dC, dI)) (ci := 3) (v := .long (z_52.2.1 h0 13)) (C := RX3) (T := TX3) (N := 22) hx hb hts iwd_X3_join_X3 hown hK hP h0 (Wd_ob kg_2 sg_2 (by decide)) rfl 13 (by decide) (hts _ md_X3_join_5) (fun _ h9 => h9) (fl_at (t := 1) rfl) dX3_join_37 ?_
    obtain ⟨g_54, hf⟩ := grd_some hf
    obtain ⟨kg_54, sg_54, ig_54⟩ := okA_at g_54
    refine va_last hx hb hK hP hD hS k_53 2 (Wd_al kg_54 sg_54) rfl ig_54 dX3_join_40 (fun H_55 locs hP2 hD2 hS2 => ?_)
    rw [Wd_tl sg_54] at hP2 hD2
    obtain ⟨z_56, ez_56⟩ : ∃ w, w = sl z_52 k_53 x0.toNatClampNeg (z_52.2.1 h0 13) := ⟨_, rfl⟩
    rw [← ez_56] at hP2 hD2
    replace hf := lt_at ez_56 hf
    clear ez_56
    replace hP := hP2
    replace hD := hD2
    replace hS := hS2
    clear hP2 hD2 hS2
    refine lv_aload_n hx hb dX3_join_41 rfl (lv_at hl 1 rfl) ?_
    obtain ⟨k_57, ek_57, hf⟩ := lnk_some hf
    refine va_get (D := (dC, dI)) (ci := 3) (v := .ref (a k_57)) (C := RX3) (T := TX3) (N := 22) hx hb hts iwd_X3_join_X3 hown hK hP h0 (Wd_ob kg_2 sg_2 (by decide)) rfl 10 (by decide) (hts _ md_X3_join_6) (fun _ h9 => h9) (fl_q rfl ek_57) dX3_join_42 ?_
    refine lv_iconst (v := 0) hx hb dX3_join_45 (by decide) ?_
    refine lv_aload_n hx hb dX3_join_46 rfl (lv_at hl 1 rfl) ?_
    obtain ⟨k_58, ek_58, hf⟩ := lnk_some hf
    refine va_get (D := (dC, dI)) (ci := 3) (v := .ref (a k_58)) (C := RX3) (T := TX3) (N := 22) hx hb hts iwd_X3_join_X3 hown hK hP h0 (Wd_ob kg_2 sg_2 (by decide)) rfl 21 (by decide) (hts _ md_X3_join_7) (fun _ h9 => h9) (fl_q rfl ek_58) dX3_join_47 ?_
    refine lv_iload_n hx hb dX3_join_50 rfl (lv_at hl 0 rfl) ?_
    refine lv_bipush (v := 40) hx hb dX3_join_51 (by decide) ?_
    obtain ⟨g_59, hf⟩ := grd_some hf
    obtain ⟨kg_59, sg_59⟩ := okO_at g_59
    obtain ⟨g_61, hf⟩ := grd_some hf
    obtain ⟨kg_61, sg_61⟩ := okO_at g_61
    obtain ⟨g_60, hf⟩ := grd_some hf
    obtain ⟨ag_60, bg_60, cg_60, dg_60, eg_60⟩ := okC_at g_60
    refine va_copyl (ty := .long) hx hb (hml.trans hl.1.symm) hown (hts _ md_X3_join_8) (hts _ md_X3_join_9) (hts _ md_X3_join_10) (hts _ md_X3_join_11) hK hP hD hS k_57 k_58 2 2 (Wd_al kg_61 sg_61) (Wd_al kg_59 sg_59) rfl rfl rfl ag_60 bg_60 cg_60 dg_60 eg_60 (fun _ _ => rfl) (Nat.le_of_ble_eq_true rfl) (Nat.le_of_ble_eq_true rfl) dX3_join_53 (fun H_62 locs hP2 hD2 hS2 => ?_)
    rw [Wd_scl sg_59] at hP2 hD2
    obtain ⟨z_63, ez_63⟩ : ∃ w, w = scl z_56 k_58 (z_56.2.1 k_57) (0 : Int32).toNatClampNeg v_1.toNatClampNeg (40 : Int32).toNatClampNeg := ⟨_, rfl⟩
    rw [← ez_63] at hP2 hD2
    replace hf := lt_at ez_63 hf
    clear ez_63
    replace hP := hP2
    replace hD := hD2
    replace hS := hS2
    clear hP2 hD2 hS2
    obtain ⟨h8, h9⟩ := ret_some hf
    rw [h8]
    exact W.vret hx hb hr (fun t ht hW => ⟨⟨(), rfl, trivial, by rw [ht]; exact hP, va_K.moved hW.alike hK, hD⟩, hS.F ht⟩) hS.2.2 dX3_join_56

theorem md_X17_divide_1 : (.fieldLink RX17 7 "ResourceLedgerModel$Wide" "a" "[I" : Cond) ∈ wsX17_divide := List.mem_of_getElem? (i := 1) rfl
theorem iwd_X17_divide_X17 : ∀ w ∈ wsX170, w ∈ wsX17_divide := fun _ h => List.mem_cons_of_mem _ (List.mem_append_right _ h)
theorem md_X17_divide_2 : (.fieldLink RX17 13 "ResourceLedgerModel$Wide" "b" "[I" : Cond) ∈ wsX17_divide := List.mem_of_getElem? (i := 2) rfl
theorem md_X17_divide_4 : (.fieldLink RX17 25 "ResourceLedgerModel$Wide" "high" "J" : Cond) ∈ wsX17_divide := List.mem_of_getElem? (i := 4) rfl
theorem md_X17_divide_5 : (.fieldLink RX17 29 "ResourceLedgerModel$Wide" "low" "J" : Cond) ∈ wsX17_divide := List.mem_of_getElem? (i := 5) rfl
theorem md_X17_divide_3 : (.constantLong RX17 38 (-9223372036854775808) : Cond) ∈ wsX17_divide := List.mem_of_getElem? (i := 3) rfl
set_option maxHeartbeats 4000000 in
set_option maxRecDepth 100000 in
theorem de_X17_divide (l : Launch) (dC : Nat → ClassId) (dI : Nat → Nat → Nat) (cy : Nat → ClassId) (a : Nat → Nat) (sh : Nat → Nat × Nat) (n sz : Nat) (F : Nat) (z : St) (h0 : Nat) (x0 : Int32) (x1 : Int32) {z8 : St} {r8 : Int32} (hf : fn_X17_divide F sh n z h0 x0 x1 = some (z8, r8)) : Met l yX17_divide wsX17_divide ({ frames := 1, cells := 0, slots := 0, locals := 27 }) (va_Pc [.ref (a h0), .int x0, .int x1] (fun U => U.heap.size = sz ∧ va_P (dC, dI) vwCl (Wd cy a sh n z) U.heap ∧ va_K (dC, dI) vwCl (TYS cy) U ∧ va_D (fun _ => True) (Wd cy a sh n z) ∧ NK U)) (va_Qi (fun (r9 : Int32) (u : Unit) => r9 = r8) (fun u t => va_P (dC, dI) vwCl (Wd cy a sh n z8) t.heap ∧ va_K (dC, dI) vwCl (TYS cy) t ∧ va_D (va_A (Wd cy a sh n z) sz) (Wd cy a sh n z8)) (va_A (Wd cy a sh n z) sz)) 0 0 (va_A (Wd cy a sh n z) sz) := by
  refine Met.ofW (cc := cX17_divide) (maxL := 24) (ret := (some .boolean)) (by decide) rfl ?_
  intro p e s m args below meth c s₁ B hml hv
  obtain ⟨rfl, hsz, hP, hK, hD0, hN⟩ := hv
  have hx := B.exec
  have hb := B.bytes
  have hr := B.returns
  have hts := atoms_spec (ws := wsX17_divide) B.pre
  have hown : s.vm.findClass RX17 = some m.cls := findClass_of_methodNamed B.named
  have hlocks := B.notSynchronized
  subst hsz
  have hD := hD0.self (sz := s.heap.size)
  clear hD0
  generalize hAe : va_A (Wd cy a sh n z) s.heap.size = A at hD ⊢
  have hA : ∀ q : Nat, s.heap.size ≤ q → A q := fun q h => by rw [← hAe]; exact Or.inr h
  clear hAe
  have hS : va_S A s.heap s.heap [] := va_S.rf
  have hl := lv_entry ([.ref (a h0), .int x0, .int x1]) (n := 24) (Nat.le_of_ble_eq_true rfl)
  rw [lg_entry_eq]
  generalize (lg_sl ([.ref (a h0), .int x0, .int x1]) ++ List.replicate (24 - (lg_sl ([.ref (a h0), .int x0, .int x1])).length) Slot.unset).toArray = ls at hl ⊢
  replace hl : lv_has ls 24 [(0, .ref (a h0)), (1, .int x0), (2, .int x1)] := hl
  unfold fn_X17_divide at hf
  refine de_start hS hP (fun H locs hS hP => ?_)
  refine lv_aload_n hx hb dX17_divide_0 rfl (lv_at hl 0 rfl) ?_
  obtain ⟨g_1, hf⟩ := grd_some hf
  obtain ⟨kg_1, sg_1⟩ := okO_at g_1
  obtain ⟨k_2, ek_2, hf⟩ := lnk_some hf
  refine va_get (D := (dC, dI)) (ci := 17) (v := .ref (a k_2)) (C := RX17) (T := TX17) (N := 5) hx hb hts iwd_X17_divide_X17 hown hK hP h0 (Wd_ob kg_1 sg_1 (by decide)) rfl 0 (by decide) (hts _ md_X17_divide_1) (fun _ h9 => h9) (fl_q rfl ek_2) dX17_divide_1 ?_
  refine lv_iconst (v := 4) hx hb dX17_divide_4 (by decide) ?_
  obtain ⟨z_3, r_4, hfc, hf⟩ := cal_some hf
  have hFc := de_free hD hS hA
  refine va_calll (va_runS (As := [.ref (a k_2), .int 4]) (rest := []) ⟨hx, hb, hml, hown, hts⟩ (de_X17_four l dC dI cy a sh n H.size F z k_2 4 hfc) (va_cwS 2 hts gX17_divide_X17_four rfl rfl rfl (by decide +kernel) ⟨Nat.le_of_ble_eq_true rfl, Nat.le_of_ble_eq_true rfl⟩) ⟨fun a U g mk q => by obtain ⟨q0, q1, qP, qK, qD, qN⟩ := q; exact ⟨q0, q1, qP, va_K.moved (u := U) (U := U.calling g mk a) (Vm.Alike.refl U.vm) qK, qD, qN.same rfl⟩, fun U hU hW => ⟨rfl, by rw [hU], by rw [hU]; exact hP, va_K.moved hW.alike hK, hD.weaken (fun _ _ _ _ => trivial), hN.warm hW⟩⟩ rfl rfl hl.1 rfl (lv_room (Nat.le_of_ble_eq_true rfl)) dX17_divide_5 ⟨Nat.le_of_ble_eq_true rfl, Nat.le_of_ble_eq_true rfl⟩) hS (fun q _ h => hFc q h) hFc (fun rr u t H_5 locs ht hvm hw hB hz1 hk1 hS2 => ?_)
  rw [hw]
  clear hw
  obtain ⟨hP1, -, hD1⟩ := hB
  rw [ht] at hP1
  replace hD := hD1.weaken (fun _ _ _ h => hFc _ h)
  replace hP := hP1
  replace hS := hS2
  clear hP1 hD1 hS2 hFc hfc hz1 hk1 hvm ht
  refine lv_lstore_n (lv' := [(3, .long r_4), (0, .ref (a h0)), (1, .int x0), (2, .int x1)]) hx hb dX17_divide_8 rfl hl (by decide) rfl (fun ls hl2 => ?_)
  replace hl := hl2
  clear hl2
  refine lv_aload_n hx hb dX17_divide_9 rfl (lv_at hl 1 rfl) ?_
  obtain ⟨k_6, ek_6, hf⟩ := lnk_some hf
  refine va_get (D := (dC, dI)) (ci := 17) (v := .ref (a k_6)) (C := RX17) (T := TX17) (N := 5) hx hb hts iwd_X17_divide_X17 hown hK hP h0 (Wd_ob kg_1 sg_1 (by decide)) rfl 0 (by decide) (hts _ md_X17_divide_1) (fun _ h9 => h9) (fl_q rfl ek_6) dX17_divide_10 ?_
  refine lv_iconst (v := 0) hx hb dX17_divide_13 (by decide) ?_
  obtain ⟨z_7, r_8, hfc, hf⟩ := cal_some hf
  have hFc := de_free hD hS hA
  refine va_calll (va_runS (As := [.ref (a k_6), .int 0]) (rest := []) ⟨hx, hb, hml, hown, hts⟩ (de_X17_four l dC dI cy a sh n H_5.size F z_3 k_6 0 hfc) (va_cwS 2 hts gX17_divide_X17_four rfl rfl rfl (by decide +kernel) ⟨Nat.le_of_ble_eq_true rfl, Nat.le_of_ble_eq_true rfl⟩) ⟨fun a U g mk q => by obtain ⟨q0, q1, qP, qK, qD, qN⟩ := q; exact ⟨q0, q1, qP, va_K.moved (u := U) (U := U.calling g mk a) (Vm.Alike.refl U.vm) qK, qD, qN.same rfl⟩, fun U hU hW => ⟨rfl, by rw [hU], by rw [hU]; exact hP, va_K.moved hW.alike hK, hD.weaken (fun _ _ _ _ => trivial), hN.warm hW⟩⟩ rfl rfl hl.1 rfl (lv_room (Nat.le_of_ble_eq_true rfl)) dX17_divide_14 ⟨Nat.le_of_ble_eq_true rfl, Nat.le_of_ble_eq_true rfl⟩) hS (fun q _ h => hFc q h) hFc (fun rr u t H_9 locs ht hvm hw hB hz1 hk1 hS2 => ?_)
  rw [hw]
  clear hw
  obtain ⟨hP1, -, hD1⟩ := hB
  rw [ht] at hP1
  replace hD := hD1.weaken (fun _ _ _ h => hFc _ h)
  replace hP := hP1
  replace hS := hS2
  clear hP1 hD1 hS2 hFc hfc hz1 hk1 hvm ht
  refine lv_lstore (lv' := [(5, .long r_8), (3, .long r_4), (0, .ref (a h0)), (1, .int x0), (2, .int x1)]) hx hb dX17_divide_17 hl (by decide) rfl (fun ls hl2 => ?_)
  replace hl := hl2
  clear hl2
  refine lv_aload_n hx hb dX17_divide_19 rfl (lv_at hl 2 rfl) ?_
  obtain ⟨k_10, ek_10, hf⟩ := lnk_some hf
  refine va_get (D := (dC, dI)) (ci := 17) (v := .ref (a k_10)) (C := RX17) (T := TX17) (N := 5) hx hb hts iwd_X17_divide_X17 hown hK hP h0 (Wd_ob kg_1 sg_1 (by decide)) rfl 1 (by decide) (hts _ md_X17_divide_2) (fun _ h9 => h9) (fl_q rfl ek_10) dX17_divide_20 ?_
  refine lv_iconst (v := 4) hx hb dX17_divide_23 (by decide) ?_
  obtain ⟨z_11, r_12, hfc, hf⟩ := cal_some hf
  have hFc := de_free hD hS hA
  refine va_calll (va_runS (As := [.ref (a k_10), .int 4]) (rest := []) ⟨hx, hb, hml, hown, hts⟩ (de_X17_four l dC dI cy a sh n H_9.size F z_7 k_10 4 hfc) (va_cwS 2 hts gX17_divide_X17_four rfl rfl rfl (by decide +kernel) ⟨Nat.le_of_ble_eq_true rfl, Nat.le_of_ble_eq_true rfl⟩) ⟨fun a U g mk q => by obtain ⟨q0, q1, qP, qK, qD, qN⟩ := q; exact ⟨q0, q1, qP, va_K.moved (u := U) (U := U.calling g mk a) (Vm.Alike.refl U.vm) qK, qD, qN.same rfl⟩, fun U hU hW => ⟨rfl, by rw [hU], by rw [hU]; exact hP, va_K.moved hW.alike hK, hD.weaken (fun _ _ _ _ => trivial), hN.warm hW⟩⟩ rfl rfl hl.1 rfl (lv_room (Nat.le_of_ble_eq_true rfl)) dX17_divide_24 ⟨Nat.le_of_ble_eq_true rfl, Nat.le_of_ble_eq_true rfl⟩) hS (fun q _ h => hFc q h) hFc (fun rr u t H_13 locs ht hvm hw hB hz1 hk1 hS2 => ?_)
  rw [hw]
  clear hw
  obtain ⟨hP1, -, hD1⟩ := hB
  rw [ht] at hP1
  replace hD := hD1.weaken (fun _ _ _ h => hFc _ h)
  replace hP := hP1
  replace hS := hS2
  clear hP1 hD1 hS2 hFc hfc hz1 hk1 hvm ht
  refine lv_lstore (lv' := [(7, .long r_12), (5, .long r_8), (3, .long r_4), (0, .ref (a h0)), (1, .int x0), (2, .int x1)]) hx hb dX17_divide_27 hl (by decide) rfl (fun ls hl2 => ?_)
  replace hl := hl2
  clear hl2
  refine lv_aload_n hx hb dX17_divide_29 rfl (lv_at hl 3 rfl) ?_
  obtain ⟨k_14, ek_14, hf⟩ := lnk_some hf
  refine va_get (D := (dC, dI)) (ci := 17) (v := .ref (a k_14)) (C := RX17) (T := TX17) (N := 5) hx hb hts iwd_X17_divide_X17 hown hK hP h0 (Wd_ob kg_1 sg_1 (by decide)) rfl 1 (by decide) (hts _ md_X17_divide_2) (fun _ h9 => h9) (fl_q rfl ek_14) dX17_divide_30 ?_
  refine lv_iconst (v := 0) hx hb dX17_divide_33 (by decide) ?_
  obtain ⟨z_15, r_16, hfc, hf⟩ := cal_some hf
  have hFc := de_free hD hS hA
  refine va_calll (va_runS (As := [.ref (a k_14), .int 0]) (rest := []) ⟨hx, hb, hml, hown, hts⟩ (de_X17_four l dC dI cy a sh n H_13.size F z_11 k_14 0 hfc) (va_cwS 2 hts gX17_divide_X17_four rfl rfl rfl (by decide +kernel) ⟨Nat.le_of_ble_eq_true rfl, Nat.le_of_ble_eq_true rfl⟩) ⟨fun a U g mk q => by obtain ⟨q0, q1, qP, qK, qD, qN⟩ := q; exact ⟨q0, q1, qP, va_K.moved (u := U) (U := U.calling g mk a) (Vm.Alike.refl U.vm) qK, qD, qN.same rfl⟩, fun U hU hW => ⟨rfl, by rw [hU], by rw [hU]; exact hP, va_K.moved hW.alike hK, hD.weaken (fun _ _ _ _ => trivial), hN.warm hW⟩⟩ rfl rfl hl.1 rfl (lv_room (Nat.le_of_ble_eq_true rfl)) dX17_divide_34 ⟨Nat.le_of_ble_eq_true rfl, Nat.le_of_ble_eq_true rfl⟩) hS (fun q _ h => hFc q h) hFc (fun rr u t H_17 locs ht hvm hw hB hz1 hk1 hS2 => ?_)
  rw [hw]
  clear hw
  obtain ⟨hP1, -, hD1⟩ := hB
  rw [ht] at hP1
  replace hD := hD1.weaken (fun _ _ _ h => hFc _ h)
  replace hP := hP1
  replace hS := hS2
  clear hP1 hD1 hS2 hFc hfc hz1 hk1 hvm ht
  refine lv_lstore (lv' := [(9, .long r_16), (7, .long r_12), (5, .long r_8), (3, .long r_4), (0, .ref (a h0)), (1, .int x0), (2, .int x1)]) hx hb dX17_divide_37 hl (by decide) rfl (fun ls hl2 => ?_)
  replace hl := hl2
  clear hl2
  refine lv_lconst (v := 0) hx hb dX17_divide_39 (by decide) ?_
  refine lv_lstore (lv' := [(11, .long 0), (9, .long r_16), (7, .long r_12), (5, .long r_8), (3, .long r_4), (0, .ref (a h0)), (1, .int x0), (2, .int x1)]) hx hb dX17_divide_40 hl (by decide) rfl (fun ls hl2 => ?_)
  replace hl := hl2
  clear hl2
  refine lv_lconst (v := 0) hx hb dX17_divide_42 (by decide) ?_
  refine lv_lstore (lv' := [(13, .long 0), (11, .long 0), (9, .long r_16), (7, .long r_12), (5, .long r_8), (3, .long r_4), (0, .ref (a h0)), (1, .int x0), (2, .int x1)]) hx hb dX17_divide_43 hl (by decide) rfl (fun ls hl2 => ?_)
  replace hl := hl2
  clear hl2
  refine lv_lconst (v := 0) hx hb dX17_divide_45 (by decide) ?_
  refine lv_lstore (lv' := [(15, .long 0), (13, .long 0), (11, .long 0), (9, .long r_16), (7, .long r_12), (5, .long r_8), (3, .long r_4), (0, .ref (a h0)), (1, .int x0), (2, .int x1)]) hx hb dX17_divide_46 hl (by decide) rfl (fun ls hl2 => ?_)
  replace hl := hl2
  clear hl2
  refine lv_lconst (v := 0) hx hb dX17_divide_48 (by decide) ?_
  refine lv_lstore (lv' := [(17, .long 0), (15, .long 0), (13, .long 0), (11, .long 0), (9, .long r_16), (7, .long r_12), (5, .long r_8), (3, .long r_4), (0, .ref (a h0)), (1, .int x0), (2, .int x1)]) hx hb dX17_divide_49 hl (by decide) rfl (fun ls hl2 => ?_)
  replace hl := hl2
  clear hl2
  refine lv_bipush (v := 127) hx hb dX17_divide_51 (by decide) ?_
  refine lv_istore (lv' := [(19, .int 127), (17, .long 0), (15, .long 0), (13, .long 0), (11, .long 0), (9, .long r_16), (7, .long r_12), (5, .long r_8), (3, .long r_4), (0, .ref (a h0)), (1, .int x0), (2, .int x1)]) hx hb dX17_divide_53 hl (by decide) rfl (fun ls hl2 => ?_)
  replace hl := hl2
  clear hl2
  have hl0 : lv_has ls 24 [(19, .int 127), (17, .long 0), (15, .long 0), (13, .long 0), (11, .long 0), (9, .long r_16), (7, .long r_12), (5, .long r_8), (3, .long r_4), (0, .ref (a h0)), (1, .int x0), (2, .int x1)] := lv_sub hl [0, 1, 2, 3, 4, 5, 6, 7, 8, 9, 10, 11] rfl
  refine de_loop (h := 55) (fun (x : St × Int64 × Int64 × Int64 × Int64 × Int32) ls H locs => lv_has ls 24 [(19, .int x.2.2.2.2.2), (17, .long x.2.2.2.2.1), (15, .long x.2.2.2.1), (13, .long x.2.2.1), (11, .long x.2.1), (9, .long r_16), (7, .long r_12), (5, .long r_8), (3, .long r_4), (0, .ref (a h0)), (1, .int x0), (2, .int x1)] ∧ va_P (dC, dI) vwCl (Wd cy a sh n x.1) H ∧ va_D A (Wd cy a sh n x.1) ∧ va_S A s.heap H locs) (fun f x => fn_X17_divide_L55 F sh n x0 h0 x1 r_12 r_16 r_8 r_4 f x.1 x.2.1 x.2.2.1 x.2.2.2.1 x.2.2.2.2.1 x.2.2.2.2.2) (z8, r8) ?_ (fun _ => rfl) F (z_15, 0, 0, 0, 0, 127) ls H_17 locs ⟨hl0, hP, hD, hS⟩ hf
  intro f_24 x ls H locs ih55 hI hf
  obtain ⟨z_23, p_18, p_19, p_20, p_21, p_22⟩ := x
  obtain ⟨hl2, hP2, hD2, hS2⟩ := hI
  replace hl : lv_has ls 24 [(19, .int p_22), (17, .long p_21), (15, .long p_20), (13, .long p_19), (11, .long p_18), (9, .long r_16), (7, .long r_12), (5, .long r_8), (3, .long r_4), (0, .ref (a h0)), (1, .int x0), (2, .int x1)] := hl2
  replace hP := hP2
  replace hD := hD2
  replace hS := hS2
  clear hl2 hP2 hD2 hS2 hl0
  replace hf := fn_X17_divide_L55_s hf
  refine lv_iload hx hb dX17_divide_55 (lv_at hl 0 rfl) ?_
  refine lv_if_lt (tgt := 223) hx hb dX17_divide_57 (by decide) (fun c_25 => ?_) (fun c_25 => ?_)
  · skip
    rw [if_pos c_25] at hf
    refine lv_aload_n hx hb dX17_divide_223 rfl (lv_at hl 9 rfl) ?_
    refine lv_iload_n hx hb dX17_divide_224 rfl (lv_at hl 10 rfl) ?_
    refine de_cut (h := 235) (fun (x : St × Int64) => [.long x.2, .ref (a h0)]) (fun x ls H locs => lv_has ls 24 [(17, .long p_21), (13, .long p_19), (0, .ref (a h0)), (1, .int x0), (2, .int x1)] ∧ va_P (dC, dI) vwCl (Wd cy a sh n x.1) H ∧ va_D A (Wd cy a sh n x.1) ∧ va_S A s.heap H locs) (fun x => fn_X17_divide_B235 F sh n h0 x0 x1 p_19 p_21 x.1 x.2) (z8, r8) ?_ (fun B235 => ?_)
    · intro x ls H locs hI hf
      obtain ⟨z_27, p_26⟩ := x
      obtain ⟨hl2, hP2, hD2, hS2⟩ := hI
      replace hl : lv_has ls 24 [(17, .long p_21), (13, .long p_19), (0, .ref (a h0)), (1, .int x0), (2, .int x1)] := hl2
      replace hP := hP2
      replace hD := hD2
      replace hS := hS2
      clear hl2 hP2 hD2 hS2
      replace hf := fn_X17_divide_B235_s hf
      refine W.eq (g2 := F0 m 235 ls [.long p_26, .ref (a h0)]) rfl ?_
      refine va_put (D := (dC, dI)) (ci := 17) (v := .long p_26) (ty := .long) (C := RX17) (T := TX17) (N := 5) hx hb hts iwd_X17_divide_X17 tyX17 tyX17_ok nmX17 hown hK hP hD hS h0 (Wd_ob kg_1 sg_1 (by decide)) rfl 3 (by decide) (hts _ md_X17_divide_4) (fun _ h9 => h9) rfl (by decide +kernel) rfl rfl (by rw [fl_len]; decide) dX17_divide_235 (fun H_28 locs hP2 hD2 hS2 => ?_)
      rw [Wd_sl sg_1 (by decide) rfl] at hP2 hD2
      obtain ⟨z_29, ez_29⟩ : ∃ w, w = sl z_27 h0 3 p_26 := ⟨_, rfl⟩
      rw [← ez_29] at hP2 hD2
      replace hf := lt_at ez_29 hf
      clear ez_29
      replace hP := hP2
      replace hD := hD2
      replace hS := hS2
      clear hP2 hD2 hS2
      refine lv_aload_n hx hb dX17_divide_238 rfl (lv_at hl 2 rfl) ?_
      refine lv_iload_n hx hb dX17_divide_239 rfl (lv_at hl 3 rfl) ?_
      refine de_cut (h := 250) (fun (x : St × Int64) => [.long x.2, .ref (a h0)]) (fun x ls H locs => lv_has ls 24 [(0, .ref (a h0)), (2, .int x1)] ∧ va_P (dC, dI) vwCl (Wd cy a sh n x.1) H ∧ va_D A (Wd cy a sh n x.1) ∧ va_S A s.heap H locs) (fun x => fn_X17_divide_B250 F sh n h0 x1 x.1 x.2) (z8, r8) ?_ (fun B250 => ?_)
      · intro x ls H locs hI hf
        obtain ⟨z_31, p_30⟩ := x
        obtain ⟨hl2, hP2, hD2, hS2⟩ := hI
        replace hl : lv_has ls 24 [(0, .ref (a h0)), (2, .int x1)] := hl2
        replace hP := hP2
        replace hD := hD2
        replace hS := hS2
        clear hl2 hP2 hD2 hS2
        replace hf := fn_X17_divide_B250_s hf
        refine W.eq (g2 := F0 m 250 ls [.long p_30, .ref (a h0)]) rfl ?_
        refine va_put (D := (dC, dI)) (ci := 17) (v := .long p_30) (ty := .long) (C := RX17) (T := TX17) (N := 5) hx hb hts iwd_X17_divide_X17 tyX17 tyX17_ok nmX17 hown hK hP hD hS h0 (Wd_ob kg_1 sg_1 (by decide)) rfl 4 (by decide) (hts _ md_X17_divide_5) (fun _ h9 => h9) rfl (by decide +kernel) rfl rfl (by rw [fl_len]; decide) dX17_divide_250 (fun H_32 locs hP2 hD2 hS2 => ?_)
        rw [Wd_sl sg_1 (by decide) rfl] at hP2 hD2
        obtain ⟨z_33, ez_33⟩ : ∃ w, w = sl z_31 h0 4 p_30 := ⟨_, rfl⟩
        rw [← ez_33] at hP2 hD2
        replace hf := lt_at ez_33 hf
        clear ez_33
        replace hP := hP2
        replace hD := hD2
        replace hS := hS2
        clear hP2 hD2 hS2
        refine lv_aload_n hx hb dX17_divide_253 rfl (lv_at hl 0 rfl) ?_
        refine va_get (D := (dC, dI)) (ci := 17) (v := .long (z_33.2.1 h0 3)) (C := RX17) (T := TX17) (N := 5) hx hb hts iwd_X17_divide_X17 hown hK hP h0 (Wd_ob kg_1 sg_1 (by decide)) rfl 3 (by decide) (hts _ md_X17_divide_4) (fun _ h9 => h9) (fl_at (t := 1) rfl) dX17_divide_254 ?_
        refine lv_aload_n hx hb dX17_divide_257 rfl (lv_at hl 0 rfl) ?_
        refine va_get (D := (dC, dI)) (ci := 17) (v := .long (z_33.2.1 h0 4)) (C := RX17) (T := TX17) (N := 5) hx hb hts iwd_X17_divide_X17 hown hK hP h0 (Wd_ob kg_1 sg_1 (by decide)) rfl 4 (by decide) (hts _ md_X17_divide_5) (fun _ h9 => h9) (fl_at (t := 1) rfl) dX17_divide_258 ?_
        refine lv_iload_n hx hb dX17_divide_261 rfl (lv_at hl 1 rfl) ?_
        obtain ⟨z_34, r_35, hfc, hf⟩ := cal_some hf
        have hFc := de_free hD hS hA
        refine va_calli (va_runS (As := [.long (z_33.2.1 h0 3), .long (z_33.2.1 h0 4), .int x1]) (rest := []) ⟨hx, hb, hml, hown, hts⟩ (de_X17_isOf l dC dI cy a sh n H_32.size F z_33 (z_33.2.1 h0 3) (z_33.2.1 h0 4) x1 hfc) (va_cwS 3 hts gX17_divide_X17_isOf rfl rfl rfl (by decide +kernel) ⟨Nat.le_of_ble_eq_true rfl, Nat.le_of_ble_eq_true rfl⟩) ⟨fun a U g mk q => by obtain ⟨q0, q1, qP, qK, qD, qN⟩ := q; exact ⟨q0, q1, qP, va_K.moved (u := U) (U := U.calling g mk a) (Vm.Alike.refl U.vm) qK, qD, qN.same rfl⟩, fun U hU hW => ⟨rfl, by rw [hU], by rw [hU]; exact hP, va_K.moved hW.alike hK, hD.weaken (fun _ _ _ _ => trivial), hN.warm hW⟩⟩ rfl rfl hl.1 rfl (lv_room (Nat.le_of_ble_eq_true rfl)) dX17_divide_262 ⟨Nat.le_of_ble_eq_true rfl, Nat.le_of_ble_eq_true rfl⟩) hS (fun q _ h => hFc q h) hFc (fun rr u t H_36 locs ht hvm hw hB hz1 hk1 hS2 => ?_)
        rw [hw]
        clear hw
        obtain ⟨hP1, -, hD1⟩ := hB
        rw [ht] at hP1
        replace hD := hD1.weaken (fun _ _ _ h => hFc _ h)
        replace hP := hP1
        replace hS := hS2
        clear hP1 hD1 hS2 hFc hfc hz1 hk1 hvm ht
        obtain ⟨g_37, hf⟩ := grd_some hf
        obtain ⟨h8, h9⟩ := ret_some hf
        rw [h8, h9]
        exact W.zret (v := r_35) hx hb hr (nar_z g_37) (fun t ht hW => ⟨⟨r_35, (), rfl, rfl, by rw [ht]; exact hP, va_K.moved hW.alike hK, hD⟩, hS.F ht⟩) hS.2.2 dX17_divide_265
      refine lv_if_eq (tgt := 248) hx hb dX17_divide_240 (by decide) (fun c_38 => ?_) (fun c_38 => ?_)
      · skip
        rw [if_pos c_38] at hf
        refine lv_lload hx hb dX17_divide_248 (lv_at hl 1 rfl) ?_
        exact B250 (z_29, p_19) ls H_28 locs ⟨lv_sub hl [2, 4] rfl, hP, hD, hS⟩ hf
      · skip
        rw [if_neg c_38] at hf
        refine lv_lload hx hb dX17_divide_243 (lv_at hl 0 rfl) ?_
        refine lv_goto (tgt := 250) hx hb dX17_divide_245 (by decide) ?_
        exact B250 (z_29, p_21) ls H_28 locs ⟨lv_sub hl [2, 4] rfl, hP, hD, hS⟩ hf
    refine lv_if_eq (tgt := 233) hx hb dX17_divide_225 (by decide) (fun c_39 => ?_) (fun c_39 => ?_)
    · skip
      rw [if_pos c_39] at hf
      refine lv_lload hx hb dX17_divide_233 (lv_at hl 4 rfl) ?_
      exact B235 (z_23, p_18) ls H locs ⟨lv_sub hl [1, 3, 9, 10, 11] rfl, hP, hD, hS⟩ hf
    · skip
      rw [if_neg c_39] at hf
      refine lv_lload hx hb dX17_divide_228 (lv_at hl 2 rfl) ?_
      refine lv_goto (tgt := 235) hx hb dX17_divide_230 (by decide) ?_
      exact B235 (z_23, p_20) ls H locs ⟨lv_sub hl [1, 3, 9, 10, 11] rfl, hP, hD, hS⟩ hf
  · skip
    rw [if_neg c_25] at hf
    refine lv_lload hx hb dX17_divide_60 (lv_at hl 4 rfl) ?_
    refine lv_lconst (v := 0) hx hb dX17_divide_62 (by decide) ?_
    refine W.lcmp hx hb dX17_divide_63 ?_
    refine de_cut (h := 72) (fun (x : St × Int32) => [.int x.2]) (fun x ls H locs => lv_has ls 24 [(19, .int p_22), (17, .long p_21), (15, .long p_20), (13, .long p_19), (11, .long p_18), (9, .long r_16), (7, .long r_12), (5, .long r_8), (3, .long r_4), (0, .ref (a h0)), (1, .int x0), (2, .int x1)] ∧ va_P (dC, dI) vwCl (Wd cy a sh n x.1) H ∧ va_D A (Wd cy a sh n x.1) ∧ va_S A s.heap H locs) (fun x => fn_X17_divide_B72 F sh n p_18 p_19 p_22 r_12 r_16 p_20 p_21 r_8 r_4 (fun z9 q11 q13 q15 q17 q19 => fn_X17_divide_L55 F sh n x0 h0 x1 r_12 r_16 r_8 r_4 f_24 z9 q11 q13 q15 q17 q19) x.1 x.2) (z8, r8) ?_ (fun B72 => ?_)
    · intro x ls H locs hI hf
      obtain ⟨z_41, p_40⟩ := x
      obtain ⟨hl2, hP2, hD2, hS2⟩ := hI
      replace hl : lv_has ls 24 [(19, .int p_22), (17, .long p_21), (15, .long p_20), (13, .long p_19), (11, .long p_18), (9, .long r_16), (7, .long r_12), (5, .long r_8), (3, .long r_4), (0, .ref (a h0)), (1, .int x0), (2, .int x1)] := hl2
      replace hP := hP2
      replace hD := hD2
      replace hS := hS2
      clear hl2 hP2 hD2 hS2
      replace hf := fn_X17_divide_B72_s hf
      refine W.eq (g2 := F0 m 72 ls [.int p_40]) rfl ?_
      refine lv_istore (lv' := [(20, .int p_40), (19, .int p_22), (17, .long p_21), (15, .long p_20), (13, .long p_19), (11, .long p_18), (9, .long r_16), (7, .long r_12), (5, .long r_8), (3, .long r_4), (0, .ref (a h0)), (1, .int x0), (2, .int x1)]) hx hb dX17_divide_72 hl (by decide) rfl (fun ls hl2 => ?_)
      replace hl := hl2
      clear hl2
      refine lv_lload hx hb dX17_divide_74 (lv_at hl 5 rfl) ?_
      refine lv_iconst (v := 1) hx hb dX17_divide_76 (by decide) ?_
      refine lv_lshl (v := (p_18 <<< ((1 : Int32).toInt64 &&& 63))) hx hb dX17_divide_77 rfl ?_
      refine lv_lload hx hb dX17_divide_78 (lv_at hl 4 rfl) ?_
      refine lv_bipush (v := 63) hx hb dX17_divide_80 (by decide) ?_
      refine lv_lushr (v := ((p_19 : Int64).toUInt64 >>> ((63 : Int32).toInt64.toUInt64 &&& Int64.toUInt64 63)).toInt64) hx hb dX17_divide_82 rfl ?_
      refine lv_lor hx hb dX17_divide_83 ?_
      refine lv_topl (fun v_42 ev_42 => ?_)
      replace hf := lt_at ev_42 hf
      clear ev_42
      refine lv_lstore (lv' := [(11, .long v_42), (20, .int p_40), (19, .int p_22), (17, .long p_21), (15, .long p_20), (13, .long p_19), (9, .long r_16), (7, .long r_12), (5, .long r_8), (3, .long r_4), (0, .ref (a h0)), (1, .int x0), (2, .int x1)]) hx hb dX17_divide_84 hl (by decide) rfl (fun ls hl2 => ?_)
      replace hl := hl2
      clear hl2
      refine lv_lload hx hb dX17_divide_86 (lv_at hl 5 rfl) ?_
      refine lv_iconst (v := 1) hx hb dX17_divide_88 (by decide) ?_
      refine lv_lshl (v := (p_19 <<< ((1 : Int32).toInt64 &&& 63))) hx hb dX17_divide_89 rfl ?_
      refine lv_iload hx hb dX17_divide_90 (lv_at hl 2 rfl) ?_
      refine lv_bipush (v := 63) hx hb dX17_divide_92 (by decide) ?_
      refine de_cut (h := 112) (fun (x : St × Int64) => [.long x.2, .long ((p_19 <<< ((1 : Int32).toInt64 &&& 63)))]) (fun x ls H locs => lv_has ls 24 [(11, .long v_42), (20, .int p_40), (19, .int p_22), (17, .long p_21), (15, .long p_20), (9, .long r_16), (7, .long r_12), (5, .long r_8), (3, .long r_4), (0, .ref (a h0)), (1, .int x0), (2, .int x1)] ∧ va_P (dC, dI) vwCl (Wd cy a sh n x.1) H ∧ va_D A (Wd cy a sh n x.1) ∧ va_S A s.heap H locs) (fun x => fn_X17_divide_B112 F sh n p_19 p_40 v_42 r_12 r_16 p_20 p_21 p_22 (fun z9 q11 q13 q15 q17 q19 => fn_X17_divide_L55 F sh n x0 h0 x1 r_12 r_16 r_8 r_4 f_24 z9 q11 q13 q15 q17 q19) x.1 x.2) (z8, r8) ?_ (fun B112 => ?_)
      · intro x ls H locs hI hf
        obtain ⟨z_44, p_43⟩ := x
        obtain ⟨hl2, hP2, hD2, hS2⟩ := hI
        replace hl : lv_has ls 24 [(11, .long v_42), (20, .int p_40), (19, .int p_22), (17, .long p_21), (15, .long p_20), (9, .long r_16), (7, .long r_12), (5, .long r_8), (3, .long r_4), (0, .ref (a h0)), (1, .int x0), (2, .int x1)] := hl2
        replace hP := hP2
        replace hD := hD2
        replace hS := hS2
        clear hl2 hP2 hD2 hS2
        replace hf := fn_X17_divide_B112_s hf
        refine W.eq (g2 := F0 m 112 ls [.long p_43, .long ((p_19 <<< ((1 : Int32).toInt64 &&& 63)))]) rfl ?_
        refine lv_lconst (v := 1) hx hb dX17_divide_112 (by decide) ?_
        refine lv_land hx hb dX17_divide_113 ?_
        refine lv_lor hx hb dX17_divide_114 ?_
        refine lv_topl (fun v_45 ev_45 => ?_)
        replace hf := lt_at ev_45 hf
        clear ev_45
        refine lv_lstore (lv' := [(13, .long v_45), (11, .long v_42), (20, .int p_40), (19, .int p_22), (17, .long p_21), (15, .long p_20), (9, .long r_16), (7, .long r_12), (5, .long r_8), (3, .long r_4), (0, .ref (a h0)), (1, .int x0), (2, .int x1)]) hx hb dX17_divide_115 hl (by decide) rfl (fun ls hl2 => ?_)
        replace hl := hl2
        clear hl2
        refine lv_iload hx hb dX17_divide_117 (lv_at hl 2 rfl) ?_
        refine de_cut (h := 141) (fun (x : St × Int32) => [.int x.2]) (fun x ls H locs => lv_has ls 24 [(13, .long v_45), (11, .long v_42), (19, .int p_22), (17, .long p_21), (15, .long p_20), (9, .long r_16), (7, .long r_12), (5, .long r_8), (3, .long r_4), (0, .ref (a h0)), (1, .int x0), (2, .int x1)] ∧ va_P (dC, dI) vwCl (Wd cy a sh n x.1) H ∧ va_D A (Wd cy a sh n x.1) ∧ va_S A s.heap H locs) (fun x => fn_X17_divide_B141 F sh n p_20 p_21 p_22 v_42 v_45 r_16 r_12 (fun z9 q11 q13 q15 q17 q19 => fn_X17_divide_L55 F sh n x0 h0 x1 r_12 r_16 r_8 r_4 f_24 z9 q11 q13 q15 q17 q19) x.1 x.2) (z8, r8) ?_ (fun B141 => ?_)
        · intro x ls H locs hI hf
          obtain ⟨z_47, p_46⟩ := x
          obtain ⟨hl2, hP2, hD2, hS2⟩ := hI
          replace hl : lv_has ls 24 [(13, .long v_45), (11, .long v_42), (19, .int p_22), (17, .long p_21), (15, .long p_20), (9, .long r_16), (7, .long r_12), (5, .long r_8), (3, .long r_4), (0, .ref (a h0)), (1, .int x0), (2, .int x1)] := hl2
          replace hP := hP2
          replace hD := hD2
          replace hS := hS2
          clear hl2 hP2 hD2 hS2
          replace hf := fn_X17_divide_B141_s hf
          refine W.eq (g2 := F0 m 141 ls [.int p_46]) rfl ?_
          refine lv_istore (lv' := [(21, .int p_46), (13, .long v_45), (11, .long v_42), (19, .int p_22), (17, .long p_21), (15, .long p_20), (9, .long r_16), (7, .long r_12), (5, .long r_8), (3, .long r_4), (0, .ref (a h0)), (1, .int x0), (2, .int x1)]) hx hb dX17_divide_141 hl (by decide) rfl (fun ls hl2 => ?_)
          replace hl := hl2
          clear hl2
          refine lv_iload hx hb dX17_divide_143 (lv_at hl 0 rfl) ?_
          refine de_cut (h := 188) (fun (x : St × Int64 × Int64) => []) (fun x ls H locs => lv_has ls 24 [(11, .long x.2.1), (13, .long x.2.2), (21, .int p_46), (19, .int p_22), (17, .long p_21), (15, .long p_20), (9, .long r_16), (7, .long r_12), (5, .long r_8), (3, .long r_4), (0, .ref (a h0)), (1, .int x0), (2, .int x1)] ∧ va_P (dC, dI) vwCl (Wd cy a sh n x.1) H ∧ va_D A (Wd cy a sh n x.1) ∧ va_S A s.heap H locs) (fun x => fn_X17_divide_B188 F sh n p_20 p_21 p_46 p_22 (fun z9 q11 q13 q15 q17 q19 => fn_X17_divide_L55 F sh n x0 h0 x1 r_12 r_16 r_8 r_4 f_24 z9 q11 q13 q15 q17 q19) x.1 x.2.1 x.2.2) (z8, r8) ?_ (fun B188 => ?_)
          · intro x ls H locs hI hf
            obtain ⟨z_50, p_48, p_49⟩ := x
            obtain ⟨hl2, hP2, hD2, hS2⟩ := hI
            replace hl : lv_has ls 24 [(11, .long p_48), (13, .long p_49), (21, .int p_46), (19, .int p_22), (17, .long p_21), (15, .long p_20), (9, .long r_16), (7, .long r_12), (5, .long r_8), (3, .long r_4), (0, .ref (a h0)), (1, .int x0), (2, .int x1)] := hl2
            replace hP := hP2
            replace hD := hD2
            replace hS := hS2
            clear hl2 hP2 hD2 hS2
            replace hf := fn_X17_divide_B188_s hf
            refine W.eq (g2 := F0 m 188 ls []) rfl ?_
            refine lv_lload hx hb dX17_divide_188 (lv_at hl 5 rfl) ?_
            refine lv_iconst (v := 1) hx hb dX17_divide_190 (by decide) ?_
            refine lv_lshl (v := (p_20 <<< ((1 : Int32).toInt64 &&& 63))) hx hb dX17_divide_191 rfl ?_
            refine lv_lload hx hb dX17_divide_192 (lv_at hl 4 rfl) ?_
            refine lv_bipush (v := 63) hx hb dX17_divide_194 (by decide) ?_
            refine lv_lushr (v := ((p_21 : Int64).toUInt64 >>> ((63 : Int32).toInt64.toUInt64 &&& Int64.toUInt64 63)).toInt64) hx hb dX17_divide_196 rfl ?_
            refine lv_lor hx hb dX17_divide_197 ?_
            refine lv_topl (fun v_51 ev_51 => ?_)
            replace hf := lt_at ev_51 hf
            clear ev_51
            refine lv_lstore (lv' := [(15, .long v_51), (11, .long p_48), (13, .long p_49), (21, .int p_46), (19, .int p_22), (17, .long p_21), (9, .long r_16), (7, .long r_12), (5, .long r_8), (3, .long r_4), (0, .ref (a h0)), (1, .int x0), (2, .int x1)]) hx hb dX17_divide_198 hl (by decide) rfl (fun ls hl2 => ?_)
            replace hl := hl2
            clear hl2
            refine lv_lload hx hb dX17_divide_200 (lv_at hl 5 rfl) ?_
            refine lv_iconst (v := 1) hx hb dX17_divide_202 (by decide) ?_
            refine lv_lshl (v := (p_21 <<< ((1 : Int32).toInt64 &&& 63))) hx hb dX17_divide_203 rfl ?_
            refine lv_iload hx hb dX17_divide_204 (lv_at hl 3 rfl) ?_
            refine de_cut (h := 214) (fun (x : St × Int64) => [.long x.2, .long ((p_21 <<< ((1 : Int32).toInt64 &&& 63)))]) (fun x ls H locs => lv_has ls 24 [(15, .long v_51), (11, .long p_48), (13, .long p_49), (19, .int p_22), (9, .long r_16), (7, .long r_12), (5, .long r_8), (3, .long r_4), (0, .ref (a h0)), (1, .int x0), (2, .int x1)] ∧ va_P (dC, dI) vwCl (Wd cy a sh n x.1) H ∧ va_D A (Wd cy a sh n x.1) ∧ va_S A s.heap H locs) (fun x => fn_X17_divide_B214 F sh n p_21 p_48 p_49 v_51 p_22 (fun z9 q11 q13 q15 q17 q19 => fn_X17_divide_L55 F sh n x0 h0 x1 r_12 r_16 r_8 r_4 f_24 z9 q11 q13 q15 q17 q19) x.1 x.2) (z8, r8) ?_ (fun B214 => ?_)
            · intro x ls H locs hI hf
              obtain ⟨z_53, p_52⟩ := x
              obtain ⟨hl2, hP2, hD2, hS2⟩ := hI
              replace hl : lv_has ls 24 [(15, .long v_51), (11, .long p_48), (13, .long p_49), (19, .int p_22), (9, .long r_16), (7, .long r_12), (5, .long r_8), (3, .long r_4), (0, .ref (a h0)), (1, .int x0), (2, .int x1)] := hl2
              replace hP := hP2
              replace hD := hD2
              replace hS := hS2
              clear hl2 hP2 hD2 hS2
              replace hf := fn_X17_divide_B214_s hf
              refine W.eq (g2 := F0 m 214 ls [.long p_52, .long ((p_21 <<< ((1 : Int32).toInt64 &&& 63)))]) rfl ?_
              refine lv_lor hx hb dX17_divide_214 ?_
              refine lv_topl (fun v_54 ev_54 => ?_)
              replace hf := lt_at ev_54 hf
              clear ev_54
              refine lv_lstore (lv' := [(17, .long v_54), (15, .long v_51), (11, .long p_48), (13, .long p_49), (19, .int p_22), (9, .long r_16), (7, .long r_12), (5, .long r_8), (3, .long r_4), (0, .ref (a h0)), (1, .int x0), (2, .int x1)]) hx hb dX17_divide_215 hl (by decide) rfl (fun ls hl2 => ?_)
              replace hl := hl2
              clear hl2
              refine lv_iinc (v := (p_22 + (-1))) (lv' := [(19, .int (p_22 + (-1))), (17, .long v_54), (15, .long v_51), (11, .long p_48), (13, .long p_49), (9, .long r_16), (7, .long r_12), (5, .long r_8), (3, .long r_4), (0, .ref (a h0)), (1, .int x0), (2, .int x1)]) hx hb dX17_divide_217 hl (k := 4) rfl rfl (by decide) rfl (fun ls hl2 => ?_)
              replace hl := hl2
              clear hl2
              refine lv_goto (tgt := 55) hx hb dX17_divide_220 (by decide) ?_
              exact ih55 (z_53, p_48, p_49, v_51, v_54, (p_22 + (-1))) ls H locs ⟨lv_sub hl [0, 1, 2, 4, 3, 5, 6, 7, 8, 9, 10, 11] rfl, hP, hD, hS⟩ hf
            refine lv_if_eq (tgt := 213) hx hb dX17_divide_206 (by decide) (fun c_55 => ?_) (fun c_55 => ?_)
            · skip
              rw [if_pos c_55] at hf
              refine lv_lconst (v := 0) hx hb dX17_divide_213 (by decide) ?_
              exact B214 (z_50, 0) ls H locs ⟨lv_sub hl [0, 1, 2, 4, 6, 7, 8, 9, 10, 11, 12] rfl, hP, hD, hS⟩ hf
            · skip
              rw [if_neg c_55] at hf
              refine lv_lconst (v := 1) hx hb dX17_divide_209 (by decide) ?_
              refine lv_goto (tgt := 214) hx hb dX17_divide_210 (by decide) ?_
              exact B214 (z_50, 1) ls H locs ⟨lv_sub hl [0, 1, 2, 4, 6, 7, 8, 9, 10, 11, 12] rfl, hP, hD, hS⟩ hf
          refine lv_if_eq (tgt := 188) hx hb dX17_divide_145 (by decide) (fun c_56 => ?_) (fun c_56 => ?_)
          · skip
            rw [if_pos c_56] at hf
            exact B188 (z_47, v_42, v_45) ls H locs ⟨lv_sub hl [2, 1, 0, 3, 4, 5, 6, 7, 8, 9, 10, 11, 12] rfl, hP, hD, hS⟩ hf
          · skip
            rw [if_neg c_56] at hf
            refine lv_lload hx hb dX17_divide_148 (lv_at hl 1 rfl) ?_
            refine lv_ldc2 hx hb hown (hts _ md_X17_divide_3) dX17_divide_150 ?_
            refine lv_ladd hx hb dX17_divide_153 ?_
            refine lv_lload hx hb dX17_divide_154 (lv_at hl 6 rfl) ?_
            refine lv_ldc2 hx hb hown (hts _ md_X17_divide_3) dX17_divide_156 ?_
            refine lv_ladd hx hb dX17_divide_159 ?_
            refine W.lcmp hx hb dX17_divide_160 ?_
            refine de_cut (h := 169) (fun (x : St × Int64) => [.long x.2]) (fun x ls H locs => lv_has ls 24 [(21, .int p_46), (13, .long v_45), (11, .long v_42), (19, .int p_22), (17, .long p_21), (15, .long p_20), (9, .long r_16), (7, .long r_12), (5, .long r_8), (3, .long r_4), (0, .ref (a h0)), (1, .int x0), (2, .int x1)] ∧ va_P (dC, dI) vwCl (Wd cy a sh n x.1) H ∧ va_D A (Wd cy a sh n x.1) ∧ va_S A s.heap H locs) (fun x => fn_X17_divide_B169 F sh n v_45 r_16 v_42 r_12 p_20 p_21 p_46 p_22 (fun z9 q11 q13 q15 q17 q19 => fn_X17_divide_L55 F sh n x0 h0 x1 r_12 r_16 r_8 r_4 f_24 z9 q11 q13 q15 q17 q19) x.1 x.2) (z8, r8) ?_ (fun B169 => ?_)
            · intro x ls H locs hI hf
              obtain ⟨z_58, p_57⟩ := x
              obtain ⟨hl2, hP2, hD2, hS2⟩ := hI
              replace hl : lv_has ls 24 [(21, .int p_46), (13, .long v_45), (11, .long v_42), (19, .int p_22), (17, .long p_21), (15, .long p_20), (9, .long r_16), (7, .long r_12), (5, .long r_8), (3, .long r_4), (0, .ref (a h0)), (1, .int x0), (2, .int x1)] := hl2
              replace hP := hP2
              replace hD := hD2
              replace hS := hS2
              clear hl2 hP2 hD2 hS2
              replace hf := fn_X17_divide_B169_s hf
              refine W.eq (g2 := F0 m 169 ls [.long p_57]) rfl ?_
              refine lv_lstore (lv' := [(22, .long p_57), (21, .int p_46), (13, .long v_45), (11, .long v_42), (19, .int p_22), (17, .long p_21), (15, .long p_20), (9, .long r_16), (7, .long r_12), (5, .long r_8), (3, .long r_4), (0, .ref (a h0)), (1, .int x0), (2, .int x1)]) hx hb dX17_divide_169 hl (by decide) rfl (fun ls hl2 => ?_)
              replace hl := hl2
              clear hl2
              refine lv_lload hx hb dX17_divide_171 (lv_at hl 2 rfl) ?_
              refine lv_lload hx hb dX17_divide_173 (lv_at hl 7 rfl) ?_
              refine lv_lsub hx hb dX17_divide_175 ?_
              refine lv_topl (fun v_59 ev_59 => ?_)
              replace hf := lt_at ev_59 hf
              clear ev_59
              refine lv_lstore (lv' := [(13, .long v_59), (22, .long p_57), (21, .int p_46), (11, .long v_42), (19, .int p_22), (17, .long p_21), (15, .long p_20), (9, .long r_16), (7, .long r_12), (5, .long r_8), (3, .long r_4), (0, .ref (a h0)), (1, .int x0), (2, .int x1)]) hx hb dX17_divide_176 hl (by decide) rfl (fun ls hl2 => ?_)
              replace hl := hl2
              clear hl2
              refine lv_lload hx hb dX17_divide_178 (lv_at hl 3 rfl) ?_
              refine lv_lload hx hb dX17_divide_180 (lv_at hl 8 rfl) ?_
              refine lv_lsub hx hb dX17_divide_182 ?_
              refine lv_lload hx hb dX17_divide_183 (lv_at hl 1 rfl) ?_
              refine lv_lsub hx hb dX17_divide_185 ?_
              refine lv_topl (fun v_60 ev_60 => ?_)
              replace hf := lt_at ev_60 hf
              clear ev_60
              refine lv_lstore (lv' := [(11, .long v_60), (13, .long v_59), (22, .long p_57), (21, .int p_46), (19, .int p_22), (17, .long p_21), (15, .long p_20), (9, .long r_16), (7, .long r_12), (5, .long r_8), (3, .long r_4), (0, .ref (a h0)), (1, .int x0), (2, .int x1)]) hx hb dX17_divide_186 hl (by decide) rfl (fun ls hl2 => ?_)
              replace hl := hl2
              clear hl2
              exact B188 (z_58, v_60, v_59) ls H locs ⟨lv_sub hl [0, 1, 3, 4, 5, 6, 7, 8, 9, 10, 11, 12, 13] rfl, hP, hD, hS⟩ hf
            refine lv_if_ge (tgt := 168) hx hb dX17_divide_161 (by decide) (fun c_61 => ?_) (fun c_61 => ?_)
            · skip
              rw [lg_cmp_ge] at c_61
              rw [if_pos c_61] at hf
              refine lv_lconst (v := 0) hx hb dX17_divide_168 (by decide) ?_
              exact B169 (z_47, 0) ls H locs ⟨lv_sub hl [0, 1, 2, 3, 4, 5, 6, 7, 8, 9, 10, 11, 12] rfl, hP, hD, hS⟩ hf
            · skip
              rw [lg_cmp_ge] at c_61
              rw [if_neg c_61] at hf
              refine lv_lconst (v := 1) hx hb dX17_divide_164 (by decide) ?_
              refine lv_goto (tgt := 169) hx hb dX17_divide_165 (by decide) ?_
              exact B169 (z_47, 1) ls H locs ⟨lv_sub hl [0, 1, 2, 3, 4, 5, 6, 7, 8, 9, 10, 11, 12] rfl, hP, hD, hS⟩ hf
        refine de_cut (h := 136) (fun (x : St) => []) (fun x ls H locs => lv_has ls 24 [(13, .long v_45), (11, .long v_42), (19, .int p_22), (17, .long p_21), (15, .long p_20), (9, .long r_16), (7, .long r_12), (5, .long r_8), (3, .long r_4), (0, .ref (a h0)), (1, .int x0), (2, .int x1)] ∧ va_P (dC, dI) vwCl (Wd cy a sh n x) H ∧ va_D A (Wd cy a sh n x) ∧ va_S A s.heap H locs) (fun x => fn_X17_divide_B136 F sh n p_20 p_21 p_22 v_42 v_45 r_16 r_12 (fun z9 q11 q13 q15 q17 q19 => fn_X17_divide_L55 F sh n x0 h0 x1 r_12 r_16 r_8 r_4 f_24 z9 q11 q13 q15 q17 q19) x) (z8, r8) ?_ (fun B136 => ?_)
        · intro x ls H locs hI hf
          obtain ⟨z_62, ez⟩ : ∃ w, w = x := ⟨_, rfl⟩
          subst ez
          obtain ⟨hl2, hP2, hD2, hS2⟩ := hI
          replace hl : lv_has ls 24 [(13, .long v_45), (11, .long v_42), (19, .int p_22), (17, .long p_21), (15, .long p_20), (9, .long r_16), (7, .long r_12), (5, .long r_8), (3, .long r_4), (0, .ref (a h0)), (1, .int x0), (2, .int x1)] := hl2
          replace hP := hP2
          replace hD := hD2
          replace hS := hS2
          clear hl2 hP2 hD2 hS2
          replace hf := fn_X17_divide_B136_s hf
          refine W.eq (g2 := F0 m 136 ls []) rfl ?_
          refine lv_iconst (v := 1) hx hb dX17_divide_136 (by decide) ?_
          refine lv_goto (tgt := 141) hx hb dX17_divide_137 (by decide) ?_
          exact B141 (z_62, 1) ls H locs ⟨lv_sub hl [0, 1, 2, 3, 4, 5, 6, 7, 8, 9, 10, 11] rfl, hP, hD, hS⟩ hf
        refine lv_if_ne (tgt := 136) hx hb dX17_divide_119 (by decide) (fun c_63 => ?_) (fun c_63 => ?_)
        · skip
          rw [if_neg c_63] at hf
          exact B136 (z_44) ls H locs ⟨lv_sub hl [0, 1, 3, 4, 5, 6, 7, 8, 9, 10, 11, 12] rfl, hP, hD, hS⟩ hf
        · skip
          rw [if_pos c_63] at hf
          refine lv_lload hx hb dX17_divide_122 (lv_at hl 1 rfl) ?_
          refine lv_lload hx hb dX17_divide_124 (lv_at hl 0 rfl) ?_
          refine lv_lload hx hb dX17_divide_126 (lv_at hl 7 rfl) ?_
          refine lv_lload hx hb dX17_divide_128 (lv_at hl 6 rfl) ?_
          obtain ⟨z_64, r_65, hfc, hf⟩ := cal_some hf
          have hFc := de_free hD hS hA
          refine va_calli (va_runS (As := [.long v_42, .long v_45, .long r_12, .long r_16]) (rest := []) ⟨hx, hb, hml, hown, hts⟩ (de_X17_compare l dC dI cy a sh n H.size F z_44 v_42 v_45 r_12 r_16 hfc) (va_cwS 4 hts gX17_divide_X17_compare rfl rfl rfl (by decide +kernel) ⟨Nat.le_of_ble_eq_true rfl, Nat.le_of_ble_eq_true rfl⟩) ⟨fun a U g mk q => by obtain ⟨q0, q1, qP, qK, qD, qN⟩ := q; exact ⟨q0, q1, qP, va_K.moved (u := U) (U := U.calling g mk a) (Vm.Alike.refl U.vm) qK, qD, qN.same rfl⟩, fun U hU hW => ⟨rfl, by rw [hU], by rw [hU]; exact hP, va_K.moved hW.alike hK, hD.weaken (fun _ _ _ _ => trivial), hN.warm hW⟩⟩ rfl rfl hl.1 rfl (lv_room (Nat.le_of_ble_eq_true rfl)) dX17_divide_130 ⟨Nat.le_of_ble_eq_true rfl, Nat.le_of_ble_eq_true rfl⟩) hS (fun q _ h => hFc q h) hFc (fun rr u t H_66 locs ht hvm hw hB hz1 hk1 hS2 => ?_)
          rw [hw]
          clear hw
          obtain ⟨hP1, -, hD1⟩ := hB
          rw [ht] at hP1
          replace hD := hD1.weaken (fun _ _ _ h => hFc _ h)
          replace hP := hP1
          replace hS := hS2
          clear hP1 hD1 hS2 hFc hfc hz1 hk1 hvm ht
          refine lv_if_lt (tgt := 140) hx hb dX17_divide_133 (by decide) (fun c_67 => ?_) (fun c_67 => ?_)
          · skip
            rw [if_pos c_67] at hf
            refine lv_iconst (v := 0) hx hb dX17_divide_140 (by decide) ?_
            exact B141 (z_64, 0) ls H_66 locs ⟨lv_sub hl [0, 1, 3, 4, 5, 6, 7, 8, 9, 10, 11, 12] rfl, hP, hD, hS⟩ hf
          · skip
            rw [if_neg c_67] at hf
            exact B136 (z_64) ls H_66 locs ⟨lv_sub hl [0, 1, 3, 4, 5, 6, 7, 8, 9, 10, 11, 12] rfl, hP, hD, hS⟩ hf
      refine lv_icmp_le (tgt := 107) hx hb dX17_divide_94 (by decide) (fun c_68 => ?_) (fun c_68 => ?_)
      · skip
        rw [if_pos c_68] at hf
        refine lv_lload hx hb dX17_divide_107 (lv_at hl 8 rfl) ?_
        refine lv_iload hx hb dX17_divide_109 (lv_at hl 2 rfl) ?_
        refine lv_lshr (v := (r_8 >>> ((p_22 : Int32).toInt64 &&& 63))) hx hb dX17_divide_111 rfl ?_
        exact B112 (z_41, ((r_8 >>> ((p_22 : Int32).toInt64 &&& 63)))) ls H locs ⟨lv_sub hl [0, 1, 2, 3, 4, 6, 7, 8, 9, 10, 11, 12] rfl, hP, hD, hS⟩ hf
      · skip
        rw [if_neg c_68] at hf
        refine lv_lload_n hx hb dX17_divide_97 rfl (lv_at hl 9 rfl) ?_
        refine lv_iload hx hb dX17_divide_98 (lv_at hl 2 rfl) ?_
        refine lv_bipush (v := 64) hx hb dX17_divide_100 (by decide) ?_
        refine lv_isub hx hb dX17_divide_102 ?_
        refine lv_lshr (v := (r_4 >>> (((p_22 - 64) : Int32).toInt64 &&& 63))) hx hb dX17_divide_103 rfl ?_
        refine lv_goto (tgt := 112) hx hb dX17_divide_104 (by decide) ?_
        exact B112 (z_41, ((r_4 >>> (((p_22 - 64) : Int32).toInt64 &&& 63)))) ls H locs ⟨lv_sub hl [0, 1, 2, 3, 4, 6, 7, 8, 9, 10, 11, 12] rfl, hP, hD, hS⟩ hf
    refine lv_if_ge (tgt := 71) hx hb dX17_divide_64 (by decide) (fun c_69 => ?_) (fun c_69 => ?_)
    · skip
      rw [lg_cmp_ge] at c_69
      rw [if_pos c_69] at hf
      refine lv_iconst (v := 0) hx hb dX17_divide_71 (by decide) ?_
      exact B72 (z_23, 0) ls H locs ⟨lv_sub hl [0, 1, 2, 3, 4, 5, 6, 7, 8, 9, 10, 11] rfl, hP, hD, hS⟩ hf
    · skip
      rw [lg_cmp_ge] at c_69
      rw [if_neg c_69] at hf
      refine lv_iconst (v := 1) hx hb dX17_divide_67 (by decide) ?_
      refine lv_goto (tgt := 72) hx hb dX17_divide_68 (by decide) ?_
      exact B72 (z_23, 1) ls H locs ⟨lv_sub hl [0, 1, 2, 3, 4, 5, 6, 7, 8, 9, 10, 11] rfl, hP, hD, hS⟩ hf

theorem md_X12_block_5 : (.fieldLink RX12 13 "ResourceLedgerModel$Digester" "words" "[J" : Cond) ∈ wsX12_block := List.mem_of_getElem? (i := 5) rfl
theorem iwd_X12_block_X12 : ∀ w ∈ wsX120, w ∈ wsX12_block := fun _ h => List.mem_cons_of_mem _ (List.mem_append_right _ h)
theorem md_X12_block_4 : (.constantLong RX12 28 (4294967295) : Cond) ∈ wsX12_block := List.mem_of_getElem? (i := 4) rfl
theorem md_X12_block_6 : (.fieldLink RX12 61 "ResourceLedgerModel$Digester" "CONSTANTS" "[J" : Cond) ∈ wsX12_block := List.mem_of_getElem? (i := 6) rfl
theorem md_X12_block_3 : (.fieldLink RX12 17 "ResourceLedgerModel$Digester" "schedule" "[J" : Cond) ∈ wsX12_block := List.mem_of_getElem? (i := 3) rfl
theorem md_X12_block_1 : (.constantLong RX12 55 (256) : Cond) ∈ wsX12_block := List.mem_of_getElem? (i := 1) rfl
theorem md_X12_block_2 : (.fieldLink RX12 7 "ResourceLedgerModel$Digester" "message" "[B" : Cond) ∈ wsX12_block := List.mem_of_getElem? (i := 2) rfl
set_option maxHeartbeats 4000000 in
set_option maxRecDepth 100000 in
theorem de_X12_block (l : Launch) (dC : Nat → ClassId) (dI : Nat → Nat → Nat) (cy : Nat → ClassId) (a : Nat → Nat) (sh : Nat → Nat × Nat) (n sz : Nat) (F : Nat) (sk : Nat → Nat) (z : St) (h0 : Nat) (x0 : Int32) {z8 : St} {r8 : Unit} (hf : fn_X12_block F sh n z h0 x0 = some (z8, r8)) : Met l yX12_block wsX12_block ({ frames := 1, cells := 0, slots := 0, locals := 22 }) (va_Pc [.ref (a h0), .int x0] (fun U => U.heap.size = sz ∧ va_P (dC, dI) vwCl (Wd cy a sh n z) U.heap ∧ va_K (dC, dI) vwCl (TYS cy) U ∧ va_D (fun _ => True) (Wd cy a sh n z) ∧ NK U ∧ SKs sk (a CBK) (va_A (Wd cy a sh n z) sz) U U.heap)) (va_Qv (fun u : Unit => True) (fun u t => va_P (dC, dI) vwCl (Wd cy a sh n z8) t.heap ∧ va_K (dC, dI) vwCl (TYS cy) t ∧ va_D (va_A (Wd cy a sh n z) sz) (Wd cy a sh n z8)) (va_A (Wd cy a sh n z) sz)) 0 0 (va_A (Wd cy a sh n z) sz) := by
  refine Met.ofW (cc := cX12_block) (maxL := 23) (ret := none) (by decide) rfl ?_
  intro p e s m args below meth c s₁ B hml hv
  obtain ⟨rfl, hsz, hP, hK, hD0, hN, hSK⟩ := hv
  have hx := B.exec
  have hb := B.bytes
  have hr := B.returns
  have hts := atoms_spec (ws := wsX12_block) B.pre
  have hown : s.vm.findClass RX12 = some m.cls := findClass_of_methodNamed B.named
  have hlocks := B.notSynchronized
  subst hsz
  have hD := hD0.self (sz := s.heap.size)
  clear hD0
  generalize hAe : va_A (Wd cy a sh n z) s.heap.size = A at hD hSK ⊢
  have hA : ∀ q : Nat, s.heap.size ≤ q → A q := fun q h => by rw [← hAe]; exact Or.inr h
  clear hAe
  have hS : va_S A s.heap s.heap [] := va_S.rf
  have hl := lv_entry ([.ref (a h0), .int x0]) (n := 23) (Nat.le_of_ble_eq_true rfl)
  rw [lg_entry_eq]
  generalize (lg_sl ([.ref (a h0), .int x0]) ++ List.replicate (23 - (lg_sl ([.ref (a h0), .int x0])).length) Slot.unset).toArray = ls at hl ⊢
  replace hl : lv_has ls 23 [(0, .ref (a h0)), (1, .int x0)] := hl
  unfold fn_X12_block at hf
  refine de_start hS hP (fun H locs hS hP => ?_)
  refine lv_iconst (v := 0) hx hb dX12_block_0 (by decide) ?_
  refine lv_istore_n (lv' := [(2, .int 0), (0, .ref (a h0)), (1, .int x0)]) hx hb dX12_block_1 rfl hl (by decide) rfl (fun ls hl2 => ?_)
  replace hl := hl2
  clear hl2
  have hl0 : lv_has ls 23 [(2, .int 0), (0, .ref (a h0)), (1, .int x0)] := lv_sub hl [0, 1, 2] rfl
  refine de_loop (h := 2) (fun (x : St × Int32) ls H locs => lv_has ls 23 [(2, .int x.2), (0, .ref (a h0)), (1, .int x0)] ∧ va_P (dC, dI) vwCl (Wd cy a sh n x.1) H ∧ va_D A (Wd cy a sh n x.1) ∧ va_S A s.heap H locs) (fun f x => fn_X12_block_L2 F sh n h0 x0 f x.1 x.2) (z8, r8) ?_ (fun _ => rfl) F (z, 0) ls H locs ⟨hl0, hP, hD, hS⟩ hf
  intro f_3 x ls H locs ih2 hI hf
  obtain ⟨z_2, p_1⟩ := x
  obtain ⟨hl2, hP2, hD2, hS2⟩ := hI
  replace hl : lv_has ls 23 [(2, .int p_1), (0, .ref (a h0)), (1, .int x0)] := hl2
  replace hP := hP2
  replace hD := hD2
  replace hS := hS2
  clear hl2 hP2 hD2 hS2 hl0
  replace hf := fn_X12_block_L2_s hf
  refine lv_iload_n hx hb dX12_block_2 rfl (lv_at hl 0 rfl) ?_
  refine lv_bipush (v := 16) hx hb dX12_block_3 (by decide) ?_
  refine lv_icmp_ge (tgt := 63) hx hb dX12_block_5 (by decide) (fun c_4 => ?_) (fun c_4 => ?_)
  · skip
    rw [if_pos c_4] at hf
    refine lv_bipush (v := 16) hx hb dX12_block_63 (by decide) ?_
    refine lv_istore_n (lv' := [(2, .int 16), (0, .ref (a h0)), (1, .int x0)]) hx hb dX12_block_65 rfl hl (by decide) rfl (fun ls hl2 => ?_)
    replace hl := hl2
    clear hl2
    have hl0 : lv_has ls 23 [(2, .int 16), (0, .ref (a h0))] := lv_sub hl [0, 1] rfl
    refine de_loop (h := 66) (fun (x : St × Int32) ls H locs => lv_has ls 23 [(2, .int x.2), (0, .ref (a h0))] ∧ va_P (dC, dI) vwCl (Wd cy a sh n x.1) H ∧ va_D A (Wd cy a sh n x.1) ∧ va_S A s.heap H locs) (fun f x => fn_X12_block_L66 F sh n h0 f x.1 x.2) (z8, r8) ?_ (fun _ => rfl) F (z_2, 16) ls H locs ⟨hl0, hP, hD, hS⟩ hf
    intro f_7 x ls H locs ih66 hI hf
    obtain ⟨z_6, p_5⟩ := x
    obtain ⟨hl2, hP2, hD2, hS2⟩ := hI
    replace hl : lv_has ls 23 [(2, .int p_5), (0, .ref (a h0))] := hl2
    replace hP := hP2
    replace hD := hD2
    replace hS := hS2
    clear hl2 hP2 hD2 hS2 hl0
    replace hf := fn_X12_block_L66_s hf
    refine lv_iload_n hx hb dX12_block_66 rfl (lv_at hl 0 rfl) ?_
    refine lv_bipush (v := 64) hx hb dX12_block_67 (by decide) ?_
    refine lv_icmp_ge (tgt := 175) hx hb dX12_block_69 (by decide) (fun c_8 => ?_) (fun c_8 => ?_)
    · skip
      rw [if_pos c_8] at hf
      refine lv_aload_n hx hb dX12_block_175 rfl (lv_at hl 1 rfl) ?_
      obtain ⟨g_9, hf⟩ := grd_some hf
      obtain ⟨kg_9, sg_9⟩ := okO_at g_9
      obtain ⟨k_10, ek_10, hf⟩ := lnk_some hf
      refine va_get (D := (dC, dI)) (ci := 12) (v := .ref (a k_10)) (C := RX12) (T := TX12) (N := 4) hx hb hts iwd_X12_block_X12 hown hK hP h0 (Wd_ob kg_9 sg_9 (by decide)) rfl 2 (by decide) (hts _ md_X12_block_5) (fun _ h9 => h9) (fl_q rfl ek_10) dX12_block_176 ?_
      refine lv_iconst (v := 0) hx hb dX12_block_179 (by decide) ?_
      obtain ⟨g_11, hf⟩ := grd_some hf
      obtain ⟨kg_11, sg_11, ig_11⟩ := okA_at g_11
      refine va_lald hx hb hK hP k_10 2 (Wd_al kg_11 sg_11) rfl ig_11 dX12_block_180 ?_
      refine lv_topl (fun v_12 ev_12 => ?_)
      replace hf := lt_at ev_12 hf
      clear ev_12
      refine lv_lstore_n (lv' := [(2, .long v_12), (0, .ref (a h0))]) hx hb dX12_block_181 rfl hl (by decide) rfl (fun ls hl2 => ?_)
      replace hl := hl2
      clear hl2
      refine lv_aload_n hx hb dX12_block_182 rfl (lv_at hl 1 rfl) ?_
      obtain ⟨k_13, ek_13, hf⟩ := lnk_some hf
      refine va_get (D := (dC, dI)) (ci := 12) (v := .ref (a k_13)) (C := RX12) (T := TX12) (N := 4) hx hb hts iwd_X12_block_X12 hown hK hP h0 (Wd_ob kg_9 sg_9 (by decide)) rfl 2 (by decide) (hts _ md_X12_block_5) (fun _ h9 => h9) (fl_q rfl ek_13) dX12_block_183 ?_
      refine lv_iconst (v := 1) hx hb dX12_block_186 (by decide) ?_
      obtain ⟨g_14, hf⟩ := grd_some hf
      obtain ⟨kg_14, sg_14, ig_14⟩ := okA_at g_14
      refine va_lald hx hb hK hP k_13 2 (Wd_al kg_14 sg_14) rfl ig_14 dX12_block_187 ?_
      refine lv_topl (fun v_15 ev_15 => ?_)
      replace hf := lt_at ev_15 hf
      clear ev_15
      refine lv_lstore (lv' := [(4, .long v_15), (2, .long v_12), (0, .ref (a h0))]) hx hb dX12_block_188 hl (by decide) rfl (fun ls hl2 => ?_)
      replace hl := hl2
      clear hl2
      refine lv_aload_n hx hb dX12_block_190 rfl (lv_at hl 2 rfl) ?_
      obtain ⟨k_16, ek_16, hf⟩ := lnk_some hf
      refine va_get (D := (dC, dI)) (ci := 12) (v := .ref (a k_16)) (C := RX12) (T := TX12) (N := 4) hx hb hts iwd_X12_block_X12 hown hK hP h0 (Wd_ob kg_9 sg_9 (by decide)) rfl 2 (by decide) (hts _ md_X12_block_5) (fun _ h9 => h9) (fl_q rfl ek_16) dX12_block_191 ?_
      refine lv_iconst (v := 2) hx hb dX12_block_194 (by decide) ?_
      obtain ⟨g_17, hf⟩ := grd_some hf
      obtain ⟨kg_17, sg_17, ig_17⟩ := okA_at g_17
      refine va_lald hx hb hK hP k_16 2 (Wd_al kg_17 sg_17) rfl ig_17 dX12_block_195 ?_
      refine lv_topl (fun v_18 ev_18 => ?_)
      replace hf := lt_at ev_18 hf
      clear ev_18
      refine lv_lstore (lv' := [(6, .long v_18), (4, .long v_15), (2, .long v_12), (0, .ref (a h0))]) hx hb dX12_block_196 hl (by decide) rfl (fun ls hl2 => ?_)
      replace hl := hl2
      clear hl2
      refine lv_aload_n hx hb dX12_block_198 rfl (lv_at hl 3 rfl) ?_
      obtain ⟨k_19, ek_19, hf⟩ := lnk_some hf
      refine va_get (D := (dC, dI)) (ci := 12) (v := .ref (a k_19)) (C := RX12) (T := TX12) (N := 4) hx hb hts iwd_X12_block_X12 hown hK hP h0 (Wd_ob kg_9 sg_9 (by decide)) rfl 2 (by decide) (hts _ md_X12_block_5) (fun _ h9 => h9) (fl_q rfl ek_19) dX12_block_199 ?_
      refine lv_iconst (v := 3) hx hb dX12_block_202 (by decide) ?_
      obtain ⟨g_20, hf⟩ := grd_some hf
      obtain ⟨kg_20, sg_20, ig_20⟩ := okA_at g_20
      refine va_lald hx hb hK hP k_19 2 (Wd_al kg_20 sg_20) rfl ig_20 dX12_block_203 ?_
      refine lv_topl (fun v_21 ev_21 => ?_)
      replace hf := lt_at ev_21 hf
      clear ev_21
      refine lv_lstore (lv' := [(8, .long v_21), (6, .long v_18), (4, .long v_15), (2, .long v_12), (0, .ref (a h0))]) hx hb dX12_block_204 hl (by decide) rfl (fun ls hl2 => ?_)
      replace hl := hl2
      clear hl2
      refine lv_aload_n hx hb dX12_block_206 rfl (lv_at hl 4 rfl) ?_
      obtain ⟨k_22, ek_22, hf⟩ := lnk_some hf
      refine va_get (D := (dC, dI)) (ci := 12) (v := .ref (a k_22)) (C := RX12) (T := TX12) (N := 4) hx hb hts iwd_X12_block_X12 hown hK hP h0 (Wd_ob kg_9 sg_9 (by decide)) rfl 2 (by decide) (hts _ md_X12_block_5) (fun _ h9 => h9) (fl_q rfl ek_22) dX12_block_207 ?_
      refine lv_iconst (v := 4) hx hb dX12_block_210 (by decide) ?_
      obtain ⟨g_23, hf⟩ := grd_some hf
      obtain ⟨kg_23, sg_23, ig_23⟩ := okA_at g_23
      refine va_lald hx hb hK hP k_22 2 (Wd_al kg_23 sg_23) rfl ig_23 dX12_block_211 ?_
      refine lv_topl (fun v_24 ev_24 => ?_)
      replace hf := lt_at ev_24 hf
      clear ev_24
      refine lv_lstore (lv' := [(10, .long v_24), (8, .long v_21), (6, .long v_18), (4, .long v_15), (2, .long v_12), (0, .ref (a h0))]) hx hb dX12_block_212 hl (by decide) rfl (fun ls hl2 => ?_)
      replace hl := hl2
      clear hl2
      refine lv_aload_n hx hb dX12_block_214 rfl (lv_at hl 5 rfl) ?_
      obtain ⟨k_25, ek_25, hf⟩ := lnk_some hf
      refine va_get (D := (dC, dI)) (ci := 12) (v := .ref (a k_25)) (C := RX12) (T := TX12) (N := 4) hx hb hts iwd_X12_block_X12 hown hK hP h0 (Wd_ob kg_9 sg_9 (by decide)) rfl 2 (by decide) (hts _ md_X12_block_5) (fun _ h9 => h9) (fl_q rfl ek_25) dX12_block_215 ?_
      refine lv_iconst (v := 5) hx hb dX12_block_218 (by decide) ?_
      obtain ⟨g_26, hf⟩ := grd_some hf
      obtain ⟨kg_26, sg_26, ig_26⟩ := okA_at g_26
      refine va_lald hx hb hK hP k_25 2 (Wd_al kg_26 sg_26) rfl ig_26 dX12_block_219 ?_
      refine lv_topl (fun v_27 ev_27 => ?_)
      replace hf := lt_at ev_27 hf
      clear ev_27
      refine lv_lstore (lv' := [(12, .long v_27), (10, .long v_24), (8, .long v_21), (6, .long v_18), (4, .long v_15), (2, .long v_12), (0, .ref (a h0))]) hx hb dX12_block_220 hl (by decide) rfl (fun ls hl2 => ?_)
      replace hl := hl2
      clear hl2
      refine lv_aload_n hx hb dX12_block_222 rfl (lv_at hl 6 rfl) ?_
      obtain ⟨k_28, ek_28, hf⟩ := lnk_some hf
      refine va_get (D := (dC, dI)) (ci := 12) (v := .ref (a k_28)) (C := RX12) (T := TX12) (N := 4) hx hb hts iwd_X12_block_X12 hown hK hP h0 (Wd_ob kg_9 sg_9 (by decide)) rfl 2 (by decide) (hts _ md_X12_block_5) (fun _ h9 => h9) (fl_q rfl ek_28) dX12_block_223 ?_
      refine lv_bipush (v := 6) hx hb dX12_block_226 (by decide) ?_
      obtain ⟨g_29, hf⟩ := grd_some hf
      obtain ⟨kg_29, sg_29, ig_29⟩ := okA_at g_29
      refine va_lald hx hb hK hP k_28 2 (Wd_al kg_29 sg_29) rfl ig_29 dX12_block_228 ?_
      refine lv_topl (fun v_30 ev_30 => ?_)
      replace hf := lt_at ev_30 hf
      clear ev_30
      refine lv_lstore (lv' := [(14, .long v_30), (12, .long v_27), (10, .long v_24), (8, .long v_21), (6, .long v_18), (4, .long v_15), (2, .long v_12), (0, .ref (a h0))]) hx hb dX12_block_229 hl (by decide) rfl (fun ls hl2 => ?_)
      replace hl := hl2
      clear hl2
      refine lv_aload_n hx hb dX12_block_231 rfl (lv_at hl 7 rfl) ?_
      obtain ⟨k_31, ek_31, hf⟩ := lnk_some hf
      refine va_get (D := (dC, dI)) (ci := 12) (v := .ref (a k_31)) (C := RX12) (T := TX12) (N := 4) hx hb hts iwd_X12_block_X12 hown hK hP h0 (Wd_ob kg_9 sg_9 (by decide)) rfl 2 (by decide) (hts _ md_X12_block_5) (fun _ h9 => h9) (fl_q rfl ek_31) dX12_block_232 ?_
      refine lv_bipush (v := 7) hx hb dX12_block_235 (by decide) ?_
      obtain ⟨g_32, hf⟩ := grd_some hf
      obtain ⟨kg_32, sg_32, ig_32⟩ := okA_at g_32
      refine va_lald hx hb hK hP k_31 2 (Wd_al kg_32 sg_32) rfl ig_32 dX12_block_237 ?_
      refine lv_topl (fun v_33 ev_33 => ?_)
      replace hf := lt_at ev_33 hf
      clear ev_33
      refine lv_lstore (lv' := [(16, .long v_33), (14, .long v_30), (12, .long v_27), (10, .long v_24), (8, .long v_21), (6, .long v_18), (4, .long v_15), (2, .long v_12), (0, .ref (a h0))]) hx hb dX12_block_238 hl (by decide) rfl (fun ls hl2 => ?_)
      replace hl := hl2
      clear hl2
      refine lv_iconst (v := 0) hx hb dX12_block_240 (by decide) ?_
      refine lv_istore (lv' := [(18, .int 0), (16, .long v_33), (14, .long v_30), (12, .long v_27), (10, .long v_24), (8, .long v_21), (6, .long v_18), (4, .long v_15), (2, .long v_12), (0, .ref (a h0))]) hx hb dX12_block_241 hl (by decide) rfl (fun ls hl2 => ?_)
      replace hl := hl2
      clear hl2
      have hl0 : lv_has ls 23 [(18, .int 0), (16, .long v_33), (14, .long v_30), (12, .long v_27), (10, .long v_24), (8, .long v_21), (6, .long v_18), (4, .long v_15), (2, .long v_12), (0, .ref (a h0))] := lv_sub hl [0, 1, 2, 3, 4, 5, 6, 7, 8, 9] rfl
      refine de_loop (h := 243) (fun (x : St × Int64 × Int64 × Int64 × Int64 × Int64 × Int64 × Int64 × Int64 × Int32) ls H locs => lv_has ls 23 [(18, .int x.2.2.2.2.2.2.2.2.2), (16, .long x.2.2.2.2.2.2.2.2.1), (14, .long x.2.2.2.2.2.2.2.1), (12, .long x.2.2.2.2.2.2.1), (10, .long x.2.2.2.2.2.1), (8, .long x.2.2.2.2.1), (6, .long x.2.2.2.1), (4, .long x.2.2.1), (2, .long x.2.1), (0, .ref (a h0))] ∧ va_P (dC, dI) vwCl (Wd cy a sh n x.1) H ∧ va_D A (Wd cy a sh n x.1) ∧ va_S A s.heap H locs) (fun f x => fn_X12_block_L243 F sh n h0 f x.1 x.2.1 x.2.2.1 x.2.2.2.1 x.2.2.2.2.1 x.2.2.2.2.2.1 x.2.2.2.2.2.2.1 x.2.2.2.2.2.2.2.1 x.2.2.2.2.2.2.2.2.1 x.2.2.2.2.2.2.2.2.2) (z8, r8) ?_ (fun _ => rfl) F (z_6, v_12, v_15, v_18, v_21, v_24, v_27, v_30, v_33, 0) ls H locs ⟨hl0, hP, hD, hS⟩ hf
      intro f_44 x ls H locs ih243 hI hf
      obtain ⟨z_43, p_34, p_35, p_36, p_37, p_38, p_39, p_40, p_41, p_42⟩ := x
      obtain ⟨hl2, hP2, hD2, hS2⟩ := hI
      replace hl : lv_has ls 23 [(18, .int p_42), (16, .long p_41), (14, .long p_40), (12, .long p_39), (10, .long p_38), (8, .long p_37), (6, .long p_36), (4, .long p_35), (2, .long p_34), (0, .ref (a h0))] := hl2
      replace hP := hP2
      replace hD := hD2
      replace hS := hS2
      clear hl2 hP2 hD2 hS2 hl0
      replace hf := fn_X12_block_L243_s hf
      refine lv_iload hx hb dX12_block_243 (lv_at hl 0 rfl) ?_
      refine lv_bipush (v := 64) hx hb dX12_block_245 (by decide) ?_
      refine lv_icmp_ge (tgt := 396) hx hb dX12_block_247 (by decide) (fun c_45 => ?_) (fun c_45 => ?_)
      · skip
        rw [if_pos c_45] at hf
        refine lv_aload_n hx hb dX12_block_396 rfl (lv_at hl 9 rfl) ?_
        obtain ⟨k_46, ek_46, hf⟩ := lnk_some hf
        refine va_get (D := (dC, dI)) (ci := 12) (v := .ref (a k_46)) (C := RX12) (T := TX12) (N := 4) hx hb hts iwd_X12_block_X12 hown hK hP h0 (Wd_ob kg_9 sg_9 (by decide)) rfl 2 (by decide) (hts _ md_X12_block_5) (fun _ h9 => h9) (fl_q rfl ek_46) dX12_block_397 ?_
        refine lv_iconst (v := 0) hx hb dX12_block_400 (by decide) ?_
        refine lv_aload_n hx hb dX12_block_401 rfl (lv_at hl 9 rfl) ?_
        obtain ⟨k_47, ek_47, hf⟩ := lnk_some hf
        refine va_get (D := (dC, dI)) (ci := 12) (v := .ref (a k_47)) (C := RX12) (T := TX12) (N := 4) hx hb hts iwd_X12_block_X12 hown hK hP h0 (Wd_ob kg_9 sg_9 (by decide)) rfl 2 (by decide) (hts _ md_X12_block_5) (fun _ h9 => h9) (fl_q rfl ek_47) dX12_block_402 ?_
        refine lv_iconst (v := 0) hx hb dX12_block_405 (by decide) ?_
        obtain ⟨g_48, hf⟩ := grd_some hf
        obtain ⟨kg_48, sg_48, ig_48⟩ := okA_at g_48
        refine va_lald hx hb hK hP k_47 2 (Wd_al kg_48 sg_48) rfl ig_48 dX12_block_406 ?_
        refine lv_lload_n hx hb dX12_block_407 rfl (lv_at hl 8 rfl) ?_
        refine lv_ladd hx hb dX12_block_408 ?_
        refine lv_ldc2 hx hb hown (hts _ md_X12_block_4) dX12_block_409 ?_
        refine lv_land hx hb dX12_block_412 ?_
        obtain ⟨g_49, hf⟩ := grd_some hf
        obtain ⟨kg_49, sg_49, ig_49⟩ := okA_at g_49
        refine va_last hx hb hK hP hD hS k_46 2 (Wd_al kg_49 sg_49) rfl ig_49 dX12_block_413 (fun H_50 locs hP2 hD2 hS2 => ?_)
        rw [Wd_tl sg_49] at hP2 hD2
        obtain ⟨z_51, ez_51⟩ : ∃ w, w = sl z_43 k_46 (0 : Int32).toNatClampNeg (((z_43.2.1 k_47 (0 : Int32).toNatClampNeg) + p_34) &&& 4294967295) := ⟨_, rfl⟩
        rw [← ez_51] at hP2 hD2
        replace hf := lt_at ez_51 hf
        clear ez_51
        replace hP := hP2
        replace hD := hD2
        replace hS := hS2
        clear hP2 hD2 hS2
        refine lv_aload_n hx hb dX12_block_414 rfl (lv_at hl 9 rfl) ?_
        obtain ⟨k_52, ek_52, hf⟩ := lnk_some hf
        refine va_get (D := (dC, dI)) (ci := 12) (v := .ref (a k_52)) (C := RX12) (T := TX12) (N := 4) hx hb hts iwd_X12_block_X12 hown hK hP h0 (Wd_ob kg_9 sg_9 (by decide)) rfl 2 (by decide) (hts _ md_X12_block_5) (fun _ h9 => h9) (fl_q rfl ek_52) dX12_block_415 ?_
        refine lv_iconst (v := 1) hx hb dX12_block_418 (by decide) ?_
        refine lv_aload_n hx hb dX12_block_419 rfl (lv_at hl 9 rfl) ?_
        obtain ⟨k_53, ek_53, hf⟩ := lnk_some hf
        refine va_get (D := (dC, dI)) (ci := 12) (v := .ref (a k_53)) (C := RX12) (T := TX12) (N := 4) hx hb hts iwd_X12_block_X12 hown hK hP h0 (Wd_ob kg_9 sg_9 (by decide)) rfl 2 (by decide) (hts _ md_X12_block_5) (fun _ h9 => h9) (fl_q rfl ek_53) dX12_block_420 ?_
        refine lv_iconst (v := 1) hx hb dX12_block_423 (by decide) ?_
        obtain ⟨g_54, hf⟩ := grd_some hf
        obtain ⟨kg_54, sg_54, ig_54⟩ := okA_at g_54
        refine va_lald hx hb hK hP k_53 2 (Wd_al kg_54 sg_54) rfl ig_54 dX12_block_424 ?_
        refine lv_lload hx hb dX12_block_425 (lv_at hl 7 rfl) ?_
        refine lv_ladd hx hb dX12_block_427 ?_
        refine lv_ldc2 hx hb hown (hts _ md_X12_block_4) dX12_block_428 ?_
        refine lv_land hx hb dX12_block_431 ?_
        obtain ⟨g_55, hf⟩ := grd_some hf
        obtain ⟨kg_55, sg_55, ig_55⟩ := okA_at g_55
        refine va_last hx hb hK hP hD hS k_52 2 (Wd_al kg_55 sg_55) rfl ig_55 dX12_block_432 (fun H_56 locs hP2 hD2 hS2 => ?_)
        rw [Wd_tl sg_55] at hP2 hD2
        obtain ⟨z_57, ez_57⟩ : ∃ w, w = sl z_51 k_52 (1 : Int32).toNatClampNeg (((z_51.2.1 k_53 (1 : Int32).toNatClampNeg) + p_35) &&& 4294967295) := ⟨_, rfl⟩
        rw [← ez_57] at hP2 hD2
        replace hf := lt_at ez_57 hf
        clear ez_57
        replace hP := hP2
        replace hD := hD2
        replace hS := hS2
        clear hP2 hD2 hS2
        refine lv_aload_n hx hb dX12_block_433 rfl (lv_at hl 9 rfl) ?_
        obtain ⟨k_58, ek_58, hf⟩ := lnk_some hf
        refine va_get (D := (dC, dI)) (ci := 12) (v := .ref (a k_58)) (C := RX12) (T := TX12) (N := 4) hx hb hts iwd_X12_block_X12 hown hK hP h0 (Wd_ob kg_9 sg_9 (by decide)) rfl 2 (by decide) (hts _ md_X12_block_5) (fun _ h9 => h9) (fl_q rfl ek_58) dX12_block_434 ?_
        refine lv_iconst (v := 2) hx hb dX12_block_437 (by decide) ?_
        refine lv_aload_n hx hb dX12_block_438 rfl (lv_at hl 9 rfl) ?_
        obtain ⟨k_59, ek_59, hf⟩ := lnk_some hf
        refine va_get (D := (dC, dI)) (ci := 12) (v := .ref (a k_59)) (C := RX12) (T := TX12) (N := 4) hx hb hts iwd_X12_block_X12 hown hK hP h0 (Wd_ob kg_9 sg_9 (by decide)) rfl 2 (by decide) (hts _ md_X12_block_5) (fun _ h9 => h9) (fl_q rfl ek_59) dX12_block_439 ?_
        refine lv_iconst (v := 2) hx hb dX12_block_442 (by decide) ?_
        obtain ⟨g_60, hf⟩ := grd_some hf
        obtain ⟨kg_60, sg_60, ig_60⟩ := okA_at g_60
        refine va_lald hx hb hK hP k_59 2 (Wd_al kg_60 sg_60) rfl ig_60 dX12_block_443 ?_
        refine lv_lload hx hb dX12_block_444 (lv_at hl 6 rfl) ?_
        refine lv_ladd hx hb dX12_block_446 ?_
        refine lv_ldc2 hx hb hown (hts _ md_X12_block_4) dX12_block_447 ?_
        refine lv_land hx hb dX12_block_450 ?_
        obtain ⟨g_61, hf⟩ := grd_some hf
        obtain ⟨kg_61, sg_61, ig_61⟩ := okA_at g_61
        refine va_last hx hb hK hP hD hS k_58 2 (Wd_al kg_61 sg_61) rfl ig_61 dX12_block_451 (fun H_62 locs hP2 hD2 hS2 => ?_)
        rw [Wd_tl sg_61] at hP2 hD2
        obtain ⟨z_63, ez_63⟩ : ∃ w, w = sl z_57 k_58 (2 : Int32).toNatClampNeg (((z_57.2.1 k_59 (2 : Int32).toNatClampNeg) + p_36) &&& 4294967295) := ⟨_, rfl⟩
        rw [← ez_63] at hP2 hD2
        replace hf := lt_at ez_63 hf
        clear ez_63
        replace hP := hP2
        replace hD := hD2
        replace hS := hS2
        clear hP2 hD2 hS2
        refine lv_aload_n hx hb dX12_block_452 rfl (lv_at hl 9 rfl) ?_
        obtain ⟨k_64, ek_64, hf⟩ := lnk_some hf
        refine va_get (D := (dC, dI)) (ci := 12) (v := .ref (a k_64)) (C := RX12) (T := TX12) (N := 4) hx hb hts iwd_X12_block_X12 hown hK hP h0 (Wd_ob kg_9 sg_9 (by decide)) rfl 2 (by decide) (hts _ md_X12_block_5) (fun _ h9 => h9) (fl_q rfl ek_64) dX12_block_453 ?_
        refine lv_iconst (v := 3) hx hb dX12_block_456 (by decide) ?_
        refine lv_aload_n hx hb dX12_block_457 rfl (lv_at hl 9 rfl) ?_
        obtain ⟨k_65, ek_65, hf⟩ := lnk_some hf
        refine va_get (D := (dC, dI)) (ci := 12) (v := .ref (a k_65)) (C := RX12) (T := TX12) (N := 4) hx hb hts iwd_X12_block_X12 hown hK hP h0 (Wd_ob kg_9 sg_9 (by decide)) rfl 2 (by decide) (hts _ md_X12_block_5) (fun _ h9 => h9) (fl_q rfl ek_65) dX12_block_458 ?_
        refine lv_iconst (v := 3) hx hb dX12_block_461 (by decide) ?_
        obtain ⟨g_66, hf⟩ := grd_some hf
        obtain ⟨kg_66, sg_66, ig_66⟩ := okA_at g_66
        refine va_lald hx hb hK hP k_65 2 (Wd_al kg_66 sg_66) rfl ig_66 dX12_block_462 ?_
        refine lv_lload hx hb dX12_block_463 (lv_at hl 5 rfl) ?_
        refine lv_ladd hx hb dX12_block_465 ?_
        refine lv_ldc2 hx hb hown (hts _ md_X12_block_4) dX12_block_466 ?_
        refine lv_land hx hb dX12_block_469 ?_
        obtain ⟨g_67, hf⟩ := grd_some hf
        obtain ⟨kg_67, sg_67, ig_67⟩ := okA_at g_67
        refine va_last hx hb hK hP hD hS k_64 2 (Wd_al kg_67 sg_67) rfl ig_67 dX12_block_470 (fun H_68 locs hP2 hD2 hS2 => ?_)
        rw [Wd_tl sg_67] at hP2 hD2
        obtain ⟨z_69, ez_69⟩ : ∃ w, w = sl z_63 k_64 (3 : Int32).toNatClampNeg (((z_63.2.1 k_65 (3 : Int32).toNatClampNeg) + p_37) &&& 4294967295) := ⟨_, rfl⟩
        rw [← ez_69] at hP2 hD2
        replace hf := lt_at ez_69 hf
        clear ez_69
        replace hP := hP2
        replace hD := hD2
        replace hS := hS2
        clear hP2 hD2 hS2
        refine lv_aload_n hx hb dX12_block_471 rfl (lv_at hl 9 rfl) ?_
        obtain ⟨k_70, ek_70, hf⟩ := lnk_some hf
        refine va_get (D := (dC, dI)) (ci := 12) (v := .ref (a k_70)) (C := RX12) (T := TX12) (N := 4) hx hb hts iwd_X12_block_X12 hown hK hP h0 (Wd_ob kg_9 sg_9 (by decide)) rfl 2 (by decide) (hts _ md_X12_block_5) (fun _ h9 => h9) (fl_q rfl ek_70) dX12_block_472 ?_
        refine lv_iconst (v := 4) hx hb dX12_block_475 (by decide) ?_
        refine lv_aload_n hx hb dX12_block_476 rfl (lv_at hl 9 rfl) ?_
        obtain ⟨k_71, ek_71, hf⟩ := lnk_some hf
        refine va_get (D := (dC, dI)) (ci := 12) (v := .ref (a k_71)) (C := RX12) (T := TX12) (N := 4) hx hb hts iwd_X12_block_X12 hown hK hP h0 (Wd_ob kg_9 sg_9 (by decide)) rfl 2 (by decide) (hts _ md_X12_block_5) (fun _ h9 => h9) (fl_q rfl ek_71) dX12_block_477 ?_
        refine lv_iconst (v := 4) hx hb dX12_block_480 (by decide) ?_
        obtain ⟨g_72, hf⟩ := grd_some hf
        obtain ⟨kg_72, sg_72, ig_72⟩ := okA_at g_72
        refine va_lald hx hb hK hP k_71 2 (Wd_al kg_72 sg_72) rfl ig_72 dX12_block_481 ?_
        refine lv_lload hx hb dX12_block_482 (lv_at hl 4 rfl) ?_
        refine lv_ladd hx hb dX12_block_484 ?_
        refine lv_ldc2 hx hb hown (hts _ md_X12_block_4) dX12_block_485 ?_
        refine lv_land hx hb dX12_block_488 ?_
        obtain ⟨g_73, hf⟩ := grd_some hf
        obtain ⟨kg_73, sg_73, ig_73⟩ := okA_at g_73
        refine va_last hx hb hK hP hD hS k_70 2 (Wd_al kg_73 sg_73) rfl ig_73 dX12_block_489 (fun H_74 locs hP2 hD2 hS2 => ?_)
        rw [Wd_tl sg_73] at hP2 hD2
        obtain ⟨z_75, ez_75⟩ : ∃ w, w = sl z_69 k_70 (4 : Int32).toNatClampNeg (((z_69.2.1 k_71 (4 : Int32).toNatClampNeg) + p_38) &&& 4294967295) := ⟨_, rfl⟩
        rw [← ez_75] at hP2 hD2
        replace hf := lt_at ez_75 hf
        clear ez_75
        replace hP := hP2
        replace hD := hD2
        replace hS := hS2
        clear hP2 hD2 hS2
        refine lv_aload_n hx hb dX12_block_490 rfl (lv_at hl 9 rfl) ?_
        obtain ⟨k_76, ek_76, hf⟩ := lnk_some hf
        refine va_get (D := (dC, dI)) (ci := 12) (v := .ref (a k_76)) (C := RX12) (T := TX12) (N := 4) hx hb hts iwd_X12_block_X12 hown hK hP h0 (Wd_ob kg_9 sg_9 (by decide)) rfl 2 (by decide) (hts _ md_X12_block_5) (fun _ h9 => h9) (fl_q rfl ek_76) dX12_block_491 ?_
        refine lv_iconst (v := 5) hx hb dX12_block_494 (by decide) ?_
        refine lv_aload_n hx hb dX12_block_495 rfl (lv_at hl 9 rfl) ?_
        obtain ⟨k_77, ek_77, hf⟩ := lnk_some hf
        refine va_get (D := (dC, dI)) (ci := 12) (v := .ref (a k_77)) (C := RX12) (T := TX12) (N := 4) hx hb hts iwd_X12_block_X12 hown hK hP h0 (Wd_ob kg_9 sg_9 (by decide)) rfl 2 (by decide) (hts _ md_X12_block_5) (fun _ h9 => h9) (fl_q rfl ek_77) dX12_block_496 ?_
        refine lv_iconst (v := 5) hx hb dX12_block_499 (by decide) ?_
        obtain ⟨g_78, hf⟩ := grd_some hf
        obtain ⟨kg_78, sg_78, ig_78⟩ := okA_at g_78
        refine va_lald hx hb hK hP k_77 2 (Wd_al kg_78 sg_78) rfl ig_78 dX12_block_500 ?_
        refine lv_lload hx hb dX12_block_501 (lv_at hl 3 rfl) ?_
        refine lv_ladd hx hb dX12_block_503 ?_
        refine lv_ldc2 hx hb hown (hts _ md_X12_block_4) dX12_block_504 ?_
        refine lv_land hx hb dX12_block_507 ?_
        obtain ⟨g_79, hf⟩ := grd_some hf
        obtain ⟨kg_79, sg_79, ig_79⟩ := okA_at g_79
        refine va_last hx hb hK hP hD hS k_76 2 (Wd_al kg_79 sg_79) rfl ig_79 dX12_block_508 (fun H_80 locs hP2 hD2 hS2 => ?_)
        rw [Wd_tl sg_79] at hP2 hD2
        obtain ⟨z_81, ez_81⟩ : ∃ w, w = sl z_75 k_76 (5 : Int32).toNatClampNeg (((z_75.2.1 k_77 (5 : Int32).toNatClampNeg) + p_39) &&& 4294967295) := ⟨_, rfl⟩
        rw [← ez_81] at hP2 hD2
        replace hf := lt_at ez_81 hf
        clear ez_81
        replace hP := hP2
        replace hD := hD2
        replace hS := hS2
        clear hP2 hD2 hS2
        refine lv_aload_n hx hb dX12_block_509 rfl (lv_at hl 9 rfl) ?_
        obtain ⟨k_82, ek_82, hf⟩ := lnk_some hf
        refine va_get (D := (dC, dI)) (ci := 12) (v := .ref (a k_82)) (C := RX12) (T := TX12) (N := 4) hx hb hts iwd_X12_block_X12 hown hK hP h0 (Wd_ob kg_9 sg_9 (by decide)) rfl 2 (by decide) (hts _ md_X12_block_5) (fun _ h9 => h9) (fl_q rfl ek_82) dX12_block_510 ?_
        refine lv_bipush (v := 6) hx hb dX12_block_513 (by decide) ?_
        refine lv_aload_n hx hb dX12_block_515 rfl (lv_at hl 9 rfl) ?_
        obtain ⟨k_83, ek_83, hf⟩ := lnk_some hf
        refine va_get (D := (dC, dI)) (ci := 12) (v := .ref (a k_83)) (C := RX12) (T := TX12) (N := 4) hx hb hts iwd_X12_block_X12 hown hK hP h0 (Wd_ob kg_9 sg_9 (by decide)) rfl 2 (by decide) (hts _ md_X12_block_5) (fun _ h9 => h9) (fl_q rfl ek_83) dX12_block_516 ?_
        refine lv_bipush (v := 6) hx hb dX12_block_519 (by decide) ?_
        obtain ⟨g_84, hf⟩ := grd_some hf
        obtain ⟨kg_84, sg_84, ig_84⟩ := okA_at g_84
        refine va_lald hx hb hK hP k_83 2 (Wd_al kg_84 sg_84) rfl ig_84 dX12_block_521 ?_
        refine lv_lload hx hb dX12_block_522 (lv_at hl 2 rfl) ?_
        refine lv_ladd hx hb dX12_block_524 ?_
        refine lv_ldc2 hx hb hown (hts _ md_X12_block_4) dX12_block_525 ?_
        refine lv_land hx hb dX12_block_528 ?_
        obtain ⟨g_85, hf⟩ := grd_some hf
        obtain ⟨kg_85, sg_85, ig_85⟩ := okA_at g_85
        refine va_last hx hb hK hP hD hS k_82 2 (Wd_al kg_85 sg_85) rfl ig_85 dX12_block_529 (fun H_86 locs hP2 hD2 hS2 => ?_)
        rw [Wd_tl sg_85] at hP2 hD2
        obtain ⟨z_87, ez_87⟩ : ∃ w, w = sl z_81 k_82 (6 : Int32).toNatClampNeg (((z_81.2.1 k_83 (6 : Int32).toNatClampNeg) + p_40) &&& 4294967295) := ⟨_, rfl⟩
        rw [← ez_87] at hP2 hD2
        replace hf := lt_at ez_87 hf
        clear ez_87
        replace hP := hP2
        replace hD := hD2
        replace hS := hS2
        clear hP2 hD2 hS2
        refine lv_aload_n hx hb dX12_block_530 rfl (lv_at hl 9 rfl) ?_
        obtain ⟨k_88, ek_88, hf⟩ := lnk_some hf
        refine va_get (D := (dC, dI)) (ci := 12) (v := .ref (a k_88)) (C := RX12) (T := TX12) (N := 4) hx hb hts iwd_X12_block_X12 hown hK hP h0 (Wd_ob kg_9 sg_9 (by decide)) rfl 2 (by decide) (hts _ md_X12_block_5) (fun _ h9 => h9) (fl_q rfl ek_88) dX12_block_531 ?_
        refine lv_bipush (v := 7) hx hb dX12_block_534 (by decide) ?_
        refine lv_aload_n hx hb dX12_block_536 rfl (lv_at hl 9 rfl) ?_
        obtain ⟨k_89, ek_89, hf⟩ := lnk_some hf
        refine va_get (D := (dC, dI)) (ci := 12) (v := .ref (a k_89)) (C := RX12) (T := TX12) (N := 4) hx hb hts iwd_X12_block_X12 hown hK hP h0 (Wd_ob kg_9 sg_9 (by decide)) rfl 2 (by decide) (hts _ md_X12_block_5) (fun _ h9 => h9) (fl_q rfl ek_89) dX12_block_537 ?_
        refine lv_bipush (v := 7) hx hb dX12_block_540 (by decide) ?_
        obtain ⟨g_90, hf⟩ := grd_some hf
        obtain ⟨kg_90, sg_90, ig_90⟩ := okA_at g_90
        refine va_lald hx hb hK hP k_89 2 (Wd_al kg_90 sg_90) rfl ig_90 dX12_block_542 ?_
        refine lv_lload hx hb dX12_block_543 (lv_at hl 1 rfl) ?_
        refine lv_ladd hx hb dX12_block_545 ?_
        refine lv_ldc2 hx hb hown (hts _ md_X12_block_4) dX12_block_546 ?_
        refine lv_land hx hb dX12_block_549 ?_
        obtain ⟨g_91, hf⟩ := grd_some hf
        obtain ⟨kg_91, sg_91, ig_91⟩ := okA_at g_91
        refine va_last hx hb hK hP hD hS k_88 2 (Wd_al kg_91 sg_91) rfl ig_91 dX12_block_550 (fun H_92 locs hP2 hD2 hS2 => ?_)
        rw [Wd_tl sg_91] at hP2 hD2
        obtain ⟨z_93, ez_93⟩ : ∃ w, w = sl z_87 k_88 (7 : Int32).toNatClampNeg (((z_87.2.1 k_89 (7 : Int32).toNatClampNeg) + p_41) &&& 4294967295) := ⟨_, rfl⟩
        rw [← ez_93] at hP2 hD2
        replace hf := lt_at ez_93 hf
        clear ez_93
        replace hP := hP2
        replace hD := hD2
        replace hS := hS2
        clear hP2 hD2 hS2
        obtain ⟨h8, h9⟩ := ret_some hf
        rw [h8]
        exact W.vret hx hb hr (fun t ht hW => ⟨⟨(), rfl, trivial, by rw [ht]; exact hP, va_K.moved hW.alike hK, hD⟩, hS.F ht⟩) hS.2.2 dX12_block_551
      · skip
        rw [if_neg c_45] at hf
        refine lv_lload hx hb dX12_block_250 (lv_at hl 1 rfl) ?_
        refine lv_lload hx hb dX12_block_252 (lv_at hl 4 rfl) ?_
        refine lv_bipush (v := 6) hx hb dX12_block_254 (by decide) ?_
        obtain ⟨z_94, r_95, hfc, hf⟩ := cal_some hf
        have hFc := de_free hD hS hA
        refine va_calll (va_runS (As := [.long p_38, .int 6]) (rest := [.long p_41]) ⟨hx, hb, hml, hown, hts⟩ (de_X12_turned l dC dI cy a sh n H.size F z_43 p_38 6 hfc) (va_cwS 2 hts gX12_block_X12_turned rfl rfl rfl (by decide +kernel) ⟨Nat.le_of_ble_eq_true rfl, Nat.le_of_ble_eq_true rfl⟩) ⟨fun a U g mk q => by obtain ⟨q0, q1, qP, qK, qD, qN⟩ := q; exact ⟨q0, q1, qP, va_K.moved (u := U) (U := U.calling g mk a) (Vm.Alike.refl U.vm) qK, qD, qN.same rfl⟩, fun U hU hW => ⟨rfl, by rw [hU], by rw [hU]; exact hP, va_K.moved hW.alike hK, hD.weaken (fun _ _ _ _ => trivial), hN.warm hW⟩⟩ rfl rfl hl.1 rfl (lv_room (Nat.le_of_ble_eq_true rfl)) dX12_block_256 ⟨Nat.le_of_ble_eq_true rfl, Nat.le_of_ble_eq_true rfl⟩) hS (fun q _ h => hFc q h) hFc (fun rr u t H_96 locs ht hvm hw hB hz1 hk1 hS2 => ?_)
        rw [hw]
        clear hw
        obtain ⟨hP1, -, hD1⟩ := hB
        rw [ht] at hP1
        replace hD := hD1.weaken (fun _ _ _ h => hFc _ h)
        replace hP := hP1
        replace hS := hS2
        clear hP1 hD1 hS2 hFc hfc hz1 hk1 hvm ht
        refine lv_lload hx hb dX12_block_259 (lv_at hl 4 rfl) ?_
        refine lv_bipush (v := 11) hx hb dX12_block_261 (by decide) ?_
        obtain ⟨z_97, r_98, hfc, hf⟩ := cal_some hf
        have hFc := de_free hD hS hA
        refine va_calll (va_runS (As := [.long p_38, .int 11]) (rest := [.long r_95, .long p_41]) ⟨hx, hb, hml, hown, hts⟩ (de_X12_turned l dC dI cy a sh n H_96.size F z_94 p_38 11 hfc) (va_cwS 2 hts gX12_block_X12_turned rfl rfl rfl (by decide +kernel) ⟨Nat.le_of_ble_eq_true rfl, Nat.le_of_ble_eq_true rfl⟩) ⟨fun a U g mk q => by obtain ⟨q0, q1, qP, qK, qD, qN⟩ := q; exact ⟨q0, q1, qP, va_K.moved (u := U) (U := U.calling g mk a) (Vm.Alike.refl U.vm) qK, qD, qN.same rfl⟩, fun U hU hW => ⟨rfl, by rw [hU], by rw [hU]; exact hP, va_K.moved hW.alike hK, hD.weaken (fun _ _ _ _ => trivial), hN.warm hW⟩⟩ rfl rfl hl.1 rfl (lv_room (Nat.le_of_ble_eq_true rfl)) dX12_block_263 ⟨Nat.le_of_ble_eq_true rfl, Nat.le_of_ble_eq_true rfl⟩) hS (fun q _ h => hFc q h) hFc (fun rr u t H_99 locs ht hvm hw hB hz1 hk1 hS2 => ?_)
        rw [hw]
        clear hw
        obtain ⟨hP1, -, hD1⟩ := hB
        rw [ht] at hP1
        replace hD := hD1.weaken (fun _ _ _ h => hFc _ h)
        replace hP := hP1
        replace hS := hS2
        clear hP1 hD1 hS2 hFc hfc hz1 hk1 hvm ht
        refine lv_lxor hx hb dX12_block_266 ?_
        refine lv_lload hx hb dX12_block_267 (lv_at hl 4 rfl) ?_
        refine lv_bipush (v := 25) hx hb dX12_block_269 (by decide) ?_
        obtain ⟨z_100, r_101, hfc, hf⟩ := cal_some hf
        have hFc := de_free hD hS hA
        refine va_calll (va_runS (As := [.long p_38, .int 25]) (rest := [.long (r_95 ^^^ r_98), .long p_41]) ⟨hx, hb, hml, hown, hts⟩ (de_X12_turned l dC dI cy a sh n H_99.size F z_97 p_38 25 hfc) (va_cwS 2 hts gX12_block_X12_turned rfl rfl rfl (by decide +kernel) ⟨Nat.le_of_ble_eq_true rfl, Nat.le_of_ble_eq_true rfl⟩) ⟨fun a U g mk q => by obtain ⟨q0, q1, qP, qK, qD, qN⟩ := q; exact ⟨q0, q1, qP, va_K.moved (u := U) (U := U.calling g mk a) (Vm.Alike.refl U.vm) qK, qD, qN.same rfl⟩, fun U hU hW => ⟨rfl, by rw [hU], by rw [hU]; exact hP, va_K.moved hW.alike hK, hD.weaken (fun _ _ _ _ => trivial), hN.warm hW⟩⟩ rfl rfl hl.1 rfl (lv_room (Nat.le_of_ble_eq_true rfl)) dX12_block_271 ⟨Nat.le_of_ble_eq_true rfl, Nat.le_of_ble_eq_true rfl⟩) hS (fun q _ h => hFc q h) hFc (fun rr u t H_102 locs ht hvm hw hB hz1 hk1 hS2 => ?_)
        rw [hw]
        clear hw
        obtain ⟨hP1, -, hD1⟩ := hB
        rw [ht] at hP1
        replace hD := hD1.weaken (fun _ _ _ h => hFc _ h)
        replace hP := hP1
        replace hS := hS2
        clear hP1 hD1 hS2 hFc hfc hz1 hk1 hvm ht
        refine lv_lxor hx hb dX12_block_274 ?_
        refine lv_ladd hx hb dX12_block_275 ?_
        refine lv_lload hx hb dX12_block_276 (lv_at hl 4 rfl) ?_
        refine lv_lload hx hb dX12_block_278 (lv_at hl 3 rfl) ?_
        refine lv_land hx hb dX12_block_280 ?_
        refine lv_ldc2 hx hb hown (hts _ md_X12_block_4) dX12_block_281 ?_
        refine lv_lload hx hb dX12_block_284 (lv_at hl 4 rfl) ?_
        refine lv_lsub hx hb dX12_block_286 ?_
        refine lv_lload hx hb dX12_block_287 (lv_at hl 2 rfl) ?_
        refine lv_land hx hb dX12_block_289 ?_
        refine lv_lxor hx hb dX12_block_290 ?_
        refine lv_ladd hx hb dX12_block_291 ?_
        refine va_gets hx hb hSK.2.2.2.1 hS hown (hts _ md_X12_block_6) (fun _ h => h) dX12_block_292 ?_
        refine lv_iload hx hb dX12_block_295 (lv_at hl 0 rfl) ?_
        obtain ⟨g_103, hf⟩ := grd_some hf
        refine va_tl hx hb hSK.2.2.2.2 hS (okI_at g_103) rfl dX12_block_297 ?_
        refine lv_ladd hx hb dX12_block_298 ?_
        refine lv_aload_n hx hb dX12_block_299 rfl (lv_at hl 9 rfl) ?_
        obtain ⟨k_104, ek_104, hf⟩ := lnk_some hf
        refine va_get (D := (dC, dI)) (ci := 12) (v := .ref (a k_104)) (C := RX12) (T := TX12) (N := 4) hx hb hts iwd_X12_block_X12 hown hK hP h0 (Wd_ob kg_9 sg_9 (by decide)) rfl 3 (by decide) (hts _ md_X12_block_3) (fun _ h9 => h9) (fl_q rfl ek_104) dX12_block_300 ?_
        refine lv_iload hx hb dX12_block_303 (lv_at hl 0 rfl) ?_
        obtain ⟨g_105, hf⟩ := grd_some hf
        obtain ⟨kg_105, sg_105, ig_105⟩ := okA_at g_105
        refine va_lald hx hb hK hP k_104 2 (Wd_al kg_105 sg_105) rfl ig_105 dX12_block_305 ?_
        refine lv_ladd hx hb dX12_block_306 ?_
        refine lv_topl (fun v_106 ev_106 => ?_)
        replace hf := lt_at ev_106 hf
        clear ev_106
        refine lv_lstore (lv' := [(19, .long v_106), (18, .int p_42), (16, .long p_41), (14, .long p_40), (12, .long p_39), (10, .long p_38), (8, .long p_37), (6, .long p_36), (4, .long p_35), (2, .long p_34), (0, .ref (a h0))]) hx hb dX12_block_307 hl (by decide) rfl (fun ls hl2 => ?_)
        replace hl := hl2
        clear hl2
        refine lv_lload_n hx hb dX12_block_309 rfl (lv_at hl 9 rfl) ?_
        refine lv_iconst (v := 2) hx hb dX12_block_310 (by decide) ?_
        obtain ⟨z_107, r_108, hfc, hf⟩ := cal_some hf
        have hFc := de_free hD hS hA
        refine va_calll (va_runS (As := [.long p_34, .int 2]) (rest := []) ⟨hx, hb, hml, hown, hts⟩ (de_X12_turned l dC dI cy a sh n H_102.size F z_100 p_34 2 hfc) (va_cwS 2 hts gX12_block_X12_turned rfl rfl rfl (by decide +kernel) ⟨Nat.le_of_ble_eq_true rfl, Nat.le_of_ble_eq_true rfl⟩) ⟨fun a U g mk q => by obtain ⟨q0, q1, qP, qK, qD, qN⟩ := q; exact ⟨q0, q1, qP, va_K.moved (u := U) (U := U.calling g mk a) (Vm.Alike.refl U.vm) qK, qD, qN.same rfl⟩, fun U hU hW => ⟨rfl, by rw [hU], by rw [hU]; exact hP, va_K.moved hW.alike hK, hD.weaken (fun _ _ _ _ => trivial), hN.warm hW⟩⟩ rfl rfl hl.1 rfl (lv_room (Nat.le_of_ble_eq_true rfl)) dX12_block_311 ⟨Nat.le_of_ble_eq_true rfl, Nat.le_of_ble_eq_true rfl⟩) hS (fun q _ h => hFc q h) hFc (fun rr u t H_109 locs ht hvm hw hB hz1 hk1 hS2 => ?_)
        rw [hw]
        clear hw
        obtain ⟨hP1, -, hD1⟩ := hB
        rw [ht] at hP1
        replace hD := hD1.weaken (fun _ _ _ h => hFc _ h)
        replace hP := hP1
        replace hS := hS2
        clear hP1 hD1 hS2 hFc hfc hz1 hk1 hvm ht
        refine lv_lload_n hx hb dX12_block_314 rfl (lv_at hl 9 rfl) ?_
        refine lv_bipush (v := 13) hx hb dX12_block_315 (by decide) ?_
        obtain ⟨z_110, r_111, hfc, hf⟩ := cal_some hf
        have hFc := de_free hD hS hA
        refine va_calll (va_runS (As := [.long p_34, .int 13]) (rest := [.long r_108]) ⟨hx, hb, hml, hown, hts⟩ (de_X12_turned l dC dI cy a sh n H_109.size F z_107 p_34 13 hfc) (va_cwS 2 hts gX12_block_X12_turned rfl rfl rfl (by decide +kernel) ⟨Nat.le_of_ble_eq_true rfl, Nat.le_of_ble_eq_true rfl⟩) ⟨fun a U g mk q => by obtain ⟨q0, q1, qP, qK, qD, qN⟩ := q; exact ⟨q0, q1, qP, va_K.moved (u := U) (U := U.calling g mk a) (Vm.Alike.refl U.vm) qK, qD, qN.same rfl⟩, fun U hU hW => ⟨rfl, by rw [hU], by rw [hU]; exact hP, va_K.moved hW.alike hK, hD.weaken (fun _ _ _ _ => trivial), hN.warm hW⟩⟩ rfl rfl hl.1 rfl (lv_room (Nat.le_of_ble_eq_true rfl)) dX12_block_317 ⟨Nat.le_of_ble_eq_true rfl, Nat.le_of_ble_eq_true rfl⟩) hS (fun q _ h => hFc q h) hFc (fun rr u t H_112 locs ht hvm hw hB hz1 hk1 hS2 => ?_)
        rw [hw]
        clear hw
        obtain ⟨hP1, -, hD1⟩ := hB
        rw [ht] at hP1
        replace hD := hD1.weaken (fun _ _ _ h => hFc _ h)
        replace hP := hP1
        replace hS := hS2
        clear hP1 hD1 hS2 hFc hfc hz1 hk1 hvm ht
        refine lv_lxor hx hb dX12_block_320 ?_
        refine lv_lload_n hx hb dX12_block_321 rfl (lv_at hl 9 rfl) ?_
        refine lv_bipush (v := 22) hx hb dX12_block_322 (by decide) ?_
        obtain ⟨z_113, r_114, hfc, hf⟩ := cal_some hf
        have hFc := de_free hD hS hA
        refine va_calll (va_runS (As := [.long p_34, .int 22]) (rest := [.long (r_108 ^^^ r_111)]) ⟨hx, hb, hml, hown, hts⟩ (de_X12_turned l dC dI cy a sh n H_112.size F z_110 p_34 22 hfc) (va_cwS 2 hts gX12_block_X12_turned rfl rfl rfl (by decide +kernel) ⟨Nat.le_of_ble_eq_true rfl, Nat.le_of_ble_eq_true rfl⟩) ⟨fun a U g mk q => by obtain ⟨q0, q1, qP, qK, qD, qN⟩ := q; exact ⟨q0, q1, qP, va_K.moved (u := U) (U := U.calling g mk a) (Vm.Alike.refl U.vm) qK, qD, qN.same rfl⟩, fun U hU hW => ⟨rfl, by rw [hU], by rw [hU]; exact hP, va_K.moved hW.alike hK, hD.weaken (fun _ _ _ _ => trivial), hN.warm hW⟩⟩ rfl rfl hl.1 rfl (lv_room (Nat.le_of_ble_eq_true rfl)) dX12_block_324 ⟨Nat.le_of_ble_eq_true rfl, Nat.le_of_ble_eq_true rfl⟩) hS (fun q _ h => hFc q h) hFc (fun rr u t H_115 locs ht hvm hw hB hz1 hk1 hS2 => ?_)
        rw [hw]
        clear hw
        obtain ⟨hP1, -, hD1⟩ := hB
        rw [ht] at hP1
        replace hD := hD1.weaken (fun _ _ _ h => hFc _ h)
        replace hP := hP1
        replace hS := hS2
        clear hP1 hD1 hS2 hFc hfc hz1 hk1 hvm ht
        refine lv_lxor hx hb dX12_block_327 ?_
        refine lv_lload_n hx hb dX12_block_328 rfl (lv_at hl 9 rfl) ?_
        refine lv_lload hx hb dX12_block_329 (lv_at hl 8 rfl) ?_
        refine lv_land hx hb dX12_block_331 ?_
        refine lv_lload_n hx hb dX12_block_332 rfl (lv_at hl 9 rfl) ?_
        refine lv_lload hx hb dX12_block_333 (lv_at hl 7 rfl) ?_
        refine lv_land hx hb dX12_block_335 ?_
        refine lv_lxor hx hb dX12_block_336 ?_
        refine lv_lload hx hb dX12_block_337 (lv_at hl 8 rfl) ?_
        refine lv_lload hx hb dX12_block_339 (lv_at hl 7 rfl) ?_
        refine lv_land hx hb dX12_block_341 ?_
        refine lv_lxor hx hb dX12_block_342 ?_
        refine lv_ladd hx hb dX12_block_343 ?_
        refine lv_topl (fun v_116 ev_116 => ?_)
        replace hf := lt_at ev_116 hf
        clear ev_116
        refine lv_lstore (lv' := [(21, .long v_116), (19, .long v_106), (18, .int p_42), (16, .long p_41), (14, .long p_40), (12, .long p_39), (10, .long p_38), (8, .long p_37), (6, .long p_36), (4, .long p_35), (2, .long p_34), (0, .ref (a h0))]) hx hb dX12_block_344 hl (by decide) rfl (fun ls hl2 => ?_)
        replace hl := hl2
        clear hl2
        refine lv_lload hx hb dX12_block_346 (lv_at hl 4 rfl) ?_
        refine lv_lstore (lv' := [(16, .long p_40), (21, .long v_116), (19, .long v_106), (18, .int p_42), (14, .long p_40), (12, .long p_39), (10, .long p_38), (8, .long p_37), (6, .long p_36), (4, .long p_35), (2, .long p_34), (0, .ref (a h0))]) hx hb dX12_block_348 hl (by decide) rfl (fun ls hl2 => ?_)
        replace hl := hl2
        clear hl2
        refine lv_lload hx hb dX12_block_350 (lv_at hl 5 rfl) ?_
        refine lv_lstore (lv' := [(14, .long p_39), (16, .long p_40), (21, .long v_116), (19, .long v_106), (18, .int p_42), (12, .long p_39), (10, .long p_38), (8, .long p_37), (6, .long p_36), (4, .long p_35), (2, .long p_34), (0, .ref (a h0))]) hx hb dX12_block_352 hl (by decide) rfl (fun ls hl2 => ?_)
        replace hl := hl2
        clear hl2
        refine lv_lload hx hb dX12_block_354 (lv_at hl 6 rfl) ?_
        refine lv_lstore (lv' := [(12, .long p_38), (14, .long p_39), (16, .long p_40), (21, .long v_116), (19, .long v_106), (18, .int p_42), (10, .long p_38), (8, .long p_37), (6, .long p_36), (4, .long p_35), (2, .long p_34), (0, .ref (a h0))]) hx hb dX12_block_356 hl (by decide) rfl (fun ls hl2 => ?_)
        replace hl := hl2
        clear hl2
        refine lv_lload hx hb dX12_block_358 (lv_at hl 7 rfl) ?_
        refine lv_lload hx hb dX12_block_360 (lv_at hl 4 rfl) ?_
        refine lv_ladd hx hb dX12_block_362 ?_
        refine lv_ldc2 hx hb hown (hts _ md_X12_block_4) dX12_block_363 ?_
        refine lv_land hx hb dX12_block_366 ?_
        refine lv_topl (fun v_117 ev_117 => ?_)
        replace hf := lt_at ev_117 hf
        clear ev_117
        refine lv_lstore (lv' := [(10, .long v_117), (12, .long p_38), (14, .long p_39), (16, .long p_40), (21, .long v_116), (19, .long v_106), (18, .int p_42), (8, .long p_37), (6, .long p_36), (4, .long p_35), (2, .long p_34), (0, .ref (a h0))]) hx hb dX12_block_367 hl (by decide) rfl (fun ls hl2 => ?_)
        replace hl := hl2
        clear hl2
        refine lv_lload hx hb dX12_block_369 (lv_at hl 8 rfl) ?_
        refine lv_lstore (lv' := [(8, .long p_36), (10, .long v_117), (12, .long p_38), (14, .long p_39), (16, .long p_40), (21, .long v_116), (19, .long v_106), (18, .int p_42), (6, .long p_36), (4, .long p_35), (2, .long p_34), (0, .ref (a h0))]) hx hb dX12_block_371 hl (by decide) rfl (fun ls hl2 => ?_)
        replace hl := hl2
        clear hl2
        refine lv_lload hx hb dX12_block_373 (lv_at hl 9 rfl) ?_
        refine lv_lstore (lv' := [(6, .long p_35), (8, .long p_36), (10, .long v_117), (12, .long p_38), (14, .long p_39), (16, .long p_40), (21, .long v_116), (19, .long v_106), (18, .int p_42), (4, .long p_35), (2, .long p_34), (0, .ref (a h0))]) hx hb dX12_block_375 hl (by decide) rfl (fun ls hl2 => ?_)
        replace hl := hl2
        clear hl2
        refine lv_lload_n hx hb dX12_block_377 rfl (lv_at hl 10 rfl) ?_
        refine lv_lstore (lv' := [(4, .long p_34), (6, .long p_35), (8, .long p_36), (10, .long v_117), (12, .long p_38), (14, .long p_39), (16, .long p_40), (21, .long v_116), (19, .long v_106), (18, .int p_42), (2, .long p_34), (0, .ref (a h0))]) hx hb dX12_block_378 hl (by decide) rfl (fun ls hl2 => ?_)
        replace hl := hl2
        clear hl2
        refine lv_lload hx hb dX12_block_380 (lv_at hl 8 rfl) ?_
        refine lv_lload hx hb dX12_block_382 (lv_at hl 7 rfl) ?_
        refine lv_ladd hx hb dX12_block_384 ?_
        refine lv_ldc2 hx hb hown (hts _ md_X12_block_4) dX12_block_385 ?_
        refine lv_land hx hb dX12_block_388 ?_
        refine lv_topl (fun v_118 ev_118 => ?_)
        replace hf := lt_at ev_118 hf
        clear ev_118
        refine lv_lstore_n (lv' := [(2, .long v_118), (4, .long p_34), (6, .long p_35), (8, .long p_36), (10, .long v_117), (12, .long p_38), (14, .long p_39), (16, .long p_40), (21, .long v_116), (19, .long v_106), (18, .int p_42), (0, .ref (a h0))]) hx hb dX12_block_389 rfl hl (by decide) rfl (fun ls hl2 => ?_)
        replace hl := hl2
        clear hl2
        refine lv_iinc (v := (p_42 + 1)) (lv' := [(18, .int (p_42 + 1)), (2, .long v_118), (4, .long p_34), (6, .long p_35), (8, .long p_36), (10, .long v_117), (12, .long p_38), (14, .long p_39), (16, .long p_40), (21, .long v_116), (19, .long v_106), (0, .ref (a h0))]) hx hb dX12_block_390 hl (k := 10) rfl rfl (by decide) rfl (fun ls hl2 => ?_)
        replace hl := hl2
        clear hl2
        refine lv_goto (tgt := 243) hx hb dX12_block_393 (by decide) ?_
        exact ih243 (z_113, v_118, p_34, p_35, p_36, v_117, p_38, p_39, p_40, (p_42 + 1)) ls H_115 locs ⟨lv_sub hl [0, 8, 7, 6, 5, 4, 3, 2, 1, 11] rfl, hP, hD, hS⟩ hf
    · skip
      rw [if_neg c_8] at hf
      refine lv_aload_n hx hb dX12_block_72 rfl (lv_at hl 1 rfl) ?_
      obtain ⟨g_119, hf⟩ := grd_some hf
      obtain ⟨kg_119, sg_119⟩ := okO_at g_119
      obtain ⟨k_120, ek_120, hf⟩ := lnk_some hf
      refine va_get (D := (dC, dI)) (ci := 12) (v := .ref (a k_120)) (C := RX12) (T := TX12) (N := 4) hx hb hts iwd_X12_block_X12 hown hK hP h0 (Wd_ob kg_119 sg_119 (by decide)) rfl 3 (by decide) (hts _ md_X12_block_3) (fun _ h9 => h9) (fl_q rfl ek_120) dX12_block_73 ?_
      refine lv_iload_n hx hb dX12_block_76 rfl (lv_at hl 0 rfl) ?_
      refine lv_bipush (v := 15) hx hb dX12_block_77 (by decide) ?_
      refine lv_isub hx hb dX12_block_79 ?_
      obtain ⟨g_121, hf⟩ := grd_some hf
      obtain ⟨kg_121, sg_121, ig_121⟩ := okA_at g_121
      refine va_lald hx hb hK hP k_120 2 (Wd_al kg_121 sg_121) rfl ig_121 dX12_block_80 ?_
      refine lv_topl (fun v_122 ev_122 => ?_)
      replace hf := lt_at ev_122 hf
      clear ev_122
      refine lv_lstore_n (lv' := [(3, .long v_122), (2, .int p_5), (0, .ref (a h0))]) hx hb dX12_block_81 rfl hl (by decide) rfl (fun ls hl2 => ?_)
      replace hl := hl2
      clear hl2
      refine lv_aload_n hx hb dX12_block_82 rfl (lv_at hl 2 rfl) ?_
      obtain ⟨k_123, ek_123, hf⟩ := lnk_some hf
      refine va_get (D := (dC, dI)) (ci := 12) (v := .ref (a k_123)) (C := RX12) (T := TX12) (N := 4) hx hb hts iwd_X12_block_X12 hown hK hP h0 (Wd_ob kg_119 sg_119 (by decide)) rfl 3 (by decide) (hts _ md_X12_block_3) (fun _ h9 => h9) (fl_q rfl ek_123) dX12_block_83 ?_
      refine lv_iload_n hx hb dX12_block_86 rfl (lv_at hl 1 rfl) ?_
      refine lv_iconst (v := 2) hx hb dX12_block_87 (by decide) ?_
      refine lv_isub hx hb dX12_block_88 ?_
      obtain ⟨g_124, hf⟩ := grd_some hf
      obtain ⟨kg_124, sg_124, ig_124⟩ := okA_at g_124
      refine va_lald hx hb hK hP k_123 2 (Wd_al kg_124 sg_124) rfl ig_124 dX12_block_89 ?_
      refine lv_topl (fun v_125 ev_125 => ?_)
      replace hf := lt_at ev_125 hf
      clear ev_125
      refine lv_lstore (lv' := [(5, .long v_125), (3, .long v_122), (2, .int p_5), (0, .ref (a h0))]) hx hb dX12_block_90 hl (by decide) rfl (fun ls hl2 => ?_)
      replace hl := hl2
      clear hl2
      refine lv_lload_n hx hb dX12_block_92 rfl (lv_at hl 1 rfl) ?_
      refine lv_bipush (v := 7) hx hb dX12_block_93 (by decide) ?_
      obtain ⟨z_126, r_127, hfc, hf⟩ := cal_some hf
      have hFc := de_free hD hS hA
      refine va_calll (va_runS (As := [.long v_122, .int 7]) (rest := []) ⟨hx, hb, hml, hown, hts⟩ (de_X12_turned l dC dI cy a sh n H.size F z_6 v_122 7 hfc) (va_cwS 2 hts gX12_block_X12_turned rfl rfl rfl (by decide +kernel) ⟨Nat.le_of_ble_eq_true rfl, Nat.le_of_ble_eq_true rfl⟩) ⟨fun a U g mk q => by obtain ⟨q0, q1, qP, qK, qD, qN⟩ := q; exact ⟨q0, q1, qP, va_K.moved (u := U) (U := U.calling g mk a) (Vm.Alike.refl U.vm) qK, qD, qN.same rfl⟩, fun U hU hW => ⟨rfl, by rw [hU], by rw [hU]; exact hP, va_K.moved hW.alike hK, hD.weaken (fun _ _ _ _ => trivial), hN.warm hW⟩⟩ rfl rfl hl.1 rfl (lv_room (Nat.le_of_ble_eq_true rfl)) dX12_block_95 ⟨Nat.le_of_ble_eq_true rfl, Nat.le_of_ble_eq_true rfl⟩) hS (fun q _ h => hFc q h) hFc (fun rr u t H_128 locs ht hvm hw hB hz1 hk1 hS2 => ?_)
      rw [hw]
      clear hw
      obtain ⟨hP1, -, hD1⟩ := hB
      rw [ht] at hP1
      replace hD := hD1.weaken (fun _ _ _ h => hFc _ h)
      replace hP := hP1
      replace hS := hS2
      clear hP1 hD1 hS2 hFc hfc hz1 hk1 hvm ht
      refine lv_lload_n hx hb dX12_block_98 rfl (lv_at hl 1 rfl) ?_
      refine lv_bipush (v := 18) hx hb dX12_block_99 (by decide) ?_
      obtain ⟨z_129, r_130, hfc, hf⟩ := cal_some hf
      have hFc := de_free hD hS hA
      refine va_calll (va_runS (As := [.long v_122, .int 18]) (rest := [.long r_127]) ⟨hx, hb, hml, hown, hts⟩ (de_X12_turned l dC dI cy a sh n H_128.size F z_126 v_122 18 hfc) (va_cwS 2 hts gX12_block_X12_turned rfl rfl rfl (by decide +kernel) ⟨Nat.le_of_ble_eq_true rfl, Nat.le_of_ble_eq_true rfl⟩) ⟨fun a U g mk q => by obtain ⟨q0, q1, qP, qK, qD, qN⟩ := q; exact ⟨q0, q1, qP, va_K.moved (u := U) (U := U.calling g mk a) (Vm.Alike.refl U.vm) qK, qD, qN.same rfl⟩, fun U hU hW => ⟨rfl, by rw [hU], by rw [hU]; exact hP, va_K.moved hW.alike hK, hD.weaken (fun _ _ _ _ => trivial), hN.warm hW⟩⟩ rfl rfl hl.1 rfl (lv_room (Nat.le_of_ble_eq_true rfl)) dX12_block_101 ⟨Nat.le_of_ble_eq_true rfl, Nat.le_of_ble_eq_true rfl⟩) hS (fun q _ h => hFc q h) hFc (fun rr u t H_131 locs ht hvm hw hB hz1 hk1 hS2 => ?_)
      rw [hw]
      clear hw
      obtain ⟨hP1, -, hD1⟩ := hB
      rw [ht] at hP1
      replace hD := hD1.weaken (fun _ _ _ h => hFc _ h)
      replace hP := hP1
      replace hS := hS2
      clear hP1 hD1 hS2 hFc hfc hz1 hk1 hvm ht
      refine lv_lxor hx hb dX12_block_104 ?_
      refine lv_lload_n hx hb dX12_block_105 rfl (lv_at hl 1 rfl) ?_
      refine lv_iconst (v := 3) hx hb dX12_block_106 (by decide) ?_
      refine lv_lshr (v := (v_122 >>> ((3 : Int32).toInt64 &&& 63))) hx hb dX12_block_107 rfl ?_
      refine lv_lxor hx hb dX12_block_108 ?_
      refine lv_topl (fun v_132 ev_132 => ?_)
      replace hf := lt_at ev_132 hf
      clear ev_132
      refine lv_lstore (lv' := [(7, .long v_132), (5, .long v_125), (3, .long v_122), (2, .int p_5), (0, .ref (a h0))]) hx hb dX12_block_109 hl (by decide) rfl (fun ls hl2 => ?_)
      replace hl := hl2
      clear hl2
      refine lv_lload hx hb dX12_block_111 (lv_at hl 1 rfl) ?_
      refine lv_bipush (v := 17) hx hb dX12_block_113 (by decide) ?_
      obtain ⟨z_133, r_134, hfc, hf⟩ := cal_some hf
      have hFc := de_free hD hS hA
      refine va_calll (va_runS (As := [.long v_125, .int 17]) (rest := []) ⟨hx, hb, hml, hown, hts⟩ (de_X12_turned l dC dI cy a sh n H_131.size F z_129 v_125 17 hfc) (va_cwS 2 hts gX12_block_X12_turned rfl rfl rfl (by decide +kernel) ⟨Nat.le_of_ble_eq_true rfl, Nat.le_of_ble_eq_true rfl⟩) ⟨fun a U g mk q => by obtain ⟨q0, q1, qP, qK, qD, qN⟩ := q; exact ⟨q0, q1, qP, va_K.moved (u := U) (U := U.calling g mk a) (Vm.Alike.refl U.vm) qK, qD, qN.same rfl⟩, fun U hU hW => ⟨rfl, by rw [hU], by rw [hU]; exact hP, va_K.moved hW.alike hK, hD.weaken (fun _ _ _ _ => trivial), hN.warm hW⟩⟩ rfl rfl hl.1 rfl (lv_room (Nat.le_of_ble_eq_true rfl)) dX12_block_115 ⟨Nat.le_of_ble_eq_true rfl, Nat.le_of_ble_eq_true rfl⟩) hS (fun q _ h => hFc q h) hFc (fun rr u t H_135 locs ht hvm hw hB hz1 hk1 hS2 => ?_)
      rw [hw]
      clear hw
      obtain ⟨hP1, -, hD1⟩ := hB
      rw [ht] at hP1
      replace hD := hD1.weaken (fun _ _ _ h => hFc _ h)
      replace hP := hP1
      replace hS := hS2
      clear hP1 hD1 hS2 hFc hfc hz1 hk1 hvm ht
      refine lv_lload hx hb dX12_block_118 (lv_at hl 1 rfl) ?_
      refine lv_bipush (v := 19) hx hb dX12_block_120 (by decide) ?_
      obtain ⟨z_136, r_137, hfc, hf⟩ := cal_some hf
      have hFc := de_free hD hS hA
      refine va_calll (va_runS (As := [.long v_125, .int 19]) (rest := [.long r_134]) ⟨hx, hb, hml, hown, hts⟩ (de_X12_turned l dC dI cy a sh n H_135.size F z_133 v_125 19 hfc) (va_cwS 2 hts gX12_block_X12_turned rfl rfl rfl (by decide +kernel) ⟨Nat.le_of_ble_eq_true rfl, Nat.le_of_ble_eq_true rfl⟩) ⟨fun a U g mk q => by obtain ⟨q0, q1, qP, qK, qD, qN⟩ := q; exact ⟨q0, q1, qP, va_K.moved (u := U) (U := U.calling g mk a) (Vm.Alike.refl U.vm) qK, qD, qN.same rfl⟩, fun U hU hW => ⟨rfl, by rw [hU], by rw [hU]; exact hP, va_K.moved hW.alike hK, hD.weaken (fun _ _ _ _ => trivial), hN.warm hW⟩⟩ rfl rfl hl.1 rfl (lv_room (Nat.le_of_ble_eq_true rfl)) dX12_block_122 ⟨Nat.le_of_ble_eq_true rfl, Nat.le_of_ble_eq_true rfl⟩) hS (fun q _ h => hFc q h) hFc (fun rr u t H_138 locs ht hvm hw hB hz1 hk1 hS2 => ?_)
      rw [hw]
      clear hw
      obtain ⟨hP1, -, hD1⟩ := hB
      rw [ht] at hP1
      replace hD := hD1.weaken (fun _ _ _ h => hFc _ h)
      replace hP := hP1
      replace hS := hS2
      clear hP1 hD1 hS2 hFc hfc hz1 hk1 hvm ht
      refine lv_lxor hx hb dX12_block_125 ?_
      refine lv_lload hx hb dX12_block_126 (lv_at hl 1 rfl) ?_
      refine lv_bipush (v := 10) hx hb dX12_block_128 (by decide) ?_
      refine lv_lshr (v := (v_125 >>> ((10 : Int32).toInt64 &&& 63))) hx hb dX12_block_130 rfl ?_
      refine lv_lxor hx hb dX12_block_131 ?_
      refine lv_topl (fun v_139 ev_139 => ?_)
      replace hf := lt_at ev_139 hf
      clear ev_139
      refine lv_lstore (lv' := [(9, .long v_139), (7, .long v_132), (5, .long v_125), (3, .long v_122), (2, .int p_5), (0, .ref (a h0))]) hx hb dX12_block_132 hl (by decide) rfl (fun ls hl2 => ?_)
      replace hl := hl2
      clear hl2
      refine lv_aload_n hx hb dX12_block_134 rfl (lv_at hl 5 rfl) ?_
      obtain ⟨k_140, ek_140, hf⟩ := lnk_some hf
      refine va_get (D := (dC, dI)) (ci := 12) (v := .ref (a k_140)) (C := RX12) (T := TX12) (N := 4) hx hb hts iwd_X12_block_X12 hown hK hP h0 (Wd_ob kg_119 sg_119 (by decide)) rfl 3 (by decide) (hts _ md_X12_block_3) (fun _ h9 => h9) (fl_q rfl ek_140) dX12_block_135 ?_
      refine lv_iload_n hx hb dX12_block_138 rfl (lv_at hl 4 rfl) ?_
      refine lv_aload_n hx hb dX12_block_139 rfl (lv_at hl 5 rfl) ?_
      obtain ⟨k_141, ek_141, hf⟩ := lnk_some hf
      refine va_get (D := (dC, dI)) (ci := 12) (v := .ref (a k_141)) (C := RX12) (T := TX12) (N := 4) hx hb hts iwd_X12_block_X12 hown hK hP h0 (Wd_ob kg_119 sg_119 (by decide)) rfl 3 (by decide) (hts _ md_X12_block_3) (fun _ h9 => h9) (fl_q rfl ek_141) dX12_block_140 ?_
      refine lv_iload_n hx hb dX12_block_143 rfl (lv_at hl 4 rfl) ?_
      refine lv_bipush (v := 16) hx hb dX12_block_144 (by decide) ?_
      refine lv_isub hx hb dX12_block_146 ?_
      obtain ⟨g_142, hf⟩ := grd_some hf
      obtain ⟨kg_142, sg_142, ig_142⟩ := okA_at g_142
      refine va_lald hx hb hK hP k_141 2 (Wd_al kg_142 sg_142) rfl ig_142 dX12_block_147 ?_
      refine lv_lload hx hb dX12_block_148 (lv_at hl 1 rfl) ?_
      refine lv_ladd hx hb dX12_block_150 ?_
      refine lv_aload_n hx hb dX12_block_151 rfl (lv_at hl 5 rfl) ?_
      obtain ⟨k_143, ek_143, hf⟩ := lnk_some hf
      refine va_get (D := (dC, dI)) (ci := 12) (v := .ref (a k_143)) (C := RX12) (T := TX12) (N := 4) hx hb hts iwd_X12_block_X12 hown hK hP h0 (Wd_ob kg_119 sg_119 (by decide)) rfl 3 (by decide) (hts _ md_X12_block_3) (fun _ h9 => h9) (fl_q rfl ek_143) dX12_block_152 ?_
      refine lv_iload_n hx hb dX12_block_155 rfl (lv_at hl 4 rfl) ?_
      refine lv_bipush (v := 7) hx hb dX12_block_156 (by decide) ?_
      refine lv_isub hx hb dX12_block_158 ?_
      obtain ⟨g_144, hf⟩ := grd_some hf
      obtain ⟨kg_144, sg_144, ig_144⟩ := okA_at g_144
      refine va_lald hx hb hK hP k_143 2 (Wd_al kg_144 sg_144) rfl ig_144 dX12_block_159 ?_
      refine lv_ladd hx hb dX12_block_160 ?_
      refine lv_lload hx hb dX12_block_161 (lv_at hl 0 rfl) ?_
      refine lv_ladd hx hb dX12_block_163 ?_
      refine lv_ldc2 hx hb hown (hts _ md_X12_block_4) dX12_block_164 ?_
      refine lv_land hx hb dX12_block_167 ?_
      obtain ⟨g_145, hf⟩ := grd_some hf
      obtain ⟨kg_145, sg_145, ig_145⟩ := okA_at g_145
      refine va_last hx hb hK hP hD hS k_140 2 (Wd_al kg_145 sg_145) rfl ig_145 dX12_block_168 (fun H_146 locs hP2 hD2 hS2 => ?_)
      rw [Wd_tl sg_145] at hP2 hD2
      obtain ⟨z_147, ez_147⟩ : ∃ w, w = sl z_136 k_140 p_5.toNatClampNeg (((((z_136.2.1 k_141 (p_5 - 16).toNatClampNeg) + v_132) + (z_136.2.1 k_143 (p_5 - 7).toNatClampNeg)) + v_139) &&& 4294967295) := ⟨_, rfl⟩
      rw [← ez_147] at hP2 hD2
      replace hf := lt_at ez_147 hf
      clear ez_147
      replace hP := hP2
      replace hD := hD2
      replace hS := hS2
      clear hP2 hD2 hS2
      refine lv_iinc (v := (p_5 + 1)) (lv' := [(2, .int (p_5 + 1)), (9, .long v_139), (7, .long v_132), (5, .long v_125), (3, .long v_122), (0, .ref (a h0))]) hx hb dX12_block_169 hl (k := 4) rfl rfl (by decide) rfl (fun ls hl2 => ?_)
      replace hl := hl2
      clear hl2
      refine lv_goto (tgt := 66) hx hb dX12_block_172 (by decide) ?_
      exact ih66 (z_147, (p_5 + 1)) ls H_146 locs ⟨lv_sub hl [0, 5] rfl, hP, hD, hS⟩ hf
  · skip
    rw [if_neg c_4] at hf
    refine lv_lconst (v := 0) hx hb dX12_block_8 (by decide) ?_
    refine lv_lstore_n (lv' := [(3, .long 0), (2, .int p_1), (0, .ref (a h0)), (1, .int x0)]) hx hb dX12_block_9 rfl hl (by decide) rfl (fun ls hl2 => ?_)
    replace hl := hl2
    clear hl2
    refine lv_iconst (v := 0) hx hb dX12_block_10 (by decide) ?_
    refine lv_istore (lv' := [(5, .int 0), (3, .long 0), (2, .int p_1), (0, .ref (a h0)), (1, .int x0)]) hx hb dX12_block_11 hl (by decide) rfl (fun ls hl2 => ?_)
    replace hl := hl2
    clear hl2
    have hl0 : lv_has ls 23 [(5, .int 0), (3, .long 0), (2, .int p_1), (0, .ref (a h0)), (1, .int x0)] := lv_sub hl [0, 1, 2, 3, 4] rfl
    refine de_loop (h := 13) (fun (x : St × Int64 × Int32) ls H locs => lv_has ls 23 [(5, .int x.2.2), (3, .long x.2.1), (2, .int p_1), (0, .ref (a h0)), (1, .int x0)] ∧ va_P (dC, dI) vwCl (Wd cy a sh n x.1) H ∧ va_D A (Wd cy a sh n x.1) ∧ va_S A s.heap H locs) (fun f x => fn_X12_block_L13 F sh n h0 p_1 x0 (fun z9 q2 => fn_X12_block_L2 F sh n h0 x0 f_3 z9 q2) f x.1 x.2.1 x.2.2) (z8, r8) ?_ (fun _ => rfl) F (z_2, 0, 0) ls H locs ⟨hl0, hP, hD, hS⟩ hf
    intro f_151 x ls H locs ih13 hI hf
    obtain ⟨z_150, p_148, p_149⟩ := x
    obtain ⟨hl2, hP2, hD2, hS2⟩ := hI
    replace hl : lv_has ls 23 [(5, .int p_149), (3, .long p_148), (2, .int p_1), (0, .ref (a h0)), (1, .int x0)] := hl2
    replace hP := hP2
    replace hD := hD2
    replace hS := hS2
    clear hl2 hP2 hD2 hS2 hl0
    replace hf := fn_X12_block_L13_s hf
    refine lv_iload hx hb dX12_block_13 (lv_at hl 0 rfl) ?_
    refine lv_iconst (v := 4) hx hb dX12_block_15 (by decide) ?_
    refine lv_icmp_ge (tgt := 50) hx hb dX12_block_16 (by decide) (fun c_152 => ?_) (fun c_152 => ?_)
    · skip
      rw [if_pos c_152] at hf
      refine lv_aload_n hx hb dX12_block_50 rfl (lv_at hl 3 rfl) ?_
      obtain ⟨g_153, hf⟩ := grd_some hf
      obtain ⟨kg_153, sg_153⟩ := okO_at g_153
      obtain ⟨k_154, ek_154, hf⟩ := lnk_some hf
      refine va_get (D := (dC, dI)) (ci := 12) (v := .ref (a k_154)) (C := RX12) (T := TX12) (N := 4) hx hb hts iwd_X12_block_X12 hown hK hP h0 (Wd_ob kg_153 sg_153 (by decide)) rfl 3 (by decide) (hts _ md_X12_block_3) (fun _ h9 => h9) (fl_q rfl ek_154) dX12_block_51 ?_
      refine lv_iload_n hx hb dX12_block_54 rfl (lv_at hl 2 rfl) ?_
      refine lv_lload_n hx hb dX12_block_55 rfl (lv_at hl 1 rfl) ?_
      obtain ⟨g_155, hf⟩ := grd_some hf
      obtain ⟨kg_155, sg_155, ig_155⟩ := okA_at g_155
      refine va_last hx hb hK hP hD hS k_154 2 (Wd_al kg_155 sg_155) rfl ig_155 dX12_block_56 (fun H_156 locs hP2 hD2 hS2 => ?_)
      rw [Wd_tl sg_155] at hP2 hD2
      obtain ⟨z_157, ez_157⟩ : ∃ w, w = sl z_150 k_154 p_1.toNatClampNeg p_148 := ⟨_, rfl⟩
      rw [← ez_157] at hP2 hD2
      replace hf := lt_at ez_157 hf
      clear ez_157
      replace hP := hP2
      replace hD := hD2
      replace hS := hS2
      clear hP2 hD2 hS2
      refine lv_iinc (v := (p_1 + 1)) (lv' := [(2, .int (p_1 + 1)), (5, .int p_149), (3, .long p_148), (0, .ref (a h0)), (1, .int x0)]) hx hb dX12_block_57 hl (k := 2) rfl rfl (by decide) rfl (fun ls hl2 => ?_)
      replace hl := hl2
      clear hl2
      refine lv_goto (tgt := 2) hx hb dX12_block_60 (by decide) ?_
      exact ih2 (z_157, (p_1 + 1)) ls H_156 locs ⟨lv_sub hl [0, 3, 4] rfl, hP, hD, hS⟩ hf
    · skip
      rw [if_neg c_152] at hf
      refine lv_ldc2 hx hb hown (hts _ md_X12_block_1) dX12_block_19 ?_
      refine lv_lload_n hx hb dX12_block_22 rfl (lv_at hl 1 rfl) ?_
      refine lv_lmul hx hb dX12_block_23 ?_
      refine lv_aload_n hx hb dX12_block_24 rfl (lv_at hl 3 rfl) ?_
      obtain ⟨g_158, hf⟩ := grd_some hf
      obtain ⟨kg_158, sg_158⟩ := okO_at g_158
      obtain ⟨k_159, ek_159, hf⟩ := lnk_some hf
      refine va_get (D := (dC, dI)) (ci := 12) (v := .ref (a k_159)) (C := RX12) (T := TX12) (N := 4) hx hb hts iwd_X12_block_X12 hown hK hP h0 (Wd_ob kg_158 sg_158 (by decide)) rfl 0 (by decide) (hts _ md_X12_block_2) (fun _ h9 => h9) (fl_q rfl ek_159) dX12_block_25 ?_
      refine lv_iload_n hx hb dX12_block_28 rfl (lv_at hl 4 rfl) ?_
      refine lv_iconst (v := 4) hx hb dX12_block_29 (by decide) ?_
      refine lv_iload_n hx hb dX12_block_30 rfl (lv_at hl 2 rfl) ?_
      refine lv_imul hx hb dX12_block_31 ?_
      refine lv_iadd hx hb dX12_block_32 ?_
      refine lv_iload hx hb dX12_block_33 (lv_at hl 0 rfl) ?_
      refine lv_iadd hx hb dX12_block_35 ?_
      obtain ⟨g_160, hf⟩ := grd_some hf
      obtain ⟨kg_160, sg_160, ig_160⟩ := okA_at g_160
      refine va_bald hx hb hK hP k_159 0 (Wd_ab kg_160 sg_160) rfl ig_160 dX12_block_36 ?_
      refine lv_sipush (v := 255) hx hb dX12_block_37 (by decide) ?_
      refine lv_iand hx hb dX12_block_40 ?_
      refine lv_i2l (v := (((z_150.1 k_159 ((x0 + (4 * p_1)) + p_149).toNatClampNeg) &&& 255) : Int32).toInt64) hx hb dX12_block_41 rfl ?_
      refine lv_ladd hx hb dX12_block_42 ?_
      refine lv_topl (fun v_161 ev_161 => ?_)
      replace hf := lt_at ev_161 hf
      clear ev_161
      refine lv_lstore_n (lv' := [(3, .long v_161), (5, .int p_149), (2, .int p_1), (0, .ref (a h0)), (1, .int x0)]) hx hb dX12_block_43 rfl hl (by decide) rfl (fun ls hl2 => ?_)
      replace hl := hl2
      clear hl2
      refine lv_iinc (v := (p_149 + 1)) (lv' := [(5, .int (p_149 + 1)), (3, .long v_161), (2, .int p_1), (0, .ref (a h0)), (1, .int x0)]) hx hb dX12_block_44 hl (k := 1) rfl rfl (by decide) rfl (fun ls hl2 => ?_)
      replace hl := hl2
      clear hl2
      refine lv_goto (tgt := 13) hx hb dX12_block_47 (by decide) ?_
      exact ih13 (z_150, v_161, (p_149 + 1)) ls H locs ⟨lv_sub hl [0, 1, 2, 3, 4] rfl, hP, hD, hS⟩ hf

set_option maxHeartbeats 4000000 in
set_option maxRecDepth 100000 in
theorem de_X16_number (l : Launch) (dC : Nat → ClassId) (dI : Nat → Nat → Nat) (cy : Nat → ClassId) (a : Nat → Nat) (sh : Nat → Nat × Nat) (n sz : Nat) (F : Nat) (z : St) (h0 : Nat) {z8 : St} {r8 : Int32} (hf : fn_X16_number F sh n z h0 = some (z8, r8)) : Met l yX16_number wsX16_number ({ frames := 2, cells := 0, slots := 0, locals := 42 }) (va_Pc [.ref (a h0)] (fun U => U.heap.size = sz ∧ va_P (dC, dI) vwCl (Wd cy a sh n z) U.heap ∧ va_K (dC, dI) vwCl (TYS cy) U ∧ va_D (fun _ => True) (Wd cy a sh n z) ∧ NK U)) (va_Qi (fun (r9 : Int32) (u : Unit) => r9 = r8) (fun u t => va_P (dC, dI) vwCl (Wd cy a sh n z8) t.heap ∧ va_K (dC, dI) vwCl (TYS cy) t ∧ va_D (va_A (Wd cy a sh n z) sz) (Wd cy a sh n z8)) (va_A (Wd cy a sh n z) sz)) 0 0 (va_A (Wd cy a sh n z) sz) := by
  refine Met.ofW (cc := cX16_number) (maxL := 1) (ret := (some .int)) (by decide) rfl ?_
  intro p e s m args below meth c s₁ B hml hv
  obtain ⟨rfl, hsz, hP, hK, hD0, hN⟩ := hv
  have hx := B.exec
  have hb := B.bytes
  have hr := B.returns
  have hts := atoms_spec (ws := wsX16_number) B.pre
  have hown : s.vm.findClass RX16 = some m.cls := findClass_of_methodNamed B.named
  have hlocks := B.notSynchronized
  subst hsz
  have hD := hD0.self (sz := s.heap.size)
  clear hD0
  generalize hAe : va_A (Wd cy a sh n z) s.heap.size = A at hD ⊢
  have hA : ∀ q : Nat, s.heap.size ≤ q → A q := fun q h => by rw [← hAe]; exact Or.inr h
  clear hAe
  have hS : va_S A s.heap s.heap [] := va_S.rf
  have hl := lv_entry ([.ref (a h0)]) (n := 1) (Nat.le_of_ble_eq_true rfl)
  rw [lg_entry_eq]
  generalize (lg_sl ([.ref (a h0)]) ++ List.replicate (1 - (lg_sl ([.ref (a h0)])).length) Slot.unset).toArray = ls at hl ⊢
  replace hl : lv_has ls 1 [(0, .ref (a h0))] := hl
  unfold fn_X16_number at hf
  refine de_start hS hP (fun H locs hS hP => ?_)
  refine lv_aload_n hx hb dX16_number_0 rfl (lv_at hl 0 rfl) ?_
  refine lv_iconst (v := 4) hx hb dX16_number_1 (by decide) ?_
  obtain ⟨g_3, hf⟩ := grd_some hf
  obtain ⟨kg_3, sg_3⟩ := okO_at g_3
  obtain ⟨z_1, r_2, hfc, hf⟩ := cal_some hf
  have hFc := de_free hD hS hA
  refine va_calli (va_runV (As := [.int 4]) (rest := []) ⟨hx, hb, hml, hown, hts⟩ (de_X16_shortAt l dC dI cy a sh n H.size F z h0 4 hfc) (cwV 1 hts gX16_number_X16_shortAt rfl rfl rfl (by decide +kernel) ⟨Nat.le_of_ble_eq_true rfl, Nat.le_of_ble_eq_true rfl⟩) ⟨fun a U g mk q => by obtain ⟨q0, q1, qP, qK, qD, qN⟩ := q; exact ⟨q0, q1, qP, va_K.moved (u := U) (U := U.calling g mk a) (Vm.Alike.refl U.vm) qK, qD, qN.same rfl⟩, va_recv hK hP (ci := 16) (q0 := h0) rfl (Wd_ob kg_3 sg_3 (by decide)), fun U hU hW => ⟨rfl, by rw [hU], by rw [hU]; exact hP, va_K.moved hW.alike hK, hD.weaken (fun _ _ _ _ => trivial), hN.warm hW⟩⟩ rfl rfl hl.1 rfl (lv_room (Nat.le_of_ble_eq_true rfl)) dX16_number_2 ⟨Nat.le_of_ble_eq_true rfl, Nat.le_of_ble_eq_true rfl⟩) hS (fun q _ h => hFc q h) hFc (fun rr u t H_4 locs ht hvm hw hB hz1 hk1 hS2 => ?_)
  rw [hw]
  clear hw
  obtain ⟨hP1, -, hD1⟩ := hB
  rw [ht] at hP1
  replace hD := hD1.weaken (fun _ _ _ h => hFc _ h)
  replace hP := hP1
  replace hS := hS2
  clear hP1 hD1 hS2 hFc hfc hz1 hk1 hvm ht
  obtain ⟨h8, h9⟩ := ret_some hf
  rw [h8, h9]
  exact W.iret (v := r_2) hx hb hr (fun t ht hW => ⟨⟨r_2, (), rfl, rfl, by rw [ht]; exact hP, va_K.moved hW.alike hK, hD⟩, hS.F ht⟩) hS.2.2 dX16_number_5

set_option maxHeartbeats 4000000 in
set_option maxRecDepth 100000 in
theorem de_X1_copyOf (l : Launch) (dC : Nat → ClassId) (dI : Nat → Nat → Nat) (cy : Nat → ClassId) (a : Nat → Nat) (sh : Nat → Nat × Nat) (n sz : Nat) (F : Nat) (z : St) (h0 : Nat) (x0 : Int32) {z8 : St} {r8 : Int32} (hf : fn_X1_copyOf F sh n z h0 x0 = some (z8, r8)) : Met l yX1_copyOf wsX1_copyOf ({ frames := 50, cells := 0, slots := 0, locals := 1397 }) (va_Pc [.ref (a h0), .int x0] (fun U => U.heap.size = sz ∧ va_P (dC, dI) vwCl (Wd cy a sh n z) U.heap ∧ va_K (dC, dI) vwCl (TYS cy) U ∧ va_D (fun _ => True) (Wd cy a sh n z) ∧ NK U)) (va_Qi (fun (r9 : Int32) (u : Unit) => r9 = r8) (fun u t => va_P (dC, dI) vwCl (Wd cy a sh n z8) t.heap ∧ va_K (dC, dI) vwCl (TYS cy) t ∧ va_D (va_A (Wd cy a sh n z) sz) (Wd cy a sh n z8)) (va_A (Wd cy a sh n z) sz)) 0 0 (va_A (Wd cy a sh n z) sz) := by
  refine Met.ofW (cc := cX1_copyOf) (maxL := 2) (ret := (some .int)) (by decide) rfl ?_
  intro p e s m args below meth c s₁ B hml hv
  obtain ⟨rfl, hsz, hP, hK, hD0, hN⟩ := hv
  have hx := B.exec
  have hb := B.bytes
  have hr := B.returns
  have hts := atoms_spec (ws := wsX1_copyOf) B.pre
  have hown : s.vm.findClass RX1 = some m.cls := findClass_of_methodNamed B.named
  have hlocks := B.notSynchronized
  subst hsz
  have hD := hD0.self (sz := s.heap.size)
  clear hD0
  generalize hAe : va_A (Wd cy a sh n z) s.heap.size = A at hD ⊢
  have hA : ∀ q : Nat, s.heap.size ≤ q → A q := fun q h => by rw [← hAe]; exact Or.inr h
  clear hAe
  have hS : va_S A s.heap s.heap [] := va_S.rf
  have hl := lv_entry ([.ref (a h0), .int x0]) (n := 2) (Nat.le_of_ble_eq_true rfl)
  rw [lg_entry_eq]
  generalize (lg_sl ([.ref (a h0), .int x0]) ++ List.replicate (2 - (lg_sl ([.ref (a h0), .int x0])).length) Slot.unset).toArray = ls at hl ⊢
  replace hl : lv_has ls 2 [(0, .ref (a h0)), (1, .int x0)] := hl
  unfold fn_X1_copyOf at hf
  refine de_start hS hP (fun H locs hS hP => ?_)
  refine lv_aload_n hx hb dX1_copyOf_0 rfl (lv_at hl 0 rfl) ?_
  refine lv_iload_n hx hb dX1_copyOf_1 rfl (lv_at hl 1 rfl) ?_
  refine lv_iconst (v := 0) hx hb dX1_copyOf_2 (by decide) ?_
  obtain ⟨g_3, hf⟩ := grd_some hf
  obtain ⟨kg_3, sg_3⟩ := okO_at g_3
  obtain ⟨z_1, r_2, hfc, hf⟩ := cal_some hf
  have hFc := de_free hD hS hA
  refine va_calli (va_runV (As := [.int x0, .int 0]) (rest := []) ⟨hx, hb, hml, hown, hts⟩ (de_X1_copyAt l dC dI cy a sh n F 48 H.size z h0 x0 0 hfc) (cwV 2 hts gX1_copyOf_X1_copyAt rfl rfl rfl (by decide +kernel) ⟨Nat.le_of_ble_eq_true rfl, Nat.le_of_ble_eq_true rfl⟩) ⟨fun a U g mk q => by obtain ⟨q0, q1, qP, qK, qD, qN⟩ := q; exact ⟨q0, q1, qP, va_K.moved (u := U) (U := U.calling g mk a) (Vm.Alike.refl U.vm) qK, qD, qN.same rfl⟩, va_recv hK hP (ci := 1) (q0 := h0) rfl (Wd_ob kg_3 sg_3 (by decide)), fun U hU hW => ⟨rfl, by rw [hU], by rw [hU]; exact hP, va_K.moved hW.alike hK, hD.weaken (fun _ _ _ _ => trivial), hN.warm hW⟩⟩ rfl rfl hl.1 rfl (lv_room (Nat.le_of_ble_eq_true rfl)) dX1_copyOf_3 ⟨Nat.le_of_ble_eq_true rfl, Nat.le_of_ble_eq_true rfl⟩) hS (fun q _ h => hFc q h) hFc (fun rr u t H_4 locs ht hvm hw hB hz1 hk1 hS2 => ?_)
  rw [hw]
  clear hw
  obtain ⟨hP1, -, hD1⟩ := hB
  rw [ht] at hP1
  replace hD := hD1.weaken (fun _ _ _ h => hFc _ h)
  replace hP := hP1
  replace hS := hS2
  clear hP1 hD1 hS2 hFc hfc hz1 hk1 hvm ht
  obtain ⟨h8, h9⟩ := ret_some hf
  rw [h8, h9]
  exact W.iret (v := r_2) hx hb hr (fun t ht hW => ⟨⟨r_2, (), rfl, rfl, by rw [ht]; exact hP, va_K.moved hW.alike hK, hD⟩, hS.F ht⟩) hS.2.2 dX1_copyOf_6

set_option maxHeartbeats 4000000 in
set_option maxRecDepth 100000 in
theorem de_X1_sizeOf (l : Launch) (dC : Nat → ClassId) (dI : Nat → Nat → Nat) (cy : Nat → ClassId) (a : Nat → Nat) (sh : Nat → Nat × Nat) (n sz : Nat) (F : Nat) (z : St) (h0 : Nat) (x0 : Int32) {z8 : St} {r8 : Int32} (hf : fn_X1_sizeOf F sh n z h0 x0 = some (z8, r8)) : Met l yX1_sizeOf wsX1_sizeOf ({ frames := 50, cells := 0, slots := 0, locals := 1294 }) (va_Pc [.ref (a h0), .int x0] (fun U => U.heap.size = sz ∧ va_P (dC, dI) vwCl (Wd cy a sh n z) U.heap ∧ va_K (dC, dI) vwCl (TYS cy) U ∧ va_D (fun _ => True) (Wd cy a sh n z) ∧ NK U)) (va_Qi (fun (r9 : Int32) (u : Unit) => r9 = r8) (fun u t => va_P (dC, dI) vwCl (Wd cy a sh n z8) t.heap ∧ va_K (dC, dI) vwCl (TYS cy) t ∧ va_D (va_A (Wd cy a sh n z) sz) (Wd cy a sh n z8)) (va_A (Wd cy a sh n z) sz)) 0 0 (va_A (Wd cy a sh n z) sz) := by
  refine Met.ofW (cc := cX1_sizeOf) (maxL := 2) (ret := (some .int)) (by decide) rfl ?_
  intro p e s m args below meth c s₁ B hml hv
  obtain ⟨rfl, hsz, hP, hK, hD0, hN⟩ := hv
  have hx := B.exec
  have hb := B.bytes
  have hr := B.returns
  have hts := atoms_spec (ws := wsX1_sizeOf) B.pre
  have hown : s.vm.findClass RX1 = some m.cls := findClass_of_methodNamed B.named
  have hlocks := B.notSynchronized
  subst hsz
  have hD := hD0.self (sz := s.heap.size)
  clear hD0
  generalize hAe : va_A (Wd cy a sh n z) s.heap.size = A at hD ⊢
  have hA : ∀ q : Nat, s.heap.size ≤ q → A q := fun q h => by rw [← hAe]; exact Or.inr h
  clear hAe
  have hS : va_S A s.heap s.heap [] := va_S.rf
  have hl := lv_entry ([.ref (a h0), .int x0]) (n := 2) (Nat.le_of_ble_eq_true rfl)
  rw [lg_entry_eq]
  generalize (lg_sl ([.ref (a h0), .int x0]) ++ List.replicate (2 - (lg_sl ([.ref (a h0), .int x0])).length) Slot.unset).toArray = ls at hl ⊢
  replace hl : lv_has ls 2 [(0, .ref (a h0)), (1, .int x0)] := hl
  unfold fn_X1_sizeOf at hf
  refine de_start hS hP (fun H locs hS hP => ?_)
  refine lv_aload_n hx hb dX1_sizeOf_0 rfl (lv_at hl 0 rfl) ?_
  refine lv_iload_n hx hb dX1_sizeOf_1 rfl (lv_at hl 1 rfl) ?_
  refine lv_iconst (v := 0) hx hb dX1_sizeOf_2 (by decide) ?_
  obtain ⟨g_3, hf⟩ := grd_some hf
  obtain ⟨kg_3, sg_3⟩ := okO_at g_3
  obtain ⟨z_1, r_2, hfc, hf⟩ := cal_some hf
  have hFc := de_free hD hS hA
  refine va_calli (va_runV (As := [.int x0, .int 0]) (rest := []) ⟨hx, hb, hml, hown, hts⟩ (de_X1_sizeAt l dC dI cy a sh n F 48 H.size z h0 x0 0 hfc) (cwV 2 hts gX1_sizeOf_X1_sizeAt rfl rfl rfl (by decide +kernel) ⟨Nat.le_of_ble_eq_true rfl, Nat.le_of_ble_eq_true rfl⟩) ⟨fun a U g mk q => by obtain ⟨q0, q1, qP, qK, qD, qN⟩ := q; exact ⟨q0, q1, qP, va_K.moved (u := U) (U := U.calling g mk a) (Vm.Alike.refl U.vm) qK, qD, qN.same rfl⟩, va_recv hK hP (ci := 1) (q0 := h0) rfl (Wd_ob kg_3 sg_3 (by decide)), fun U hU hW => ⟨rfl, by rw [hU], by rw [hU]; exact hP, va_K.moved hW.alike hK, hD.weaken (fun _ _ _ _ => trivial), hN.warm hW⟩⟩ rfl rfl hl.1 rfl (lv_room (Nat.le_of_ble_eq_true rfl)) dX1_sizeOf_3 ⟨Nat.le_of_ble_eq_true rfl, Nat.le_of_ble_eq_true rfl⟩) hS (fun q _ h => hFc q h) hFc (fun rr u t H_4 locs ht hvm hw hB hz1 hk1 hS2 => ?_)
  rw [hw]
  clear hw
  obtain ⟨hP1, -, hD1⟩ := hB
  rw [ht] at hP1
  replace hD := hD1.weaken (fun _ _ _ h => hFc _ h)
  replace hP := hP1
  replace hS := hS2
  clear hP1 hD1 hS2 hFc hfc hz1 hk1 hvm ht
  obtain ⟨h8, h9⟩ := ret_some hf
  rw [h8, h9]
  exact W.iret (v := r_2) hx hb hr (fun t ht hW => ⟨⟨r_2, (), rfl, rfl, by rw [ht]; exact hP, va_K.moved hW.alike hK, hD⟩, hS.F ht⟩) hS.2.2 dX1_sizeOf_6

set_option maxHeartbeats 4000000 in
set_option maxRecDepth 100000 in
theorem de_X1_areAlike (l : Launch) (dC : Nat → ClassId) (dI : Nat → Nat → Nat) (cy : Nat → ClassId) (a : Nat → Nat) (sh : Nat → Nat × Nat) (n sz : Nat) (F : Nat) (z : St) (h0 : Nat) (x0 : Int32) (x1 : Int32) {z8 : St} {r8 : Int32} (hf : fn_X1_areAlike F sh n z h0 x0 x1 = some (z8, r8)) : Met l yX1_areAlike wsX1_areAlike ({ frames := 50, cells := 0, slots := 0, locals := 1343 }) (va_Pc [.ref (a h0), .int x0, .int x1] (fun U => U.heap.size = sz ∧ va_P (dC, dI) vwCl (Wd cy a sh n z) U.heap ∧ va_K (dC, dI) vwCl (TYS cy) U ∧ va_D (fun _ => True) (Wd cy a sh n z) ∧ NK U)) (va_Qi (fun (r9 : Int32) (u : Unit) => r9 = r8) (fun u t => va_P (dC, dI) vwCl (Wd cy a sh n z8) t.heap ∧ va_K (dC, dI) vwCl (TYS cy) t ∧ va_D (va_A (Wd cy a sh n z) sz) (Wd cy a sh n z8)) (va_A (Wd cy a sh n z) sz)) 0 0 (va_A (Wd cy a sh n z) sz) := by
  refine Met.ofW (cc := cX1_areAlike) (maxL := 3) (ret := (some .boolean)) (by decide) rfl ?_
  intro p e s m args below meth c s₁ B hml hv
  obtain ⟨rfl, hsz, hP, hK, hD0, hN⟩ := hv
  have hx := B.exec
  have hb := B.bytes
  have hr := B.returns
  have hts := atoms_spec (ws := wsX1_areAlike) B.pre
  have hown : s.vm.findClass RX1 = some m.cls := findClass_of_methodNamed B.named
  have hlocks := B.notSynchronized
  subst hsz
  have hD := hD0.self (sz := s.heap.size)
  clear hD0
  generalize hAe : va_A (Wd cy a sh n z) s.heap.size = A at hD ⊢
  have hA : ∀ q : Nat, s.heap.size ≤ q → A q := fun q h => by rw [← hAe]; exact Or.inr h
  clear hAe
  have hS : va_S A s.heap s.heap [] := va_S.rf
  have hl := lv_entry ([.ref (a h0), .int x0, .int x1]) (n := 3) (Nat.le_of_ble_eq_true rfl)
  rw [lg_entry_eq]
  generalize (lg_sl ([.ref (a h0), .int x0, .int x1]) ++ List.replicate (3 - (lg_sl ([.ref (a h0), .int x0, .int x1])).length) Slot.unset).toArray = ls at hl ⊢
  replace hl : lv_has ls 3 [(0, .ref (a h0)), (1, .int x0), (2, .int x1)] := hl
  unfold fn_X1_areAlike at hf
  refine de_start hS hP (fun H locs hS hP => ?_)
  refine lv_aload_n hx hb dX1_areAlike_0 rfl (lv_at hl 0 rfl) ?_
  refine lv_iload_n hx hb dX1_areAlike_1 rfl (lv_at hl 1 rfl) ?_
  refine lv_iload_n hx hb dX1_areAlike_2 rfl (lv_at hl 2 rfl) ?_
  refine lv_iconst (v := 0) hx hb dX1_areAlike_3 (by decide) ?_
  obtain ⟨g_3, hf⟩ := grd_some hf
  obtain ⟨kg_3, sg_3⟩ := okO_at g_3
  obtain ⟨z_1, r_2, hfc, hf⟩ := cal_some hf
  have hFc := de_free hD hS hA
  refine va_calli (va_runV (As := [.int x0, .int x1, .int 0]) (rest := []) ⟨hx, hb, hml, hown, hts⟩ (de_X1_alikeAt l dC dI cy a sh n F 48 H.size z h0 x0 x1 0 hfc) (cwV 3 hts gX1_areAlike_X1_alikeAt rfl rfl rfl (by decide +kernel) ⟨Nat.le_of_ble_eq_true rfl, Nat.le_of_ble_eq_true rfl⟩) ⟨fun a U g mk q => by obtain ⟨q0, q1, qP, qK, qD, qN⟩ := q; exact ⟨q0, q1, qP, va_K.moved (u := U) (U := U.calling g mk a) (Vm.Alike.refl U.vm) qK, qD, qN.same rfl⟩, va_recv hK hP (ci := 1) (q0 := h0) rfl (Wd_ob kg_3 sg_3 (by decide)), fun U hU hW => ⟨rfl, by rw [hU], by rw [hU]; exact hP, va_K.moved hW.alike hK, hD.weaken (fun _ _ _ _ => trivial), hN.warm hW⟩⟩ rfl rfl hl.1 rfl (lv_room (Nat.le_of_ble_eq_true rfl)) dX1_areAlike_4 ⟨Nat.le_of_ble_eq_true rfl, Nat.le_of_ble_eq_true rfl⟩) hS (fun q _ h => hFc q h) hFc (fun rr u t H_4 locs ht hvm hw hB hz1 hk1 hS2 => ?_)
  rw [hw]
  clear hw
  obtain ⟨hP1, -, hD1⟩ := hB
  rw [ht] at hP1
  replace hD := hD1.weaken (fun _ _ _ h => hFc _ h)
  replace hP := hP1
  replace hS := hS2
  clear hP1 hD1 hS2 hFc hfc hz1 hk1 hvm ht
  obtain ⟨g_5, hf⟩ := grd_some hf
  obtain ⟨h8, h9⟩ := ret_some hf
  rw [h8, h9]
  exact W.zret (v := r_2) hx hb hr (nar_z g_5) (fun t ht hW => ⟨⟨r_2, (), rfl, rfl, by rw [ht]; exact hP, va_K.moved hW.alike hK, hD⟩, hS.F ht⟩) hS.2.2 dX1_areAlike_7

set_option maxHeartbeats 4000000 in
set_option maxRecDepth 100000 in
theorem de_X3_put (l : Launch) (dC : Nat → ClassId) (dI : Nat → Nat → Nat) (cy : Nat → ClassId) (a : Nat → Nat) (sh : Nat → Nat × Nat) (n sz : Nat) (F : Nat) (z : St) (h0 : Nat) (x0 : Int64) {z8 : St} {r8 : Unit} (hf : fn_X3_put F sh n z h0 x0 = some (z8, r8)) : Met l yX3_put wsX3_put ({ frames := 2, cells := 0, slots := 0, locals := 46 }) (va_Pc [.ref (a h0), .long x0] (fun U => U.heap.size = sz ∧ va_P (dC, dI) vwCl (Wd cy a sh n z) U.heap ∧ va_K (dC, dI) vwCl (TYS cy) U ∧ va_D (fun _ => True) (Wd cy a sh n z) ∧ NK U)) (va_Qv (fun u : Unit => True) (fun u t => va_P (dC, dI) vwCl (Wd cy a sh n z8) t.heap ∧ va_K (dC, dI) vwCl (TYS cy) t ∧ va_D (va_A (Wd cy a sh n z) sz) (Wd cy a sh n z8)) (va_A (Wd cy a sh n z) sz)) 0 0 (va_A (Wd cy a sh n z) sz) := by
  refine Met.ofW (cc := cX3_put) (maxL := 3) (ret := none) (by decide) rfl ?_
  intro p e s m args below meth c s₁ B hml hv
  obtain ⟨rfl, hsz, hP, hK, hD0, hN⟩ := hv
  have hx := B.exec
  have hb := B.bytes
  have hr := B.returns
  have hts := atoms_spec (ws := wsX3_put) B.pre
  have hown : s.vm.findClass RX3 = some m.cls := findClass_of_methodNamed B.named
  have hlocks := B.notSynchronized
  subst hsz
  have hD := hD0.self (sz := s.heap.size)
  clear hD0
  generalize hAe : va_A (Wd cy a sh n z) s.heap.size = A at hD ⊢
  have hA : ∀ q : Nat, s.heap.size ≤ q → A q := fun q h => by rw [← hAe]; exact Or.inr h
  clear hAe
  have hS : va_S A s.heap s.heap [] := va_S.rf
  have hl := lv_entry ([.ref (a h0), .long x0]) (n := 3) (Nat.le_of_ble_eq_true rfl)
  rw [lg_entry_eq]
  generalize (lg_sl ([.ref (a h0), .long x0]) ++ List.replicate (3 - (lg_sl ([.ref (a h0), .long x0])).length) Slot.unset).toArray = ls at hl ⊢
  replace hl : lv_has ls 3 [(0, .ref (a h0)), (1, .long x0)] := hl
  unfold fn_X3_put at hf
  refine de_start hS hP (fun H locs hS hP => ?_)
  refine lv_aload_n hx hb dX3_put_0 rfl (lv_at hl 0 rfl) ?_
  refine lv_lload_n hx hb dX3_put_1 rfl (lv_at hl 1 rfl) ?_
  refine lv_lconst (v := 0) hx hb dX3_put_2 (by decide) ?_
  refine lv_iconst (v := 0) hx hb dX3_put_3 (by decide) ?_
  obtain ⟨g_2, hf⟩ := grd_some hf
  obtain ⟨kg_2, sg_2⟩ := okO_at g_2
  obtain ⟨z_1, _u, hfc, hf⟩ := cal_some hf
  have hFc := de_free hD hS hA
  refine va_callv (va_runV (As := [.long x0, .long 0, .int 0]) (rest := []) ⟨hx, hb, hml, hown, hts⟩ (de_X3_putReference l dC dI cy a sh n H.size F z h0 x0 0 0 hfc) (cwV 3 hts gX3_put_X3_putReference rfl rfl rfl (by decide +kernel) ⟨Nat.le_of_ble_eq_true rfl, Nat.le_of_ble_eq_true rfl⟩) ⟨fun a U g mk q => by obtain ⟨q0, q1, qP, qK, qD, qN⟩ := q; exact ⟨q0, q1, qP, va_K.moved (u := U) (U := U.calling g mk a) (Vm.Alike.refl U.vm) qK, qD, qN.same rfl⟩, va_recv hK hP (ci := 3) (q0 := h0) rfl (Wd_ob kg_2 sg_2 (by decide)), fun U hU hW => ⟨rfl, by rw [hU], by rw [hU]; exact hP, va_K.moved hW.alike hK, hD.weaken (fun _ _ _ _ => trivial), hN.warm hW⟩⟩ rfl rfl hl.1 rfl (lv_room (Nat.le_of_ble_eq_true rfl)) dX3_put_4 ⟨Nat.le_of_ble_eq_true rfl, Nat.le_of_ble_eq_true rfl⟩) hS (fun q _ h => hFc q h) hFc (fun u t H_3 locs ht hvm hw hB hz1 hk1 hS2 => ?_)
  obtain ⟨hP1, -, hD1⟩ := hB
  rw [ht] at hP1
  replace hD := hD1.weaken (fun _ _ _ h => hFc _ h)
  replace hP := hP1
  replace hS := hS2
  clear hP1 hD1 hS2 hFc hfc hz1 hk1 hvm ht
  obtain ⟨h8, h9⟩ := ret_some hf
  rw [h8]
  exact W.vret hx hb hr (fun t ht hW => ⟨⟨(), rfl, trivial, by rw [ht]; exact hP, va_K.moved hW.alike hK, hD⟩, hS.F ht⟩) hS.2.2 dX3_put_7

theorem md_X18_load_1 : (.fieldLink RX18 34 "ResourceLedgerModel" "rowAt" "I" : Cond) ∈ wsX18_load := List.mem_of_getElem? (i := 1) rfl
theorem iwd_X18_load_X18 : ∀ w ∈ wsX180, w ∈ wsX18_load := fun _ h => List.mem_cons_of_mem _ (List.mem_append_left _ (List.mem_append_right _ h))
set_option maxHeartbeats 4000000 in
set_option maxRecDepth 100000 in
theorem de_X18_load (l : Launch) (dC : Nat → ClassId) (dI : Nat → Nat → Nat) (cy : Nat → ClassId) (a : Nat → Nat) (sh : Nat → Nat × Nat) (n sz : Nat) (F : Nat) (z : St) (h0 : Nat) (x0 : Int32) {z8 : St} {r8 : Int32} (hf : fn_X18_load F sh n z h0 x0 = some (z8, r8)) : Met l yX18_load wsX18_load ({ frames := 50, cells := 0, slots := 0, locals := 1153 }) (va_Pc [.ref (a h0), .int x0] (fun U => U.heap.size = sz ∧ va_P (dC, dI) vwCl (Wd cy a sh n z) U.heap ∧ va_K (dC, dI) vwCl (TYS cy) U ∧ va_D (fun _ => True) (Wd cy a sh n z) ∧ NK U)) (va_Qi (fun (r9 : Int32) (u : Unit) => r9 = r8) (fun u t => va_P (dC, dI) vwCl (Wd cy a sh n z8) t.heap ∧ va_K (dC, dI) vwCl (TYS cy) t ∧ va_D (va_A (Wd cy a sh n z) sz) (Wd cy a sh n z8)) (va_A (Wd cy a sh n z) sz)) 0 0 (va_A (Wd cy a sh n z) sz) := by
  refine Met.ofW (cc := cX18_load) (maxL := 2) (ret := (some .int)) (by decide) rfl ?_
  intro p e s m args below meth c s₁ B hml hv
  obtain ⟨rfl, hsz, hP, hK, hD0, hN⟩ := hv
  have hx := B.exec
  have hb := B.bytes
  have hr := B.returns
  have hts := atoms_spec (ws := wsX18_load) B.pre
  have hown : s.vm.findClass RX18 = some m.cls := findClass_of_methodNamed B.named
  have hlocks := B.notSynchronized
  subst hsz
  have hD := hD0.self (sz := s.heap.size)
  clear hD0
  generalize hAe : va_A (Wd cy a sh n z) s.heap.size = A at hD ⊢
  have hA : ∀ q : Nat, s.heap.size ≤ q → A q := fun q h => by rw [← hAe]; exact Or.inr h
  clear hAe
  have hS : va_S A s.heap s.heap [] := va_S.rf
  have hl := lv_entry ([.ref (a h0), .int x0]) (n := 2) (Nat.le_of_ble_eq_true rfl)
  rw [lg_entry_eq]
  generalize (lg_sl ([.ref (a h0), .int x0]) ++ List.replicate (2 - (lg_sl ([.ref (a h0), .int x0])).length) Slot.unset).toArray = ls at hl ⊢
  replace hl : lv_has ls 2 [(0, .ref (a h0)), (1, .int x0)] := hl
  unfold fn_X18_load at hf
  refine de_start hS hP (fun H locs hS hP => ?_)
  refine lv_aload_n hx hb dX18_load_0 rfl (lv_at hl 0 rfl) ?_
  refine lv_bipush (v := 64) hx hb dX18_load_1 (by decide) ?_
  refine lv_iload_n hx hb dX18_load_3 rfl (lv_at hl 1 rfl) ?_
  refine lv_imul hx hb dX18_load_4 ?_
  obtain ⟨g_1, hf⟩ := grd_some hf
  obtain ⟨kg_1, sg_1⟩ := okO_at g_1
  refine va_put (D := (dC, dI)) (ci := 18) (v := .int (64 * x0)) (ty := .int) (C := RX18) (T := TX18) (N := 78) hx hb hts iwd_X18_load_X18 tyX18 tyX18_ok nmX18 hown hK hP hD hS h0 (Wd_ob kg_1 sg_1 (by decide)) rfl 14 (by decide) (hts _ md_X18_load_1) (fun _ h9 => h9) rfl (by decide +kernel) rfl rfl (by rw [fl_len]; decide) dX18_load_5 (fun H_2 locs hP2 hD2 hS2 => ?_)
  rw [Wd_si sg_1 (by decide) rfl] at hP2 hD2
  obtain ⟨z_3, ez_3⟩ : ∃ w, w = si z h0 14 (64 * x0) := ⟨_, rfl⟩
  rw [← ez_3] at hP2 hD2
  replace hf := lt_at ez_3 hf
  clear ez_3
  replace hP := hP2
  replace hD := hD2
  replace hS := hS2
  clear hP2 hD2 hS2
  refine lv_aload_n hx hb dX18_load_8 rfl (lv_at hl 0 rfl) ?_
  obtain ⟨z_4, r_5, hfc, hf⟩ := cal_some hf
  have hFc := de_free hD hS hA
  refine va_calli (va_runV (As := []) (rest := []) ⟨hx, hb, hml, hown, hts⟩ (de_X18_loadOne l dC dI cy a sh n F 48 H_2.size z_3 h0 hfc) (cwV 0 hts gX18_load_X18_loadOne rfl rfl rfl (by decide +kernel) ⟨Nat.le_of_ble_eq_true rfl, Nat.le_of_ble_eq_true rfl⟩) ⟨fun a U g mk q => by obtain ⟨q0, q1, qP, qK, qD, qN⟩ := q; exact ⟨q0, q1, qP, va_K.moved (u := U) (U := U.calling g mk a) (Vm.Alike.refl U.vm) qK, qD, qN.same rfl⟩, va_recv hK hP (ci := 18) (q0 := h0) rfl (Wd_ob kg_1 sg_1 (by decide)), fun U hU hW => ⟨rfl, by rw [hU], by rw [hU]; exact hP, va_K.moved hW.alike hK, hD.weaken (fun _ _ _ _ => trivial), hN.warm hW⟩⟩ rfl rfl hl.1 rfl (lv_room (Nat.le_of_ble_eq_true rfl)) dX18_load_9 ⟨Nat.le_of_ble_eq_true rfl, Nat.le_of_ble_eq_true rfl⟩) hS (fun q _ h => hFc q h) hFc (fun rr u t H_6 locs ht hvm hw hB hz1 hk1 hS2 => ?_)
  rw [hw]
  clear hw
  obtain ⟨hP1, -, hD1⟩ := hB
  rw [ht] at hP1
  replace hD := hD1.weaken (fun _ _ _ h => hFc _ h)
  replace hP := hP1
  replace hS := hS2
  clear hP1 hD1 hS2 hFc hfc hz1 hk1 hvm ht
  obtain ⟨h8, h9⟩ := ret_some hf
  rw [h8, h9]
  exact W.iret (v := r_5) hx hb hr (fun t ht hW => ⟨⟨r_5, (), rfl, rfl, by rw [ht]; exact hP, va_K.moved hW.alike hK, hD⟩, hS.F ht⟩) hS.2.2 dX18_load_12

theorem md_X18_keep_1 : (.fieldLink RX18 34 "ResourceLedgerModel" "rowAt" "I" : Cond) ∈ wsX18_keep := List.mem_of_getElem? (i := 1) rfl
theorem iwd_X18_keep_X18 : ∀ w ∈ wsX180, w ∈ wsX18_keep := fun _ h => List.mem_cons_of_mem _ (List.mem_append_left _ (List.mem_append_right _ h))
set_option maxHeartbeats 4000000 in
set_option maxRecDepth 100000 in
theorem de_X18_keep (l : Launch) (dC : Nat → ClassId) (dI : Nat → Nat → Nat) (cy : Nat → ClassId) (a : Nat → Nat) (sh : Nat → Nat × Nat) (n sz : Nat) (F : Nat) (z : St) (h0 : Nat) (x0 : Int32) (x1 : Int32) {z8 : St} {r8 : Unit} (hf : fn_X18_keep F sh n z h0 x0 x1 = some (z8, r8)) : Met l yX18_keep wsX18_keep ({ frames := 50, cells := 0, slots := 0, locals := 1150 }) (va_Pc [.ref (a h0), .int x0, .int x1] (fun U => U.heap.size = sz ∧ va_P (dC, dI) vwCl (Wd cy a sh n z) U.heap ∧ va_K (dC, dI) vwCl (TYS cy) U ∧ va_D (fun _ => True) (Wd cy a sh n z) ∧ NK U)) (va_Qv (fun u : Unit => True) (fun u t => va_P (dC, dI) vwCl (Wd cy a sh n z8) t.heap ∧ va_K (dC, dI) vwCl (TYS cy) t ∧ va_D (va_A (Wd cy a sh n z) sz) (Wd cy a sh n z8)) (va_A (Wd cy a sh n z) sz)) 0 0 (va_A (Wd cy a sh n z) sz) := by
  refine Met.ofW (cc := cX18_keep) (maxL := 3) (ret := none) (by decide) rfl ?_
  intro p e s m args below meth c s₁ B hml hv
  obtain ⟨rfl, hsz, hP, hK, hD0, hN⟩ := hv
  have hx := B.exec
  have hb := B.bytes
  have hr := B.returns
  have hts := atoms_spec (ws := wsX18_keep) B.pre
  have hown : s.vm.findClass RX18 = some m.cls := findClass_of_methodNamed B.named
  have hlocks := B.notSynchronized
  subst hsz
  have hD := hD0.self (sz := s.heap.size)
  clear hD0
  generalize hAe : va_A (Wd cy a sh n z) s.heap.size = A at hD ⊢
  have hA : ∀ q : Nat, s.heap.size ≤ q → A q := fun q h => by rw [← hAe]; exact Or.inr h
  clear hAe
  have hS : va_S A s.heap s.heap [] := va_S.rf
  have hl := lv_entry ([.ref (a h0), .int x0, .int x1]) (n := 3) (Nat.le_of_ble_eq_true rfl)
  rw [lg_entry_eq]
  generalize (lg_sl ([.ref (a h0), .int x0, .int x1]) ++ List.replicate (3 - (lg_sl ([.ref (a h0), .int x0, .int x1])).length) Slot.unset).toArray = ls at hl ⊢
  replace hl : lv_has ls 3 [(0, .ref (a h0)), (1, .int x0), (2, .int x1)] := hl
  unfold fn_X18_keep at hf
  refine de_start hS hP (fun H locs hS hP => ?_)
  refine lv_aload_n hx hb dX18_keep_0 rfl (lv_at hl 0 rfl) ?_
  refine lv_bipush (v := 64) hx hb dX18_keep_1 (by decide) ?_
  refine lv_iload_n hx hb dX18_keep_3 rfl (lv_at hl 1 rfl) ?_
  refine lv_imul hx hb dX18_keep_4 ?_
  obtain ⟨g_1, hf⟩ := grd_some hf
  obtain ⟨kg_1, sg_1⟩ := okO_at g_1
  refine va_put (D := (dC, dI)) (ci := 18) (v := .int (64 * x0)) (ty := .int) (C := RX18) (T := TX18) (N := 78) hx hb hts iwd_X18_keep_X18 tyX18 tyX18_ok nmX18 hown hK hP hD hS h0 (Wd_ob kg_1 sg_1 (by decide)) rfl 14 (by decide) (hts _ md_X18_keep_1) (fun _ h9 => h9) rfl (by decide +kernel) rfl rfl (by rw [fl_len]; decide) dX18_keep_5 (fun H_2 locs hP2 hD2 hS2 => ?_)
  rw [Wd_si sg_1 (by decide) rfl] at hP2 hD2
  obtain ⟨z_3, ez_3⟩ : ∃ w, w = si z h0 14 (64 * x0) := ⟨_, rfl⟩
  rw [← ez_3] at hP2 hD2
  replace hf := lt_at ez_3 hf
  clear ez_3
  replace hP := hP2
  replace hD := hD2
  replace hS := hS2
  clear hP2 hD2 hS2
  refine lv_aload_n hx hb dX18_keep_8 rfl (lv_at hl 0 rfl) ?_
  refine lv_iload_n hx hb dX18_keep_9 rfl (lv_at hl 2 rfl) ?_
  obtain ⟨z_4, _u, hfc, hf⟩ := cal_some hf
  have hFc := de_free hD hS hA
  refine va_callv (va_runV (As := [.int x1]) (rest := []) ⟨hx, hb, hml, hown, hts⟩ (de_X18_keepOne l dC dI cy a sh n F 48 H_2.size z_3 h0 x1 hfc) (cwV 1 hts gX18_keep_X18_keepOne rfl rfl rfl (by decide +kernel) ⟨Nat.le_of_ble_eq_true rfl, Nat.le_of_ble_eq_true rfl⟩) ⟨fun a U g mk q => by obtain ⟨q0, q1, qP, qK, qD, qN⟩ := q; exact ⟨q0, q1, qP, va_K.moved (u := U) (U := U.calling g mk a) (Vm.Alike.refl U.vm) qK, qD, qN.same rfl⟩, va_recv hK hP (ci := 18) (q0 := h0) rfl (Wd_ob kg_1 sg_1 (by decide)), fun U hU hW => ⟨rfl, by rw [hU], by rw [hU]; exact hP, va_K.moved hW.alike hK, hD.weaken (fun _ _ _ _ => trivial), hN.warm hW⟩⟩ rfl rfl hl.1 rfl (lv_room (Nat.le_of_ble_eq_true rfl)) dX18_keep_10 ⟨Nat.le_of_ble_eq_true rfl, Nat.le_of_ble_eq_true rfl⟩) hS (fun q _ h => hFc q h) hFc (fun u t H_5 locs ht hvm hw hB hz1 hk1 hS2 => ?_)
  obtain ⟨hP1, -, hD1⟩ := hB
  rw [ht] at hP1
  replace hD := hD1.weaken (fun _ _ _ h => hFc _ h)
  replace hP := hP1
  replace hS := hS2
  clear hP1 hD1 hS2 hFc hfc hz1 hk1 hvm ht
  obtain ⟨h8, h9⟩ := ret_some hf
  rw [h8]
  exact W.vret hx hb hr (fun t ht hW => ⟨⟨(), rfl, trivial, by rw [ht]; exact hP, va_K.moved hW.alike hK, hD⟩, hS.F ht⟩) hS.2.2 dX18_keep_13

set_option maxHeartbeats 4000000 in
set_option maxRecDepth 100000 in
theorem de_X3_takeOnly (l : Launch) (dC : Nat → ClassId) (dI : Nat → Nat → Nat) (cy : Nat → ClassId) (a : Nat → Nat) (sh : Nat → Nat × Nat) (n sz : Nat) (F : Nat) (z : St) (h0 : Nat) (x0 : Int64) {z8 : St} {r8 : Unit} (hf : fn_X3_takeOnly F sh n z h0 x0 = some (z8, r8)) : Met l yX3_takeOnly wsX3_takeOnly ({ frames := 2, cells := 0, slots := 0, locals := 41 }) (va_Pc [.ref (a h0), .long x0] (fun U => U.heap.size = sz ∧ va_P (dC, dI) vwCl (Wd cy a sh n z) U.heap ∧ va_K (dC, dI) vwCl (TYS cy) U ∧ va_D (fun _ => True) (Wd cy a sh n z) ∧ NK U)) (va_Qv (fun u : Unit => True) (fun u t => va_P (dC, dI) vwCl (Wd cy a sh n z8) t.heap ∧ va_K (dC, dI) vwCl (TYS cy) t ∧ va_D (va_A (Wd cy a sh n z) sz) (Wd cy a sh n z8)) (va_A (Wd cy a sh n z) sz)) 0 0 (va_A (Wd cy a sh n z) sz) := by
  refine Met.ofW (cc := cX3_takeOnly) (maxL := 3) (ret := none) (by decide) rfl ?_
  intro p e s m args below meth c s₁ B hml hv
  obtain ⟨rfl, hsz, hP, hK, hD0, hN⟩ := hv
  have hx := B.exec
  have hb := B.bytes
  have hr := B.returns
  have hts := atoms_spec (ws := wsX3_takeOnly) B.pre
  have hown : s.vm.findClass RX3 = some m.cls := findClass_of_methodNamed B.named
  have hlocks := B.notSynchronized
  subst hsz
  have hD := hD0.self (sz := s.heap.size)
  clear hD0
  generalize hAe : va_A (Wd cy a sh n z) s.heap.size = A at hD ⊢
  have hA : ∀ q : Nat, s.heap.size ≤ q → A q := fun q h => by rw [← hAe]; exact Or.inr h
  clear hAe
  have hS : va_S A s.heap s.heap [] := va_S.rf
  have hl := lv_entry ([.ref (a h0), .long x0]) (n := 3) (Nat.le_of_ble_eq_true rfl)
  rw [lg_entry_eq]
  generalize (lg_sl ([.ref (a h0), .long x0]) ++ List.replicate (3 - (lg_sl ([.ref (a h0), .long x0])).length) Slot.unset).toArray = ls at hl ⊢
  replace hl : lv_has ls 3 [(0, .ref (a h0)), (1, .long x0)] := hl
  unfold fn_X3_takeOnly at hf
  refine de_start hS hP (fun H locs hS hP => ?_)
  refine lv_aload_n hx hb dX3_takeOnly_0 rfl (lv_at hl 0 rfl) ?_
  obtain ⟨g_3, hf⟩ := grd_some hf
  obtain ⟨kg_3, sg_3⟩ := okO_at g_3
  obtain ⟨z_1, r_2, hfc, hf⟩ := cal_some hf
  have hFc := de_free hD hS hA
  refine va_calll (va_runV (As := []) (rest := []) ⟨hx, hb, hml, hown, hts⟩ (de_X3_take l dC dI cy a sh n H.size F z h0 hfc) (cwV 0 hts gX3_takeOnly_X3_take rfl rfl rfl (by decide +kernel) ⟨Nat.le_of_ble_eq_true rfl, Nat.le_of_ble_eq_true rfl⟩) ⟨fun a U g mk q => by obtain ⟨q0, q1, qP, qK, qD, qN⟩ := q; exact ⟨q0, q1, qP, va_K.moved (u := U) (U := U.calling g mk a) (Vm.Alike.refl U.vm) qK, qD, qN.same rfl⟩, va_recv hK hP (ci := 3) (q0 := h0) rfl (Wd_ob kg_3 sg_3 (by decide)), fun U hU hW => ⟨rfl, by rw [hU], by rw [hU]; exact hP, va_K.moved hW.alike hK, hD.weaken (fun _ _ _ _ => trivial), hN.warm hW⟩⟩ rfl rfl hl.1 rfl (lv_room (Nat.le_of_ble_eq_true rfl)) dX3_takeOnly_1 ⟨Nat.le_of_ble_eq_true rfl, Nat.le_of_ble_eq_true rfl⟩) hS (fun q _ h => hFc q h) hFc (fun rr u t H_4 locs ht hvm hw hB hz1 hk1 hS2 => ?_)
  rw [hw]
  clear hw
  obtain ⟨hP1, -, hD1⟩ := hB
  rw [ht] at hP1
  replace hD := hD1.weaken (fun _ _ _ h => hFc _ h)
  replace hP := hP1
  replace hS := hS2
  clear hP1 hD1 hS2 hFc hfc hz1 hk1 hvm ht
  refine lv_lload_n hx hb dX3_takeOnly_4 rfl (lv_at hl 1 rfl) ?_
  refine W.lcmp hx hb dX3_takeOnly_5 ?_
  refine lv_if_eq (tgt := 14) hx hb dX3_takeOnly_6 (by decide) (fun c_5 => ?_) (fun c_5 => ?_)
  · skip
    rw [lg_cmp_eq] at c_5
    rw [if_pos c_5] at hf
    obtain ⟨h8, h9⟩ := ret_some hf
    rw [h8]
    exact W.vret hx hb hr (fun t ht hW => ⟨⟨(), rfl, trivial, by rw [ht]; exact hP, va_K.moved hW.alike hK, hD⟩, hS.F ht⟩) hS.2.2 dX3_takeOnly_14
  · skip
    rw [lg_cmp_eq] at c_5
    rw [if_neg c_5] at hf
    refine lv_aload_n hx hb dX3_takeOnly_9 rfl (lv_at hl 0 rfl) ?_
    refine lv_iconst (v := 3) hx hb dX3_takeOnly_10 (by decide) ?_
    obtain ⟨z_6, _u, hfc, hf⟩ := cal_some hf
    have hFc := de_free hD hS hA
    refine va_callv (va_runV (As := [.int 3]) (rest := []) ⟨hx, hb, hml, hown, hts⟩ (de_X3_fail l dC dI cy a sh n H_4.size F z_1 h0 3 hfc) (cwV 1 hts gX3_takeOnly_X3_fail rfl rfl rfl (by decide +kernel) ⟨Nat.le_of_ble_eq_true rfl, Nat.le_of_ble_eq_true rfl⟩) ⟨fun a U g mk q => by obtain ⟨q0, q1, qP, qK, qD, qN⟩ := q; exact ⟨q0, q1, qP, va_K.moved (u := U) (U := U.calling g mk a) (Vm.Alike.refl U.vm) qK, qD, qN.same rfl⟩, va_recv hK hP (ci := 3) (q0 := h0) rfl (Wd_ob kg_3 sg_3 (by decide)), fun U hU hW => ⟨rfl, by rw [hU], by rw [hU]; exact hP, va_K.moved hW.alike hK, hD.weaken (fun _ _ _ _ => trivial), hN.warm hW⟩⟩ rfl rfl hl.1 rfl (lv_room (Nat.le_of_ble_eq_true rfl)) dX3_takeOnly_11 ⟨Nat.le_of_ble_eq_true rfl, Nat.le_of_ble_eq_true rfl⟩) hS (fun q _ h => hFc q h) hFc (fun u t H_7 locs ht hvm hw hB hz1 hk1 hS2 => ?_)
    obtain ⟨hP1, -, hD1⟩ := hB
    rw [ht] at hP1
    replace hD := hD1.weaken (fun _ _ _ h => hFc _ h)
    replace hP := hP1
    replace hS := hS2
    clear hP1 hD1 hS2 hFc hfc hz1 hk1 hvm ht
    obtain ⟨h8, h9⟩ := ret_some hf
    rw [h8]
    exact W.vret hx hb hr (fun t ht hW => ⟨⟨(), rfl, trivial, by rw [ht]; exact hP, va_K.moved hW.alike hK, hD⟩, hS.F ht⟩) hS.2.2 dX3_takeOnly_14

set_option maxHeartbeats 4000000 in
set_option maxRecDepth 100000 in
theorem de_X5_localCount (l : Launch) (dC : Nat → ClassId) (dI : Nat → Nat → Nat) (cy : Nat → ClassId) (a : Nat → Nat) (sh : Nat → Nat × Nat) (n sz : Nat) (F : Nat) (z : St) (h0 : Nat) (x0 : Int32) {z8 : St} {r8 : Int32} (hf : fn_X5_localCount F sh n z h0 x0 = some (z8, r8)) : Met l yX5_localCount wsX5_localCount ({ frames := 2, cells := 0, slots := 0, locals := 44 }) (va_Pc [.ref (a h0), .int x0] (fun U => U.heap.size = sz ∧ va_P (dC, dI) vwCl (Wd cy a sh n z) U.heap ∧ va_K (dC, dI) vwCl (TYS cy) U ∧ va_D (fun _ => True) (Wd cy a sh n z) ∧ NK U)) (va_Qi (fun (r9 : Int32) (u : Unit) => r9 = r8) (fun u t => va_P (dC, dI) vwCl (Wd cy a sh n z8) t.heap ∧ va_K (dC, dI) vwCl (TYS cy) t ∧ va_D (va_A (Wd cy a sh n z) sz) (Wd cy a sh n z8)) (va_A (Wd cy a sh n z) sz)) 0 0 (va_A (Wd cy a sh n z) sz) := by
  refine Met.ofW (cc := cX5_localCount) (maxL := 2) (ret := (some .int)) (by decide) rfl ?_
  intro p e s m args below meth c s₁ B hml hv
  obtain ⟨rfl, hsz, hP, hK, hD0, hN⟩ := hv
  have hx := B.exec
  have hb := B.bytes
  have hr := B.returns
  have hts := atoms_spec (ws := wsX5_localCount) B.pre
  have hown : s.vm.findClass RX5 = some m.cls := findClass_of_methodNamed B.named
  have hlocks := B.notSynchronized
  subst hsz
  have hD := hD0.self (sz := s.heap.size)
  clear hD0
  generalize hAe : va_A (Wd cy a sh n z) s.heap.size = A at hD ⊢
  have hA : ∀ q : Nat, s.heap.size ≤ q → A q := fun q h => by rw [← hAe]; exact Or.inr h
  clear hAe
  have hS : va_S A s.heap s.heap [] := va_S.rf
  have hl := lv_entry ([.ref (a h0), .int x0]) (n := 2) (Nat.le_of_ble_eq_true rfl)
  rw [lg_entry_eq]
  generalize (lg_sl ([.ref (a h0), .int x0]) ++ List.replicate (2 - (lg_sl ([.ref (a h0), .int x0])).length) Slot.unset).toArray = ls at hl ⊢
  replace hl : lv_has ls 2 [(0, .ref (a h0)), (1, .int x0)] := hl
  unfold fn_X5_localCount at hf
  refine de_start hS hP (fun H locs hS hP => ?_)
  refine lv_aload_n hx hb dX5_localCount_0 rfl (lv_at hl 0 rfl) ?_
  refine lv_iload_n hx hb dX5_localCount_1 rfl (lv_at hl 1 rfl) ?_
  obtain ⟨g_3, hf⟩ := grd_some hf
  obtain ⟨kg_3, sg_3⟩ := okO_at g_3
  obtain ⟨z_1, r_2, hfc, hf⟩ := cal_some hf
  have hFc := de_free hD hS hA
  refine va_calli (va_runV (As := [.int x0]) (rest := []) ⟨hx, hb, hml, hown, hts⟩ (de_X5_takes l dC dI cy a sh n H.size F z h0 x0 hfc) (cwV 1 hts gX5_localCount_X5_takes rfl rfl rfl (by decide +kernel) ⟨Nat.le_of_ble_eq_true rfl, Nat.le_of_ble_eq_true rfl⟩) ⟨fun a U g mk q => by obtain ⟨q0, q1, qP, qK, qD, qN⟩ := q; exact ⟨q0, q1, qP, va_K.moved (u := U) (U := U.calling g mk a) (Vm.Alike.refl U.vm) qK, qD, qN.same rfl⟩, va_recv hK hP (ci := 5) (q0 := h0) rfl (Wd_ob kg_3 sg_3 (by decide)), fun U hU hW => ⟨rfl, by rw [hU], by rw [hU]; exact hP, va_K.moved hW.alike hK, hD.weaken (fun _ _ _ _ => trivial), hN.warm hW⟩⟩ rfl rfl hl.1 rfl (lv_room (Nat.le_of_ble_eq_true rfl)) dX5_localCount_2 ⟨Nat.le_of_ble_eq_true rfl, Nat.le_of_ble_eq_true rfl⟩) hS (fun q _ h => hFc q h) hFc (fun rr u t H_4 locs ht hvm hw hB hz1 hk1 hS2 => ?_)
  rw [hw]
  clear hw
  obtain ⟨hP1, -, hD1⟩ := hB
  rw [ht] at hP1
  replace hD := hD1.weaken (fun _ _ _ h => hFc _ h)
  replace hP := hP1
  replace hS := hS2
  clear hP1 hD1 hS2 hFc hfc hz1 hk1 hvm ht
  refine lv_aload_n hx hb dX5_localCount_5 rfl (lv_at hl 0 rfl) ?_
  refine lv_iload_n hx hb dX5_localCount_6 rfl (lv_at hl 1 rfl) ?_
  refine lv_iconst (v := 4) hx hb dX5_localCount_7 (by decide) ?_
  obtain ⟨z_5, r_6, hfc, hf⟩ := cal_some hf
  have hFc := de_free hD hS hA
  refine va_calli (va_runV (As := [.int x0, .int 4]) (rest := [.int r_2]) ⟨hx, hb, hml, hown, hts⟩ (de_X5_functionColumn l dC dI cy a sh n H_4.size F z_1 h0 x0 4 hfc) (cwV 2 hts gX5_localCount_X5_functionColumn rfl rfl rfl (by decide +kernel) ⟨Nat.le_of_ble_eq_true rfl, Nat.le_of_ble_eq_true rfl⟩) ⟨fun a U g mk q => by obtain ⟨q0, q1, qP, qK, qD, qN⟩ := q; exact ⟨q0, q1, qP, va_K.moved (u := U) (U := U.calling g mk a) (Vm.Alike.refl U.vm) qK, qD, qN.same rfl⟩, va_recv hK hP (ci := 5) (q0 := h0) rfl (Wd_ob kg_3 sg_3 (by decide)), fun U hU hW => ⟨rfl, by rw [hU], by rw [hU]; exact hP, va_K.moved hW.alike hK, hD.weaken (fun _ _ _ _ => trivial), hN.warm hW⟩⟩ rfl rfl hl.1 rfl (lv_room (Nat.le_of_ble_eq_true rfl)) dX5_localCount_8 ⟨Nat.le_of_ble_eq_true rfl, Nat.le_of_ble_eq_true rfl⟩) hS (fun q _ h => hFc q h) hFc (fun rr u t H_7 locs ht hvm hw hB hz1 hk1 hS2 => ?_)
  rw [hw]
  clear hw
  obtain ⟨hP1, -, hD1⟩ := hB
  rw [ht] at hP1
  replace hD := hD1.weaken (fun _ _ _ h => hFc _ h)
  replace hP := hP1
  replace hS := hS2
  clear hP1 hD1 hS2 hFc hfc hz1 hk1 hvm ht
  refine lv_iadd hx hb dX5_localCount_11 ?_
  obtain ⟨h8, h9⟩ := ret_some hf
  rw [h8, h9]
  exact W.iret (v := (r_2 + r_6)) hx hb hr (fun t ht hW => ⟨⟨(r_2 + r_6), (), rfl, rfl, by rw [ht]; exact hP, va_K.moved hW.alike hK, hD⟩, hS.F ht⟩) hS.2.2 dX5_localCount_12

theorem md_X16_foreignModule_1 : (.fieldLink RX16 17 "ResourceLedgerModel$Unit" "calleeAt" "[I" : Cond) ∈ wsX16_foreignModule := List.mem_of_getElem? (i := 1) rfl
theorem iwd_X16_foreignModule_X16 : ∀ w ∈ wsX160, w ∈ wsX16_foreignModule := fun _ h => List.mem_cons_of_mem _ (List.mem_append_right _ h)
theorem md_X16_foreignModule_2 : (.fieldLink RX16 104 "ResourceLedgerModel$Unit" "functions" "I" : Cond) ∈ wsX16_foreignModule := List.mem_of_getElem? (i := 2) rfl
set_option maxHeartbeats 4000000 in
set_option maxRecDepth 100000 in
theorem de_X16_foreignModule (l : Launch) (dC : Nat → ClassId) (dI : Nat → Nat → Nat) (cy : Nat → ClassId) (a : Nat → Nat) (sh : Nat → Nat × Nat) (n sz : Nat) (F : Nat) (z : St) (h0 : Nat) (x0 : Int32) {z8 : St} {r8 : Int32} (hf : fn_X16_foreignModule F sh n z h0 x0 = some (z8, r8)) : Met l yX16_foreignModule wsX16_foreignModule ({ frames := 2, cells := 0, slots := 0, locals := 42 }) (va_Pc [.ref (a h0), .int x0] (fun U => U.heap.size = sz ∧ va_P (dC, dI) vwCl (Wd cy a sh n z) U.heap ∧ va_K (dC, dI) vwCl (TYS cy) U ∧ va_D (fun _ => True) (Wd cy a sh n z) ∧ NK U)) (va_Qi (fun (r9 : Int32) (u : Unit) => r9 = r8) (fun u t => va_P (dC, dI) vwCl (Wd cy a sh n z8) t.heap ∧ va_K (dC, dI) vwCl (TYS cy) t ∧ va_D (va_A (Wd cy a sh n z) sz) (Wd cy a sh n z8)) (va_A (Wd cy a sh n z) sz)) 0 0 (va_A (Wd cy a sh n z) sz) := by
  refine Met.ofW (cc := cX16_foreignModule) (maxL := 2) (ret := (some .int)) (by decide) rfl ?_
  intro p e s m args below meth c s₁ B hml hv
  obtain ⟨rfl, hsz, hP, hK, hD0, hN⟩ := hv
  have hx := B.exec
  have hb := B.bytes
  have hr := B.returns
  have hts := atoms_spec (ws := wsX16_foreignModule) B.pre
  have hown : s.vm.findClass RX16 = some m.cls := findClass_of_methodNamed B.named
  have hlocks := B.notSynchronized
  subst hsz
  have hD := hD0.self (sz := s.heap.size)
  clear hD0
  generalize hAe : va_A (Wd cy a sh n z) s.heap.size = A at hD ⊢
  have hA : ∀ q : Nat, s.heap.size ≤ q → A q := fun q h => by rw [← hAe]; exact Or.inr h
  clear hAe
  have hS : va_S A s.heap s.heap [] := va_S.rf
  have hl := lv_entry ([.ref (a h0), .int x0]) (n := 2) (Nat.le_of_ble_eq_true rfl)
  rw [lg_entry_eq]
  generalize (lg_sl ([.ref (a h0), .int x0]) ++ List.replicate (2 - (lg_sl ([.ref (a h0), .int x0])).length) Slot.unset).toArray = ls at hl ⊢
  replace hl : lv_has ls 2 [(0, .ref (a h0)), (1, .int x0)] := hl
  unfold fn_X16_foreignModule at hf
  refine de_start hS hP (fun H locs hS hP => ?_)
  refine lv_aload_n hx hb dX16_foreignModule_0 rfl (lv_at hl 0 rfl) ?_
  refine lv_aload_n hx hb dX16_foreignModule_1 rfl (lv_at hl 0 rfl) ?_
  obtain ⟨g_1, hf⟩ := grd_some hf
  obtain ⟨kg_1, sg_1⟩ := okO_at g_1
  obtain ⟨k_2, ek_2, hf⟩ := lnk_some hf
  refine va_get (D := (dC, dI)) (ci := 16) (v := .ref (a k_2)) (C := RX16) (T := TX16) (N := 18) hx hb hts iwd_X16_foreignModule_X16 hown hK hP h0 (Wd_ob kg_1 sg_1 (by decide)) rfl 12 (by decide) (hts _ md_X16_foreignModule_1) (fun _ h9 => h9) (fl_q rfl ek_2) dX16_foreignModule_2 ?_
  refine lv_iload_n hx hb dX16_foreignModule_5 rfl (lv_at hl 1 rfl) ?_
  refine lv_aload_n hx hb dX16_foreignModule_6 rfl (lv_at hl 0 rfl) ?_
  refine va_get (D := (dC, dI)) (ci := 16) (v := .int (z.1 h0 9)) (C := RX16) (T := TX16) (N := 18) hx hb hts iwd_X16_foreignModule_X16 hown hK hP h0 (Wd_ob kg_1 sg_1 (by decide)) rfl 9 (by decide) (hts _ md_X16_foreignModule_2) (fun _ h9 => h9) (fl_at (t := 0) rfl) dX16_foreignModule_7 ?_
  refine lv_isub hx hb dX16_foreignModule_10 ?_
  obtain ⟨g_3, hf⟩ := grd_some hf
  obtain ⟨kg_3, sg_3, ig_3⟩ := okA_at g_3
  refine va_iald hx hb hK hP k_2 1 (Wd_ai kg_3 sg_3) rfl ig_3 dX16_foreignModule_11 ?_
  obtain ⟨z_4, r_5, hfc, hf⟩ := cal_some hf
  have hFc := de_free hD hS hA
  refine va_calli (va_runV (As := [.int (z.1 k_2 (x0 - (z.1 h0 9)).toNatClampNeg)]) (rest := []) ⟨hx, hb, hml, hown, hts⟩ (de_X16_shortAt l dC dI cy a sh n H.size F z h0 (z.1 k_2 (x0 - (z.1 h0 9)).toNatClampNeg) hfc) (cwV 1 hts gX16_foreignModule_X16_shortAt rfl rfl rfl (by decide +kernel) ⟨Nat.le_of_ble_eq_true rfl, Nat.le_of_ble_eq_true rfl⟩) ⟨fun a U g mk q => by obtain ⟨q0, q1, qP, qK, qD, qN⟩ := q; exact ⟨q0, q1, qP, va_K.moved (u := U) (U := U.calling g mk a) (Vm.Alike.refl U.vm) qK, qD, qN.same rfl⟩, va_recv hK hP (ci := 16) (q0 := h0) rfl (Wd_ob kg_1 sg_1 (by decide)), fun U hU hW => ⟨rfl, by rw [hU], by rw [hU]; exact hP, va_K.moved hW.alike hK, hD.weaken (fun _ _ _ _ => trivial), hN.warm hW⟩⟩ rfl rfl hl.1 rfl (lv_room (Nat.le_of_ble_eq_true rfl)) dX16_foreignModule_12 ⟨Nat.le_of_ble_eq_true rfl, Nat.le_of_ble_eq_true rfl⟩) hS (fun q _ h => hFc q h) hFc (fun rr u t H_6 locs ht hvm hw hB hz1 hk1 hS2 => ?_)
  rw [hw]
  clear hw
  obtain ⟨hP1, -, hD1⟩ := hB
  rw [ht] at hP1
  replace hD := hD1.weaken (fun _ _ _ h => hFc _ h)
  replace hP := hP1
  replace hS := hS2
  clear hP1 hD1 hS2 hFc hfc hz1 hk1 hvm ht
  obtain ⟨h8, h9⟩ := ret_some hf
  rw [h8, h9]
  exact W.iret (v := r_5) hx hb hr (fun t ht hW => ⟨⟨r_5, (), rfl, rfl, by rw [ht]; exact hP, va_K.moved hW.alike hK, hD⟩, hS.F ht⟩) hS.2.2 dX16_foreignModule_15

theorem md_X1_load_1 : (.fieldLink RX1 75 "ResourceLedger$Heap" "cursor" "I" : Cond) ∈ wsX1_load := List.mem_of_getElem? (i := 1) rfl
theorem iwd_X1_load_X1 : ∀ w ∈ wsX10, w ∈ wsX1_load := fun _ h => List.mem_cons_of_mem _ (List.mem_append_left _ (List.mem_append_right _ h))
set_option maxHeartbeats 4000000 in
set_option maxRecDepth 100000 in
theorem de_X1_load (l : Launch) (dC : Nat → ClassId) (dI : Nat → Nat → Nat) (cy : Nat → ClassId) (a : Nat → Nat) (sh : Nat → Nat × Nat) (n sz : Nat) (F : Nat) (z : St) (h0 : Nat) (x0 : Nat) (x1 : Int32) {z8 : St} {r8 : Int32} (hf : fn_X1_load F sh n z h0 x0 x1 = some (z8, r8)) : Met l yX1_load wsX1_load ({ frames := 50, cells := 0, slots := 0, locals := 1397 }) (va_Pc [.ref (a h0), .ref (a x0), .int x1] (fun U => U.heap.size = sz ∧ va_P (dC, dI) vwCl (Wd cy a sh n z) U.heap ∧ va_K (dC, dI) vwCl (TYS cy) U ∧ va_D (fun _ => True) (Wd cy a sh n z) ∧ NK U)) (va_Qi (fun (r9 : Int32) (u : Unit) => r9 = r8) (fun u t => va_P (dC, dI) vwCl (Wd cy a sh n z8) t.heap ∧ va_K (dC, dI) vwCl (TYS cy) t ∧ va_D (va_A (Wd cy a sh n z) sz) (Wd cy a sh n z8)) (va_A (Wd cy a sh n z) sz)) 0 0 (va_A (Wd cy a sh n z) sz) := by
  refine Met.ofW (cc := cX1_load) (maxL := 3) (ret := (some .int)) (by decide) rfl ?_
  intro p e s m args below meth c s₁ B hml hv
  obtain ⟨rfl, hsz, hP, hK, hD0, hN⟩ := hv
  have hx := B.exec
  have hb := B.bytes
  have hr := B.returns
  have hts := atoms_spec (ws := wsX1_load) B.pre
  have hown : s.vm.findClass RX1 = some m.cls := findClass_of_methodNamed B.named
  have hlocks := B.notSynchronized
  subst hsz
  have hD := hD0.self (sz := s.heap.size)
  clear hD0
  generalize hAe : va_A (Wd cy a sh n z) s.heap.size = A at hD ⊢
  have hA : ∀ q : Nat, s.heap.size ≤ q → A q := fun q h => by rw [← hAe]; exact Or.inr h
  clear hAe
  have hS : va_S A s.heap s.heap [] := va_S.rf
  have hl := lv_entry ([.ref (a h0), .ref (a x0), .int x1]) (n := 3) (Nat.le_of_ble_eq_true rfl)
  rw [lg_entry_eq]
  generalize (lg_sl ([.ref (a h0), .ref (a x0), .int x1]) ++ List.replicate (3 - (lg_sl ([.ref (a h0), .ref (a x0), .int x1])).length) Slot.unset).toArray = ls at hl ⊢
  replace hl : lv_has ls 3 [(0, .ref (a h0)), (1, .ref (a x0)), (2, .int x1)] := hl
  unfold fn_X1_load at hf
  refine de_start hS hP (fun H locs hS hP => ?_)
  refine lv_aload_n hx hb dX1_load_0 rfl (lv_at hl 0 rfl) ?_
  refine lv_iload_n hx hb dX1_load_1 rfl (lv_at hl 2 rfl) ?_
  refine lv_bipush (v := 64) hx hb dX1_load_2 (by decide) ?_
  refine lv_imul hx hb dX1_load_4 ?_
  obtain ⟨g_1, hf⟩ := grd_some hf
  obtain ⟨kg_1, sg_1⟩ := okO_at g_1
  refine va_put (D := (dC, dI)) (ci := 1) (v := .int (x1 * 64)) (ty := .int) (C := RX1) (T := TX1) (N := 7) hx hb hts iwd_X1_load_X1 tyX1 tyX1_ok nmX1 hown hK hP hD hS h0 (Wd_ob kg_1 sg_1 (by decide)) rfl 5 (by decide) (hts _ md_X1_load_1) (fun _ h9 => h9) rfl (by decide +kernel) rfl rfl (by rw [fl_len]; decide) dX1_load_5 (fun H_2 locs hP2 hD2 hS2 => ?_)
  rw [Wd_si sg_1 (by decide) rfl] at hP2 hD2
  obtain ⟨z_3, ez_3⟩ : ∃ w, w = si z h0 5 (x1 * 64) := ⟨_, rfl⟩
  rw [← ez_3] at hP2 hD2
  replace hf := lt_at ez_3 hf
  clear ez_3
  replace hP := hP2
  replace hD := hD2
  replace hS := hS2
  clear hP2 hD2 hS2
  refine lv_aload_n hx hb dX1_load_8 rfl (lv_at hl 0 rfl) ?_
  refine lv_aload_n hx hb dX1_load_9 rfl (lv_at hl 1 rfl) ?_
  refine lv_iconst (v := 0) hx hb dX1_load_10 (by decide) ?_
  obtain ⟨z_4, r_5, hfc, hf⟩ := cal_some hf
  have hFc := de_free hD hS hA
  refine va_calli (va_runV (As := [.ref (a x0), .int 0]) (rest := []) ⟨hx, hb, hml, hown, hts⟩ (de_X1_loadNode l dC dI cy a sh n F 48 H_2.size z_3 h0 x0 0 hfc) (cwV 2 hts gX1_load_X1_loadNode rfl rfl rfl (by decide +kernel) ⟨Nat.le_of_ble_eq_true rfl, Nat.le_of_ble_eq_true rfl⟩) ⟨fun a U g mk q => by obtain ⟨q0, q1, qP, qK, qD, qN⟩ := q; exact ⟨q0, q1, qP, va_K.moved (u := U) (U := U.calling g mk a) (Vm.Alike.refl U.vm) qK, qD, qN.same rfl⟩, va_recv hK hP (ci := 1) (q0 := h0) rfl (Wd_ob kg_1 sg_1 (by decide)), fun U hU hW => ⟨rfl, by rw [hU], by rw [hU]; exact hP, va_K.moved hW.alike hK, hD.weaken (fun _ _ _ _ => trivial), hN.warm hW⟩⟩ rfl rfl hl.1 rfl (lv_room (Nat.le_of_ble_eq_true rfl)) dX1_load_11 ⟨Nat.le_of_ble_eq_true rfl, Nat.le_of_ble_eq_true rfl⟩) hS (fun q _ h => hFc q h) hFc (fun rr u t H_6 locs ht hvm hw hB hz1 hk1 hS2 => ?_)
  rw [hw]
  clear hw
  obtain ⟨hP1, -, hD1⟩ := hB
  rw [ht] at hP1
  replace hD := hD1.weaken (fun _ _ _ h => hFc _ h)
  replace hP := hP1
  replace hS := hS2
  clear hP1 hD1 hS2 hFc hfc hz1 hk1 hvm ht
  obtain ⟨h8, h9⟩ := ret_some hf
  rw [h8, h9]
  exact W.iret (v := r_5) hx hb hr (fun t ht hW => ⟨⟨r_5, (), rfl, rfl, by rw [ht]; exact hP, va_K.moved hW.alike hK, hD⟩, hS.F ht⟩) hS.2.2 dX1_load_14

theorem md_X3_has_1 : (.fieldLink RX3 44 "ResourceLedger$Looker" "p" "LResourceLedger$Program;" : Cond) ∈ wsX3_has := List.mem_of_getElem? (i := 1) rfl
theorem iwd_X3_has_X3 : ∀ w ∈ wsX30, w ∈ wsX3_has := fun _ h => List.mem_cons_of_mem _ (List.mem_append_left _ (List.mem_append_right _ h))
set_option maxHeartbeats 4000000 in
set_option maxRecDepth 100000 in
theorem de_X3_has (l : Launch) (dC : Nat → ClassId) (dI : Nat → Nat → Nat) (cy : Nat → ClassId) (a : Nat → Nat) (sh : Nat → Nat × Nat) (n sz : Nat) (F : Nat) (z : St) (h0 : Nat) (x0 : Int64) (x1 : Int32) {z8 : St} {r8 : Int32} (hf : fn_X3_has F sh n z h0 x0 x1 = some (z8, r8)) : Met l yX3_has wsX3_has ({ frames := 2, cells := 0, slots := 0, locals := 46 }) (va_Pc [.ref (a h0), .long x0, .int x1] (fun U => U.heap.size = sz ∧ va_P (dC, dI) vwCl (Wd cy a sh n z) U.heap ∧ va_K (dC, dI) vwCl (TYS cy) U ∧ va_D (fun _ => True) (Wd cy a sh n z) ∧ NK U)) (va_Qi (fun (r9 : Int32) (u : Unit) => r9 = r8) (fun u t => va_P (dC, dI) vwCl (Wd cy a sh n z8) t.heap ∧ va_K (dC, dI) vwCl (TYS cy) t ∧ va_D (va_A (Wd cy a sh n z) sz) (Wd cy a sh n z8)) (va_A (Wd cy a sh n z) sz)) 0 0 (va_A (Wd cy a sh n z) sz) := by
  refine Met.ofW (cc := cX3_has) (maxL := 4) (ret := (some .boolean)) (by decide) rfl ?_
  intro p e s m args below meth c s₁ B hml hv
  obtain ⟨rfl, hsz, hP, hK, hD0, hN⟩ := hv
  have hx := B.exec
  have hb := B.bytes
  have hr := B.returns
  have hts := atoms_spec (ws := wsX3_has) B.pre
  have hown : s.vm.findClass RX3 = some m.cls := findClass_of_methodNamed B.named
  have hlocks := B.notSynchronized
  subst hsz
  have hD := hD0.self (sz := s.heap.size)
  clear hD0
  generalize hAe : va_A (Wd cy a sh n z) s.heap.size = A at hD ⊢
  have hA : ∀ q : Nat, s.heap.size ≤ q → A q := fun q h => by rw [← hAe]; exact Or.inr h
  clear hAe
  have hS : va_S A s.heap s.heap [] := va_S.rf
  have hl := lv_entry ([.ref (a h0), .long x0, .int x1]) (n := 4) (Nat.le_of_ble_eq_true rfl)
  rw [lg_entry_eq]
  generalize (lg_sl ([.ref (a h0), .long x0, .int x1]) ++ List.replicate (4 - (lg_sl ([.ref (a h0), .long x0, .int x1])).length) Slot.unset).toArray = ls at hl ⊢
  replace hl : lv_has ls 4 [(0, .ref (a h0)), (1, .long x0), (3, .int x1)] := hl
  unfold fn_X3_has at hf
  refine de_start hS hP (fun H locs hS hP => ?_)
  refine lv_aload_n hx hb dX3_has_0 rfl (lv_at hl 0 rfl) ?_
  obtain ⟨g_1, hf⟩ := grd_some hf
  obtain ⟨kg_1, sg_1⟩ := okO_at g_1
  obtain ⟨k_2, ek_2, hf⟩ := lnk_some hf
  refine va_get (D := (dC, dI)) (ci := 3) (v := .ref (a k_2)) (C := RX3) (T := TX3) (N := 22) hx hb hts iwd_X3_has_X3 hown hK hP h0 (Wd_ob kg_1 sg_1 (by decide)) rfl 2 (by decide) (hts _ md_X3_has_1) (fun _ h9 => h9) (fl_q rfl ek_2) dX3_has_1 ?_
  refine lv_lload_n hx hb dX3_has_4 rfl (lv_at hl 1 rfl) ?_
  obtain ⟨g_5, hf⟩ := grd_some hf
  obtain ⟨kg_5, sg_5⟩ := okO_at g_5
  obtain ⟨z_3, r_4, hfc, hf⟩ := cal_some hf
  have hFc := de_free hD hS hA
  refine va_calli (va_runV (As := [.long x0]) (rest := []) ⟨hx, hb, hml, hown, hts⟩ (de_X5_abilities l dC dI cy a sh n H.size F z k_2 x0 hfc) (cwV 1 hts gX3_has_X5_abilities rfl rfl rfl (by decide +kernel) ⟨Nat.le_of_ble_eq_true rfl, Nat.le_of_ble_eq_true rfl⟩) ⟨fun a U g mk q => by obtain ⟨q0, q1, qP, qK, qD, qN⟩ := q; exact ⟨q0, q1, qP, va_K.moved (u := U) (U := U.calling g mk a) (Vm.Alike.refl U.vm) qK, qD, qN.same rfl⟩, va_recv hK hP (ci := 5) (q0 := k_2) rfl (Wd_ob kg_5 sg_5 (by decide)), fun U hU hW => ⟨rfl, by rw [hU], by rw [hU]; exact hP, va_K.moved hW.alike hK, hD.weaken (fun _ _ _ _ => trivial), hN.warm hW⟩⟩ rfl rfl hl.1 rfl (lv_room (Nat.le_of_ble_eq_true rfl)) dX3_has_5 ⟨Nat.le_of_ble_eq_true rfl, Nat.le_of_ble_eq_true rfl⟩) hS (fun q _ h => hFc q h) hFc (fun rr u t H_6 locs ht hvm hw hB hz1 hk1 hS2 => ?_)
  rw [hw]
  clear hw
  obtain ⟨hP1, -, hD1⟩ := hB
  rw [ht] at hP1
  replace hD := hD1.weaken (fun _ _ _ h => hFc _ h)
  replace hP := hP1
  replace hS := hS2
  clear hP1 hD1 hS2 hFc hfc hz1 hk1 hvm ht
  refine lv_iload_n hx hb dX3_has_8 rfl (lv_at hl 2 rfl) ?_
  refine lv_iand hx hb dX3_has_9 ?_
  refine lv_if_eq (tgt := 17) hx hb dX3_has_10 (by decide) (fun c_7 => ?_) (fun c_7 => ?_)
  · skip
    rw [if_pos c_7] at hf
    refine lv_iconst (v := 0) hx hb dX3_has_17 (by decide) ?_
    obtain ⟨h8, h9⟩ := ret_some hf
    rw [h8, h9]
    exact W.zret (v := 0) hx hb hr rfl (fun t ht hW => ⟨⟨0, (), rfl, rfl, by rw [ht]; exact hP, va_K.moved hW.alike hK, hD⟩, hS.F ht⟩) hS.2.2 dX3_has_18
  · skip
    rw [if_neg c_7] at hf
    refine lv_iconst (v := 1) hx hb dX3_has_13 (by decide) ?_
    refine lv_goto (tgt := 18) hx hb dX3_has_14 (by decide) ?_
    obtain ⟨h8, h9⟩ := ret_some hf
    rw [h8, h9]
    exact W.zret (v := 1) hx hb hr rfl (fun t ht hW => ⟨⟨1, (), rfl, rfl, by rw [ht]; exact hP, va_K.moved hW.alike hK, hD⟩, hS.F ht⟩) hS.2.2 dX3_has_18

set_option maxHeartbeats 4000000 in
set_option maxRecDepth 100000 in
theorem de_X0_putLong (l : Launch) (dC : Nat → ClassId) (dI : Nat → Nat → Nat) (cy : Nat → ClassId) (a : Nat → Nat) (sh : Nat → Nat × Nat) (n sz : Nat) (F : Nat) (sk : Nat → Nat) (z : St) (h0 : Nat) (x0 : Int64) {z8 : St} {r8 : Unit} (hf : fn_X0_putLong F sh n z h0 x0 = some (z8, r8)) : Met l yX0_putLong wsX0_putLong ({ frames := 2, cells := 0, slots := 0, locals := 53 }) (va_Pc [.ref (a h0), .long x0] (fun U => U.heap.size = sz ∧ va_P (dC, dI) vwCl (Wd cy a sh n z) U.heap ∧ va_K (dC, dI) vwCl (TYS cy) U ∧ va_D (fun _ => True) (Wd cy a sh n z) ∧ NK U ∧ SKs sk (a CBK) (va_A (Wd cy a sh n z) sz) U U.heap)) (va_Qv (fun u : Unit => True) (fun u t => va_P (dC, dI) vwCl (Wd cy a sh n z8) t.heap ∧ va_K (dC, dI) vwCl (TYS cy) t ∧ va_D (va_A (Wd cy a sh n z) sz) (Wd cy a sh n z8)) (va_A (Wd cy a sh n z) sz)) 0 0 (va_A (Wd cy a sh n z) sz) := by
  refine Met.ofW (cc := cX0_putLong) (maxL := 4) (ret := none) (by decide) rfl ?_
  intro p e s m args below meth c s₁ B hml hv
  obtain ⟨rfl, hsz, hP, hK, hD0, hN, hSK⟩ := hv
  have hx := B.exec
  have hb := B.bytes
  have hr := B.returns
  have hts := atoms_spec (ws := wsX0_putLong) B.pre
  have hown : s.vm.findClass RX0 = some m.cls := findClass_of_methodNamed B.named
  have hlocks := B.notSynchronized
  subst hsz
  have hD := hD0.self (sz := s.heap.size)
  clear hD0
  generalize hAe : va_A (Wd cy a sh n z) s.heap.size = A at hD hSK ⊢
  have hA : ∀ q : Nat, s.heap.size ≤ q → A q := fun q h => by rw [← hAe]; exact Or.inr h
  clear hAe
  have hS : va_S A s.heap s.heap [] := va_S.rf
  have hl := lv_entry ([.ref (a h0), .long x0]) (n := 4) (Nat.le_of_ble_eq_true rfl)
  rw [lg_entry_eq]
  generalize (lg_sl ([.ref (a h0), .long x0]) ++ List.replicate (4 - (lg_sl ([.ref (a h0), .long x0])).length) Slot.unset).toArray = ls at hl ⊢
  replace hl : lv_has ls 4 [(0, .ref (a h0)), (1, .long x0)] := hl
  unfold fn_X0_putLong at hf
  refine de_start hS hP (fun H locs hS hP => ?_)
  refine lv_bipush (v := 56) hx hb dX0_putLong_0 (by decide) ?_
  refine lv_istore_n (lv' := [(3, .int 56), (0, .ref (a h0)), (1, .long x0)]) hx hb dX0_putLong_2 rfl hl (by decide) rfl (fun ls hl2 => ?_)
  replace hl := hl2
  clear hl2
  have hl0 : lv_has ls 4 [(3, .int 56), (0, .ref (a h0)), (1, .long x0)] := lv_sub hl [0, 1, 2] rfl
  refine de_loop (h := 3) (fun (x : St × Int32) ls H locs => lv_has ls 4 [(3, .int x.2), (0, .ref (a h0)), (1, .long x0)] ∧ va_P (dC, dI) vwCl (Wd cy a sh n x.1) H ∧ va_D A (Wd cy a sh n x.1) ∧ va_S A s.heap H locs) (fun f x => fn_X0_putLong_L3 F sh n h0 x0 f x.1 x.2) (z8, r8) ?_ (fun _ => rfl) F (z, 56) ls H locs ⟨hl0, hP, hD, hS⟩ hf
  intro f_3 x ls H locs ih3 hI hf
  obtain ⟨z_2, p_1⟩ := x
  obtain ⟨hl2, hP2, hD2, hS2⟩ := hI
  replace hl : lv_has ls 4 [(3, .int p_1), (0, .ref (a h0)), (1, .long x0)] := hl2
  replace hP := hP2
  replace hD := hD2
  replace hS := hS2
  clear hl2 hP2 hD2 hS2 hl0
  replace hf := fn_X0_putLong_L3_s hf
  refine lv_iload_n hx hb dX0_putLong_3 rfl (lv_at hl 0 rfl) ?_
  refine lv_if_lt (tgt := 21) hx hb dX0_putLong_4 (by decide) (fun c_4 => ?_) (fun c_4 => ?_)
  · skip
    rw [if_pos c_4] at hf
    obtain ⟨h8, h9⟩ := ret_some hf
    rw [h8]
    exact W.vret hx hb hr (fun t ht hW => ⟨⟨(), rfl, trivial, by rw [ht]; exact hP, va_K.moved hW.alike hK, hD⟩, hS.F ht⟩) hS.2.2 dX0_putLong_21
  · skip
    rw [if_neg c_4] at hf
    refine lv_aload_n hx hb dX0_putLong_7 rfl (lv_at hl 1 rfl) ?_
    refine lv_lload_n hx hb dX0_putLong_8 rfl (lv_at hl 2 rfl) ?_
    refine lv_iload_n hx hb dX0_putLong_9 rfl (lv_at hl 0 rfl) ?_
    refine lv_lushr (v := ((x0 : Int64).toUInt64 >>> ((p_1 : Int32).toInt64.toUInt64 &&& Int64.toUInt64 63)).toInt64) hx hb dX0_putLong_10 rfl ?_
    refine lv_l2i (v := ((((x0 : Int64).toUInt64 >>> ((p_1 : Int32).toInt64.toUInt64 &&& Int64.toUInt64 63)).toInt64) : Int64).toInt32) hx hb dX0_putLong_11 rfl ?_
    obtain ⟨g_6, hf⟩ := grd_some hf
    obtain ⟨kg_6, sg_6⟩ := okO_at g_6
    obtain ⟨z_5, _u, hfc, hf⟩ := cal_some hf
    have hFc := de_free hD hS hA
    refine va_callv (va_runV (As := [.int (((((x0 : Int64).toUInt64 >>> ((p_1 : Int32).toInt64.toUInt64 &&& Int64.toUInt64 63)).toInt64) : Int64).toInt32)]) (rest := []) ⟨hx, hb, hml, hown, hts⟩ (de_X0_put l dC dI cy a sh n H.size F sk z_2 h0 (((((x0 : Int64).toUInt64 >>> ((p_1 : Int32).toInt64.toUInt64 &&& Int64.toUInt64 63)).toInt64) : Int64).toInt32) hfc) (cwV 1 hts gX0_putLong_X0_put rfl rfl rfl (by decide +kernel) ⟨Nat.le_of_ble_eq_true rfl, Nat.le_of_ble_eq_true rfl⟩) ⟨fun a U g mk q => by obtain ⟨q0, q1, qP, qK, qD, qN, qS⟩ := q; exact ⟨q0, q1, qP, va_K.moved (u := U) (U := U.calling g mk a) (Vm.Alike.refl U.vm) qK, qD, qN.same rfl, SKs.moved (u := U) (U := U.calling g mk a) (Vm.Alike.refl U.vm) qS⟩, va_recv hK hP (ci := 0) (q0 := h0) rfl (Wd_ob kg_6 sg_6 (by decide)), fun U hU hW => ⟨rfl, by rw [hU], by rw [hU]; exact hP, va_K.moved hW.alike hK, hD.weaken (fun _ _ _ _ => trivial), hN.warm hW, by rw [hU]; exact ((hSK.kept hS.2.1).narrow hFc).moved hW.alike⟩⟩ rfl rfl hl.1 rfl (lv_room (Nat.le_of_ble_eq_true rfl)) dX0_putLong_12 ⟨Nat.le_of_ble_eq_true rfl, Nat.le_of_ble_eq_true rfl⟩) hS (fun q _ h => hFc q h) hFc (fun u t H_7 locs ht hvm hw hB hz1 hk1 hS2 => ?_)
    obtain ⟨hP1, -, hD1⟩ := hB
    rw [ht] at hP1
    replace hD := hD1.weaken (fun _ _ _ h => hFc _ h)
    replace hP := hP1
    replace hS := hS2
    clear hP1 hD1 hS2 hFc hfc hz1 hk1 hvm ht
    refine lv_iinc (v := (p_1 + (-8))) (lv' := [(3, .int (p_1 + (-8))), (0, .ref (a h0)), (1, .long x0)]) hx hb dX0_putLong_15 hl (k := 0) rfl rfl (by decide) rfl (fun ls hl2 => ?_)
    replace hl := hl2
    clear hl2
    refine lv_goto (tgt := 3) hx hb dX0_putLong_18 (by decide) ?_
    exact ih3 (z_5, (p_1 + (-8))) ls H_7 locs ⟨lv_sub hl [0, 1, 2] rfl, hP, hD, hS⟩ hf

theorem md_X18_make_1 : (.fieldLink RX18 40 "ResourceLedgerModel" "trees" "LResourceLedgerModel$Trees;" : Cond) ∈ wsX18_make := List.mem_of_getElem? (i := 1) rfl
theorem iwd_X18_make_X18 : ∀ w ∈ wsX180, w ∈ wsX18_make := fun _ h => List.mem_cons_of_mem _ (List.mem_append_left _ (List.mem_append_right _ h))
set_option maxHeartbeats 4000000 in
set_option maxRecDepth 100000 in
theorem de_X18_make (l : Launch) (dC : Nat → ClassId) (dI : Nat → Nat → Nat) (cy : Nat → ClassId) (a : Nat → Nat) (sh : Nat → Nat × Nat) (n sz : Nat) (F : Nat) (z : St) (h0 : Nat) (x0 : Int32) (x1 : Int64) (x2 : Int64) {z8 : St} {r8 : Unit} (hf : fn_X18_make F sh n z h0 x0 x1 x2 = some (z8, r8)) : Met l yX18_make wsX18_make ({ frames := 2, cells := 0, slots := 0, locals := 42 }) (va_Pc [.ref (a h0), .int x0, .long x1, .long x2] (fun U => U.heap.size = sz ∧ va_P (dC, dI) vwCl (Wd cy a sh n z) U.heap ∧ va_K (dC, dI) vwCl (TYS cy) U ∧ va_D (fun _ => True) (Wd cy a sh n z) ∧ NK U)) (va_Qv (fun u : Unit => True) (fun u t => va_P (dC, dI) vwCl (Wd cy a sh n z8) t.heap ∧ va_K (dC, dI) vwCl (TYS cy) t ∧ va_D (va_A (Wd cy a sh n z) sz) (Wd cy a sh n z8)) (va_A (Wd cy a sh n z) sz)) 0 0 (va_A (Wd cy a sh n z) sz) := by
  refine Met.ofW (cc := cX18_make) (maxL := 6) (ret := none) (by decide) rfl ?_
  intro p e s m args below meth c s₁ B hml hv
  obtain ⟨rfl, hsz, hP, hK, hD0, hN⟩ := hv
  have hx := B.exec
  have hb := B.bytes
  have hr := B.returns
  have hts := atoms_spec (ws := wsX18_make) B.pre
  have hown : s.vm.findClass RX18 = some m.cls := findClass_of_methodNamed B.named
  have hlocks := B.notSynchronized
  subst hsz
  have hD := hD0.self (sz := s.heap.size)
  clear hD0
  generalize hAe : va_A (Wd cy a sh n z) s.heap.size = A at hD ⊢
  have hA : ∀ q : Nat, s.heap.size ≤ q → A q := fun q h => by rw [← hAe]; exact Or.inr h
  clear hAe
  have hS : va_S A s.heap s.heap [] := va_S.rf
  have hl := lv_entry ([.ref (a h0), .int x0, .long x1, .long x2]) (n := 6) (Nat.le_of_ble_eq_true rfl)
  rw [lg_entry_eq]
  generalize (lg_sl ([.ref (a h0), .int x0, .long x1, .long x2]) ++ List.replicate (6 - (lg_sl ([.ref (a h0), .int x0, .long x1, .long x2])).length) Slot.unset).toArray = ls at hl ⊢
  replace hl : lv_has ls 6 [(0, .ref (a h0)), (1, .int x0), (2, .long x1), (4, .long x2)] := hl
  unfold fn_X18_make at hf
  refine de_start hS hP (fun H locs hS hP => ?_)
  refine lv_aload_n hx hb dX18_make_0 rfl (lv_at hl 0 rfl) ?_
  obtain ⟨g_3, hf⟩ := grd_some hf
  obtain ⟨kg_3, sg_3⟩ := okO_at g_3
  obtain ⟨z_1, r_2, hfc, hf⟩ := cal_some hf
  have hFc := de_free hD hS hA
  refine va_calli (va_runV (As := []) (rest := []) ⟨hx, hb, hml, hown, hts⟩ (de_X18_goesOn l dC dI cy a sh n H.size F z h0 hfc) (cwV 0 hts gX18_make_X18_goesOn rfl rfl rfl (by decide +kernel) ⟨Nat.le_of_ble_eq_true rfl, Nat.le_of_ble_eq_true rfl⟩) ⟨fun a U g mk q => by obtain ⟨q0, q1, qP, qK, qD, qN⟩ := q; exact ⟨q0, q1, qP, va_K.moved (u := U) (U := U.calling g mk a) (Vm.Alike.refl U.vm) qK, qD, qN.same rfl⟩, va_recv hK hP (ci := 18) (q0 := h0) rfl (Wd_ob kg_3 sg_3 (by decide)), fun U hU hW => ⟨rfl, by rw [hU], by rw [hU]; exact hP, va_K.moved hW.alike hK, hD.weaken (fun _ _ _ _ => trivial), hN.warm hW⟩⟩ rfl rfl hl.1 rfl (lv_room (Nat.le_of_ble_eq_true rfl)) dX18_make_1 ⟨Nat.le_of_ble_eq_true rfl, Nat.le_of_ble_eq_true rfl⟩) hS (fun q _ h => hFc q h) hFc (fun rr u t H_4 locs ht hvm hw hB hz1 hk1 hS2 => ?_)
  rw [hw]
  clear hw
  obtain ⟨hP1, -, hD1⟩ := hB
  rw [ht] at hP1
  replace hD := hD1.weaken (fun _ _ _ h => hFc _ h)
  replace hP := hP1
  replace hS := hS2
  clear hP1 hD1 hS2 hFc hfc hz1 hk1 hvm ht
  refine lv_if_eq (tgt := 23) hx hb dX18_make_4 (by decide) (fun c_5 => ?_) (fun c_5 => ?_)
  · skip
    rw [if_pos c_5] at hf
    obtain ⟨h8, h9⟩ := ret_some hf
    rw [h8]
    exact W.vret hx hb hr (fun t ht hW => ⟨⟨(), rfl, trivial, by rw [ht]; exact hP, va_K.moved hW.alike hK, hD⟩, hS.F ht⟩) hS.2.2 dX18_make_23
  · skip
    rw [if_neg c_5] at hf
    refine lv_aload_n hx hb dX18_make_7 rfl (lv_at hl 0 rfl) ?_
    refine lv_aload_n hx hb dX18_make_8 rfl (lv_at hl 0 rfl) ?_
    obtain ⟨k_6, ek_6, hf⟩ := lnk_some hf
    refine va_get (D := (dC, dI)) (ci := 18) (v := .ref (a k_6)) (C := RX18) (T := TX18) (N := 78) hx hb hts iwd_X18_make_X18 hown hK hP h0 (Wd_ob kg_3 sg_3 (by decide)) rfl 15 (by decide) (hts _ md_X18_make_1) (fun _ h9 => h9) (fl_q rfl ek_6) dX18_make_9 ?_
    refine lv_iload_n hx hb dX18_make_12 rfl (lv_at hl 1 rfl) ?_
    refine lv_lload_n hx hb dX18_make_13 rfl (lv_at hl 2 rfl) ?_
    refine lv_lload hx hb dX18_make_14 (lv_at hl 3 rfl) ?_
    obtain ⟨g_9, hf⟩ := grd_some hf
    obtain ⟨kg_9, sg_9⟩ := okO_at g_9
    obtain ⟨z_7, r_8, hfc, hf⟩ := cal_some hf
    have hFc := de_free hD hS hA
    refine va_calli (va_runV (As := [.int x0, .long x1, .long x2]) (rest := [.ref (a h0)]) ⟨hx, hb, hml, hown, hts⟩ (de_X15_make l dC dI cy a sh n H_4.size F z_1 k_6 x0 x1 x2 hfc) (cwV 3 hts gX18_make_X15_make rfl rfl rfl (by decide +kernel) ⟨Nat.le_of_ble_eq_true rfl, Nat.le_of_ble_eq_true rfl⟩) ⟨fun a U g mk q => by obtain ⟨q0, q1, qP, qK, qD, qN⟩ := q; exact ⟨q0, q1, qP, va_K.moved (u := U) (U := U.calling g mk a) (Vm.Alike.refl U.vm) qK, qD, qN.same rfl⟩, va_recv hK hP (ci := 15) (q0 := k_6) rfl (Wd_ob kg_9 sg_9 (by decide)), fun U hU hW => ⟨rfl, by rw [hU], by rw [hU]; exact hP, va_K.moved hW.alike hK, hD.weaken (fun _ _ _ _ => trivial), hN.warm hW⟩⟩ rfl rfl hl.1 rfl (lv_room (Nat.le_of_ble_eq_true rfl)) dX18_make_16 ⟨Nat.le_of_ble_eq_true rfl, Nat.le_of_ble_eq_true rfl⟩) hS (fun q _ h => hFc q h) hFc (fun rr u t H_10 locs ht hvm hw hB hz1 hk1 hS2 => ?_)
    rw [hw]
    clear hw
    obtain ⟨hP1, -, hD1⟩ := hB
    rw [ht] at hP1
    replace hD := hD1.weaken (fun _ _ _ h => hFc _ h)
    replace hP := hP1
    replace hS := hS2
    clear hP1 hD1 hS2 hFc hfc hz1 hk1 hvm ht
    refine lv_iconst (v := 0) hx hb dX18_make_19 (by decide) ?_
    obtain ⟨z_11, _u, hfc, hf⟩ := cal_some hf
    have hFc := de_free hD hS hA
    refine va_callv (va_runV (As := [.int r_8, .int 0]) (rest := []) ⟨hx, hb, hml, hown, hts⟩ (de_X18_push l dC dI cy a sh n H_10.size F z_7 h0 r_8 0 hfc) (cwV 2 hts gX18_make_X18_push rfl rfl rfl (by decide +kernel) ⟨Nat.le_of_ble_eq_true rfl, Nat.le_of_ble_eq_true rfl⟩) ⟨fun a U g mk q => by obtain ⟨q0, q1, qP, qK, qD, qN⟩ := q; exact ⟨q0, q1, qP, va_K.moved (u := U) (U := U.calling g mk a) (Vm.Alike.refl U.vm) qK, qD, qN.same rfl⟩, va_recv hK hP (ci := 18) (q0 := h0) rfl (Wd_ob kg_3 sg_3 (by decide)), fun U hU hW => ⟨rfl, by rw [hU], by rw [hU]; exact hP, va_K.moved hW.alike hK, hD.weaken (fun _ _ _ _ => trivial), hN.warm hW⟩⟩ rfl rfl hl.1 rfl (lv_room (Nat.le_of_ble_eq_true rfl)) dX18_make_20 ⟨Nat.le_of_ble_eq_true rfl, Nat.le_of_ble_eq_true rfl⟩) hS (fun q _ h => hFc q h) hFc (fun u t H_12 locs ht hvm hw hB hz1 hk1 hS2 => ?_)
    obtain ⟨hP1, -, hD1⟩ := hB
    rw [ht] at hP1
    replace hD := hD1.weaken (fun _ _ _ h => hFc _ h)
    replace hP := hP1
    replace hS := hS2
    clear hP1 hD1 hS2 hFc hfc hz1 hk1 hvm ht
    obtain ⟨h8, h9⟩ := ret_some hf
    rw [h8]
    exact W.vret hx hb hr (fun t ht hW => ⟨⟨(), rfl, trivial, by rw [ht]; exact hP, va_K.moved hW.alike hK, hD⟩, hS.F ht⟩) hS.2.2 dX18_make_23

set_option maxHeartbeats 4000000 in
set_option maxRecDepth 100000 in
theorem de_X5_givenType (l : Launch) (dC : Nat → ClassId) (dI : Nat → Nat → Nat) (cy : Nat → ClassId) (a : Nat → Nat) (sh : Nat → Nat × Nat) (n sz : Nat) (F : Nat) (z : St) (h0 : Nat) (x0 : Int32) (x1 : Int32) {z8 : St} {r8 : Int64} (hf : fn_X5_givenType F sh n z h0 x0 x1 = some (z8, r8)) : Met l yX5_givenType wsX5_givenType ({ frames := 2, cells := 0, slots := 0, locals := 44 }) (va_Pc [.ref (a h0), .int x0, .int x1] (fun U => U.heap.size = sz ∧ va_P (dC, dI) vwCl (Wd cy a sh n z) U.heap ∧ va_K (dC, dI) vwCl (TYS cy) U ∧ va_D (fun _ => True) (Wd cy a sh n z) ∧ NK U)) (va_Ql (fun (r9 : Int64) (u : Unit) => r9 = r8) (fun u t => va_P (dC, dI) vwCl (Wd cy a sh n z8) t.heap ∧ va_K (dC, dI) vwCl (TYS cy) t ∧ va_D (va_A (Wd cy a sh n z) sz) (Wd cy a sh n z8)) (va_A (Wd cy a sh n z) sz)) 0 0 (va_A (Wd cy a sh n z) sz) := by
  refine Met.ofW (cc := cX5_givenType) (maxL := 3) (ret := (some .long)) (by decide) rfl ?_
  intro p e s m args below meth c s₁ B hml hv
  obtain ⟨rfl, hsz, hP, hK, hD0, hN⟩ := hv
  have hx := B.exec
  have hb := B.bytes
  have hr := B.returns
  have hts := atoms_spec (ws := wsX5_givenType) B.pre
  have hown : s.vm.findClass RX5 = some m.cls := findClass_of_methodNamed B.named
  have hlocks := B.notSynchronized
  subst hsz
  have hD := hD0.self (sz := s.heap.size)
  clear hD0
  generalize hAe : va_A (Wd cy a sh n z) s.heap.size = A at hD ⊢
  have hA : ∀ q : Nat, s.heap.size ≤ q → A q := fun q h => by rw [← hAe]; exact Or.inr h
  clear hAe
  have hS : va_S A s.heap s.heap [] := va_S.rf
  have hl := lv_entry ([.ref (a h0), .int x0, .int x1]) (n := 3) (Nat.le_of_ble_eq_true rfl)
  rw [lg_entry_eq]
  generalize (lg_sl ([.ref (a h0), .int x0, .int x1]) ++ List.replicate (3 - (lg_sl ([.ref (a h0), .int x0, .int x1])).length) Slot.unset).toArray = ls at hl ⊢
  replace hl : lv_has ls 3 [(0, .ref (a h0)), (1, .int x0), (2, .int x1)] := hl
  unfold fn_X5_givenType at hf
  refine de_start hS hP (fun H locs hS hP => ?_)
  refine lv_aload_n hx hb dX5_givenType_0 rfl (lv_at hl 0 rfl) ?_
  refine lv_aload_n hx hb dX5_givenType_1 rfl (lv_at hl 0 rfl) ?_
  refine lv_iload_n hx hb dX5_givenType_2 rfl (lv_at hl 1 rfl) ?_
  refine lv_iconst (v := 1) hx hb dX5_givenType_3 (by decide) ?_
  obtain ⟨g_3, hf⟩ := grd_some hf
  obtain ⟨kg_3, sg_3⟩ := okO_at g_3
  obtain ⟨z_1, r_2, hfc, hf⟩ := cal_some hf
  have hFc := de_free hD hS hA
  refine va_calli (va_runV (As := [.int x0, .int 1]) (rest := [.ref (a h0)]) ⟨hx, hb, hml, hown, hts⟩ (de_X5_functionColumn l dC dI cy a sh n H.size F z h0 x0 1 hfc) (cwV 2 hts gX5_givenType_X5_functionColumn rfl rfl rfl (by decide +kernel) ⟨Nat.le_of_ble_eq_true rfl, Nat.le_of_ble_eq_true rfl⟩) ⟨fun a U g mk q => by obtain ⟨q0, q1, qP, qK, qD, qN⟩ := q; exact ⟨q0, q1, qP, va_K.moved (u := U) (U := U.calling g mk a) (Vm.Alike.refl U.vm) qK, qD, qN.same rfl⟩, va_recv hK hP (ci := 5) (q0 := h0) rfl (Wd_ob kg_3 sg_3 (by decide)), fun U hU hW => ⟨rfl, by rw [hU], by rw [hU]; exact hP, va_K.moved hW.alike hK, hD.weaken (fun _ _ _ _ => trivial), hN.warm hW⟩⟩ rfl rfl hl.1 rfl (lv_room (Nat.le_of_ble_eq_true rfl)) dX5_givenType_4 ⟨Nat.le_of_ble_eq_true rfl, Nat.le_of_ble_eq_true rfl⟩) hS (fun q _ h => hFc q h) hFc (fun rr u t H_4 locs ht hvm hw hB hz1 hk1 hS2 => ?_)
  rw [hw]
  clear hw
  obtain ⟨hP1, -, hD1⟩ := hB
  rw [ht] at hP1
  replace hD := hD1.weaken (fun _ _ _ h => hFc _ h)
  replace hP := hP1
  replace hS := hS2
  clear hP1 hD1 hS2 hFc hfc hz1 hk1 hvm ht
  refine lv_aload_n hx hb dX5_givenType_7 rfl (lv_at hl 0 rfl) ?_
  refine lv_iload_n hx hb dX5_givenType_8 rfl (lv_at hl 1 rfl) ?_
  obtain ⟨z_5, r_6, hfc, hf⟩ := cal_some hf
  have hFc := de_free hD hS hA
  refine va_calli (va_runV (As := [.int x0]) (rest := [.int r_2, .ref (a h0)]) ⟨hx, hb, hml, hown, hts⟩ (de_X5_takes l dC dI cy a sh n H_4.size F z_1 h0 x0 hfc) (cwV 1 hts gX5_givenType_X5_takes rfl rfl rfl (by decide +kernel) ⟨Nat.le_of_ble_eq_true rfl, Nat.le_of_ble_eq_true rfl⟩) ⟨fun a U g mk q => by obtain ⟨q0, q1, qP, qK, qD, qN⟩ := q; exact ⟨q0, q1, qP, va_K.moved (u := U) (U := U.calling g mk a) (Vm.Alike.refl U.vm) qK, qD, qN.same rfl⟩, va_recv hK hP (ci := 5) (q0 := h0) rfl (Wd_ob kg_3 sg_3 (by decide)), fun U hU hW => ⟨rfl, by rw [hU], by rw [hU]; exact hP, va_K.moved hW.alike hK, hD.weaken (fun _ _ _ _ => trivial), hN.warm hW⟩⟩ rfl rfl hl.1 rfl (lv_room (Nat.le_of_ble_eq_true rfl)) dX5_givenType_9 ⟨Nat.le_of_ble_eq_true rfl, Nat.le_of_ble_eq_true rfl⟩) hS (fun q _ h => hFc q h) hFc (fun rr u t H_7 locs ht hvm hw hB hz1 hk1 hS2 => ?_)
  rw [hw]
  clear hw
  obtain ⟨hP1, -, hD1⟩ := hB
  rw [ht] at hP1
  replace hD := hD1.weaken (fun _ _ _ h => hFc _ h)
  replace hP := hP1
  replace hS := hS2
  clear hP1 hD1 hS2 hFc hfc hz1 hk1 hvm ht
  refine lv_iadd hx hb dX5_givenType_12 ?_
  refine lv_iload_n hx hb dX5_givenType_13 rfl (lv_at hl 2 rfl) ?_
  refine lv_iadd hx hb dX5_givenType_14 ?_
  obtain ⟨z_8, r_9, hfc, hf⟩ := cal_some hf
  have hFc := de_free hD hS hA
  refine va_calll (va_runV (As := [.int ((r_2 + r_6) + x1)]) (rest := []) ⟨hx, hb, hml, hown, hts⟩ (de_X5_typeAt l dC dI cy a sh n H_7.size F z_5 h0 ((r_2 + r_6) + x1) hfc) (cwV 1 hts gX5_givenType_X5_typeAt rfl rfl rfl (by decide +kernel) ⟨Nat.le_of_ble_eq_true rfl, Nat.le_of_ble_eq_true rfl⟩) ⟨fun a U g mk q => by obtain ⟨q0, q1, qP, qK, qD, qN⟩ := q; exact ⟨q0, q1, qP, va_K.moved (u := U) (U := U.calling g mk a) (Vm.Alike.refl U.vm) qK, qD, qN.same rfl⟩, va_recv hK hP (ci := 5) (q0 := h0) rfl (Wd_ob kg_3 sg_3 (by decide)), fun U hU hW => ⟨rfl, by rw [hU], by rw [hU]; exact hP, va_K.moved hW.alike hK, hD.weaken (fun _ _ _ _ => trivial), hN.warm hW⟩⟩ rfl rfl hl.1 rfl (lv_room (Nat.le_of_ble_eq_true rfl)) dX5_givenType_15 ⟨Nat.le_of_ble_eq_true rfl, Nat.le_of_ble_eq_true rfl⟩) hS (fun q _ h => hFc q h) hFc (fun rr u t H_10 locs ht hvm hw hB hz1 hk1 hS2 => ?_)
  rw [hw]
  clear hw
  obtain ⟨hP1, -, hD1⟩ := hB
  rw [ht] at hP1
  replace hD := hD1.weaken (fun _ _ _ h => hFc _ h)
  replace hP := hP1
  replace hS := hS2
  clear hP1 hD1 hS2 hFc hfc hz1 hk1 hvm ht
  obtain ⟨h8, h9⟩ := ret_some hf
  rw [h8, h9]
  exact W.lret (v := r_9) hx hb hr (fun t ht hW => ⟨⟨r_9, (), rfl, rfl, by rw [ht]; exact hP, va_K.moved hW.alike hK, hD⟩, hS.F ht⟩) hS.2.2 dX5_givenType_18

theorem md_X13_take__1 : (.fieldLink RX13 48 "ResourceLedgerModel$Looker" "fault" "I" : Cond) ∈ wsX13_take_ := List.mem_of_getElem? (i := 1) rfl
theorem iwd_X13_take__X13 : ∀ w ∈ wsX130, w ∈ wsX13_take_ := fun _ h => List.mem_cons_of_mem _ (List.mem_append_right _ h)
theorem md_X13_take__2 : (.fieldLink RX13 99 "ResourceLedgerModel$Looker" "taken" "J" : Cond) ∈ wsX13_take_ := List.mem_of_getElem? (i := 2) rfl
set_option maxHeartbeats 4000000 in
set_option maxRecDepth 100000 in
theorem de_X13_take_ (l : Launch) (dC : Nat → ClassId) (dI : Nat → Nat → Nat) (cy : Nat → ClassId) (a : Nat → Nat) (sh : Nat → Nat × Nat) (n sz : Nat) (F : Nat) (z : St) (h0 : Nat) (x0 : Int64) {z8 : St} {r8 : Unit} (hf : fn_X13_take_ F sh n z h0 x0 = some (z8, r8)) : Met l yX13_take_ wsX13_take_ ({ frames := 2, cells := 0, slots := 0, locals := 41 }) (va_Pc [.ref (a h0), .long x0] (fun U => U.heap.size = sz ∧ va_P (dC, dI) vwCl (Wd cy a sh n z) U.heap ∧ va_K (dC, dI) vwCl (TYS cy) U ∧ va_D (fun _ => True) (Wd cy a sh n z) ∧ NK U)) (va_Qv (fun u : Unit => True) (fun u t => va_P (dC, dI) vwCl (Wd cy a sh n z8) t.heap ∧ va_K (dC, dI) vwCl (TYS cy) t ∧ va_D (va_A (Wd cy a sh n z) sz) (Wd cy a sh n z8)) (va_A (Wd cy a sh n z) sz)) 0 0 (va_A (Wd cy a sh n z) sz) := by
  refine Met.ofW (cc := cX13_take_) (maxL := 3) (ret := none) (by decide) rfl ?_
  intro p e s m args below meth c s₁ B hml hv
  obtain ⟨rfl, hsz, hP, hK, hD0, hN⟩ := hv
  have hx := B.exec
  have hb := B.bytes
  have hr := B.returns
  have hts := atoms_spec (ws := wsX13_take_) B.pre
  have hown : s.vm.findClass RX13 = some m.cls := findClass_of_methodNamed B.named
  have hlocks := B.notSynchronized
  subst hsz
  have hD := hD0.self (sz := s.heap.size)
  clear hD0
  generalize hAe : va_A (Wd cy a sh n z) s.heap.size = A at hD ⊢
  have hA : ∀ q : Nat, s.heap.size ≤ q → A q := fun q h => by rw [← hAe]; exact Or.inr h
  clear hAe
  have hS : va_S A s.heap s.heap [] := va_S.rf
  have hl := lv_entry ([.ref (a h0), .long x0]) (n := 3) (Nat.le_of_ble_eq_true rfl)
  rw [lg_entry_eq]
  generalize (lg_sl ([.ref (a h0), .long x0]) ++ List.replicate (3 - (lg_sl ([.ref (a h0), .long x0])).length) Slot.unset).toArray = ls at hl ⊢
  replace hl : lv_has ls 3 [(0, .ref (a h0)), (1, .long x0)] := hl
  unfold fn_X13_take_ at hf
  refine de_start hS hP (fun H locs hS hP => ?_)
  refine lv_aload_n hx hb dX13_take__0 rfl (lv_at hl 0 rfl) ?_
  obtain ⟨g_2, hf⟩ := grd_some hf
  obtain ⟨kg_2, sg_2⟩ := okO_at g_2
  obtain ⟨z_1, _u, hfc, hf⟩ := cal_some hf
  have hFc := de_free hD hS hA
  refine va_callv (va_runV (As := []) (rest := []) ⟨hx, hb, hml, hown, hts⟩ (de_X13_take l dC dI cy a sh n H.size F z h0 hfc) (cwV 0 hts gX13_take__X13_take rfl rfl rfl (by decide +kernel) ⟨Nat.le_of_ble_eq_true rfl, Nat.le_of_ble_eq_true rfl⟩) ⟨fun a U g mk q => by obtain ⟨q0, q1, qP, qK, qD, qN⟩ := q; exact ⟨q0, q1, qP, va_K.moved (u := U) (U := U.calling g mk a) (Vm.Alike.refl U.vm) qK, qD, qN.same rfl⟩, va_recv hK hP (ci := 13) (q0 := h0) rfl (Wd_ob kg_2 sg_2 (by decide)), fun U hU hW => ⟨rfl, by rw [hU], by rw [hU]; exact hP, va_K.moved hW.alike hK, hD.weaken (fun _ _ _ _ => trivial), hN.warm hW⟩⟩ rfl rfl hl.1 rfl (lv_room (Nat.le_of_ble_eq_true rfl)) dX13_take__1 ⟨Nat.le_of_ble_eq_true rfl, Nat.le_of_ble_eq_true rfl⟩) hS (fun q _ h => hFc q h) hFc (fun u t H_3 locs ht hvm hw hB hz1 hk1 hS2 => ?_)
  obtain ⟨hP1, -, hD1⟩ := hB
  rw [ht] at hP1
  replace hD := hD1.weaken (fun _ _ _ h => hFc _ h)
  replace hP := hP1
  replace hS := hS2
  clear hP1 hD1 hS2 hFc hfc hz1 hk1 hvm ht
  refine lv_aload_n hx hb dX13_take__4 rfl (lv_at hl 0 rfl) ?_
  refine va_get (D := (dC, dI)) (ci := 13) (v := .int (z_1.1 h0 18)) (C := RX13) (T := TX13) (N := 22) hx hb hts iwd_X13_take__X13 hown hK hP h0 (Wd_ob kg_2 sg_2 (by decide)) rfl 18 (by decide) (hts _ md_X13_take__1) (fun _ h9 => h9) (fl_at (t := 0) rfl) dX13_take__5 ?_
  refine lv_if_ne (tgt := 20) hx hb dX13_take__8 (by decide) (fun c_4 => ?_) (fun c_4 => ?_)
  · skip
    rw [if_neg c_4] at hf
    obtain ⟨h8, h9⟩ := ret_some hf
    rw [h8]
    exact W.vret hx hb hr (fun t ht hW => ⟨⟨(), rfl, trivial, by rw [ht]; exact hP, va_K.moved hW.alike hK, hD⟩, hS.F ht⟩) hS.2.2 dX13_take__20
  · skip
    rw [if_pos c_4] at hf
    refine lv_aload_n hx hb dX13_take__11 rfl (lv_at hl 0 rfl) ?_
    refine va_get (D := (dC, dI)) (ci := 13) (v := .long (z_1.2.1 h0 19)) (C := RX13) (T := TX13) (N := 22) hx hb hts iwd_X13_take__X13 hown hK hP h0 (Wd_ob kg_2 sg_2 (by decide)) rfl 19 (by decide) (hts _ md_X13_take__2) (fun _ h9 => h9) (fl_at (t := 1) rfl) dX13_take__12 ?_
    refine lv_lload_n hx hb dX13_take__15 rfl (lv_at hl 1 rfl) ?_
    refine W.lcmp hx hb dX13_take__16 ?_
    refine lv_if_ne (tgt := 21) hx hb dX13_take__17 (by decide) (fun c_5 => ?_) (fun c_5 => ?_)
    · skip
      rw [lg_cmp_eq] at c_5
      rw [if_neg c_5] at hf
      refine lv_aload_n hx hb dX13_take__21 rfl (lv_at hl 0 rfl) ?_
      refine lv_iconst (v := 3) hx hb dX13_take__22 (by decide) ?_
      obtain ⟨z_6, _u, hfc, hf⟩ := cal_some hf
      have hFc := de_free hD hS hA
      refine va_callv (va_runV (As := [.int 3]) (rest := []) ⟨hx, hb, hml, hown, hts⟩ (de_X13_fail l dC dI cy a sh n H_3.size F z_1 h0 3 hfc) (cwV 1 hts gX13_take__X13_fail rfl rfl rfl (by decide +kernel) ⟨Nat.le_of_ble_eq_true rfl, Nat.le_of_ble_eq_true rfl⟩) ⟨fun a U g mk q => by obtain ⟨q0, q1, qP, qK, qD, qN⟩ := q; exact ⟨q0, q1, qP, va_K.moved (u := U) (U := U.calling g mk a) (Vm.Alike.refl U.vm) qK, qD, qN.same rfl⟩, va_recv hK hP (ci := 13) (q0 := h0) rfl (Wd_ob kg_2 sg_2 (by decide)), fun U hU hW => ⟨rfl, by rw [hU], by rw [hU]; exact hP, va_K.moved hW.alike hK, hD.weaken (fun _ _ _ _ => trivial), hN.warm hW⟩⟩ rfl rfl hl.1 rfl (lv_room (Nat.le_of_ble_eq_true rfl)) dX13_take__23 ⟨Nat.le_of_ble_eq_true rfl, Nat.le_of_ble_eq_true rfl⟩) hS (fun q _ h => hFc q h) hFc (fun u t H_7 locs ht hvm hw hB hz1 hk1 hS2 => ?_)
      obtain ⟨hP1, -, hD1⟩ := hB
      rw [ht] at hP1
      replace hD := hD1.weaken (fun _ _ _ h => hFc _ h)
      replace hP := hP1
      replace hS := hS2
      clear hP1 hD1 hS2 hFc hfc hz1 hk1 hvm ht
      obtain ⟨h8, h9⟩ := ret_some hf
      rw [h8]
      exact W.vret hx hb hr (fun t ht hW => ⟨⟨(), rfl, trivial, by rw [ht]; exact hP, va_K.moved hW.alike hK, hD⟩, hS.F ht⟩) hS.2.2 dX13_take__26
    · skip
      rw [lg_cmp_eq] at c_5
      rw [if_pos c_5] at hf
      obtain ⟨h8, h9⟩ := ret_some hf
      rw [h8]
      exact W.vret hx hb hr (fun t ht hW => ⟨⟨(), rfl, trivial, by rw [ht]; exact hP, va_K.moved hW.alike hK, hD⟩, hS.F ht⟩) hS.2.2 dX13_take__20

theorem md_X6_readTypes_1 : (.fieldLink RX6 21 "ResourceLedger$Reader" "fault" "I" : Cond) ∈ wsX6_readTypes := List.mem_of_getElem? (i := 1) rfl
theorem iwd_X6_readTypes_X6 : ∀ w ∈ wsX60, w ∈ wsX6_readTypes := fun _ h => List.mem_cons_of_mem _ (List.mem_append_left _ (List.mem_append_right _ h))
theorem md_X6_readTypes_2 : (.fieldLink RX6 17 "ResourceLedger$Reader" "p" "LResourceLedger$Program;" : Cond) ∈ wsX6_readTypes := List.mem_of_getElem? (i := 2) rfl
set_option maxHeartbeats 4000000 in
set_option maxRecDepth 100000 in
theorem de_X6_readTypes (l : Launch) (dC : Nat → ClassId) (dI : Nat → Nat → Nat) (cy : Nat → ClassId) (a : Nat → Nat) (sh : Nat → Nat × Nat) (n sz : Nat) (F : Nat) (sk : Nat → Nat) (z : St) (h0 : Nat) (x0 : Int32) (x1 : Int32) {z8 : St} {r8 : Unit} (hf : fn_X6_readTypes F sh n z h0 x0 x1 = some (z8, r8)) : Met l yX6_readTypes wsX6_readTypes ({ frames := 2, cells := 0, slots := 0, locals := 48 }) (va_Pc [.ref (a h0), .int x0, .int x1] (fun U => U.heap.size = sz ∧ va_P (dC, dI) vwCl (Wd cy a sh n z) U.heap ∧ va_K (dC, dI) vwCl (TYS cy) U ∧ va_D (fun _ => True) (Wd cy a sh n z) ∧ NK U ∧ SKs sk (a CBK) (va_A (Wd cy a sh n z) sz) U U.heap)) (va_Qv (fun u : Unit => True) (fun u t => va_P (dC, dI) vwCl (Wd cy a sh n z8) t.heap ∧ va_K (dC, dI) vwCl (TYS cy) t ∧ va_D (va_A (Wd cy a sh n z) sz) (Wd cy a sh n z8)) (va_A (Wd cy a sh n z) sz)) 0 0 (va_A (Wd cy a sh n z) sz) := by
  refine Met.ofW (cc := cX6_readTypes) (maxL := 4) (ret := none) (by decide) rfl ?_
  intro p e s m args below meth c s₁ B hml hv
  obtain ⟨rfl, hsz, hP, hK, hD0, hN, hSK⟩ := hv
  have hx := B.exec
  have hb := B.bytes
  have hr := B.returns
  have hts := atoms_spec (ws := wsX6_readTypes) B.pre
  have hown : s.vm.findClass RX6 = some m.cls := findClass_of_methodNamed B.named
  have hlocks := B.notSynchronized
  subst hsz
  have hD := hD0.self (sz := s.heap.size)
  clear hD0
  generalize hAe : va_A (Wd cy a sh n z) s.heap.size = A at hD hSK ⊢
  have hA : ∀ q : Nat, s.heap.size ≤ q → A q := fun q h => by rw [← hAe]; exact Or.inr h
  clear hAe
  have hS : va_S A s.heap s.heap [] := va_S.rf
  have hl := lv_entry ([.ref (a h0), .int x0, .int x1]) (n := 4) (Nat.le_of_ble_eq_true rfl)
  rw [lg_entry_eq]
  generalize (lg_sl ([.ref (a h0), .int x0, .int x1]) ++ List.replicate (4 - (lg_sl ([.ref (a h0), .int x0, .int x1])).length) Slot.unset).toArray = ls at hl ⊢
  replace hl : lv_has ls 4 [(0, .ref (a h0)), (1, .int x0), (2, .int x1)] := hl
  unfold fn_X6_readTypes at hf
  refine de_start hS hP (fun H locs hS hP => ?_)
  refine lv_iconst (v := 0) hx hb dX6_readTypes_0 (by decide) ?_
  refine lv_istore_n (lv' := [(3, .int 0), (0, .ref (a h0)), (1, .int x0), (2, .int x1)]) hx hb dX6_readTypes_1 rfl hl (by decide) rfl (fun ls hl2 => ?_)
  replace hl := hl2
  clear hl2
  have hl0 : lv_has ls 4 [(3, .int 0), (0, .ref (a h0)), (1, .int x0), (2, .int x1)] := lv_sub hl [0, 1, 2, 3] rfl
  refine de_loop (h := 2) (fun (x : St × Int32) ls H locs => lv_has ls 4 [(3, .int x.2), (0, .ref (a h0)), (1, .int x0), (2, .int x1)] ∧ va_P (dC, dI) vwCl (Wd cy a sh n x.1) H ∧ va_D A (Wd cy a sh n x.1) ∧ va_S A s.heap H locs) (fun f x => fn_X6_readTypes_L2 F sh n x0 h0 x1 f x.1 x.2) (z8, r8) ?_ (fun _ => rfl) F (z, 0) ls H locs ⟨hl0, hP, hD, hS⟩ hf
  intro f_3 x ls H locs ih2 hI hf
  obtain ⟨z_2, p_1⟩ := x
  obtain ⟨hl2, hP2, hD2, hS2⟩ := hI
  replace hl : lv_has ls 4 [(3, .int p_1), (0, .ref (a h0)), (1, .int x0), (2, .int x1)] := hl2
  replace hP := hP2
  replace hD := hD2
  replace hS := hS2
  clear hl2 hP2 hD2 hS2 hl0
  replace hf := fn_X6_readTypes_L2_s hf
  refine lv_iload_n hx hb dX6_readTypes_2 rfl (lv_at hl 0 rfl) ?_
  refine lv_iload_n hx hb dX6_readTypes_3 rfl (lv_at hl 2 rfl) ?_
  refine lv_icmp_ge (tgt := 32) hx hb dX6_readTypes_4 (by decide) (fun c_4 => ?_) (fun c_4 => ?_)
  · skip
    rw [if_pos c_4] at hf
    obtain ⟨h8, h9⟩ := ret_some hf
    rw [h8]
    exact W.vret hx hb hr (fun t ht hW => ⟨⟨(), rfl, trivial, by rw [ht]; exact hP, va_K.moved hW.alike hK, hD⟩, hS.F ht⟩) hS.2.2 dX6_readTypes_32
  · skip
    rw [if_neg c_4] at hf
    refine lv_aload_n hx hb dX6_readTypes_7 rfl (lv_at hl 1 rfl) ?_
    obtain ⟨g_5, hf⟩ := grd_some hf
    obtain ⟨kg_5, sg_5⟩ := okO_at g_5
    refine va_get (D := (dC, dI)) (ci := 6) (v := .int (z_2.1 h0 1)) (C := RX6) (T := TX6) (N := 9) hx hb hts iwd_X6_readTypes_X6 hown hK hP h0 (Wd_ob kg_5 sg_5 (by decide)) rfl 1 (by decide) (hts _ md_X6_readTypes_1) (fun _ h9 => h9) (fl_at (t := 0) rfl) dX6_readTypes_8 ?_
    refine lv_if_ne (tgt := 32) hx hb dX6_readTypes_11 (by decide) (fun c_6 => ?_) (fun c_6 => ?_)
    · skip
      rw [if_neg c_6] at hf
      obtain ⟨h8, h9⟩ := ret_some hf
      rw [h8]
      exact W.vret hx hb hr (fun t ht hW => ⟨⟨(), rfl, trivial, by rw [ht]; exact hP, va_K.moved hW.alike hK, hD⟩, hS.F ht⟩) hS.2.2 dX6_readTypes_32
    · skip
      rw [if_pos c_6] at hf
      refine lv_aload_n hx hb dX6_readTypes_14 rfl (lv_at hl 1 rfl) ?_
      obtain ⟨k_7, ek_7, hf⟩ := lnk_some hf
      refine va_get (D := (dC, dI)) (ci := 6) (v := .ref (a k_7)) (C := RX6) (T := TX6) (N := 9) hx hb hts iwd_X6_readTypes_X6 hown hK hP h0 (Wd_ob kg_5 sg_5 (by decide)) rfl 2 (by decide) (hts _ md_X6_readTypes_2) (fun _ h9 => h9) (fl_q rfl ek_7) dX6_readTypes_15 ?_
      refine lv_aload_n hx hb dX6_readTypes_18 rfl (lv_at hl 1 rfl) ?_
      refine lv_iload_n hx hb dX6_readTypes_19 rfl (lv_at hl 3 rfl) ?_
      obtain ⟨z_8, r_9, hfc, hf⟩ := cal_some hf
      have hFc := de_free hD hS hA
      refine va_calll (va_runV (As := [.int x1]) (rest := [.ref (a k_7)]) ⟨hx, hb, hml, hown, hts⟩ (de_X6_readOneType l dC dI cy a sh n H.size F sk z_2 h0 x1 hfc) (cwV 1 hts gX6_readTypes_X6_readOneType rfl rfl rfl (by decide +kernel) ⟨Nat.le_of_ble_eq_true rfl, Nat.le_of_ble_eq_true rfl⟩) ⟨fun a U g mk q => by obtain ⟨q0, q1, qP, qK, qD, qN, qS⟩ := q; exact ⟨q0, q1, qP, va_K.moved (u := U) (U := U.calling g mk a) (Vm.Alike.refl U.vm) qK, qD, qN.same rfl, SKs.moved (u := U) (U := U.calling g mk a) (Vm.Alike.refl U.vm) qS⟩, va_recv hK hP (ci := 6) (q0 := h0) rfl (Wd_ob kg_5 sg_5 (by decide)), fun U hU hW => ⟨rfl, by rw [hU], by rw [hU]; exact hP, va_K.moved hW.alike hK, hD.weaken (fun _ _ _ _ => trivial), hN.warm hW, by rw [hU]; exact ((hSK.kept hS.2.1).narrow hFc).moved hW.alike⟩⟩ rfl rfl hl.1 rfl (lv_room (Nat.le_of_ble_eq_true rfl)) dX6_readTypes_20 ⟨Nat.le_of_ble_eq_true rfl, Nat.le_of_ble_eq_true rfl⟩) hS (fun q _ h => hFc q h) hFc (fun rr u t H_10 locs ht hvm hw hB hz1 hk1 hS2 => ?_)
      rw [hw]
      clear hw
      obtain ⟨hP1, -, hD1⟩ := hB
      rw [ht] at hP1
      replace hD := hD1.weaken (fun _ _ _ h => hFc _ h)
      replace hP := hP1
      replace hS := hS2
      clear hP1 hD1 hS2 hFc hfc hz1 hk1 hvm ht
      obtain ⟨g_12, hf⟩ := grd_some hf
      obtain ⟨kg_12, sg_12⟩ := okO_at g_12
      obtain ⟨z_11, _u, hfc, hf⟩ := cal_some hf
      have hFc := de_free hD hS hA
      refine va_callv (va_runV (As := [.long r_9]) (rest := []) ⟨hx, hb, hml, hown, hts⟩ (de_X5_addType l dC dI cy a sh n H_10.size F z_8 k_7 r_9 hfc) (cwV 1 hts gX6_readTypes_X5_addType rfl rfl rfl (by decide +kernel) ⟨Nat.le_of_ble_eq_true rfl, Nat.le_of_ble_eq_true rfl⟩) ⟨fun a U g mk q => by obtain ⟨q0, q1, qP, qK, qD, qN⟩ := q; exact ⟨q0, q1, qP, va_K.moved (u := U) (U := U.calling g mk a) (Vm.Alike.refl U.vm) qK, qD, qN.same rfl⟩, va_recv hK hP (ci := 5) (q0 := k_7) rfl (Wd_ob kg_12 sg_12 (by decide)), fun U hU hW => ⟨rfl, by rw [hU], by rw [hU]; exact hP, va_K.moved hW.alike hK, hD.weaken (fun _ _ _ _ => trivial), hN.warm hW⟩⟩ rfl rfl hl.1 rfl (lv_room (Nat.le_of_ble_eq_true rfl)) dX6_readTypes_23 ⟨Nat.le_of_ble_eq_true rfl, Nat.le_of_ble_eq_true rfl⟩) hS (fun q _ h => hFc q h) hFc (fun u t H_13 locs ht hvm hw hB hz1 hk1 hS2 => ?_)
      obtain ⟨hP1, -, hD1⟩ := hB
      rw [ht] at hP1
      replace hD := hD1.weaken (fun _ _ _ h => hFc _ h)
      replace hP := hP1
      replace hS := hS2
      clear hP1 hD1 hS2 hFc hfc hz1 hk1 hvm ht
      refine lv_iinc (v := (p_1 + 1)) (lv' := [(3, .int (p_1 + 1)), (0, .ref (a h0)), (1, .int x0), (2, .int x1)]) hx hb dX6_readTypes_26 hl (k := 0) rfl rfl (by decide) rfl (fun ls hl2 => ?_)
      replace hl := hl2
      clear hl2
      refine lv_goto (tgt := 2) hx hb dX6_readTypes_29 (by decide) ?_
      exact ih2 (z_11, (p_1 + 1)) ls H_13 locs ⟨lv_sub hl [0, 1, 2, 3] rfl, hP, hD, hS⟩ hf

theorem md_X4_removeLast_2 : (.fieldLink RX4 12 "ResourceLedger$Machine" "heap" "LResourceLedger$Heap;" : Cond) ∈ wsX4_removeLast := List.mem_of_getElem? (i := 2) rfl
theorem iwd_X4_removeLast_X4 : ∀ w ∈ wsX40, w ∈ wsX4_removeLast := fun _ h => List.mem_cons_of_mem _ (List.mem_append_left _ (List.mem_append_right _ h))
theorem md_X4_removeLast_1 : (.constantLong RX4 339 (2) : Cond) ∈ wsX4_removeLast := List.mem_of_getElem? (i := 1) rfl
set_option maxHeartbeats 4000000 in
set_option maxRecDepth 100000 in
theorem de_X4_removeLast (l : Launch) (dC : Nat → ClassId) (dI : Nat → Nat → Nat) (cy : Nat → ClassId) (a : Nat → Nat) (sh : Nat → Nat × Nat) (n sz : Nat) (F : Nat) (z : St) (h0 : Nat) (x0 : Int32) (x1 : Int64) {z8 : St} {r8 : Unit} (hf : fn_X4_removeLast F sh n z h0 x0 x1 = some (z8, r8)) : Met l yX4_removeLast wsX4_removeLast ({ frames := 2, cells := 0, slots := 0, locals := 42 }) (va_Pc [.ref (a h0), .int x0, .long x1] (fun U => U.heap.size = sz ∧ va_P (dC, dI) vwCl (Wd cy a sh n z) U.heap ∧ va_K (dC, dI) vwCl (TYS cy) U ∧ va_D (fun _ => True) (Wd cy a sh n z) ∧ NK U)) (va_Qv (fun u : Unit => True) (fun u t => va_P (dC, dI) vwCl (Wd cy a sh n z8) t.heap ∧ va_K (dC, dI) vwCl (TYS cy) t ∧ va_D (va_A (Wd cy a sh n z) sz) (Wd cy a sh n z8)) (va_A (Wd cy a sh n z) sz)) 0 0 (va_A (Wd cy a sh n z) sz) := by
  refine Met.ofW (cc := cX4_removeLast) (maxL := 4) (ret := none) (by decide) rfl ?_
  intro p e s m args below meth c s₁ B hml hv
  obtain ⟨rfl, hsz, hP, hK, hD0, hN⟩ := hv
  have hx := B.exec
  have hb := B.bytes
  have hr := B.returns
  have hts := atoms_spec (ws := wsX4_removeLast) B.pre
  have hown : s.vm.findClass RX4 = some m.cls := findClass_of_methodNamed B.named
  have hlocks := B.notSynchronized
  subst hsz
  have hD := hD0.self (sz := s.heap.size)
  clear hD0
  generalize hAe : va_A (Wd cy a sh n z) s.heap.size = A at hD ⊢
  have hA : ∀ q : Nat, s.heap.size ≤ q → A q := fun q h => by rw [← hAe]; exact Or.inr h
  clear hAe
  have hS : va_S A s.heap s.heap [] := va_S.rf
  have hl := lv_entry ([.ref (a h0), .int x0, .long x1]) (n := 4) (Nat.le_of_ble_eq_true rfl)
  rw [lg_entry_eq]
  generalize (lg_sl ([.ref (a h0), .int x0, .long x1]) ++ List.replicate (4 - (lg_sl ([.ref (a h0), .int x0, .long x1])).length) Slot.unset).toArray = ls at hl ⊢
  replace hl : lv_has ls 4 [(0, .ref (a h0)), (1, .int x0), (2, .long x1)] := hl
  unfold fn_X4_removeLast at hf
  refine de_start hS hP (fun H locs hS hP => ?_)
  refine lv_lload_n hx hb dX4_removeLast_0 rfl (lv_at hl 2 rfl) ?_
  refine lv_lconst (v := 0) hx hb dX4_removeLast_1 (by decide) ?_
  refine W.lcmp hx hb dX4_removeLast_2 ?_
  refine lv_if_ne (tgt := 15) hx hb dX4_removeLast_3 (by decide) (fun c_1 => ?_) (fun c_1 => ?_)
  · skip
    rw [lg_cmp_eq] at c_1
    rw [if_neg c_1] at hf
    refine lv_aload_n hx hb dX4_removeLast_15 rfl (lv_at hl 0 rfl) ?_
    obtain ⟨g_4, hf⟩ := grd_some hf
    obtain ⟨kg_4, sg_4⟩ := okO_at g_4
    obtain ⟨z_2, r_3, hfc, hf⟩ := cal_some hf
    have hFc := de_free hD hS hA
    refine va_calli (va_runV (As := []) (rest := []) ⟨hx, hb, hml, hown, hts⟩ (de_X4_pop l dC dI cy a sh n H.size F z h0 hfc) (cwV 0 hts gX4_removeLast_X4_pop rfl rfl rfl (by decide +kernel) ⟨Nat.le_of_ble_eq_true rfl, Nat.le_of_ble_eq_true rfl⟩) ⟨fun a U g mk q => by obtain ⟨q0, q1, qP, qK, qD, qN⟩ := q; exact ⟨q0, q1, qP, va_K.moved (u := U) (U := U.calling g mk a) (Vm.Alike.refl U.vm) qK, qD, qN.same rfl⟩, va_recv hK hP (ci := 4) (q0 := h0) rfl (Wd_ob kg_4 sg_4 (by decide)), fun U hU hW => ⟨rfl, by rw [hU], by rw [hU]; exact hP, va_K.moved hW.alike hK, hD.weaken (fun _ _ _ _ => trivial), hN.warm hW⟩⟩ rfl rfl hl.1 rfl (lv_room (Nat.le_of_ble_eq_true rfl)) dX4_removeLast_16 ⟨Nat.le_of_ble_eq_true rfl, Nat.le_of_ble_eq_true rfl⟩) hS (fun q _ h => hFc q h) hFc (fun rr u t H_5 locs ht hvm hw hB hz1 hk1 hS2 => ?_)
    rw [hw]
    clear hw
    obtain ⟨hP1, -, hD1⟩ := hB
    rw [ht] at hP1
    replace hD := hD1.weaken (fun _ _ _ h => hFc _ h)
    replace hP := hP1
    replace hS := hS2
    clear hP1 hD1 hS2 hFc hfc hz1 hk1 hvm ht
    refine lv_pop hx hb dX4_removeLast_19 rfl ?_
    refine lv_aload_n hx hb dX4_removeLast_20 rfl (lv_at hl 0 rfl) ?_
    refine lv_aload_n hx hb dX4_removeLast_21 rfl (lv_at hl 0 rfl) ?_
    obtain ⟨k_6, ek_6, hf⟩ := lnk_some hf
    refine va_get (D := (dC, dI)) (ci := 4) (v := .ref (a k_6)) (C := RX4) (T := TX4) (N := 18) hx hb hts iwd_X4_removeLast_X4 hown hK hP h0 (Wd_ob kg_4 sg_4 (by decide)) rfl 1 (by decide) (hts _ md_X4_removeLast_2) (fun _ h9 => h9) (fl_q rfl ek_6) dX4_removeLast_22 ?_
    refine lv_iload_n hx hb dX4_removeLast_25 rfl (lv_at hl 1 rfl) ?_
    obtain ⟨g_9, hf⟩ := grd_some hf
    obtain ⟨kg_9, sg_9⟩ := okO_at g_9
    obtain ⟨z_7, r_8, hfc, hf⟩ := cal_some hf
    have hFc := de_free hD hS hA
    refine va_calli (va_runV (As := [.int x0]) (rest := [.ref (a h0)]) ⟨hx, hb, hml, hown, hts⟩ (de_X1_detach l dC dI cy a sh n H_5.size F z_2 k_6 x0 hfc) (cwV 1 hts gX4_removeLast_X1_detach rfl rfl rfl (by decide +kernel) ⟨Nat.le_of_ble_eq_true rfl, Nat.le_of_ble_eq_true rfl⟩) ⟨fun a U g mk q => by obtain ⟨q0, q1, qP, qK, qD, qN⟩ := q; exact ⟨q0, q1, qP, va_K.moved (u := U) (U := U.calling g mk a) (Vm.Alike.refl U.vm) qK, qD, qN.same rfl⟩, va_recv hK hP (ci := 1) (q0 := k_6) rfl (Wd_ob kg_9 sg_9 (by decide)), fun U hU hW => ⟨rfl, by rw [hU], by rw [hU]; exact hP, va_K.moved hW.alike hK, hD.weaken (fun _ _ _ _ => trivial), hN.warm hW⟩⟩ rfl rfl hl.1 rfl (lv_room (Nat.le_of_ble_eq_true rfl)) dX4_removeLast_26 ⟨Nat.le_of_ble_eq_true rfl, Nat.le_of_ble_eq_true rfl⟩) hS (fun q _ h => hFc q h) hFc (fun rr u t H_10 locs ht hvm hw hB hz1 hk1 hS2 => ?_)
    rw [hw]
    clear hw
    obtain ⟨hP1, -, hD1⟩ := hB
    rw [ht] at hP1
    replace hD := hD1.weaken (fun _ _ _ h => hFc _ h)
    replace hP := hP1
    replace hS := hS2
    clear hP1 hD1 hS2 hFc hfc hz1 hk1 hvm ht
    obtain ⟨z_11, _u, hfc, hf⟩ := cal_some hf
    have hFc := de_free hD hS hA
    refine va_callv (va_runV (As := [.int r_8]) (rest := []) ⟨hx, hb, hml, hown, hts⟩ (de_X4_push l dC dI cy a sh n H_10.size F z_7 h0 r_8 hfc) (cwV 1 hts gX4_removeLast_X4_push rfl rfl rfl (by decide +kernel) ⟨Nat.le_of_ble_eq_true rfl, Nat.le_of_ble_eq_true rfl⟩) ⟨fun a U g mk q => by obtain ⟨q0, q1, qP, qK, qD, qN⟩ := q; exact ⟨q0, q1, qP, va_K.moved (u := U) (U := U.calling g mk a) (Vm.Alike.refl U.vm) qK, qD, qN.same rfl⟩, va_recv hK hP (ci := 4) (q0 := h0) rfl (Wd_ob kg_4 sg_4 (by decide)), fun U hU hW => ⟨rfl, by rw [hU], by rw [hU]; exact hP, va_K.moved hW.alike hK, hD.weaken (fun _ _ _ _ => trivial), hN.warm hW⟩⟩ rfl rfl hl.1 rfl (lv_room (Nat.le_of_ble_eq_true rfl)) dX4_removeLast_29 ⟨Nat.le_of_ble_eq_true rfl, Nat.le_of_ble_eq_true rfl⟩) hS (fun q _ h => hFc q h) hFc (fun u t H_12 locs ht hvm hw hB hz1 hk1 hS2 => ?_)
    obtain ⟨hP1, -, hD1⟩ := hB
    rw [ht] at hP1
    replace hD := hD1.weaken (fun _ _ _ h => hFc _ h)
    replace hP := hP1
    replace hS := hS2
    clear hP1 hD1 hS2 hFc hfc hz1 hk1 hvm ht
    obtain ⟨h8, h9⟩ := ret_some hf
    rw [h8]
    exact W.vret hx hb hr (fun t ht hW => ⟨⟨(), rfl, trivial, by rw [ht]; exact hP, va_K.moved hW.alike hK, hD⟩, hS.F ht⟩) hS.2.2 dX4_removeLast_32
  · skip
    rw [lg_cmp_eq] at c_1
    rw [if_pos c_1] at hf
    refine lv_aload_n hx hb dX4_removeLast_6 rfl (lv_at hl 0 rfl) ?_
    refine lv_iconst (v := 2) hx hb dX4_removeLast_7 (by decide) ?_
    refine lv_ldc2 hx hb hown (hts _ md_X4_removeLast_1) dX4_removeLast_8 ?_
    obtain ⟨g_14, hf⟩ := grd_some hf
    obtain ⟨kg_14, sg_14⟩ := okO_at g_14
    obtain ⟨z_13, _u, hfc, hf⟩ := cal_some hf
    have hFc := de_free hD hS hA
    refine va_callv (va_runV (As := [.int 2, .long 2]) (rest := []) ⟨hx, hb, hml, hown, hts⟩ (de_X4_end l dC dI cy a sh n H.size F z h0 2 2 hfc) (cwV 2 hts gX4_removeLast_X4_end rfl rfl rfl (by decide +kernel) ⟨Nat.le_of_ble_eq_true rfl, Nat.le_of_ble_eq_true rfl⟩) ⟨fun a U g mk q => by obtain ⟨q0, q1, qP, qK, qD, qN⟩ := q; exact ⟨q0, q1, qP, va_K.moved (u := U) (U := U.calling g mk a) (Vm.Alike.refl U.vm) qK, qD, qN.same rfl⟩, va_recv hK hP (ci := 4) (q0 := h0) rfl (Wd_ob kg_14 sg_14 (by decide)), fun U hU hW => ⟨rfl, by rw [hU], by rw [hU]; exact hP, va_K.moved hW.alike hK, hD.weaken (fun _ _ _ _ => trivial), hN.warm hW⟩⟩ rfl rfl hl.1 rfl (lv_room (Nat.le_of_ble_eq_true rfl)) dX4_removeLast_11 ⟨Nat.le_of_ble_eq_true rfl, Nat.le_of_ble_eq_true rfl⟩) hS (fun q _ h => hFc q h) hFc (fun u t H_15 locs ht hvm hw hB hz1 hk1 hS2 => ?_)
    obtain ⟨hP1, -, hD1⟩ := hB
    rw [ht] at hP1
    replace hD := hD1.weaken (fun _ _ _ h => hFc _ h)
    replace hP := hP1
    replace hS := hS2
    clear hP1 hD1 hS2 hFc hfc hz1 hk1 hvm ht
    obtain ⟨h8, h9⟩ := ret_some hf
    rw [h8]
    exact W.vret hx hb hr (fun t ht hW => ⟨⟨(), rfl, trivial, by rw [ht]; exact hP, va_K.moved hW.alike hK, hD⟩, hS.F ht⟩) hS.2.2 dX4_removeLast_14

theorem md_X16_ownIn_1 : (.fieldLink RX16 92 "ResourceLedgerModel$Unit" "structures" "I" : Cond) ∈ wsX16_ownIn := List.mem_of_getElem? (i := 1) rfl
theorem iwd_X16_ownIn_X16 : ∀ w ∈ wsX160, w ∈ wsX16_ownIn := fun _ h => List.mem_cons_of_mem _ (List.mem_append_right _ h)
set_option maxHeartbeats 4000000 in
set_option maxRecDepth 100000 in
theorem de_X16_ownIn (l : Launch) (dC : Nat → ClassId) (dI : Nat → Nat → Nat) (cy : Nat → ClassId) (a : Nat → Nat) (sh : Nat → Nat × Nat) (n sz : Nat) (F : Nat) (z : St) (h0 : Nat) (x0 : Int32) {z8 : St} {r8 : Int32} (hf : fn_X16_ownIn F sh n z h0 x0 = some (z8, r8)) : Met l yX16_ownIn wsX16_ownIn ({ frames := 2, cells := 0, slots := 0, locals := 43 }) (va_Pc [.ref (a h0), .int x0] (fun U => U.heap.size = sz ∧ va_P (dC, dI) vwCl (Wd cy a sh n z) U.heap ∧ va_K (dC, dI) vwCl (TYS cy) U ∧ va_D (fun _ => True) (Wd cy a sh n z) ∧ NK U)) (va_Qi (fun (r9 : Int32) (u : Unit) => r9 = r8) (fun u t => va_P (dC, dI) vwCl (Wd cy a sh n z8) t.heap ∧ va_K (dC, dI) vwCl (TYS cy) t ∧ va_D (va_A (Wd cy a sh n z) sz) (Wd cy a sh n z8)) (va_A (Wd cy a sh n z) sz)) 0 0 (va_A (Wd cy a sh n z) sz) := by
  refine Met.ofW (cc := cX16_ownIn) (maxL := 3) (ret := (some .int)) (by decide) rfl ?_
  intro p e s m args below meth c s₁ B hml hv
  obtain ⟨rfl, hsz, hP, hK, hD0, hN⟩ := hv
  have hx := B.exec
  have hb := B.bytes
  have hr := B.returns
  have hts := atoms_spec (ws := wsX16_ownIn) B.pre
  have hown : s.vm.findClass RX16 = some m.cls := findClass_of_methodNamed B.named
  have hlocks := B.notSynchronized
  subst hsz
  have hD := hD0.self (sz := s.heap.size)
  clear hD0
  generalize hAe : va_A (Wd cy a sh n z) s.heap.size = A at hD ⊢
  have hA : ∀ q : Nat, s.heap.size ≤ q → A q := fun q h => by rw [← hAe]; exact Or.inr h
  clear hAe
  have hS : va_S A s.heap s.heap [] := va_S.rf
  have hl := lv_entry ([.ref (a h0), .int x0]) (n := 3) (Nat.le_of_ble_eq_true rfl)
  rw [lg_entry_eq]
  generalize (lg_sl ([.ref (a h0), .int x0]) ++ List.replicate (3 - (lg_sl ([.ref (a h0), .int x0])).length) Slot.unset).toArray = ls at hl ⊢
  replace hl : lv_has ls 3 [(0, .ref (a h0)), (1, .int x0)] := hl
  unfold fn_X16_ownIn at hf
  refine de_start hS hP (fun H locs hS hP => ?_)
  refine lv_aload_n hx hb dX16_ownIn_0 rfl (lv_at hl 0 rfl) ?_
  refine lv_aload_n hx hb dX16_ownIn_1 rfl (lv_at hl 0 rfl) ?_
  refine lv_iload_n hx hb dX16_ownIn_2 rfl (lv_at hl 1 rfl) ?_
  obtain ⟨g_3, hf⟩ := grd_some hf
  obtain ⟨kg_3, sg_3⟩ := okO_at g_3
  obtain ⟨z_1, r_2, hfc, hf⟩ := cal_some hf
  have hFc := de_free hD hS hA
  refine va_calli (va_runV (As := [.int x0]) (rest := [.ref (a h0)]) ⟨hx, hb, hml, hown, hts⟩ (de_X16_typeEnd l dC dI cy a sh n H.size F z h0 x0 hfc) (cwV 1 hts gX16_ownIn_X16_typeEnd rfl rfl rfl (by decide +kernel) ⟨Nat.le_of_ble_eq_true rfl, Nat.le_of_ble_eq_true rfl⟩) ⟨fun a U g mk q => by obtain ⟨q0, q1, qP, qK, qD, qN⟩ := q; exact ⟨q0, q1, qP, va_K.moved (u := U) (U := U.calling g mk a) (Vm.Alike.refl U.vm) qK, qD, qN.same rfl⟩, va_recv hK hP (ci := 16) (q0 := h0) rfl (Wd_ob kg_3 sg_3 (by decide)), fun U hU hW => ⟨rfl, by rw [hU], by rw [hU]; exact hP, va_K.moved hW.alike hK, hD.weaken (fun _ _ _ _ => trivial), hN.warm hW⟩⟩ rfl rfl hl.1 rfl (lv_room (Nat.le_of_ble_eq_true rfl)) dX16_ownIn_3 ⟨Nat.le_of_ble_eq_true rfl, Nat.le_of_ble_eq_true rfl⟩) hS (fun q _ h => hFc q h) hFc (fun rr u t H_4 locs ht hvm hw hB hz1 hk1 hS2 => ?_)
  rw [hw]
  clear hw
  obtain ⟨hP1, -, hD1⟩ := hB
  rw [ht] at hP1
  replace hD := hD1.weaken (fun _ _ _ h => hFc _ h)
  replace hP := hP1
  replace hS := hS2
  clear hP1 hD1 hS2 hFc hfc hz1 hk1 hvm ht
  refine lv_iconst (v := 1) hx hb dX16_ownIn_6 (by decide) ?_
  refine lv_isub hx hb dX16_ownIn_7 ?_
  obtain ⟨z_5, r_6, hfc, hf⟩ := cal_some hf
  have hFc := de_free hD hS hA
  refine va_calli (va_runV (As := [.int (r_2 - 1)]) (rest := []) ⟨hx, hb, hml, hown, hts⟩ (de_X16_byteAt l dC dI cy a sh n H_4.size F z_1 h0 (r_2 - 1) hfc) (cwV 1 hts gX16_ownIn_X16_byteAt rfl rfl rfl (by decide +kernel) ⟨Nat.le_of_ble_eq_true rfl, Nat.le_of_ble_eq_true rfl⟩) ⟨fun a U g mk q => by obtain ⟨q0, q1, qP, qK, qD, qN⟩ := q; exact ⟨q0, q1, qP, va_K.moved (u := U) (U := U.calling g mk a) (Vm.Alike.refl U.vm) qK, qD, qN.same rfl⟩, va_recv hK hP (ci := 16) (q0 := h0) rfl (Wd_ob kg_3 sg_3 (by decide)), fun U hU hW => ⟨rfl, by rw [hU], by rw [hU]; exact hP, va_K.moved hW.alike hK, hD.weaken (fun _ _ _ _ => trivial), hN.warm hW⟩⟩ rfl rfl hl.1 rfl (lv_room (Nat.le_of_ble_eq_true rfl)) dX16_ownIn_8 ⟨Nat.le_of_ble_eq_true rfl, Nat.le_of_ble_eq_true rfl⟩) hS (fun q _ h => hFc q h) hFc (fun rr u t H_7 locs ht hvm hw hB hz1 hk1 hS2 => ?_)
  rw [hw]
  clear hw
  obtain ⟨hP1, -, hD1⟩ := hB
  rw [ht] at hP1
  replace hD := hD1.weaken (fun _ _ _ h => hFc _ h)
  replace hP := hP1
  replace hS := hS2
  clear hP1 hD1 hS2 hFc hfc hz1 hk1 hvm ht
  refine lv_istore_n (lv' := [(2, .int r_6), (0, .ref (a h0)), (1, .int x0)]) hx hb dX16_ownIn_11 rfl hl (by decide) rfl (fun ls hl2 => ?_)
  replace hl := hl2
  clear hl2
  refine lv_aload_n hx hb dX16_ownIn_12 rfl (lv_at hl 1 rfl) ?_
  refine lv_iload_n hx hb dX16_ownIn_13 rfl (lv_at hl 2 rfl) ?_
  obtain ⟨z_8, r_9, hfc, hf⟩ := cal_some hf
  have hFc := de_free hD hS hA
  refine va_calli (va_runV (As := [.int x0]) (rest := []) ⟨hx, hb, hml, hown, hts⟩ (de_X16_isStructureType l dC dI cy a sh n H_7.size F z_5 h0 x0 hfc) (cwV 1 hts gX16_ownIn_X16_isStructureType rfl rfl rfl (by decide +kernel) ⟨Nat.le_of_ble_eq_true rfl, Nat.le_of_ble_eq_true rfl⟩) ⟨fun a U g mk q => by obtain ⟨q0, q1, qP, qK, qD, qN⟩ := q; exact ⟨q0, q1, qP, va_K.moved (u := U) (U := U.calling g mk a) (Vm.Alike.refl U.vm) qK, qD, qN.same rfl⟩, va_recv hK hP (ci := 16) (q0 := h0) rfl (Wd_ob kg_3 sg_3 (by decide)), fun U hU hW => ⟨rfl, by rw [hU], by rw [hU]; exact hP, va_K.moved hW.alike hK, hD.weaken (fun _ _ _ _ => trivial), hN.warm hW⟩⟩ rfl rfl hl.1 rfl (lv_room (Nat.le_of_ble_eq_true rfl)) dX16_ownIn_14 ⟨Nat.le_of_ble_eq_true rfl, Nat.le_of_ble_eq_true rfl⟩) hS (fun q _ h => hFc q h) hFc (fun rr u t H_10 locs ht hvm hw hB hz1 hk1 hS2 => ?_)
  rw [hw]
  clear hw
  obtain ⟨hP1, -, hD1⟩ := hB
  rw [ht] at hP1
  replace hD := hD1.weaken (fun _ _ _ h => hFc _ h)
  replace hP := hP1
  replace hS := hS2
  clear hP1 hD1 hS2 hFc hfc hz1 hk1 hvm ht
  refine lv_if_eq (tgt := 32) hx hb dX16_ownIn_17 (by decide) (fun c_11 => ?_) (fun c_11 => ?_)
  · skip
    rw [if_pos c_11] at hf
    refine lv_iconst (v := (-1)) hx hb dX16_ownIn_32 (by decide) ?_
    obtain ⟨h8, h9⟩ := ret_some hf
    rw [h8, h9]
    exact W.iret (v := (-1)) hx hb hr (fun t ht hW => ⟨⟨(-1), (), rfl, rfl, by rw [ht]; exact hP, va_K.moved hW.alike hK, hD⟩, hS.F ht⟩) hS.2.2 dX16_ownIn_33
  · skip
    rw [if_neg c_11] at hf
    refine lv_iload_n hx hb dX16_ownIn_20 rfl (lv_at hl 0 rfl) ?_
    refine lv_aload_n hx hb dX16_ownIn_21 rfl (lv_at hl 1 rfl) ?_
    refine va_get (D := (dC, dI)) (ci := 16) (v := .int (z_8.1 h0 5)) (C := RX16) (T := TX16) (N := 18) hx hb hts iwd_X16_ownIn_X16 hown hK hP h0 (Wd_ob kg_3 sg_3 (by decide)) rfl 5 (by decide) (hts _ md_X16_ownIn_1) (fun _ h9 => h9) (fl_at (t := 0) rfl) dX16_ownIn_22 ?_
    refine lv_icmp_ge (tgt := 32) hx hb dX16_ownIn_25 (by decide) (fun c_12 => ?_) (fun c_12 => ?_)
    · skip
      rw [if_pos c_12] at hf
      refine lv_iconst (v := (-1)) hx hb dX16_ownIn_32 (by decide) ?_
      obtain ⟨h8, h9⟩ := ret_some hf
      rw [h8, h9]
      exact W.iret (v := (-1)) hx hb hr (fun t ht hW => ⟨⟨(-1), (), rfl, rfl, by rw [ht]; exact hP, va_K.moved hW.alike hK, hD⟩, hS.F ht⟩) hS.2.2 dX16_ownIn_33
    · skip
      rw [if_neg c_12] at hf
      refine lv_iload_n hx hb dX16_ownIn_28 rfl (lv_at hl 0 rfl) ?_
      refine lv_goto (tgt := 33) hx hb dX16_ownIn_29 (by decide) ?_
      obtain ⟨h8, h9⟩ := ret_some hf
      rw [h8, h9]
      exact W.iret (v := r_6) hx hb hr (fun t ht hW => ⟨⟨r_6, (), rfl, rfl, by rw [ht]; exact hP, va_K.moved hW.alike hK, hD⟩, hS.F ht⟩) hS.2.2 dX16_ownIn_33

set_option maxHeartbeats 4000000 in
set_option maxRecDepth 100000 in
theorem de_X5_localType (l : Launch) (dC : Nat → ClassId) (dI : Nat → Nat → Nat) (cy : Nat → ClassId) (a : Nat → Nat) (sh : Nat → Nat × Nat) (n sz : Nat) (F : Nat) (z : St) (h0 : Nat) (x0 : Int32) (x1 : Int32) {z8 : St} {r8 : Int64} (hf : fn_X5_localType F sh n z h0 x0 x1 = some (z8, r8)) : Met l yX5_localType wsX5_localType ({ frames := 2, cells := 0, slots := 0, locals := 44 }) (va_Pc [.ref (a h0), .int x0, .int x1] (fun U => U.heap.size = sz ∧ va_P (dC, dI) vwCl (Wd cy a sh n z) U.heap ∧ va_K (dC, dI) vwCl (TYS cy) U ∧ va_D (fun _ => True) (Wd cy a sh n z) ∧ NK U)) (va_Ql (fun (r9 : Int64) (u : Unit) => r9 = r8) (fun u t => va_P (dC, dI) vwCl (Wd cy a sh n z8) t.heap ∧ va_K (dC, dI) vwCl (TYS cy) t ∧ va_D (va_A (Wd cy a sh n z) sz) (Wd cy a sh n z8)) (va_A (Wd cy a sh n z) sz)) 0 0 (va_A (Wd cy a sh n z) sz) := by
  refine Met.ofW (cc := cX5_localType) (maxL := 3) (ret := (some .long)) (by decide) rfl ?_
  intro p e s m args below meth c s₁ B hml hv
  obtain ⟨rfl, hsz, hP, hK, hD0, hN⟩ := hv
  have hx := B.exec
  have hb := B.bytes
  have hr := B.returns
  have hts := atoms_spec (ws := wsX5_localType) B.pre
  have hown : s.vm.findClass RX5 = some m.cls := findClass_of_methodNamed B.named
  have hlocks := B.notSynchronized
  subst hsz
  have hD := hD0.self (sz := s.heap.size)
  clear hD0
  generalize hAe : va_A (Wd cy a sh n z) s.heap.size = A at hD ⊢
  have hA : ∀ q : Nat, s.heap.size ≤ q → A q := fun q h => by rw [← hAe]; exact Or.inr h
  clear hAe
  have hS : va_S A s.heap s.heap [] := va_S.rf
  have hl := lv_entry ([.ref (a h0), .int x0, .int x1]) (n := 3) (Nat.le_of_ble_eq_true rfl)
  rw [lg_entry_eq]
  generalize (lg_sl ([.ref (a h0), .int x0, .int x1]) ++ List.replicate (3 - (lg_sl ([.ref (a h0), .int x0, .int x1])).length) Slot.unset).toArray = ls at hl ⊢
  replace hl : lv_has ls 3 [(0, .ref (a h0)), (1, .int x0), (2, .int x1)] := hl
  unfold fn_X5_localType at hf
  refine de_start hS hP (fun H locs hS hP => ?_)
  refine lv_aload_n hx hb dX5_localType_0 rfl (lv_at hl 0 rfl) ?_
  refine lv_aload_n hx hb dX5_localType_1 rfl (lv_at hl 0 rfl) ?_
  refine lv_iload_n hx hb dX5_localType_2 rfl (lv_at hl 1 rfl) ?_
  refine lv_iconst (v := 1) hx hb dX5_localType_3 (by decide) ?_
  obtain ⟨g_3, hf⟩ := grd_some hf
  obtain ⟨kg_3, sg_3⟩ := okO_at g_3
  obtain ⟨z_1, r_2, hfc, hf⟩ := cal_some hf
  have hFc := de_free hD hS hA
  refine va_calli (va_runV (As := [.int x0, .int 1]) (rest := [.ref (a h0)]) ⟨hx, hb, hml, hown, hts⟩ (de_X5_functionColumn l dC dI cy a sh n H.size F z h0 x0 1 hfc) (cwV 2 hts gX5_localType_X5_functionColumn rfl rfl rfl (by decide +kernel) ⟨Nat.le_of_ble_eq_true rfl, Nat.le_of_ble_eq_true rfl⟩) ⟨fun a U g mk q => by obtain ⟨q0, q1, qP, qK, qD, qN⟩ := q; exact ⟨q0, q1, qP, va_K.moved (u := U) (U := U.calling g mk a) (Vm.Alike.refl U.vm) qK, qD, qN.same rfl⟩, va_recv hK hP (ci := 5) (q0 := h0) rfl (Wd_ob kg_3 sg_3 (by decide)), fun U hU hW => ⟨rfl, by rw [hU], by rw [hU]; exact hP, va_K.moved hW.alike hK, hD.weaken (fun _ _ _ _ => trivial), hN.warm hW⟩⟩ rfl rfl hl.1 rfl (lv_room (Nat.le_of_ble_eq_true rfl)) dX5_localType_4 ⟨Nat.le_of_ble_eq_true rfl, Nat.le_of_ble_eq_true rfl⟩) hS (fun q _ h => hFc q h) hFc (fun rr u t H_4 locs ht hvm hw hB hz1 hk1 hS2 => ?_)
  rw [hw]
  clear hw
  obtain ⟨hP1, -, hD1⟩ := hB
  rw [ht] at hP1
  replace hD := hD1.weaken (fun _ _ _ h => hFc _ h)
  replace hP := hP1
  replace hS := hS2
  clear hP1 hD1 hS2 hFc hfc hz1 hk1 hvm ht
  refine lv_iload_n hx hb dX5_localType_7 rfl (lv_at hl 2 rfl) ?_
  refine lv_aload_n hx hb dX5_localType_8 rfl (lv_at hl 0 rfl) ?_
  refine lv_iload_n hx hb dX5_localType_9 rfl (lv_at hl 1 rfl) ?_
  obtain ⟨z_5, r_6, hfc, hf⟩ := cal_some hf
  have hFc := de_free hD hS hA
  refine va_calli (va_runV (As := [.int x0]) (rest := [.int x1, .int r_2, .ref (a h0)]) ⟨hx, hb, hml, hown, hts⟩ (de_X5_takes l dC dI cy a sh n H_4.size F z_1 h0 x0 hfc) (cwV 1 hts gX5_localType_X5_takes rfl rfl rfl (by decide +kernel) ⟨Nat.le_of_ble_eq_true rfl, Nat.le_of_ble_eq_true rfl⟩) ⟨fun a U g mk q => by obtain ⟨q0, q1, qP, qK, qD, qN⟩ := q; exact ⟨q0, q1, qP, va_K.moved (u := U) (U := U.calling g mk a) (Vm.Alike.refl U.vm) qK, qD, qN.same rfl⟩, va_recv hK hP (ci := 5) (q0 := h0) rfl (Wd_ob kg_3 sg_3 (by decide)), fun U hU hW => ⟨rfl, by rw [hU], by rw [hU]; exact hP, va_K.moved hW.alike hK, hD.weaken (fun _ _ _ _ => trivial), hN.warm hW⟩⟩ rfl rfl hl.1 rfl (lv_room (Nat.le_of_ble_eq_true rfl)) dX5_localType_10 ⟨Nat.le_of_ble_eq_true rfl, Nat.le_of_ble_eq_true rfl⟩) hS (fun q _ h => hFc q h) hFc (fun rr u t H_7 locs ht hvm hw hB hz1 hk1 hS2 => ?_)
  rw [hw]
  clear hw
  obtain ⟨hP1, -, hD1⟩ := hB
  rw [ht] at hP1
  replace hD := hD1.weaken (fun _ _ _ h => hFc _ h)
  replace hP := hP1
  replace hS := hS2
  clear hP1 hD1 hS2 hFc hfc hz1 hk1 hvm ht
  refine lv_icmp_ge (tgt := 20) hx hb dX5_localType_13 (by decide) (fun c_8 => ?_) (fun c_8 => ?_)
  · skip
    rw [if_pos c_8] at hf
    refine lv_aload_n hx hb dX5_localType_20 rfl (lv_at hl 0 rfl) ?_
    refine lv_iload_n hx hb dX5_localType_21 rfl (lv_at hl 1 rfl) ?_
    obtain ⟨z_9, r_10, hfc, hf⟩ := cal_some hf
    have hFc := de_free hD hS hA
    refine va_calli (va_runV (As := [.int x0]) (rest := [.int r_2, .ref (a h0)]) ⟨hx, hb, hml, hown, hts⟩ (de_X5_gives l dC dI cy a sh n H_7.size F z_5 h0 x0 hfc) (cwV 1 hts gX5_localType_X5_gives rfl rfl rfl (by decide +kernel) ⟨Nat.le_of_ble_eq_true rfl, Nat.le_of_ble_eq_true rfl⟩) ⟨fun a U g mk q => by obtain ⟨q0, q1, qP, qK, qD, qN⟩ := q; exact ⟨q0, q1, qP, va_K.moved (u := U) (U := U.calling g mk a) (Vm.Alike.refl U.vm) qK, qD, qN.same rfl⟩, va_recv hK hP (ci := 5) (q0 := h0) rfl (Wd_ob kg_3 sg_3 (by decide)), fun U hU hW => ⟨rfl, by rw [hU], by rw [hU]; exact hP, va_K.moved hW.alike hK, hD.weaken (fun _ _ _ _ => trivial), hN.warm hW⟩⟩ rfl rfl hl.1 rfl (lv_room (Nat.le_of_ble_eq_true rfl)) dX5_localType_22 ⟨Nat.le_of_ble_eq_true rfl, Nat.le_of_ble_eq_true rfl⟩) hS (fun q _ h => hFc q h) hFc (fun rr u t H_11 locs ht hvm hw hB hz1 hk1 hS2 => ?_)
    rw [hw]
    clear hw
    obtain ⟨hP1, -, hD1⟩ := hB
    rw [ht] at hP1
    replace hD := hD1.weaken (fun _ _ _ h => hFc _ h)
    replace hP := hP1
    replace hS := hS2
    clear hP1 hD1 hS2 hFc hfc hz1 hk1 hvm ht
    refine lv_iload_n hx hb dX5_localType_25 rfl (lv_at hl 2 rfl) ?_
    refine lv_iadd hx hb dX5_localType_26 ?_
    refine lv_iadd hx hb dX5_localType_27 ?_
    obtain ⟨z_12, r_13, hfc, hf⟩ := cal_some hf
    have hFc := de_free hD hS hA
    refine va_calll (va_runV (As := [.int (r_2 + (r_10 + x1))]) (rest := []) ⟨hx, hb, hml, hown, hts⟩ (de_X5_typeAt l dC dI cy a sh n H_11.size F z_9 h0 (r_2 + (r_10 + x1)) hfc) (cwV 1 hts gX5_localType_X5_typeAt rfl rfl rfl (by decide +kernel) ⟨Nat.le_of_ble_eq_true rfl, Nat.le_of_ble_eq_true rfl⟩) ⟨fun a U g mk q => by obtain ⟨q0, q1, qP, qK, qD, qN⟩ := q; exact ⟨q0, q1, qP, va_K.moved (u := U) (U := U.calling g mk a) (Vm.Alike.refl U.vm) qK, qD, qN.same rfl⟩, va_recv hK hP (ci := 5) (q0 := h0) rfl (Wd_ob kg_3 sg_3 (by decide)), fun U hU hW => ⟨rfl, by rw [hU], by rw [hU]; exact hP, va_K.moved hW.alike hK, hD.weaken (fun _ _ _ _ => trivial), hN.warm hW⟩⟩ rfl rfl hl.1 rfl (lv_room (Nat.le_of_ble_eq_true rfl)) dX5_localType_28 ⟨Nat.le_of_ble_eq_true rfl, Nat.le_of_ble_eq_true rfl⟩) hS (fun q _ h => hFc q h) hFc (fun rr u t H_14 locs ht hvm hw hB hz1 hk1 hS2 => ?_)
    rw [hw]
    clear hw
    obtain ⟨hP1, -, hD1⟩ := hB
    rw [ht] at hP1
    replace hD := hD1.weaken (fun _ _ _ h => hFc _ h)
    replace hP := hP1
    replace hS := hS2
    clear hP1 hD1 hS2 hFc hfc hz1 hk1 hvm ht
    obtain ⟨h8, h9⟩ := ret_some hf
    rw [h8, h9]
    exact W.lret (v := r_13) hx hb hr (fun t ht hW => ⟨⟨r_13, (), rfl, rfl, by rw [ht]; exact hP, va_K.moved hW.alike hK, hD⟩, hS.F ht⟩) hS.2.2 dX5_localType_31
  · skip
    rw [if_neg c_8] at hf
    refine lv_iload_n hx hb dX5_localType_16 rfl (lv_at hl 2 rfl) ?_
    refine lv_goto (tgt := 27) hx hb dX5_localType_17 (by decide) ?_
    refine lv_iadd hx hb dX5_localType_27 ?_
    obtain ⟨z_15, r_16, hfc, hf⟩ := cal_some hf
    have hFc := de_free hD hS hA
    refine va_calll (va_runV (As := [.int (r_2 + x1)]) (rest := []) ⟨hx, hb, hml, hown, hts⟩ (de_X5_typeAt l dC dI cy a sh n H_7.size F z_5 h0 (r_2 + x1) hfc) (cwV 1 hts gX5_localType_X5_typeAt rfl rfl rfl (by decide +kernel) ⟨Nat.le_of_ble_eq_true rfl, Nat.le_of_ble_eq_true rfl⟩) ⟨fun a U g mk q => by obtain ⟨q0, q1, qP, qK, qD, qN⟩ := q; exact ⟨q0, q1, qP, va_K.moved (u := U) (U := U.calling g mk a) (Vm.Alike.refl U.vm) qK, qD, qN.same rfl⟩, va_recv hK hP (ci := 5) (q0 := h0) rfl (Wd_ob kg_3 sg_3 (by decide)), fun U hU hW => ⟨rfl, by rw [hU], by rw [hU]; exact hP, va_K.moved hW.alike hK, hD.weaken (fun _ _ _ _ => trivial), hN.warm hW⟩⟩ rfl rfl hl.1 rfl (lv_room (Nat.le_of_ble_eq_true rfl)) dX5_localType_28 ⟨Nat.le_of_ble_eq_true rfl, Nat.le_of_ble_eq_true rfl⟩) hS (fun q _ h => hFc q h) hFc (fun rr u t H_17 locs ht hvm hw hB hz1 hk1 hS2 => ?_)
    rw [hw]
    clear hw
    obtain ⟨hP1, -, hD1⟩ := hB
    rw [ht] at hP1
    replace hD := hD1.weaken (fun _ _ _ h => hFc _ h)
    replace hP := hP1
    replace hS := hS2
    clear hP1 hD1 hS2 hFc hfc hz1 hk1 hvm ht
    obtain ⟨h8, h9⟩ := ret_some hf
    rw [h8, h9]
    exact W.lret (v := r_16) hx hb hr (fun t ht hW => ⟨⟨r_16, (), rfl, rfl, by rw [ht]; exact hP, va_K.moved hW.alike hK, hD⟩, hS.F ht⟩) hS.2.2 dX5_localType_31

theorem md_X14_add_1 : (.fieldLink RX14 35 "ResourceLedgerModel$Roots" "digester" "LResourceLedgerModel$Digester;" : Cond) ∈ wsX14_add := List.mem_of_getElem? (i := 1) rfl
theorem iwd_X14_add_X14 : ∀ w ∈ wsX140, w ∈ wsX14_add := fun _ h => List.mem_cons_of_mem _ (List.mem_append_left _ (List.mem_append_right _ h))
set_option maxHeartbeats 4000000 in
set_option maxRecDepth 100000 in
theorem de_X14_add (l : Launch) (dC : Nat → ClassId) (dI : Nat → Nat → Nat) (cy : Nat → ClassId) (a : Nat → Nat) (sh : Nat → Nat × Nat) (n sz : Nat) (F : Nat) (z : St) (h0 : Nat) (x0 : Nat) (x1 : Int32) (x2 : Int32) {z8 : St} {r8 : Unit} (hf : fn_X14_add F sh n z h0 x0 x1 x2 = some (z8, r8)) : Met l yX14_add wsX14_add ({ frames := 2, cells := 0, slots := 0, locals := 45 }) (va_Pc [.ref (a h0), .ref (a x0), .int x1, .int x2] (fun U => U.heap.size = sz ∧ va_P (dC, dI) vwCl (Wd cy a sh n z) U.heap ∧ va_K (dC, dI) vwCl (TYS cy) U ∧ va_D (fun _ => True) (Wd cy a sh n z) ∧ NK U)) (va_Qv (fun u : Unit => True) (fun u t => va_P (dC, dI) vwCl (Wd cy a sh n z8) t.heap ∧ va_K (dC, dI) vwCl (TYS cy) t ∧ va_D (va_A (Wd cy a sh n z) sz) (Wd cy a sh n z8)) (va_A (Wd cy a sh n z) sz)) 0 0 (va_A (Wd cy a sh n z) sz) := by
  refine Met.ofW (cc := cX14_add) (maxL := 5) (ret := none) (by decide) rfl ?_
  intro p e s m args below meth c s₁ B hml hv
  obtain ⟨rfl, hsz, hP, hK, hD0, hN⟩ := hv
  have hx := B.exec
  have hb := B.bytes
  have hr := B.returns
  have hts := atoms_spec (ws := wsX14_add) B.pre
  have hown : s.vm.findClass RX14 = some m.cls := findClass_of_methodNamed B.named
  have hlocks := B.notSynchronized
  subst hsz
  have hD := hD0.self (sz := s.heap.size)
  clear hD0
  generalize hAe : va_A (Wd cy a sh n z) s.heap.size = A at hD ⊢
  have hA : ∀ q : Nat, s.heap.size ≤ q → A q := fun q h => by rw [← hAe]; exact Or.inr h
  clear hAe
  have hS : va_S A s.heap s.heap [] := va_S.rf
  have hl := lv_entry ([.ref (a h0), .ref (a x0), .int x1, .int x2]) (n := 5) (Nat.le_of_ble_eq_true rfl)
  rw [lg_entry_eq]
  generalize (lg_sl ([.ref (a h0), .ref (a x0), .int x1, .int x2]) ++ List.replicate (5 - (lg_sl ([.ref (a h0), .ref (a x0), .int x1, .int x2])).length) Slot.unset).toArray = ls at hl ⊢
  replace hl : lv_has ls 5 [(0, .ref (a h0)), (1, .ref (a x0)), (2, .int x1), (3, .int x2)] := hl
  unfold fn_X14_add at hf
  refine de_start hS hP (fun H locs hS hP => ?_)
  refine lv_iconst (v := 0) hx hb dX14_add_0 (by decide) ?_
  refine lv_istore (lv' := [(4, .int 0), (0, .ref (a h0)), (1, .ref (a x0)), (2, .int x1), (3, .int x2)]) hx hb dX14_add_1 hl (by decide) rfl (fun ls hl2 => ?_)
  replace hl := hl2
  clear hl2
  have hl0 : lv_has ls 5 [(4, .int 0), (0, .ref (a h0)), (1, .ref (a x0)), (2, .int x1), (3, .int x2)] := lv_sub hl [0, 1, 2, 3, 4] rfl
  refine de_loop (h := 3) (fun (x : St × Int32) ls H locs => lv_has ls 5 [(4, .int x.2), (0, .ref (a h0)), (1, .ref (a x0)), (2, .int x1), (3, .int x2)] ∧ va_P (dC, dI) vwCl (Wd cy a sh n x.1) H ∧ va_D A (Wd cy a sh n x.1) ∧ va_S A s.heap H locs) (fun f x => fn_X14_add_L3 F sh n h0 x2 x0 x1 f x.1 x.2) (z8, r8) ?_ (fun _ => rfl) F (z, 0) ls H locs ⟨hl0, hP, hD, hS⟩ hf
  intro f_3 x ls H locs ih3 hI hf
  obtain ⟨z_2, p_1⟩ := x
  obtain ⟨hl2, hP2, hD2, hS2⟩ := hI
  replace hl : lv_has ls 5 [(4, .int p_1), (0, .ref (a h0)), (1, .ref (a x0)), (2, .int x1), (3, .int x2)] := hl2
  replace hP := hP2
  replace hD := hD2
  replace hS := hS2
  clear hl2 hP2 hD2 hS2 hl0
  replace hf := fn_X14_add_L3_s hf
  refine lv_iload hx hb dX14_add_3 (lv_at hl 0 rfl) ?_
  refine lv_iconst (v := 4) hx hb dX14_add_5 (by decide) ?_
  refine lv_icmp_ge (tgt := 38) hx hb dX14_add_6 (by decide) (fun c_4 => ?_) (fun c_4 => ?_)
  · skip
    rw [if_pos c_4] at hf
    obtain ⟨h8, h9⟩ := ret_some hf
    rw [h8]
    exact W.vret hx hb hr (fun t ht hW => ⟨⟨(), rfl, trivial, by rw [ht]; exact hP, va_K.moved hW.alike hK, hD⟩, hS.F ht⟩) hS.2.2 dX14_add_38
  · skip
    rw [if_neg c_4] at hf
    refine lv_aload_n hx hb dX14_add_9 rfl (lv_at hl 1 rfl) ?_
    obtain ⟨g_5, hf⟩ := grd_some hf
    obtain ⟨kg_5, sg_5⟩ := okO_at g_5
    obtain ⟨k_6, ek_6, hf⟩ := lnk_some hf
    refine va_get (D := (dC, dI)) (ci := 14) (v := .ref (a k_6)) (C := RX14) (T := TX14) (N := 11) hx hb hts iwd_X14_add_X14 hown hK hP h0 (Wd_ob kg_5 sg_5 (by decide)) rfl 10 (by decide) (hts _ md_X14_add_1) (fun _ h9 => h9) (fl_q rfl ek_6) dX14_add_10 ?_
    refine lv_iload_n hx hb dX14_add_13 rfl (lv_at hl 4 rfl) ?_
    refine de_cut (h := 27) (fun (x : St × Int64) => [.long x.2, .ref (a k_6)]) (fun x ls H locs => lv_has ls 5 [(4, .int p_1), (0, .ref (a h0)), (1, .ref (a x0)), (2, .int x1), (3, .int x2)] ∧ va_P (dC, dI) vwCl (Wd cy a sh n x.1) H ∧ va_D A (Wd cy a sh n x.1) ∧ va_S A s.heap H locs) (fun x => fn_X14_add_B27 F sh n k_6 p_1 (fun z9 q4 => fn_X14_add_L3 F sh n h0 x2 x0 x1 f_3 z9 q4) x.1 x.2) (z8, r8) ?_ (fun B27 => ?_)
    · intro x ls H locs hI hf
      obtain ⟨z_8, p_7⟩ := x
      obtain ⟨hl2, hP2, hD2, hS2⟩ := hI
      replace hl : lv_has ls 5 [(4, .int p_1), (0, .ref (a h0)), (1, .ref (a x0)), (2, .int x1), (3, .int x2)] := hl2
      replace hP := hP2
      replace hD := hD2
      replace hS := hS2
      clear hl2 hP2 hD2 hS2
      replace hf := fn_X14_add_B27_s hf
      refine W.eq (g2 := F0 m 27 ls [.long p_7, .ref (a k_6)]) rfl ?_
      refine lv_bipush (v := 8) hx hb dX14_add_27 (by decide) ?_
      obtain ⟨g_10, hf⟩ := grd_some hf
      obtain ⟨kg_10, sg_10⟩ := okO_at g_10
      obtain ⟨z_9, _u, hfc, hf⟩ := cal_some hf
      have hFc := de_free hD hS hA
      refine va_callv (va_runV (As := [.long p_7, .int 8]) (rest := []) ⟨hx, hb, hml, hown, hts⟩ (de_X12_addNumber l dC dI cy a sh n H.size F z_8 k_6 p_7 8 hfc) (cwV 2 hts gX14_add_X12_addNumber rfl rfl rfl (by decide +kernel) ⟨Nat.le_of_ble_eq_true rfl, Nat.le_of_ble_eq_true rfl⟩) ⟨fun a U g mk q => by obtain ⟨q0, q1, qP, qK, qD, qN⟩ := q; exact ⟨q0, q1, qP, va_K.moved (u := U) (U := U.calling g mk a) (Vm.Alike.refl U.vm) qK, qD, qN.same rfl⟩, va_recv hK hP (ci := 12) (q0 := k_6) rfl (Wd_ob kg_10 sg_10 (by decide)), fun U hU hW => ⟨rfl, by rw [hU], by rw [hU]; exact hP, va_K.moved hW.alike hK, hD.weaken (fun _ _ _ _ => trivial), hN.warm hW⟩⟩ rfl rfl hl.1 rfl (lv_room (Nat.le_of_ble_eq_true rfl)) dX14_add_29 ⟨Nat.le_of_ble_eq_true rfl, Nat.le_of_ble_eq_true rfl⟩) hS (fun q _ h => hFc q h) hFc (fun u t H_11 locs ht hvm hw hB hz1 hk1 hS2 => ?_)
      obtain ⟨hP1, -, hD1⟩ := hB
      rw [ht] at hP1
      replace hD := hD1.weaken (fun _ _ _ h => hFc _ h)
      replace hP := hP1
      replace hS := hS2
      clear hP1 hD1 hS2 hFc hfc hz1 hk1 hvm ht
      refine lv_iinc (v := (p_1 + 1)) (lv' := [(4, .int (p_1 + 1)), (0, .ref (a h0)), (1, .ref (a x0)), (2, .int x1), (3, .int x2)]) hx hb dX14_add_32 hl (k := 0) rfl rfl (by decide) rfl (fun ls hl2 => ?_)
      replace hl := hl2
      clear hl2
      refine lv_goto (tgt := 3) hx hb dX14_add_35 (by decide) ?_
      exact ih3 (z_9, (p_1 + 1)) ls H_11 locs ⟨lv_sub hl [0, 1, 2, 3, 4] rfl, hP, hD, hS⟩ hf
    refine lv_if_eq (tgt := 26) hx hb dX14_add_14 (by decide) (fun c_12 => ?_) (fun c_12 => ?_)
    · skip
      rw [if_pos c_12] at hf
      refine lv_lconst (v := 0) hx hb dX14_add_26 (by decide) ?_
      exact B27 (z_2, 0) ls H locs ⟨lv_sub hl [0, 1, 2, 3, 4] rfl, hP, hD, hS⟩ hf
    · skip
      rw [if_neg c_12] at hf
      refine lv_aload_n hx hb dX14_add_17 rfl (lv_at hl 2 rfl) ?_
      refine lv_iload_n hx hb dX14_add_18 rfl (lv_at hl 3 rfl) ?_
      refine lv_iload hx hb dX14_add_19 (lv_at hl 0 rfl) ?_
      refine lv_iadd hx hb dX14_add_21 ?_
      obtain ⟨g_13, hf⟩ := grd_some hf
      obtain ⟨kg_13, sg_13, ig_13⟩ := okA_at g_13
      refine va_lald hx hb hK hP x0 2 (Wd_al kg_13 sg_13) rfl ig_13 dX14_add_22 ?_
      refine lv_goto (tgt := 27) hx hb dX14_add_23 (by decide) ?_
      exact B27 (z_2, (z_2.2.1 x0 (x1 + p_1).toNatClampNeg)) ls H locs ⟨lv_sub hl [0, 1, 2, 3, 4] rfl, hP, hD, hS⟩ hf

