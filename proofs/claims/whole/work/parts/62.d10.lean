theorem md_X6_read_1 : (.fieldLink RX6 17 "ResourceLedger$Reader" "p" "LResourceLedger$Program;" : Cond) ∈ wsX6_read := List.mem_of_getElem? (i := 1) rfl
theorem iwd_X6_read_X6 : ∀ w ∈ wsX60, w ∈ wsX6_read := fun _ h => List.mem_cons_of_mem _ (List.mem_append_left _ (List.mem_append_right _ h))
theorem md_X6_read_2 : (.fieldLink RX6 21 "ResourceLedger$Reader" "fault" "I" : Cond) ∈ wsX6_read := List.mem_of_getElem? (i := 2) rfl
theorem md_X6_read_3 : (.fieldLink RX6 25 "ResourceLedger$Reader" "place" "I" : Cond) ∈ wsX6_read := List.mem_of_getElem? (i := 3) rfl
theorem md_X6_read_4 : (.fieldLink RX6 28 "ResourceLedger$Reader" "judging" "Z" : Cond) ∈ wsX6_read := List.mem_of_getElem? (i := 4) rfl
theorem md_X6_read_5 : (.fieldLink RX6 32 "ResourceLedger$Reader" "at" "I" : Cond) ∈ wsX6_read := List.mem_of_getElem? (i := 5) rfl
theorem md_X6_read_6 : (.fieldLink RX6 35 "ResourceLedger$Reader" "told" "I" : Cond) ∈ wsX6_read := List.mem_of_getElem? (i := 6) rfl
theorem md_X6_read_7 : (.fieldLink RX6 53 "ResourceLedger$Program" "typeCount" "I" : Cond) ∈ wsX6_read := List.mem_of_getElem? (i := 7) rfl
theorem iwd_X6_read_X5 : ∀ w ∈ wsX50, w ∈ wsX6_read := fun _ h => List.mem_cons_of_mem _ (List.mem_append_right _ h)
theorem md_X6_read_8 : (.fieldLink RX6 56 "ResourceLedger$Program" "firstElement" "I" : Cond) ∈ wsX6_read := List.mem_of_getElem? (i := 8) rfl
theorem md_X6_read_9 : (.fieldLink RX6 63 "ResourceLedger$Program" "elementCount" "I" : Cond) ∈ wsX6_read := List.mem_of_getElem? (i := 9) rfl
theorem md_X6_read_10 : (.fieldLink RX6 73 "ResourceLedger$Program" "length" "I" : Cond) ∈ wsX6_read := List.mem_of_getElem? (i := 10) rfl
set_option maxHeartbeats 4000000 in
set_option maxRecDepth 100000 in
theorem de_X6_read (l : Launch) (dC : Nat → ClassId) (dI : Nat → Nat → Nat) (cy : Nat → ClassId) (a : Nat → Nat) (sh : Nat → Nat × Nat) (n sz : Nat) (F : Nat) (sk : Nat → Nat) (z : St) (h0 : Nat) (x0 : Nat) {z8 : St} {r8 : Int32} (hf : fn_X6_read F sh n z h0 x0 = some (z8, r8)) : Met l yX6_read wsX6_read ({ frames := 5, cells := 0, slots := 0, locals := 119 }) (va_Pc [.ref (a h0), .ref (a x0)] (fun U => U.heap.size = sz ∧ va_P (dC, dI) vwCl (Wd cy a sh n z) U.heap ∧ va_K (dC, dI) vwCl (TYS cy) U ∧ va_D (fun _ => True) (Wd cy a sh n z) ∧ NK U ∧ SKs sk (a CBK) (va_A (Wd cy a sh n z) sz) U U.heap)) (va_Qi (fun (r9 : Int32) (u : Unit) => r9 = r8) (fun u t => va_P (dC, dI) vwCl (Wd cy a sh n z8) t.heap ∧ va_K (dC, dI) vwCl (TYS cy) t ∧ va_D (va_A (Wd cy a sh n z) sz) (Wd cy a sh n z8)) (va_A (Wd cy a sh n z) sz)) 0 0 (va_A (Wd cy a sh n z) sz) := by
  refine Met.ofW (cc := cX6_read) (maxL := 3) (ret := (some .int)) (by decide) rfl ?_
  intro p e s m args below meth c s₁ B hml hv
  obtain ⟨rfl, hsz, hP, hK, hD0, hN, hSK⟩ := hv
  have hx := B.exec
  have hb := B.bytes
  have hr := B.returns
  have hts := atoms_spec (ws := wsX6_read) B.pre
  have hown : s.vm.findClass RX6 = some m.cls := findClass_of_methodNamed B.named
  have hlocks := B.notSynchronized
  subst hsz
  have hD := hD0.self (sz := s.heap.size)
  clear hD0
  generalize hAe : va_A (Wd cy a sh n z) s.heap.size = A at hD hSK ⊢
  have hA : ∀ q : Nat, s.heap.size ≤ q → A q := fun q h => by rw [← hAe]; exact Or.inr h
  clear hAe
  have hS : va_S A s.heap s.heap [] := va_S.rf
  have hl := lv_entry ([.ref (a h0), .ref (a x0)]) (n := 3) (Nat.le_of_ble_eq_true rfl)
  rw [lg_entry_eq]
  generalize (lg_sl ([.ref (a h0), .ref (a x0)]) ++ List.replicate (3 - (lg_sl ([.ref (a h0), .ref (a x0)])).length) Slot.unset).toArray = ls at hl ⊢
  replace hl : lv_has ls 3 [(0, .ref (a h0)), (1, .ref (a x0))] := hl
  unfold fn_X6_read at hf
  refine de_start hS hP (fun H locs hS hP => ?_)
  refine lv_aload_n hx hb dX6_read_0 rfl (lv_at hl 0 rfl) ?_
  refine lv_aload_n hx hb dX6_read_1 rfl (lv_at hl 1 rfl) ?_
  obtain ⟨g_1, hf⟩ := grd_some hf
  obtain ⟨kg_1, sg_1⟩ := okO_at g_1
  refine va_put (D := (dC, dI)) (ci := 6) (v := .ref (a x0)) (ty := .object "ResourceLedger$Program") (C := RX6) (T := TX6) (N := 9) hx hb hts iwd_X6_read_X6 tyX6 tyX6_ok nmX6 hown hK hP hD hS h0 (Wd_ob kg_1 sg_1 (by decide)) rfl 2 (by decide) (hts _ md_X6_read_1) (fun _ h9 => h9) rfl (by decide +kernel) rfl rfl (by rw [fl_len]; decide) dX6_read_2 (fun H_2 locs hP2 hD2 hS2 => ?_)
  rw [Wd_sq1 sg_1 (by decide) rfl] at hP2 hD2
  obtain ⟨z_3, ez_3⟩ : ∃ w, w = sq z h0 2 (some x0) := ⟨_, rfl⟩
  rw [← ez_3] at hP2 hD2
  replace hf := lt_at ez_3 hf
  clear ez_3
  replace hP := hP2
  replace hD := hD2
  replace hS := hS2
  clear hP2 hD2 hS2
  refine lv_aload_n hx hb dX6_read_5 rfl (lv_at hl 0 rfl) ?_
  refine lv_iconst (v := 0) hx hb dX6_read_6 (by decide) ?_
  refine va_put (D := (dC, dI)) (ci := 6) (v := .int 0) (ty := .int) (C := RX6) (T := TX6) (N := 9) hx hb hts iwd_X6_read_X6 tyX6 tyX6_ok nmX6 hown hK hP hD hS h0 (Wd_ob kg_1 sg_1 (by decide)) rfl 1 (by decide) (hts _ md_X6_read_2) (fun _ h9 => h9) rfl (by decide +kernel) rfl rfl (by rw [fl_len]; decide) dX6_read_7 (fun H_4 locs hP2 hD2 hS2 => ?_)
  rw [Wd_si sg_1 (by decide) rfl] at hP2 hD2
  obtain ⟨z_5, ez_5⟩ : ∃ w, w = si z_3 h0 1 0 := ⟨_, rfl⟩
  rw [← ez_5] at hP2 hD2
  replace hf := lt_at ez_5 hf
  clear ez_5
  replace hP := hP2
  replace hD := hD2
  replace hS := hS2
  clear hP2 hD2 hS2
  refine lv_aload_n hx hb dX6_read_10 rfl (lv_at hl 0 rfl) ?_
  refine lv_iconst (v := 0) hx hb dX6_read_11 (by decide) ?_
  refine va_put (D := (dC, dI)) (ci := 6) (v := .int 0) (ty := .int) (C := RX6) (T := TX6) (N := 9) hx hb hts iwd_X6_read_X6 tyX6 tyX6_ok nmX6 hown hK hP hD hS h0 (Wd_ob kg_1 sg_1 (by decide)) rfl 0 (by decide) (hts _ md_X6_read_3) (fun _ h9 => h9) rfl (by decide +kernel) rfl rfl (by rw [fl_len]; decide) dX6_read_12 (fun H_6 locs hP2 hD2 hS2 => ?_)
  rw [Wd_si sg_1 (by decide) rfl] at hP2 hD2
  obtain ⟨z_7, ez_7⟩ : ∃ w, w = si z_5 h0 0 0 := ⟨_, rfl⟩
  rw [← ez_7] at hP2 hD2
  replace hf := lt_at ez_7 hf
  clear ez_7
  replace hP := hP2
  replace hD := hD2
  replace hS := hS2
  clear hP2 hD2 hS2
  refine lv_iconst (v := 0) hx hb dX6_read_15 (by decide) ?_
  refine lv_istore_n (lv' := [(2, .int 0), (0, .ref (a h0)), (1, .ref (a x0))]) hx hb dX6_read_16 rfl hl (by decide) rfl (fun ls hl2 => ?_)
  replace hl := hl2
  clear hl2
  have hl0 : lv_has ls 3 [(2, .int 0), (0, .ref (a h0))] := lv_sub hl [0, 1] rfl
  refine de_loop (h := 17) (fun (x : St × Int32) ls H locs => lv_has ls 3 [(2, .int x.2), (0, .ref (a h0))] ∧ va_P (dC, dI) vwCl (Wd cy a sh n x.1) H ∧ va_D A (Wd cy a sh n x.1) ∧ va_S A s.heap H locs) (fun f x => fn_X6_read_L17 F sh n h0 f x.1 x.2) (z8, r8) ?_ (fun _ => rfl) F (z_7, 0) ls H_6 locs ⟨hl0, hP, hD, hS⟩ hf
  intro f_10 x ls H locs ih17 hI hf
  obtain ⟨z_9, p_8⟩ := x
  obtain ⟨hl2, hP2, hD2, hS2⟩ := hI
  replace hl : lv_has ls 3 [(2, .int p_8), (0, .ref (a h0))] := hl2
  replace hP := hP2
  replace hD := hD2
  replace hS := hS2
  clear hl2 hP2 hD2 hS2 hl0
  replace hf := fn_X6_read_L17_s hf
  refine lv_iload_n hx hb dX6_read_17 rfl (lv_at hl 0 rfl) ?_
  refine lv_iconst (v := 2) hx hb dX6_read_18 (by decide) ?_
  refine de_cut (h := 150) (fun (x : St) => []) (fun x ls H locs => lv_has ls 3 [(0, .ref (a h0))] ∧ va_P (dC, dI) vwCl (Wd cy a sh n x) H ∧ va_D A (Wd cy a sh n x) ∧ va_S A s.heap H locs) (fun x => fn_X6_read_B150 F sh n h0 x) (z8, r8) ?_ (fun B150 => ?_)
  · intro x ls H locs hI hf
    obtain ⟨z_11, ez⟩ : ∃ w, w = x := ⟨_, rfl⟩
    subst ez
    obtain ⟨hl2, hP2, hD2, hS2⟩ := hI
    replace hl : lv_has ls 3 [(0, .ref (a h0))] := hl2
    replace hP := hP2
    replace hD := hD2
    replace hS := hS2
    clear hl2 hP2 hD2 hS2
    replace hf := fn_X6_read_B150_s hf
    refine W.eq (g2 := F0 m 150 ls []) rfl ?_
    refine lv_aload_n hx hb dX6_read_150 rfl (lv_at hl 0 rfl) ?_
    refine va_get (D := (dC, dI)) (ci := 6) (v := .int (z_11.1 h0 1)) (C := RX6) (T := TX6) (N := 9) hx hb hts iwd_X6_read_X6 hown hK hP h0 (Wd_ob kg_1 sg_1 (by decide)) rfl 1 (by decide) (hts _ md_X6_read_2) (fun _ h9 => h9) (fl_at (t := 0) rfl) dX6_read_151 ?_
    refine lv_if_ne (tgt := 161) hx hb dX6_read_154 (by decide) (fun c_12 => ?_) (fun c_12 => ?_)
    · skip
      rw [if_neg c_12] at hf
      refine lv_aload_n hx hb dX6_read_161 rfl (lv_at hl 0 rfl) ?_
      refine va_get (D := (dC, dI)) (ci := 6) (v := .int (z_11.1 h0 1)) (C := RX6) (T := TX6) (N := 9) hx hb hts iwd_X6_read_X6 hown hK hP h0 (Wd_ob kg_1 sg_1 (by decide)) rfl 1 (by decide) (hts _ md_X6_read_2) (fun _ h9 => h9) (fl_at (t := 0) rfl) dX6_read_162 ?_
      obtain ⟨h8, h9⟩ := ret_some hf
      rw [h8, h9]
      exact W.iret (v := (z_11.1 h0 1)) hx hb hr (fun t ht hW => ⟨⟨(z_11.1 h0 1), (), rfl, rfl, by rw [ht]; exact hP, va_K.moved hW.alike hK, hD⟩, hS.F ht⟩) hS.2.2 dX6_read_165
    · skip
      rw [if_pos c_12] at hf
      refine lv_aload_n hx hb dX6_read_157 rfl (lv_at hl 0 rfl) ?_
      obtain ⟨z_13, _u, hfc, hf⟩ := cal_some hf
      have hFc := de_free hD hS hA
      refine va_callv (va_runV (As := []) (rest := []) ⟨hx, hb, hml, hown, hts⟩ (de_X6_findRound l dC dI cy a sh n H.size F z_11 h0 hfc) (cwV 0 hts gX6_read_X6_findRound rfl rfl rfl (by decide +kernel) ⟨Nat.le_of_ble_eq_true rfl, Nat.le_of_ble_eq_true rfl⟩) ⟨fun a U g mk q => by obtain ⟨q0, q1, qP, qK, qD, qN⟩ := q; exact ⟨q0, q1, qP, va_K.moved (u := U) (U := U.calling g mk a) (Vm.Alike.refl U.vm) qK, qD, qN.same rfl⟩, va_recv hK hP (ci := 6) (q0 := h0) rfl (Wd_ob kg_1 sg_1 (by decide)), fun U hU hW => ⟨rfl, by rw [hU], by rw [hU]; exact hP, va_K.moved hW.alike hK, hD.weaken (fun _ _ _ _ => trivial), hN.warm hW⟩⟩ rfl rfl hl.1 rfl (lv_room (Nat.le_of_ble_eq_true rfl)) dX6_read_158 ⟨Nat.le_of_ble_eq_true rfl, Nat.le_of_ble_eq_true rfl⟩) hS (fun q _ h => hFc q h) hFc (fun u t H_14 locs ht hvm hw hB hz1 hk1 hS2 => ?_)
      obtain ⟨hP1, -, hD1⟩ := hB
      rw [ht] at hP1
      replace hD := hD1.weaken (fun _ _ _ h => hFc _ h)
      replace hP := hP1
      replace hS := hS2
      clear hP1 hD1 hS2 hFc hfc hz1 hk1 hvm ht
      refine lv_aload_n hx hb dX6_read_161 rfl (lv_at hl 0 rfl) ?_
      refine va_get (D := (dC, dI)) (ci := 6) (v := .int (z_13.1 h0 1)) (C := RX6) (T := TX6) (N := 9) hx hb hts iwd_X6_read_X6 hown hK hP h0 (Wd_ob kg_1 sg_1 (by decide)) rfl 1 (by decide) (hts _ md_X6_read_2) (fun _ h9 => h9) (fl_at (t := 0) rfl) dX6_read_162 ?_
      obtain ⟨h8, h9⟩ := ret_some hf
      rw [h8, h9]
      exact W.iret (v := (z_13.1 h0 1)) hx hb hr (fun t ht hW => ⟨⟨(z_13.1 h0 1), (), rfl, rfl, by rw [ht]; exact hP, va_K.moved hW.alike hK, hD⟩, hS.F ht⟩) hS.2.2 dX6_read_165
  refine lv_icmp_ge (tgt := 150) hx hb dX6_read_19 (by decide) (fun c_15 => ?_) (fun c_15 => ?_)
  · skip
    rw [if_pos c_15] at hf
    exact B150 (z_9) ls H locs ⟨lv_sub hl [1] rfl, hP, hD, hS⟩ hf
  · skip
    rw [if_neg c_15] at hf
    refine lv_aload_n hx hb dX6_read_22 rfl (lv_at hl 1 rfl) ?_
    refine va_get (D := (dC, dI)) (ci := 6) (v := .int (z_9.1 h0 1)) (C := RX6) (T := TX6) (N := 9) hx hb hts iwd_X6_read_X6 hown hK hP h0 (Wd_ob kg_1 sg_1 (by decide)) rfl 1 (by decide) (hts _ md_X6_read_2) (fun _ h9 => h9) (fl_at (t := 0) rfl) dX6_read_23 ?_
    refine lv_if_ne (tgt := 150) hx hb dX6_read_26 (by decide) (fun c_16 => ?_) (fun c_16 => ?_)
    · skip
      rw [if_neg c_16] at hf
      exact B150 (z_9) ls H locs ⟨lv_sub hl [1] rfl, hP, hD, hS⟩ hf
    · skip
      rw [if_pos c_16] at hf
      refine lv_aload_n hx hb dX6_read_29 rfl (lv_at hl 1 rfl) ?_
      refine lv_iload_n hx hb dX6_read_30 rfl (lv_at hl 0 rfl) ?_
      refine lv_iconst (v := 1) hx hb dX6_read_31 (by decide) ?_
      refine de_cut (h := 40) (fun (x : St × Int32) => [.int x.2, .ref (a h0)]) (fun x ls H locs => lv_has ls 3 [(2, .int p_8), (0, .ref (a h0))] ∧ va_P (dC, dI) vwCl (Wd cy a sh n x.1) H ∧ va_D A (Wd cy a sh n x.1) ∧ va_S A s.heap H locs) (fun x => fn_X6_read_B40 F sh n h0 p_8 (fun z9 q2 => fn_X6_read_L17 F sh n h0 f_10 z9 q2) x.1 x.2) (z8, r8) ?_ (fun B40 => ?_)
      · intro x ls H locs hI hf
        obtain ⟨z_18, p_17⟩ := x
        obtain ⟨hl2, hP2, hD2, hS2⟩ := hI
        replace hl : lv_has ls 3 [(2, .int p_8), (0, .ref (a h0))] := hl2
        replace hP := hP2
        replace hD := hD2
        replace hS := hS2
        clear hl2 hP2 hD2 hS2
        replace hf := fn_X6_read_B40_s hf
        refine W.eq (g2 := F0 m 40 ls [.int p_17, .ref (a h0)]) rfl ?_
        obtain ⟨g_19, hf⟩ := grd_some hf
        refine va_put (D := (dC, dI)) (ci := 6) (v := .int p_17) (ty := .boolean) (C := RX6) (T := TX6) (N := 9) hx hb hts iwd_X6_read_X6 tyX6 tyX6_ok nmX6 hown hK hP hD hS h0 (Wd_ob kg_1 sg_1 (by decide)) rfl 4 (by decide) (hts _ md_X6_read_4) (fun _ h9 => h9) rfl (by decide +kernel) (nar_z g_19) (fit_z g_19) (by rw [fl_len]; decide) dX6_read_40 (fun H_20 locs hP2 hD2 hS2 => ?_)
        rw [Wd_si sg_1 (by decide) rfl] at hP2 hD2
        obtain ⟨z_21, ez_21⟩ : ∃ w, w = si z_18 h0 4 p_17 := ⟨_, rfl⟩
        rw [← ez_21] at hP2 hD2
        replace hf := lt_at ez_21 hf
        clear ez_21
        replace hP := hP2
        replace hD := hD2
        replace hS := hS2
        clear hP2 hD2 hS2
        refine lv_aload_n hx hb dX6_read_43 rfl (lv_at hl 1 rfl) ?_
        refine lv_iconst (v := 0) hx hb dX6_read_44 (by decide) ?_
        refine va_put (D := (dC, dI)) (ci := 6) (v := .int 0) (ty := .int) (C := RX6) (T := TX6) (N := 9) hx hb hts iwd_X6_read_X6 tyX6 tyX6_ok nmX6 hown hK hP hD hS h0 (Wd_ob kg_1 sg_1 (by decide)) rfl 3 (by decide) (hts _ md_X6_read_5) (fun _ h9 => h9) rfl (by decide +kernel) rfl rfl (by rw [fl_len]; decide) dX6_read_45 (fun H_22 locs hP2 hD2 hS2 => ?_)
        rw [Wd_si sg_1 (by decide) rfl] at hP2 hD2
        obtain ⟨z_23, ez_23⟩ : ∃ w, w = si z_21 h0 3 0 := ⟨_, rfl⟩
        rw [← ez_23] at hP2 hD2
        replace hf := lt_at ez_23 hf
        clear ez_23
        replace hP := hP2
        replace hD := hD2
        replace hS := hS2
        clear hP2 hD2 hS2
        refine lv_aload_n hx hb dX6_read_48 rfl (lv_at hl 1 rfl) ?_
        refine lv_iconst (v := 0) hx hb dX6_read_49 (by decide) ?_
        refine va_put (D := (dC, dI)) (ci := 6) (v := .int 0) (ty := .int) (C := RX6) (T := TX6) (N := 9) hx hb hts iwd_X6_read_X6 tyX6 tyX6_ok nmX6 hown hK hP hD hS h0 (Wd_ob kg_1 sg_1 (by decide)) rfl 5 (by decide) (hts _ md_X6_read_6) (fun _ h9 => h9) rfl (by decide +kernel) rfl rfl (by rw [fl_len]; decide) dX6_read_50 (fun H_24 locs hP2 hD2 hS2 => ?_)
        rw [Wd_si sg_1 (by decide) rfl] at hP2 hD2
        obtain ⟨z_25, ez_25⟩ : ∃ w, w = si z_23 h0 5 0 := ⟨_, rfl⟩
        rw [← ez_25] at hP2 hD2
        replace hf := lt_at ez_25 hf
        clear ez_25
        replace hP := hP2
        replace hD := hD2
        replace hS := hS2
        clear hP2 hD2 hS2
        refine lv_aload_n hx hb dX6_read_53 rfl (lv_at hl 1 rfl) ?_
        obtain ⟨k_26, ek_26, hf⟩ := lnk_some hf
        refine va_get (D := (dC, dI)) (ci := 6) (v := .ref (a k_26)) (C := RX6) (T := TX6) (N := 9) hx hb hts iwd_X6_read_X6 hown hK hP h0 (Wd_ob kg_1 sg_1 (by decide)) rfl 2 (by decide) (hts _ md_X6_read_1) (fun _ h9 => h9) (fl_q rfl ek_26) dX6_read_54 ?_
        obtain ⟨g_28, hf⟩ := grd_some hf
        obtain ⟨kg_28, sg_28⟩ := okO_at g_28
        obtain ⟨z_27, _u, hfc, hf⟩ := cal_some hf
        have hFc := de_free hD hS hA
        refine va_callv (va_runV (As := []) (rest := []) ⟨hx, hb, hml, hown, hts⟩ (de_X5_clear l dC dI cy a sh n H_24.size F z_25 k_26 hfc) (cwV 0 hts gX6_read_X5_clear rfl rfl rfl (by decide +kernel) ⟨Nat.le_of_ble_eq_true rfl, Nat.le_of_ble_eq_true rfl⟩) ⟨fun a U g mk q => by obtain ⟨q0, q1, qP, qK, qD, qN⟩ := q; exact ⟨q0, q1, qP, va_K.moved (u := U) (U := U.calling g mk a) (Vm.Alike.refl U.vm) qK, qD, qN.same rfl⟩, va_recv hK hP (ci := 5) (q0 := k_26) rfl (Wd_ob kg_28 sg_28 (by decide)), fun U hU hW => ⟨rfl, by rw [hU], by rw [hU]; exact hP, va_K.moved hW.alike hK, hD.weaken (fun _ _ _ _ => trivial), hN.warm hW⟩⟩ rfl rfl hl.1 rfl (lv_room (Nat.le_of_ble_eq_true rfl)) dX6_read_57 ⟨Nat.le_of_ble_eq_true rfl, Nat.le_of_ble_eq_true rfl⟩) hS (fun q _ h => hFc q h) hFc (fun u t H_29 locs ht hvm hw hB hz1 hk1 hS2 => ?_)
        obtain ⟨hP1, -, hD1⟩ := hB
        rw [ht] at hP1
        replace hD := hD1.weaken (fun _ _ _ h => hFc _ h)
        replace hP := hP1
        replace hS := hS2
        clear hP1 hD1 hS2 hFc hfc hz1 hk1 hvm ht
        refine lv_aload_n hx hb dX6_read_60 rfl (lv_at hl 1 rfl) ?_
        obtain ⟨z_30, _u, hfc, hf⟩ := cal_some hf
        have hFc := de_free hD hS hA
        refine va_callv (va_runV (As := []) (rest := []) ⟨hx, hb, hml, hown, hts⟩ (de_X6_readBeginning l dC dI cy a sh n H_29.size F sk z_27 h0 hfc) (cwV 0 hts gX6_read_X6_readBeginning rfl rfl rfl (by decide +kernel) ⟨Nat.le_of_ble_eq_true rfl, Nat.le_of_ble_eq_true rfl⟩) ⟨fun a U g mk q => by obtain ⟨q0, q1, qP, qK, qD, qN, qS⟩ := q; exact ⟨q0, q1, qP, va_K.moved (u := U) (U := U.calling g mk a) (Vm.Alike.refl U.vm) qK, qD, qN.same rfl, SKs.moved (u := U) (U := U.calling g mk a) (Vm.Alike.refl U.vm) qS⟩, va_recv hK hP (ci := 6) (q0 := h0) rfl (Wd_ob kg_1 sg_1 (by decide)), fun U hU hW => ⟨rfl, by rw [hU], by rw [hU]; exact hP, va_K.moved hW.alike hK, hD.weaken (fun _ _ _ _ => trivial), hN.warm hW, by rw [hU]; exact ((hSK.kept hS.2.1).narrow hFc).moved hW.alike⟩⟩ rfl rfl hl.1 rfl (lv_room (Nat.le_of_ble_eq_true rfl)) dX6_read_61 ⟨Nat.le_of_ble_eq_true rfl, Nat.le_of_ble_eq_true rfl⟩) hS (fun q _ h => hFc q h) hFc (fun u t H_31 locs ht hvm hw hB hz1 hk1 hS2 => ?_)
        obtain ⟨hP1, -, hD1⟩ := hB
        rw [ht] at hP1
        replace hD := hD1.weaken (fun _ _ _ h => hFc _ h)
        replace hP := hP1
        replace hS := hS2
        clear hP1 hD1 hS2 hFc hfc hz1 hk1 hvm ht
        refine lv_aload_n hx hb dX6_read_64 rfl (lv_at hl 1 rfl) ?_
        obtain ⟨z_32, _u, hfc, hf⟩ := cal_some hf
        have hFc := de_free hD hS hA
        refine va_callv (va_runV (As := []) (rest := []) ⟨hx, hb, hml, hown, hts⟩ (de_X6_readStructures l dC dI cy a sh n H_31.size F sk z_30 h0 hfc) (cwV 0 hts gX6_read_X6_readStructures rfl rfl rfl (by decide +kernel) ⟨Nat.le_of_ble_eq_true rfl, Nat.le_of_ble_eq_true rfl⟩) ⟨fun a U g mk q => by obtain ⟨q0, q1, qP, qK, qD, qN, qS⟩ := q; exact ⟨q0, q1, qP, va_K.moved (u := U) (U := U.calling g mk a) (Vm.Alike.refl U.vm) qK, qD, qN.same rfl, SKs.moved (u := U) (U := U.calling g mk a) (Vm.Alike.refl U.vm) qS⟩, va_recv hK hP (ci := 6) (q0 := h0) rfl (Wd_ob kg_1 sg_1 (by decide)), fun U hU hW => ⟨rfl, by rw [hU], by rw [hU]; exact hP, va_K.moved hW.alike hK, hD.weaken (fun _ _ _ _ => trivial), hN.warm hW, by rw [hU]; exact ((hSK.kept hS.2.1).narrow hFc).moved hW.alike⟩⟩ rfl rfl hl.1 rfl (lv_room (Nat.le_of_ble_eq_true rfl)) dX6_read_65 ⟨Nat.le_of_ble_eq_true rfl, Nat.le_of_ble_eq_true rfl⟩) hS (fun q _ h => hFc q h) hFc (fun u t H_33 locs ht hvm hw hB hz1 hk1 hS2 => ?_)
        obtain ⟨hP1, -, hD1⟩ := hB
        rw [ht] at hP1
        replace hD := hD1.weaken (fun _ _ _ h => hFc _ h)
        replace hP := hP1
        replace hS := hS2
        clear hP1 hD1 hS2 hFc hfc hz1 hk1 hvm ht
        refine lv_aload_n hx hb dX6_read_68 rfl (lv_at hl 1 rfl) ?_
        obtain ⟨z_34, _u, hfc, hf⟩ := cal_some hf
        have hFc := de_free hD hS hA
        refine va_callv (va_runV (As := []) (rest := []) ⟨hx, hb, hml, hown, hts⟩ (de_X6_readForeignStructures l dC dI cy a sh n H_33.size F sk z_32 h0 hfc) (cwV 0 hts gX6_read_X6_readForeignStructures rfl rfl rfl (by decide +kernel) ⟨Nat.le_of_ble_eq_true rfl, Nat.le_of_ble_eq_true rfl⟩) ⟨fun a U g mk q => by obtain ⟨q0, q1, qP, qK, qD, qN, qS⟩ := q; exact ⟨q0, q1, qP, va_K.moved (u := U) (U := U.calling g mk a) (Vm.Alike.refl U.vm) qK, qD, qN.same rfl, SKs.moved (u := U) (U := U.calling g mk a) (Vm.Alike.refl U.vm) qS⟩, va_recv hK hP (ci := 6) (q0 := h0) rfl (Wd_ob kg_1 sg_1 (by decide)), fun U hU hW => ⟨rfl, by rw [hU], by rw [hU]; exact hP, va_K.moved hW.alike hK, hD.weaken (fun _ _ _ _ => trivial), hN.warm hW, by rw [hU]; exact ((hSK.kept hS.2.1).narrow hFc).moved hW.alike⟩⟩ rfl rfl hl.1 rfl (lv_room (Nat.le_of_ble_eq_true rfl)) dX6_read_69 ⟨Nat.le_of_ble_eq_true rfl, Nat.le_of_ble_eq_true rfl⟩) hS (fun q _ h => hFc q h) hFc (fun u t H_35 locs ht hvm hw hB hz1 hk1 hS2 => ?_)
        obtain ⟨hP1, -, hD1⟩ := hB
        rw [ht] at hP1
        replace hD := hD1.weaken (fun _ _ _ h => hFc _ h)
        replace hP := hP1
        replace hS := hS2
        clear hP1 hD1 hS2 hFc hfc hz1 hk1 hvm ht
        refine lv_aload_n hx hb dX6_read_72 rfl (lv_at hl 1 rfl) ?_
        obtain ⟨z_36, _u, hfc, hf⟩ := cal_some hf
        have hFc := de_free hD hS hA
        refine va_callv (va_runV (As := []) (rest := []) ⟨hx, hb, hml, hown, hts⟩ (de_X6_readForeignFunctions l dC dI cy a sh n H_35.size F sk z_34 h0 hfc) (cwV 0 hts gX6_read_X6_readForeignFunctions rfl rfl rfl (by decide +kernel) ⟨Nat.le_of_ble_eq_true rfl, Nat.le_of_ble_eq_true rfl⟩) ⟨fun a U g mk q => by obtain ⟨q0, q1, qP, qK, qD, qN, qS⟩ := q; exact ⟨q0, q1, qP, va_K.moved (u := U) (U := U.calling g mk a) (Vm.Alike.refl U.vm) qK, qD, qN.same rfl, SKs.moved (u := U) (U := U.calling g mk a) (Vm.Alike.refl U.vm) qS⟩, va_recv hK hP (ci := 6) (q0 := h0) rfl (Wd_ob kg_1 sg_1 (by decide)), fun U hU hW => ⟨rfl, by rw [hU], by rw [hU]; exact hP, va_K.moved hW.alike hK, hD.weaken (fun _ _ _ _ => trivial), hN.warm hW, by rw [hU]; exact ((hSK.kept hS.2.1).narrow hFc).moved hW.alike⟩⟩ rfl rfl hl.1 rfl (lv_room (Nat.le_of_ble_eq_true rfl)) dX6_read_73 ⟨Nat.le_of_ble_eq_true rfl, Nat.le_of_ble_eq_true rfl⟩) hS (fun q _ h => hFc q h) hFc (fun u t H_37 locs ht hvm hw hB hz1 hk1 hS2 => ?_)
        obtain ⟨hP1, -, hD1⟩ := hB
        rw [ht] at hP1
        replace hD := hD1.weaken (fun _ _ _ h => hFc _ h)
        replace hP := hP1
        replace hS := hS2
        clear hP1 hD1 hS2 hFc hfc hz1 hk1 hvm ht
        refine lv_aload_n hx hb dX6_read_76 rfl (lv_at hl 1 rfl) ?_
        obtain ⟨k_38, ek_38, hf⟩ := lnk_some hf
        refine va_get (D := (dC, dI)) (ci := 6) (v := .ref (a k_38)) (C := RX6) (T := TX6) (N := 9) hx hb hts iwd_X6_read_X6 hown hK hP h0 (Wd_ob kg_1 sg_1 (by decide)) rfl 2 (by decide) (hts _ md_X6_read_1) (fun _ h9 => h9) (fl_q rfl ek_38) dX6_read_77 ?_
        refine lv_aload_n hx hb dX6_read_80 rfl (lv_at hl 1 rfl) ?_
        obtain ⟨k_39, ek_39, hf⟩ := lnk_some hf
        refine va_get (D := (dC, dI)) (ci := 6) (v := .ref (a k_39)) (C := RX6) (T := TX6) (N := 9) hx hb hts iwd_X6_read_X6 hown hK hP h0 (Wd_ob kg_1 sg_1 (by decide)) rfl 2 (by decide) (hts _ md_X6_read_1) (fun _ h9 => h9) (fl_q rfl ek_39) dX6_read_81 ?_
        obtain ⟨g_40, hf⟩ := grd_some hf
        obtain ⟨kg_40, sg_40⟩ := okO_at g_40
        refine va_get (D := (dC, dI)) (ci := 5) (v := .int (z_36.1 k_39 4)) (C := RX5) (T := TX5) (N := 15) hx hb hts iwd_X6_read_X5 hown hK hP k_39 (Wd_ob kg_40 sg_40 (by decide)) rfl 4 (by decide) (hts _ md_X6_read_7) (fun _ h9 => h9) (fl_at (t := 0) rfl) dX6_read_84 ?_
        obtain ⟨g_41, hf⟩ := grd_some hf
        obtain ⟨kg_41, sg_41⟩ := okO_at g_41
        refine va_put (D := (dC, dI)) (ci := 5) (v := .int (z_36.1 k_39 4)) (ty := .int) (C := RX5) (T := TX5) (N := 15) hx hb hts iwd_X6_read_X5 tyX5 tyX5_ok nmX5 hown hK hP hD hS k_38 (Wd_ob kg_41 sg_41 (by decide)) rfl 13 (by decide) (hts _ md_X6_read_8) (fun _ h9 => h9) rfl (by decide +kernel) rfl rfl (by rw [fl_len]; decide) dX6_read_87 (fun H_42 locs hP2 hD2 hS2 => ?_)
        rw [Wd_si sg_41 (by decide) rfl] at hP2 hD2
        obtain ⟨z_43, ez_43⟩ : ∃ w, w = si z_36 k_38 13 (z_36.1 k_39 4) := ⟨_, rfl⟩
        rw [← ez_43] at hP2 hD2
        replace hf := lt_at ez_43 hf
        clear ez_43
        replace hP := hP2
        replace hD := hD2
        replace hS := hS2
        clear hP2 hD2 hS2
        refine lv_aload_n hx hb dX6_read_90 rfl (lv_at hl 1 rfl) ?_
        obtain ⟨k_44, ek_44, hf⟩ := lnk_some hf
        refine va_get (D := (dC, dI)) (ci := 6) (v := .ref (a k_44)) (C := RX6) (T := TX6) (N := 9) hx hb hts iwd_X6_read_X6 hown hK hP h0 (Wd_ob kg_1 sg_1 (by decide)) rfl 2 (by decide) (hts _ md_X6_read_1) (fun _ h9 => h9) (fl_q rfl ek_44) dX6_read_91 ?_
        refine lv_aload_n hx hb dX6_read_94 rfl (lv_at hl 1 rfl) ?_
        refine lv_iconst (v := 0) hx hb dX6_read_95 (by decide) ?_
        refine lv_bipush (v := 32) hx hb dX6_read_96 (by decide) ?_
        obtain ⟨z_45, r_46, hfc, hf⟩ := cal_some hf
        have hFc := de_free hD hS hA
        refine va_calli (va_runV (As := [.int 0, .int 32]) (rest := [.ref (a k_44)]) ⟨hx, hb, hml, hown, hts⟩ (de_X6_readNumber l dC dI cy a sh n H_42.size F sk z_43 h0 0 32 hfc) (cwV 2 hts gX6_read_X6_readNumber rfl rfl rfl (by decide +kernel) ⟨Nat.le_of_ble_eq_true rfl, Nat.le_of_ble_eq_true rfl⟩) ⟨fun a U g mk q => by obtain ⟨q0, q1, qP, qK, qD, qN, qS⟩ := q; exact ⟨q0, q1, qP, va_K.moved (u := U) (U := U.calling g mk a) (Vm.Alike.refl U.vm) qK, qD, qN.same rfl, SKs.moved (u := U) (U := U.calling g mk a) (Vm.Alike.refl U.vm) qS⟩, va_recv hK hP (ci := 6) (q0 := h0) rfl (Wd_ob kg_1 sg_1 (by decide)), fun U hU hW => ⟨rfl, by rw [hU], by rw [hU]; exact hP, va_K.moved hW.alike hK, hD.weaken (fun _ _ _ _ => trivial), hN.warm hW, by rw [hU]; exact ((hSK.kept hS.2.1).narrow hFc).moved hW.alike⟩⟩ rfl rfl hl.1 rfl (lv_room (Nat.le_of_ble_eq_true rfl)) dX6_read_98 ⟨Nat.le_of_ble_eq_true rfl, Nat.le_of_ble_eq_true rfl⟩) hS (fun q _ h => hFc q h) hFc (fun rr u t H_47 locs ht hvm hw hB hz1 hk1 hS2 => ?_)
        rw [hw]
        clear hw
        obtain ⟨hP1, -, hD1⟩ := hB
        rw [ht] at hP1
        replace hD := hD1.weaken (fun _ _ _ h => hFc _ h)
        replace hP := hP1
        replace hS := hS2
        clear hP1 hD1 hS2 hFc hfc hz1 hk1 hvm ht
        obtain ⟨g_48, hf⟩ := grd_some hf
        obtain ⟨kg_48, sg_48⟩ := okO_at g_48
        refine va_put (D := (dC, dI)) (ci := 5) (v := .int r_46) (ty := .int) (C := RX5) (T := TX5) (N := 15) hx hb hts iwd_X6_read_X5 tyX5 tyX5_ok nmX5 hown hK hP hD hS k_44 (Wd_ob kg_48 sg_48 (by decide)) rfl 14 (by decide) (hts _ md_X6_read_9) (fun _ h9 => h9) rfl (by decide +kernel) rfl rfl (by rw [fl_len]; decide) dX6_read_101 (fun H_49 locs hP2 hD2 hS2 => ?_)
        rw [Wd_si sg_48 (by decide) rfl] at hP2 hD2
        obtain ⟨z_50, ez_50⟩ : ∃ w, w = si z_45 k_44 14 r_46 := ⟨_, rfl⟩
        rw [← ez_50] at hP2 hD2
        replace hf := lt_at ez_50 hf
        clear ez_50
        replace hP := hP2
        replace hD := hD2
        replace hS := hS2
        clear hP2 hD2 hS2
        refine lv_aload_n hx hb dX6_read_104 rfl (lv_at hl 1 rfl) ?_
        refine lv_aload_n hx hb dX6_read_105 rfl (lv_at hl 1 rfl) ?_
        obtain ⟨k_51, ek_51, hf⟩ := lnk_some hf
        refine va_get (D := (dC, dI)) (ci := 6) (v := .ref (a k_51)) (C := RX6) (T := TX6) (N := 9) hx hb hts iwd_X6_read_X6 hown hK hP h0 (Wd_ob kg_1 sg_1 (by decide)) rfl 2 (by decide) (hts _ md_X6_read_1) (fun _ h9 => h9) (fl_q rfl ek_51) dX6_read_106 ?_
        obtain ⟨g_52, hf⟩ := grd_some hf
        obtain ⟨kg_52, sg_52⟩ := okO_at g_52
        refine va_get (D := (dC, dI)) (ci := 5) (v := .int (z_50.1 k_51 14)) (C := RX5) (T := TX5) (N := 15) hx hb hts iwd_X6_read_X5 hown hK hP k_51 (Wd_ob kg_52 sg_52 (by decide)) rfl 14 (by decide) (hts _ md_X6_read_9) (fun _ h9 => h9) (fl_at (t := 0) rfl) dX6_read_109 ?_
        refine lv_iconst (v := 0) hx hb dX6_read_112 (by decide) ?_
        obtain ⟨z_53, _u, hfc, hf⟩ := cal_some hf
        have hFc := de_free hD hS hA
        refine va_callv (va_runV (As := [.int (z_50.1 k_51 14), .int 0]) (rest := []) ⟨hx, hb, hml, hown, hts⟩ (de_X6_readTypes l dC dI cy a sh n H_49.size F sk z_50 h0 (z_50.1 k_51 14) 0 hfc) (cwV 2 hts gX6_read_X6_readTypes rfl rfl rfl (by decide +kernel) ⟨Nat.le_of_ble_eq_true rfl, Nat.le_of_ble_eq_true rfl⟩) ⟨fun a U g mk q => by obtain ⟨q0, q1, qP, qK, qD, qN, qS⟩ := q; exact ⟨q0, q1, qP, va_K.moved (u := U) (U := U.calling g mk a) (Vm.Alike.refl U.vm) qK, qD, qN.same rfl, SKs.moved (u := U) (U := U.calling g mk a) (Vm.Alike.refl U.vm) qS⟩, va_recv hK hP (ci := 6) (q0 := h0) rfl (Wd_ob kg_1 sg_1 (by decide)), fun U hU hW => ⟨rfl, by rw [hU], by rw [hU]; exact hP, va_K.moved hW.alike hK, hD.weaken (fun _ _ _ _ => trivial), hN.warm hW, by rw [hU]; exact ((hSK.kept hS.2.1).narrow hFc).moved hW.alike⟩⟩ rfl rfl hl.1 rfl (lv_room (Nat.le_of_ble_eq_true rfl)) dX6_read_113 ⟨Nat.le_of_ble_eq_true rfl, Nat.le_of_ble_eq_true rfl⟩) hS (fun q _ h => hFc q h) hFc (fun u t H_54 locs ht hvm hw hB hz1 hk1 hS2 => ?_)
        obtain ⟨hP1, -, hD1⟩ := hB
        rw [ht] at hP1
        replace hD := hD1.weaken (fun _ _ _ h => hFc _ h)
        replace hP := hP1
        replace hS := hS2
        clear hP1 hD1 hS2 hFc hfc hz1 hk1 hvm ht
        refine lv_aload_n hx hb dX6_read_116 rfl (lv_at hl 1 rfl) ?_
        obtain ⟨z_55, _u, hfc, hf⟩ := cal_some hf
        have hFc := de_free hD hS hA
        refine va_callv (va_runV (As := []) (rest := []) ⟨hx, hb, hml, hown, hts⟩ (de_X6_readFunctions l dC dI cy a sh n H_54.size F sk z_53 h0 hfc) (cwV 0 hts gX6_read_X6_readFunctions rfl rfl rfl (by decide +kernel) ⟨Nat.le_of_ble_eq_true rfl, Nat.le_of_ble_eq_true rfl⟩) ⟨fun a U g mk q => by obtain ⟨q0, q1, qP, qK, qD, qN, qS⟩ := q; exact ⟨q0, q1, qP, va_K.moved (u := U) (U := U.calling g mk a) (Vm.Alike.refl U.vm) qK, qD, qN.same rfl, SKs.moved (u := U) (U := U.calling g mk a) (Vm.Alike.refl U.vm) qS⟩, va_recv hK hP (ci := 6) (q0 := h0) rfl (Wd_ob kg_1 sg_1 (by decide)), fun U hU hW => ⟨rfl, by rw [hU], by rw [hU]; exact hP, va_K.moved hW.alike hK, hD.weaken (fun _ _ _ _ => trivial), hN.warm hW, by rw [hU]; exact ((hSK.kept hS.2.1).narrow hFc).moved hW.alike⟩⟩ rfl rfl hl.1 rfl (lv_room (Nat.le_of_ble_eq_true rfl)) dX6_read_117 ⟨Nat.le_of_ble_eq_true rfl, Nat.le_of_ble_eq_true rfl⟩) hS (fun q _ h => hFc q h) hFc (fun u t H_56 locs ht hvm hw hB hz1 hk1 hS2 => ?_)
        obtain ⟨hP1, -, hD1⟩ := hB
        rw [ht] at hP1
        replace hD := hD1.weaken (fun _ _ _ h => hFc _ h)
        replace hP := hP1
        replace hS := hS2
        clear hP1 hD1 hS2 hFc hfc hz1 hk1 hvm ht
        refine lv_aload_n hx hb dX6_read_120 rfl (lv_at hl 1 rfl) ?_
        refine va_get (D := (dC, dI)) (ci := 6) (v := .int (z_55.1 h0 3)) (C := RX6) (T := TX6) (N := 9) hx hb hts iwd_X6_read_X6 hown hK hP h0 (Wd_ob kg_1 sg_1 (by decide)) rfl 3 (by decide) (hts _ md_X6_read_5) (fun _ h9 => h9) (fl_at (t := 0) rfl) dX6_read_121 ?_
        refine lv_aload_n hx hb dX6_read_124 rfl (lv_at hl 1 rfl) ?_
        obtain ⟨k_57, ek_57, hf⟩ := lnk_some hf
        refine va_get (D := (dC, dI)) (ci := 6) (v := .ref (a k_57)) (C := RX6) (T := TX6) (N := 9) hx hb hts iwd_X6_read_X6 hown hK hP h0 (Wd_ob kg_1 sg_1 (by decide)) rfl 2 (by decide) (hts _ md_X6_read_1) (fun _ h9 => h9) (fl_q rfl ek_57) dX6_read_125 ?_
        obtain ⟨g_58, hf⟩ := grd_some hf
        obtain ⟨kg_58, sg_58⟩ := okO_at g_58
        refine va_get (D := (dC, dI)) (ci := 5) (v := .int (z_55.1 k_57 1)) (C := RX5) (T := TX5) (N := 15) hx hb hts iwd_X6_read_X5 hown hK hP k_57 (Wd_ob kg_58 sg_58 (by decide)) rfl 1 (by decide) (hts _ md_X6_read_10) (fun _ h9 => h9) (fl_at (t := 0) rfl) dX6_read_128 ?_
        refine de_cut (h := 144) (fun (x : St) => []) (fun x ls H locs => lv_has ls 3 [(2, .int p_8), (0, .ref (a h0))] ∧ va_P (dC, dI) vwCl (Wd cy a sh n x) H ∧ va_D A (Wd cy a sh n x) ∧ va_S A s.heap H locs) (fun x => fn_X6_read_B144 F sh n p_8 (fun z9 q2 => fn_X6_read_L17 F sh n h0 f_10 z9 q2) x) (z8, r8) ?_ (fun B144 => ?_)
        · intro x ls H locs hI hf
          obtain ⟨z_59, ez⟩ : ∃ w, w = x := ⟨_, rfl⟩
          subst ez
          obtain ⟨hl2, hP2, hD2, hS2⟩ := hI
          replace hl : lv_has ls 3 [(2, .int p_8), (0, .ref (a h0))] := hl2
          replace hP := hP2
          replace hD := hD2
          replace hS := hS2
          clear hl2 hP2 hD2 hS2
          replace hf := fn_X6_read_B144_s hf
          refine W.eq (g2 := F0 m 144 ls []) rfl ?_
          refine lv_iinc (v := (p_8 + 1)) (lv' := [(2, .int (p_8 + 1)), (0, .ref (a h0))]) hx hb dX6_read_144 hl (k := 0) rfl rfl (by decide) rfl (fun ls hl2 => ?_)
          replace hl := hl2
          clear hl2
          refine lv_goto (tgt := 17) hx hb dX6_read_147 (by decide) ?_
          exact ih17 (z_59, (p_8 + 1)) ls H locs ⟨lv_sub hl [0, 1] rfl, hP, hD, hS⟩ hf
        refine lv_icmp_ge (tgt := 144) hx hb dX6_read_131 (by decide) (fun c_60 => ?_) (fun c_60 => ?_)
        · skip
          rw [if_pos c_60] at hf
          exact B144 (z_55) ls H_56 locs ⟨lv_sub hl [0, 1] rfl, hP, hD, hS⟩ hf
        · skip
          rw [if_neg c_60] at hf
          refine lv_aload_n hx hb dX6_read_134 rfl (lv_at hl 1 rfl) ?_
          refine lv_bipush (v := 6) hx hb dX6_read_135 (by decide) ?_
          refine lv_aload_n hx hb dX6_read_137 rfl (lv_at hl 1 rfl) ?_
          refine va_get (D := (dC, dI)) (ci := 6) (v := .int (z_55.1 h0 3)) (C := RX6) (T := TX6) (N := 9) hx hb hts iwd_X6_read_X6 hown hK hP h0 (Wd_ob kg_1 sg_1 (by decide)) rfl 3 (by decide) (hts _ md_X6_read_5) (fun _ h9 => h9) (fl_at (t := 0) rfl) dX6_read_138 ?_
          obtain ⟨z_61, _u, hfc, hf⟩ := cal_some hf
          have hFc := de_free hD hS hA
          refine va_callv (va_runV (As := [.int 6, .int (z_55.1 h0 3)]) (rest := []) ⟨hx, hb, hml, hown, hts⟩ (de_X6_fail l dC dI cy a sh n H_56.size F z_55 h0 6 (z_55.1 h0 3) hfc) (cwV 2 hts gX6_read_X6_fail rfl rfl rfl (by decide +kernel) ⟨Nat.le_of_ble_eq_true rfl, Nat.le_of_ble_eq_true rfl⟩) ⟨fun a U g mk q => by obtain ⟨q0, q1, qP, qK, qD, qN⟩ := q; exact ⟨q0, q1, qP, va_K.moved (u := U) (U := U.calling g mk a) (Vm.Alike.refl U.vm) qK, qD, qN.same rfl⟩, va_recv hK hP (ci := 6) (q0 := h0) rfl (Wd_ob kg_1 sg_1 (by decide)), fun U hU hW => ⟨rfl, by rw [hU], by rw [hU]; exact hP, va_K.moved hW.alike hK, hD.weaken (fun _ _ _ _ => trivial), hN.warm hW⟩⟩ rfl rfl hl.1 rfl (lv_room (Nat.le_of_ble_eq_true rfl)) dX6_read_141 ⟨Nat.le_of_ble_eq_true rfl, Nat.le_of_ble_eq_true rfl⟩) hS (fun q _ h => hFc q h) hFc (fun u t H_62 locs ht hvm hw hB hz1 hk1 hS2 => ?_)
          obtain ⟨hP1, -, hD1⟩ := hB
          rw [ht] at hP1
          replace hD := hD1.weaken (fun _ _ _ h => hFc _ h)
          replace hP := hP1
          replace hS := hS2
          clear hP1 hD1 hS2 hFc hfc hz1 hk1 hvm ht
          exact B144 (z_61) ls H_62 locs ⟨lv_sub hl [0, 1] rfl, hP, hD, hS⟩ hf
      refine lv_icmp_ne (tgt := 39) hx hb dX6_read_32 (by decide) (fun c_63 => ?_) (fun c_63 => ?_)
      · skip
        rw [if_neg c_63] at hf
        refine lv_iconst (v := 0) hx hb dX6_read_39 (by decide) ?_
        exact B40 (z_9, 0) ls H locs ⟨lv_sub hl [0, 1] rfl, hP, hD, hS⟩ hf
      · skip
        rw [if_pos c_63] at hf
        refine lv_iconst (v := 1) hx hb dX6_read_35 (by decide) ?_
        refine lv_goto (tgt := 40) hx hb dX6_read_36 (by decide) ?_
        exact B40 (z_9, 1) ls H locs ⟨lv_sub hl [0, 1] rfl, hP, hD, hS⟩ hf

theorem md_X9_gatherResources_1 : (.fieldLink RX9 128 "ResourceLedger$State" "nodeCount" "[I" : Cond) ∈ wsX9_gatherResources := List.mem_of_getElem? (i := 1) rfl
theorem iwd_X9_gatherResources_X7 : ∀ w ∈ wsX70, w ∈ wsX9_gatherResources := fun _ h => List.mem_cons_of_mem _ (List.mem_append_left _ (List.mem_append_left _ (List.mem_append_right _ h)))
theorem md_X9_gatherResources_2 : (.fieldLink RX9 35 "ResourceLedger$Tree" "bytes" "[B" : Cond) ∈ wsX9_gatherResources := List.mem_of_getElem? (i := 2) rfl
theorem iwd_X9_gatherResources_X9 : ∀ w ∈ wsX90, w ∈ wsX9_gatherResources := fun _ h => List.mem_cons_of_mem _ (List.mem_append_left _ (List.mem_append_right _ h))
theorem md_X9_gatherResources_3 : (.fieldLink RX9 18 "ResourceLedger$Tree" "digest" "LResourceLedger$Digest;" : Cond) ∈ wsX9_gatherResources := List.mem_of_getElem? (i := 3) rfl
theorem md_X9_gatherResources_4 : (.fieldLink RX9 135 "ResourceLedger$State" "resourceAddress" "[J" : Cond) ∈ wsX9_gatherResources := List.mem_of_getElem? (i := 4) rfl
theorem md_X9_gatherResources_5 : (.fieldLink RX9 138 "ResourceLedger$State" "resourceModule" "[I" : Cond) ∈ wsX9_gatherResources := List.mem_of_getElem? (i := 5) rfl
theorem md_X9_gatherResources_6 : (.fieldLink RX9 141 "ResourceLedger$State" "resourceStructure" "[I" : Cond) ∈ wsX9_gatherResources := List.mem_of_getElem? (i := 6) rfl
set_option maxHeartbeats 4000000 in
set_option maxRecDepth 100000 in
theorem de_X9_gatherResources (l : Launch) (dC : Nat → ClassId) (dI : Nat → Nat → Nat) (cy : Nat → ClassId) (a : Nat → Nat) (sh : Nat → Nat × Nat) (n sz : Nat) (F : Nat) (sk : Nat → Nat) (z : St) (h0 : Nat) (x0 : Nat) {z8 : St} {r8 : Unit} (hf : fn_X9_gatherResources F sh n z h0 x0 = some (z8, r8)) : Met l yX9_gatherResources wsX9_gatherResources ({ frames := 5, cells := 0, slots := 0, locals := 126 }) (va_Pc [.ref (a h0), .ref (a x0)] (fun U => U.heap.size = sz ∧ va_P (dC, dI) vwCl (Wd cy a sh n z) U.heap ∧ va_K (dC, dI) vwCl (TYS cy) U ∧ va_D (fun _ => True) (Wd cy a sh n z) ∧ NK U ∧ SKs sk (a CBK) (va_A (Wd cy a sh n z) sz) U U.heap)) (va_Qv (fun u : Unit => True) (fun u t => va_P (dC, dI) vwCl (Wd cy a sh n z8) t.heap ∧ va_K (dC, dI) vwCl (TYS cy) t ∧ va_D (va_A (Wd cy a sh n z) sz) (Wd cy a sh n z8)) (va_A (Wd cy a sh n z) sz)) 0 0 (va_A (Wd cy a sh n z) sz) := by
  refine Met.ofW (cc := cX9_gatherResources) (maxL := 5) (ret := none) (by decide) rfl ?_
  intro p e s m args below meth c s₁ B hml hv
  obtain ⟨rfl, hsz, hP, hK, hD0, hN, hSK⟩ := hv
  have hx := B.exec
  have hb := B.bytes
  have hr := B.returns
  have hts := atoms_spec (ws := wsX9_gatherResources) B.pre
  have hown : s.vm.findClass RX9 = some m.cls := findClass_of_methodNamed B.named
  have hlocks := B.notSynchronized
  subst hsz
  have hD := hD0.self (sz := s.heap.size)
  clear hD0
  generalize hAe : va_A (Wd cy a sh n z) s.heap.size = A at hD hSK ⊢
  have hA : ∀ q : Nat, s.heap.size ≤ q → A q := fun q h => by rw [← hAe]; exact Or.inr h
  clear hAe
  have hS : va_S A s.heap s.heap [] := va_S.rf
  have hl := lv_entry ([.ref (a h0), .ref (a x0)]) (n := 5) (Nat.le_of_ble_eq_true rfl)
  rw [lg_entry_eq]
  generalize (lg_sl ([.ref (a h0), .ref (a x0)]) ++ List.replicate (5 - (lg_sl ([.ref (a h0), .ref (a x0)])).length) Slot.unset).toArray = ls at hl ⊢
  replace hl : lv_has ls 5 [(0, .ref (a h0)), (1, .ref (a x0))] := hl
  unfold fn_X9_gatherResources at hf
  refine de_start hS hP (fun H locs hS hP => ?_)
  refine lv_iconst (v := 0) hx hb dX9_gatherResources_0 (by decide) ?_
  refine lv_istore_n (lv' := [(2, .int 0), (0, .ref (a h0)), (1, .ref (a x0))]) hx hb dX9_gatherResources_1 rfl hl (by decide) rfl (fun ls hl2 => ?_)
  replace hl := hl2
  clear hl2
  have hl0 : lv_has ls 5 [(2, .int 0), (0, .ref (a h0)), (1, .ref (a x0))] := lv_sub hl [0, 1, 2] rfl
  refine de_loop (h := 2) (fun (x : St × Int32) ls H locs => lv_has ls 5 [(2, .int x.2), (0, .ref (a h0)), (1, .ref (a x0))] ∧ va_P (dC, dI) vwCl (Wd cy a sh n x.1) H ∧ va_D A (Wd cy a sh n x.1) ∧ va_S A s.heap H locs) (fun f x => fn_X9_gatherResources_L2 F sh n x0 h0 f x.1 x.2) (z8, r8) ?_ (fun _ => rfl) F (z, 0) ls H locs ⟨hl0, hP, hD, hS⟩ hf
  intro f_3 x ls H locs ih2 hI hf
  obtain ⟨z_2, p_1⟩ := x
  obtain ⟨hl2, hP2, hD2, hS2⟩ := hI
  replace hl : lv_has ls 5 [(2, .int p_1), (0, .ref (a h0)), (1, .ref (a x0))] := hl2
  replace hP := hP2
  replace hD := hD2
  replace hS := hS2
  clear hl2 hP2 hD2 hS2 hl0
  replace hf := fn_X9_gatherResources_L2_s hf
  refine lv_iload_n hx hb dX9_gatherResources_2 rfl (lv_at hl 0 rfl) ?_
  refine lv_sipush (v := 256) hx hb dX9_gatherResources_3 (by decide) ?_
  refine lv_icmp_ge (tgt := 170) hx hb dX9_gatherResources_6 (by decide) (fun c_4 => ?_) (fun c_4 => ?_)
  · skip
    rw [if_pos c_4] at hf
    obtain ⟨h8, h9⟩ := ret_some hf
    rw [h8]
    exact W.vret hx hb hr (fun t ht hW => ⟨⟨(), rfl, trivial, by rw [ht]; exact hP, va_K.moved hW.alike hK, hD⟩, hS.F ht⟩) hS.2.2 dX9_gatherResources_170
  · skip
    rw [if_neg c_4] at hf
    refine lv_aload_n hx hb dX9_gatherResources_9 rfl (lv_at hl 2 rfl) ?_
    obtain ⟨g_5, hf⟩ := grd_some hf
    obtain ⟨kg_5, sg_5⟩ := okO_at g_5
    obtain ⟨k_6, ek_6, hf⟩ := lnk_some hf
    refine va_get (D := (dC, dI)) (ci := 7) (v := .ref (a k_6)) (C := RX7) (T := TX7) (N := 16) hx hb hts iwd_X9_gatherResources_X7 hown hK hP x0 (Wd_ob kg_5 sg_5 (by decide)) rfl 9 (by decide) (hts _ md_X9_gatherResources_1) (fun _ h9 => h9) (fl_q rfl ek_6) dX9_gatherResources_10 ?_
    refine lv_iload_n hx hb dX9_gatherResources_13 rfl (lv_at hl 0 rfl) ?_
    obtain ⟨g_7, hf⟩ := grd_some hf
    obtain ⟨kg_7, sg_7, ig_7⟩ := okA_at g_7
    refine va_iald hx hb hK hP k_6 1 (Wd_ai kg_7 sg_7) rfl ig_7 dX9_gatherResources_14 ?_
    refine de_cut (h := 164) (fun (x : St) => []) (fun x ls H locs => lv_has ls 5 [(2, .int p_1), (0, .ref (a h0)), (1, .ref (a x0))] ∧ va_P (dC, dI) vwCl (Wd cy a sh n x) H ∧ va_D A (Wd cy a sh n x) ∧ va_S A s.heap H locs) (fun x => fn_X9_gatherResources_B164 F sh n p_1 (fun z9 q2 => fn_X9_gatherResources_L2 F sh n x0 h0 f_3 z9 q2) x) (z8, r8) ?_ (fun B164 => ?_)
    · intro x ls H locs hI hf
      obtain ⟨z_8, ez⟩ : ∃ w, w = x := ⟨_, rfl⟩
      subst ez
      obtain ⟨hl2, hP2, hD2, hS2⟩ := hI
      replace hl : lv_has ls 5 [(2, .int p_1), (0, .ref (a h0)), (1, .ref (a x0))] := hl2
      replace hP := hP2
      replace hD := hD2
      replace hS := hS2
      clear hl2 hP2 hD2 hS2
      replace hf := fn_X9_gatherResources_B164_s hf
      refine W.eq (g2 := F0 m 164 ls []) rfl ?_
      refine lv_iinc (v := (p_1 + 1)) (lv' := [(2, .int (p_1 + 1)), (0, .ref (a h0)), (1, .ref (a x0))]) hx hb dX9_gatherResources_164 hl (k := 0) rfl rfl (by decide) rfl (fun ls hl2 => ?_)
      replace hl := hl2
      clear hl2
      refine lv_goto (tgt := 2) hx hb dX9_gatherResources_167 (by decide) ?_
      exact ih2 (z_8, (p_1 + 1)) ls H locs ⟨lv_sub hl [0, 1, 2] rfl, hP, hD, hS⟩ hf
    refine lv_if_ne (tgt := 21) hx hb dX9_gatherResources_15 (by decide) (fun c_9 => ?_) (fun c_9 => ?_)
    · skip
      rw [if_neg c_9] at hf
      refine lv_aload_n hx hb dX9_gatherResources_21 rfl (lv_at hl 2 rfl) ?_
      refine lv_iload_n hx hb dX9_gatherResources_22 rfl (lv_at hl 0 rfl) ?_
      refine lv_aload_n hx hb dX9_gatherResources_23 rfl (lv_at hl 1 rfl) ?_
      obtain ⟨g_10, hf⟩ := grd_some hf
      obtain ⟨kg_10, sg_10⟩ := okO_at g_10
      obtain ⟨k_11, ek_11, hf⟩ := lnk_some hf
      refine va_get (D := (dC, dI)) (ci := 9) (v := .ref (a k_11)) (C := RX9) (T := TX9) (N := 13) hx hb hts iwd_X9_gatherResources_X9 hown hK hP h0 (Wd_ob kg_10 sg_10 (by decide)) rfl 8 (by decide) (hts _ md_X9_gatherResources_2) (fun _ h9 => h9) (fl_q rfl ek_11) dX9_gatherResources_24 ?_
      obtain ⟨z_12, r_13, hfc, hf⟩ := cal_some hf
      have hFc := de_free hD hS hA
      refine va_calli (va_runV (As := [.int p_1, .ref (a k_11)]) (rest := []) ⟨hx, hb, hml, hown, hts⟩ (de_X7_writeBytes l dC dI cy a sh n H.size F z_2 x0 p_1 k_11 hfc) (cwV 2 hts gX9_gatherResources_X7_writeBytes rfl rfl rfl (by decide +kernel) ⟨Nat.le_of_ble_eq_true rfl, Nat.le_of_ble_eq_true rfl⟩) ⟨fun a U g mk q => by obtain ⟨q0, q1, qP, qK, qD, qN⟩ := q; exact ⟨q0, q1, qP, va_K.moved (u := U) (U := U.calling g mk a) (Vm.Alike.refl U.vm) qK, qD, qN.same rfl⟩, va_recv hK hP (ci := 7) (q0 := x0) rfl (Wd_ob kg_5 sg_5 (by decide)), fun U hU hW => ⟨rfl, by rw [hU], by rw [hU]; exact hP, va_K.moved hW.alike hK, hD.weaken (fun _ _ _ _ => trivial), hN.warm hW⟩⟩ rfl rfl hl.1 rfl (lv_room (Nat.le_of_ble_eq_true rfl)) dX9_gatherResources_27 ⟨Nat.le_of_ble_eq_true rfl, Nat.le_of_ble_eq_true rfl⟩) hS (fun q _ h => hFc q h) hFc (fun rr u t H_14 locs ht hvm hw hB hz1 hk1 hS2 => ?_)
      rw [hw]
      clear hw
      obtain ⟨hP1, -, hD1⟩ := hB
      rw [ht] at hP1
      replace hD := hD1.weaken (fun _ _ _ h => hFc _ h)
      replace hP := hP1
      replace hS := hS2
      clear hP1 hD1 hS2 hFc hfc hz1 hk1 hvm ht
      refine lv_istore_n (lv' := [(3, .int r_13), (2, .int p_1), (0, .ref (a h0)), (1, .ref (a x0))]) hx hb dX9_gatherResources_30 rfl hl (by decide) rfl (fun ls hl2 => ?_)
      replace hl := hl2
      clear hl2
      refine lv_aload_n hx hb dX9_gatherResources_31 rfl (lv_at hl 2 rfl) ?_
      obtain ⟨k_15, ek_15, hf⟩ := lnk_some hf
      refine va_get (D := (dC, dI)) (ci := 9) (v := .ref (a k_15)) (C := RX9) (T := TX9) (N := 13) hx hb hts iwd_X9_gatherResources_X9 hown hK hP h0 (Wd_ob kg_10 sg_10 (by decide)) rfl 2 (by decide) (hts _ md_X9_gatherResources_3) (fun _ h9 => h9) (fl_q rfl ek_15) dX9_gatherResources_32 ?_
      obtain ⟨g_17, hf⟩ := grd_some hf
      obtain ⟨kg_17, sg_17⟩ := okO_at g_17
      obtain ⟨z_16, _u, hfc, hf⟩ := cal_some hf
      have hFc := de_free hD hS hA
      refine va_callv (va_runV (As := []) (rest := []) ⟨hx, hb, hml, hown, hts⟩ (de_X0_start l dC dI cy a sh n H_14.size F sk z_12 k_15 hfc) (cwV 0 hts gX9_gatherResources_X0_start rfl rfl rfl (by decide +kernel) ⟨Nat.le_of_ble_eq_true rfl, Nat.le_of_ble_eq_true rfl⟩) ⟨fun a U g mk q => by obtain ⟨q0, q1, qP, qK, qD, qN, qS⟩ := q; exact ⟨q0, q1, qP, va_K.moved (u := U) (U := U.calling g mk a) (Vm.Alike.refl U.vm) qK, qD, qN.same rfl, SKs.moved (u := U) (U := U.calling g mk a) (Vm.Alike.refl U.vm) qS⟩, va_recv hK hP (ci := 0) (q0 := k_15) rfl (Wd_ob kg_17 sg_17 (by decide)), fun U hU hW => ⟨rfl, by rw [hU], by rw [hU]; exact hP, va_K.moved hW.alike hK, hD.weaken (fun _ _ _ _ => trivial), hN.warm hW, by rw [hU]; exact ((hSK.kept hS.2.1).narrow hFc).moved hW.alike⟩⟩ rfl rfl hl.1 rfl (lv_room (Nat.le_of_ble_eq_true rfl)) dX9_gatherResources_35 ⟨Nat.le_of_ble_eq_true rfl, Nat.le_of_ble_eq_true rfl⟩) hS (fun q _ h => hFc q h) hFc (fun u t H_18 locs ht hvm hw hB hz1 hk1 hS2 => ?_)
      obtain ⟨hP1, -, hD1⟩ := hB
      rw [ht] at hP1
      replace hD := hD1.weaken (fun _ _ _ h => hFc _ h)
      replace hP := hP1
      replace hS := hS2
      clear hP1 hD1 hS2 hFc hfc hz1 hk1 hvm ht
      refine lv_iconst (v := 0) hx hb dX9_gatherResources_38 (by decide) ?_
      refine lv_istore (lv' := [(4, .int 0), (3, .int r_13), (2, .int p_1), (0, .ref (a h0)), (1, .ref (a x0))]) hx hb dX9_gatherResources_39 hl (by decide) rfl (fun ls hl2 => ?_)
      replace hl := hl2
      clear hl2
      have hl0 : lv_has ls 5 [(4, .int 0), (3, .int r_13), (2, .int p_1), (0, .ref (a h0)), (1, .ref (a x0))] := lv_sub hl [0, 1, 2, 3, 4] rfl
      refine de_loop (h := 41) (fun (x : St × Int32) ls H locs => lv_has ls 5 [(4, .int x.2), (3, .int r_13), (2, .int p_1), (0, .ref (a h0)), (1, .ref (a x0))] ∧ va_P (dC, dI) vwCl (Wd cy a sh n x.1) H ∧ va_D A (Wd cy a sh n x.1) ∧ va_S A s.heap H locs) (fun f x => fn_X9_gatherResources_L41 F sh n r_13 h0 x0 p_1 (fun z9 q2 => fn_X9_gatherResources_L2 F sh n x0 h0 f_3 z9 q2) f x.1 x.2) (z8, r8) ?_ (fun _ => rfl) F (z_16, 0) ls H_18 locs ⟨hl0, hP, hD, hS⟩ hf
      intro f_21 x ls H locs ih41 hI hf
      obtain ⟨z_20, p_19⟩ := x
      obtain ⟨hl2, hP2, hD2, hS2⟩ := hI
      replace hl : lv_has ls 5 [(4, .int p_19), (3, .int r_13), (2, .int p_1), (0, .ref (a h0)), (1, .ref (a x0))] := hl2
      replace hP := hP2
      replace hD := hD2
      replace hS := hS2
      clear hl2 hP2 hD2 hS2 hl0
      replace hf := fn_X9_gatherResources_L41_s hf
      refine lv_iload hx hb dX9_gatherResources_41 (lv_at hl 0 rfl) ?_
      refine lv_iload_n hx hb dX9_gatherResources_43 rfl (lv_at hl 1 rfl) ?_
      refine lv_icmp_ge (tgt := 67) hx hb dX9_gatherResources_44 (by decide) (fun c_22 => ?_) (fun c_22 => ?_)
      · skip
        rw [if_pos c_22] at hf
        refine lv_aload_n hx hb dX9_gatherResources_67 rfl (lv_at hl 3 rfl) ?_
        obtain ⟨z_23, _u, hfc, hf⟩ := cal_some hf
        have hFc := de_free hD hS hA
        refine va_callv (va_runV (As := []) (rest := []) ⟨hx, hb, hml, hown, hts⟩ (de_X9_keepValue l dC dI cy a sh n H.size F sk z_20 h0 hfc) (cwV 0 hts gX9_gatherResources_X9_keepValue rfl rfl rfl (by decide +kernel) ⟨Nat.le_of_ble_eq_true rfl, Nat.le_of_ble_eq_true rfl⟩) ⟨fun a U g mk q => by obtain ⟨q0, q1, qP, qK, qD, qN, qS⟩ := q; exact ⟨q0, q1, qP, va_K.moved (u := U) (U := U.calling g mk a) (Vm.Alike.refl U.vm) qK, qD, qN.same rfl, SKs.moved (u := U) (U := U.calling g mk a) (Vm.Alike.refl U.vm) qS⟩, va_recv hK hP (ci := 9) (q0 := h0) rfl (Wd_ob kg_10 sg_10 (by decide)), fun U hU hW => ⟨rfl, by rw [hU], by rw [hU]; exact hP, va_K.moved hW.alike hK, hD.weaken (fun _ _ _ _ => trivial), hN.warm hW, by rw [hU]; exact ((hSK.kept hS.2.1).narrow hFc).moved hW.alike⟩⟩ rfl rfl hl.1 rfl (lv_room (Nat.le_of_ble_eq_true rfl)) dX9_gatherResources_68 ⟨Nat.le_of_ble_eq_true rfl, Nat.le_of_ble_eq_true rfl⟩) hS (fun q _ h => hFc q h) hFc (fun u t H_24 locs ht hvm hw hB hz1 hk1 hS2 => ?_)
        obtain ⟨hP1, -, hD1⟩ := hB
        rw [ht] at hP1
        replace hD := hD1.weaken (fun _ _ _ h => hFc _ h)
        replace hP := hP1
        replace hS := hS2
        clear hP1 hD1 hS2 hFc hfc hz1 hk1 hvm ht
        refine lv_aload_n hx hb dX9_gatherResources_71 rfl (lv_at hl 3 rfl) ?_
        obtain ⟨k_25, ek_25, hf⟩ := lnk_some hf
        refine va_get (D := (dC, dI)) (ci := 9) (v := .ref (a k_25)) (C := RX9) (T := TX9) (N := 13) hx hb hts iwd_X9_gatherResources_X9 hown hK hP h0 (Wd_ob kg_10 sg_10 (by decide)) rfl 2 (by decide) (hts _ md_X9_gatherResources_3) (fun _ h9 => h9) (fl_q rfl ek_25) dX9_gatherResources_72 ?_
        obtain ⟨g_27, hf⟩ := grd_some hf
        obtain ⟨kg_27, sg_27⟩ := okO_at g_27
        obtain ⟨z_26, _u, hfc, hf⟩ := cal_some hf
        have hFc := de_free hD hS hA
        refine va_callv (va_runV (As := []) (rest := []) ⟨hx, hb, hml, hown, hts⟩ (de_X0_start l dC dI cy a sh n H_24.size F sk z_23 k_25 hfc) (cwV 0 hts gX9_gatherResources_X0_start rfl rfl rfl (by decide +kernel) ⟨Nat.le_of_ble_eq_true rfl, Nat.le_of_ble_eq_true rfl⟩) ⟨fun a U g mk q => by obtain ⟨q0, q1, qP, qK, qD, qN, qS⟩ := q; exact ⟨q0, q1, qP, va_K.moved (u := U) (U := U.calling g mk a) (Vm.Alike.refl U.vm) qK, qD, qN.same rfl, SKs.moved (u := U) (U := U.calling g mk a) (Vm.Alike.refl U.vm) qS⟩, va_recv hK hP (ci := 0) (q0 := k_25) rfl (Wd_ob kg_27 sg_27 (by decide)), fun U hU hW => ⟨rfl, by rw [hU], by rw [hU]; exact hP, va_K.moved hW.alike hK, hD.weaken (fun _ _ _ _ => trivial), hN.warm hW, by rw [hU]; exact ((hSK.kept hS.2.1).narrow hFc).moved hW.alike⟩⟩ rfl rfl hl.1 rfl (lv_room (Nat.le_of_ble_eq_true rfl)) dX9_gatherResources_75 ⟨Nat.le_of_ble_eq_true rfl, Nat.le_of_ble_eq_true rfl⟩) hS (fun q _ h => hFc q h) hFc (fun u t H_28 locs ht hvm hw hB hz1 hk1 hS2 => ?_)
        obtain ⟨hP1, -, hD1⟩ := hB
        rw [ht] at hP1
        replace hD := hD1.weaken (fun _ _ _ h => hFc _ h)
        replace hP := hP1
        replace hS := hS2
        clear hP1 hD1 hS2 hFc hfc hz1 hk1 hvm ht
        refine lv_aload_n hx hb dX9_gatherResources_78 rfl (lv_at hl 3 rfl) ?_
        obtain ⟨k_29, ek_29, hf⟩ := lnk_some hf
        refine va_get (D := (dC, dI)) (ci := 9) (v := .ref (a k_29)) (C := RX9) (T := TX9) (N := 13) hx hb hts iwd_X9_gatherResources_X9 hown hK hP h0 (Wd_ob kg_10 sg_10 (by decide)) rfl 2 (by decide) (hts _ md_X9_gatherResources_3) (fun _ h9 => h9) (fl_q rfl ek_29) dX9_gatherResources_79 ?_
        refine lv_iconst (v := 3) hx hb dX9_gatherResources_82 (by decide) ?_
        obtain ⟨g_31, hf⟩ := grd_some hf
        obtain ⟨kg_31, sg_31⟩ := okO_at g_31
        obtain ⟨z_30, _u, hfc, hf⟩ := cal_some hf
        have hFc := de_free hD hS hA
        refine va_callv (va_runV (As := [.int 3]) (rest := []) ⟨hx, hb, hml, hown, hts⟩ (de_X0_put l dC dI cy a sh n H_28.size F sk z_26 k_29 3 hfc) (cwV 1 hts gX9_gatherResources_X0_put rfl rfl rfl (by decide +kernel) ⟨Nat.le_of_ble_eq_true rfl, Nat.le_of_ble_eq_true rfl⟩) ⟨fun a U g mk q => by obtain ⟨q0, q1, qP, qK, qD, qN, qS⟩ := q; exact ⟨q0, q1, qP, va_K.moved (u := U) (U := U.calling g mk a) (Vm.Alike.refl U.vm) qK, qD, qN.same rfl, SKs.moved (u := U) (U := U.calling g mk a) (Vm.Alike.refl U.vm) qS⟩, va_recv hK hP (ci := 0) (q0 := k_29) rfl (Wd_ob kg_31 sg_31 (by decide)), fun U hU hW => ⟨rfl, by rw [hU], by rw [hU]; exact hP, va_K.moved hW.alike hK, hD.weaken (fun _ _ _ _ => trivial), hN.warm hW, by rw [hU]; exact ((hSK.kept hS.2.1).narrow hFc).moved hW.alike⟩⟩ rfl rfl hl.1 rfl (lv_room (Nat.le_of_ble_eq_true rfl)) dX9_gatherResources_83 ⟨Nat.le_of_ble_eq_true rfl, Nat.le_of_ble_eq_true rfl⟩) hS (fun q _ h => hFc q h) hFc (fun u t H_32 locs ht hvm hw hB hz1 hk1 hS2 => ?_)
        obtain ⟨hP1, -, hD1⟩ := hB
        rw [ht] at hP1
        replace hD := hD1.weaken (fun _ _ _ h => hFc _ h)
        replace hP := hP1
        replace hS := hS2
        clear hP1 hD1 hS2 hFc hfc hz1 hk1 hvm ht
        refine lv_aload_n hx hb dX9_gatherResources_86 rfl (lv_at hl 3 rfl) ?_
        obtain ⟨k_33, ek_33, hf⟩ := lnk_some hf
        refine va_get (D := (dC, dI)) (ci := 9) (v := .ref (a k_33)) (C := RX9) (T := TX9) (N := 13) hx hb hts iwd_X9_gatherResources_X9 hown hK hP h0 (Wd_ob kg_10 sg_10 (by decide)) rfl 2 (by decide) (hts _ md_X9_gatherResources_3) (fun _ h9 => h9) (fl_q rfl ek_33) dX9_gatherResources_87 ?_
        refine lv_aload_n hx hb dX9_gatherResources_90 rfl (lv_at hl 4 rfl) ?_
        obtain ⟨k_34, ek_34, hf⟩ := lnk_some hf
        refine va_get (D := (dC, dI)) (ci := 7) (v := .ref (a k_34)) (C := RX7) (T := TX7) (N := 16) hx hb hts iwd_X9_gatherResources_X7 hown hK hP x0 (Wd_ob kg_5 sg_5 (by decide)) rfl 6 (by decide) (hts _ md_X9_gatherResources_4) (fun _ h9 => h9) (fl_q rfl ek_34) dX9_gatherResources_91 ?_
        refine lv_iload_n hx hb dX9_gatherResources_94 rfl (lv_at hl 2 rfl) ?_
        obtain ⟨g_35, hf⟩ := grd_some hf
        obtain ⟨kg_35, sg_35, ig_35⟩ := okA_at g_35
        refine va_lald hx hb hK hP k_34 2 (Wd_al kg_35 sg_35) rfl ig_35 dX9_gatherResources_95 ?_
        obtain ⟨g_37, hf⟩ := grd_some hf
        obtain ⟨kg_37, sg_37⟩ := okO_at g_37
        obtain ⟨z_36, _u, hfc, hf⟩ := cal_some hf
        have hFc := de_free hD hS hA
        refine va_callv (va_runV (As := [.long (z_30.2.1 k_34 p_1.toNatClampNeg)]) (rest := []) ⟨hx, hb, hml, hown, hts⟩ (de_X0_putLong l dC dI cy a sh n H_32.size F sk z_30 k_33 (z_30.2.1 k_34 p_1.toNatClampNeg) hfc) (cwV 1 hts gX9_gatherResources_X0_putLong rfl rfl rfl (by decide +kernel) ⟨Nat.le_of_ble_eq_true rfl, Nat.le_of_ble_eq_true rfl⟩) ⟨fun a U g mk q => by obtain ⟨q0, q1, qP, qK, qD, qN, qS⟩ := q; exact ⟨q0, q1, qP, va_K.moved (u := U) (U := U.calling g mk a) (Vm.Alike.refl U.vm) qK, qD, qN.same rfl, SKs.moved (u := U) (U := U.calling g mk a) (Vm.Alike.refl U.vm) qS⟩, va_recv hK hP (ci := 0) (q0 := k_33) rfl (Wd_ob kg_37 sg_37 (by decide)), fun U hU hW => ⟨rfl, by rw [hU], by rw [hU]; exact hP, va_K.moved hW.alike hK, hD.weaken (fun _ _ _ _ => trivial), hN.warm hW, by rw [hU]; exact ((hSK.kept hS.2.1).narrow hFc).moved hW.alike⟩⟩ rfl rfl hl.1 rfl (lv_room (Nat.le_of_ble_eq_true rfl)) dX9_gatherResources_96 ⟨Nat.le_of_ble_eq_true rfl, Nat.le_of_ble_eq_true rfl⟩) hS (fun q _ h => hFc q h) hFc (fun u t H_38 locs ht hvm hw hB hz1 hk1 hS2 => ?_)
        obtain ⟨hP1, -, hD1⟩ := hB
        rw [ht] at hP1
        replace hD := hD1.weaken (fun _ _ _ h => hFc _ h)
        replace hP := hP1
        replace hS := hS2
        clear hP1 hD1 hS2 hFc hfc hz1 hk1 hvm ht
        refine lv_aload_n hx hb dX9_gatherResources_99 rfl (lv_at hl 3 rfl) ?_
        obtain ⟨k_39, ek_39, hf⟩ := lnk_some hf
        refine va_get (D := (dC, dI)) (ci := 9) (v := .ref (a k_39)) (C := RX9) (T := TX9) (N := 13) hx hb hts iwd_X9_gatherResources_X9 hown hK hP h0 (Wd_ob kg_10 sg_10 (by decide)) rfl 2 (by decide) (hts _ md_X9_gatherResources_3) (fun _ h9 => h9) (fl_q rfl ek_39) dX9_gatherResources_100 ?_
        refine lv_aload_n hx hb dX9_gatherResources_103 rfl (lv_at hl 4 rfl) ?_
        obtain ⟨k_40, ek_40, hf⟩ := lnk_some hf
        refine va_get (D := (dC, dI)) (ci := 7) (v := .ref (a k_40)) (C := RX7) (T := TX7) (N := 16) hx hb hts iwd_X9_gatherResources_X7 hown hK hP x0 (Wd_ob kg_5 sg_5 (by decide)) rfl 7 (by decide) (hts _ md_X9_gatherResources_5) (fun _ h9 => h9) (fl_q rfl ek_40) dX9_gatherResources_104 ?_
        refine lv_iload_n hx hb dX9_gatherResources_107 rfl (lv_at hl 2 rfl) ?_
        obtain ⟨g_41, hf⟩ := grd_some hf
        obtain ⟨kg_41, sg_41, ig_41⟩ := okA_at g_41
        refine va_iald hx hb hK hP k_40 1 (Wd_ai kg_41 sg_41) rfl ig_41 dX9_gatherResources_108 ?_
        refine lv_bipush (v := 8) hx hb dX9_gatherResources_109 (by decide) ?_
        refine lv_iushr (v := (((z_36.1 k_40 p_1.toNatClampNeg) : Int32).toUInt32 >>> ((8 : Int32).toUInt32 &&& Int32.toUInt32 31)).toInt32) hx hb dX9_gatherResources_111 rfl ?_
        obtain ⟨g_43, hf⟩ := grd_some hf
        obtain ⟨kg_43, sg_43⟩ := okO_at g_43
        obtain ⟨z_42, _u, hfc, hf⟩ := cal_some hf
        have hFc := de_free hD hS hA
        refine va_callv (va_runV (As := [.int ((((z_36.1 k_40 p_1.toNatClampNeg) : Int32).toUInt32 >>> ((8 : Int32).toUInt32 &&& Int32.toUInt32 31)).toInt32)]) (rest := []) ⟨hx, hb, hml, hown, hts⟩ (de_X0_put l dC dI cy a sh n H_38.size F sk z_36 k_39 ((((z_36.1 k_40 p_1.toNatClampNeg) : Int32).toUInt32 >>> ((8 : Int32).toUInt32 &&& Int32.toUInt32 31)).toInt32) hfc) (cwV 1 hts gX9_gatherResources_X0_put rfl rfl rfl (by decide +kernel) ⟨Nat.le_of_ble_eq_true rfl, Nat.le_of_ble_eq_true rfl⟩) ⟨fun a U g mk q => by obtain ⟨q0, q1, qP, qK, qD, qN, qS⟩ := q; exact ⟨q0, q1, qP, va_K.moved (u := U) (U := U.calling g mk a) (Vm.Alike.refl U.vm) qK, qD, qN.same rfl, SKs.moved (u := U) (U := U.calling g mk a) (Vm.Alike.refl U.vm) qS⟩, va_recv hK hP (ci := 0) (q0 := k_39) rfl (Wd_ob kg_43 sg_43 (by decide)), fun U hU hW => ⟨rfl, by rw [hU], by rw [hU]; exact hP, va_K.moved hW.alike hK, hD.weaken (fun _ _ _ _ => trivial), hN.warm hW, by rw [hU]; exact ((hSK.kept hS.2.1).narrow hFc).moved hW.alike⟩⟩ rfl rfl hl.1 rfl (lv_room (Nat.le_of_ble_eq_true rfl)) dX9_gatherResources_112 ⟨Nat.le_of_ble_eq_true rfl, Nat.le_of_ble_eq_true rfl⟩) hS (fun q _ h => hFc q h) hFc (fun u t H_44 locs ht hvm hw hB hz1 hk1 hS2 => ?_)
        obtain ⟨hP1, -, hD1⟩ := hB
        rw [ht] at hP1
        replace hD := hD1.weaken (fun _ _ _ h => hFc _ h)
        replace hP := hP1
        replace hS := hS2
        clear hP1 hD1 hS2 hFc hfc hz1 hk1 hvm ht
        refine lv_aload_n hx hb dX9_gatherResources_115 rfl (lv_at hl 3 rfl) ?_
        obtain ⟨k_45, ek_45, hf⟩ := lnk_some hf
        refine va_get (D := (dC, dI)) (ci := 9) (v := .ref (a k_45)) (C := RX9) (T := TX9) (N := 13) hx hb hts iwd_X9_gatherResources_X9 hown hK hP h0 (Wd_ob kg_10 sg_10 (by decide)) rfl 2 (by decide) (hts _ md_X9_gatherResources_3) (fun _ h9 => h9) (fl_q rfl ek_45) dX9_gatherResources_116 ?_
        refine lv_aload_n hx hb dX9_gatherResources_119 rfl (lv_at hl 4 rfl) ?_
        obtain ⟨k_46, ek_46, hf⟩ := lnk_some hf
        refine va_get (D := (dC, dI)) (ci := 7) (v := .ref (a k_46)) (C := RX7) (T := TX7) (N := 16) hx hb hts iwd_X9_gatherResources_X7 hown hK hP x0 (Wd_ob kg_5 sg_5 (by decide)) rfl 7 (by decide) (hts _ md_X9_gatherResources_5) (fun _ h9 => h9) (fl_q rfl ek_46) dX9_gatherResources_120 ?_
        refine lv_iload_n hx hb dX9_gatherResources_123 rfl (lv_at hl 2 rfl) ?_
        obtain ⟨g_47, hf⟩ := grd_some hf
        obtain ⟨kg_47, sg_47, ig_47⟩ := okA_at g_47
        refine va_iald hx hb hK hP k_46 1 (Wd_ai kg_47 sg_47) rfl ig_47 dX9_gatherResources_124 ?_
        obtain ⟨g_49, hf⟩ := grd_some hf
        obtain ⟨kg_49, sg_49⟩ := okO_at g_49
        obtain ⟨z_48, _u, hfc, hf⟩ := cal_some hf
        have hFc := de_free hD hS hA
        refine va_callv (va_runV (As := [.int (z_42.1 k_46 p_1.toNatClampNeg)]) (rest := []) ⟨hx, hb, hml, hown, hts⟩ (de_X0_put l dC dI cy a sh n H_44.size F sk z_42 k_45 (z_42.1 k_46 p_1.toNatClampNeg) hfc) (cwV 1 hts gX9_gatherResources_X0_put rfl rfl rfl (by decide +kernel) ⟨Nat.le_of_ble_eq_true rfl, Nat.le_of_ble_eq_true rfl⟩) ⟨fun a U g mk q => by obtain ⟨q0, q1, qP, qK, qD, qN, qS⟩ := q; exact ⟨q0, q1, qP, va_K.moved (u := U) (U := U.calling g mk a) (Vm.Alike.refl U.vm) qK, qD, qN.same rfl, SKs.moved (u := U) (U := U.calling g mk a) (Vm.Alike.refl U.vm) qS⟩, va_recv hK hP (ci := 0) (q0 := k_45) rfl (Wd_ob kg_49 sg_49 (by decide)), fun U hU hW => ⟨rfl, by rw [hU], by rw [hU]; exact hP, va_K.moved hW.alike hK, hD.weaken (fun _ _ _ _ => trivial), hN.warm hW, by rw [hU]; exact ((hSK.kept hS.2.1).narrow hFc).moved hW.alike⟩⟩ rfl rfl hl.1 rfl (lv_room (Nat.le_of_ble_eq_true rfl)) dX9_gatherResources_125 ⟨Nat.le_of_ble_eq_true rfl, Nat.le_of_ble_eq_true rfl⟩) hS (fun q _ h => hFc q h) hFc (fun u t H_50 locs ht hvm hw hB hz1 hk1 hS2 => ?_)
        obtain ⟨hP1, -, hD1⟩ := hB
        rw [ht] at hP1
        replace hD := hD1.weaken (fun _ _ _ h => hFc _ h)
        replace hP := hP1
        replace hS := hS2
        clear hP1 hD1 hS2 hFc hfc hz1 hk1 hvm ht
        refine lv_aload_n hx hb dX9_gatherResources_128 rfl (lv_at hl 3 rfl) ?_
        obtain ⟨k_51, ek_51, hf⟩ := lnk_some hf
        refine va_get (D := (dC, dI)) (ci := 9) (v := .ref (a k_51)) (C := RX9) (T := TX9) (N := 13) hx hb hts iwd_X9_gatherResources_X9 hown hK hP h0 (Wd_ob kg_10 sg_10 (by decide)) rfl 2 (by decide) (hts _ md_X9_gatherResources_3) (fun _ h9 => h9) (fl_q rfl ek_51) dX9_gatherResources_129 ?_
        refine lv_aload_n hx hb dX9_gatherResources_132 rfl (lv_at hl 4 rfl) ?_
        obtain ⟨k_52, ek_52, hf⟩ := lnk_some hf
        refine va_get (D := (dC, dI)) (ci := 7) (v := .ref (a k_52)) (C := RX7) (T := TX7) (N := 16) hx hb hts iwd_X9_gatherResources_X7 hown hK hP x0 (Wd_ob kg_5 sg_5 (by decide)) rfl 8 (by decide) (hts _ md_X9_gatherResources_6) (fun _ h9 => h9) (fl_q rfl ek_52) dX9_gatherResources_133 ?_
        refine lv_iload_n hx hb dX9_gatherResources_136 rfl (lv_at hl 2 rfl) ?_
        obtain ⟨g_53, hf⟩ := grd_some hf
        obtain ⟨kg_53, sg_53, ig_53⟩ := okA_at g_53
        refine va_iald hx hb hK hP k_52 1 (Wd_ai kg_53 sg_53) rfl ig_53 dX9_gatherResources_137 ?_
        obtain ⟨g_55, hf⟩ := grd_some hf
        obtain ⟨kg_55, sg_55⟩ := okO_at g_55
        obtain ⟨z_54, _u, hfc, hf⟩ := cal_some hf
        have hFc := de_free hD hS hA
        refine va_callv (va_runV (As := [.int (z_48.1 k_52 p_1.toNatClampNeg)]) (rest := []) ⟨hx, hb, hml, hown, hts⟩ (de_X0_put l dC dI cy a sh n H_50.size F sk z_48 k_51 (z_48.1 k_52 p_1.toNatClampNeg) hfc) (cwV 1 hts gX9_gatherResources_X0_put rfl rfl rfl (by decide +kernel) ⟨Nat.le_of_ble_eq_true rfl, Nat.le_of_ble_eq_true rfl⟩) ⟨fun a U g mk q => by obtain ⟨q0, q1, qP, qK, qD, qN, qS⟩ := q; exact ⟨q0, q1, qP, va_K.moved (u := U) (U := U.calling g mk a) (Vm.Alike.refl U.vm) qK, qD, qN.same rfl, SKs.moved (u := U) (U := U.calling g mk a) (Vm.Alike.refl U.vm) qS⟩, va_recv hK hP (ci := 0) (q0 := k_51) rfl (Wd_ob kg_55 sg_55 (by decide)), fun U hU hW => ⟨rfl, by rw [hU], by rw [hU]; exact hP, va_K.moved hW.alike hK, hD.weaken (fun _ _ _ _ => trivial), hN.warm hW, by rw [hU]; exact ((hSK.kept hS.2.1).narrow hFc).moved hW.alike⟩⟩ rfl rfl hl.1 rfl (lv_room (Nat.le_of_ble_eq_true rfl)) dX9_gatherResources_138 ⟨Nat.le_of_ble_eq_true rfl, Nat.le_of_ble_eq_true rfl⟩) hS (fun q _ h => hFc q h) hFc (fun u t H_56 locs ht hvm hw hB hz1 hk1 hS2 => ?_)
        obtain ⟨hP1, -, hD1⟩ := hB
        rw [ht] at hP1
        replace hD := hD1.weaken (fun _ _ _ h => hFc _ h)
        replace hP := hP1
        replace hS := hS2
        clear hP1 hD1 hS2 hFc hfc hz1 hk1 hvm ht
        refine lv_aload_n hx hb dX9_gatherResources_141 rfl (lv_at hl 3 rfl) ?_
        refine lv_iconst (v := 3) hx hb dX9_gatherResources_142 (by decide) ?_
        refine lv_aload_n hx hb dX9_gatherResources_143 rfl (lv_at hl 4 rfl) ?_
        obtain ⟨k_57, ek_57, hf⟩ := lnk_some hf
        refine va_get (D := (dC, dI)) (ci := 7) (v := .ref (a k_57)) (C := RX7) (T := TX7) (N := 16) hx hb hts iwd_X9_gatherResources_X7 hown hK hP x0 (Wd_ob kg_5 sg_5 (by decide)) rfl 6 (by decide) (hts _ md_X9_gatherResources_4) (fun _ h9 => h9) (fl_q rfl ek_57) dX9_gatherResources_144 ?_
        refine lv_iload_n hx hb dX9_gatherResources_147 rfl (lv_at hl 2 rfl) ?_
        obtain ⟨g_58, hf⟩ := grd_some hf
        obtain ⟨kg_58, sg_58, ig_58⟩ := okA_at g_58
        refine va_lald hx hb hK hP k_57 2 (Wd_al kg_58 sg_58) rfl ig_58 dX9_gatherResources_148 ?_
        refine lv_aload_n hx hb dX9_gatherResources_149 rfl (lv_at hl 4 rfl) ?_
        obtain ⟨k_59, ek_59, hf⟩ := lnk_some hf
        refine va_get (D := (dC, dI)) (ci := 7) (v := .ref (a k_59)) (C := RX7) (T := TX7) (N := 16) hx hb hts iwd_X9_gatherResources_X7 hown hK hP x0 (Wd_ob kg_5 sg_5 (by decide)) rfl 7 (by decide) (hts _ md_X9_gatherResources_5) (fun _ h9 => h9) (fl_q rfl ek_59) dX9_gatherResources_150 ?_
        refine lv_iload_n hx hb dX9_gatherResources_153 rfl (lv_at hl 2 rfl) ?_
        obtain ⟨g_60, hf⟩ := grd_some hf
        obtain ⟨kg_60, sg_60, ig_60⟩ := okA_at g_60
        refine va_iald hx hb hK hP k_59 1 (Wd_ai kg_60 sg_60) rfl ig_60 dX9_gatherResources_154 ?_
        refine lv_aload_n hx hb dX9_gatherResources_155 rfl (lv_at hl 4 rfl) ?_
        obtain ⟨k_61, ek_61, hf⟩ := lnk_some hf
        refine va_get (D := (dC, dI)) (ci := 7) (v := .ref (a k_61)) (C := RX7) (T := TX7) (N := 16) hx hb hts iwd_X9_gatherResources_X7 hown hK hP x0 (Wd_ob kg_5 sg_5 (by decide)) rfl 8 (by decide) (hts _ md_X9_gatherResources_6) (fun _ h9 => h9) (fl_q rfl ek_61) dX9_gatherResources_156 ?_
        refine lv_iload_n hx hb dX9_gatherResources_159 rfl (lv_at hl 2 rfl) ?_
        obtain ⟨g_62, hf⟩ := grd_some hf
        obtain ⟨kg_62, sg_62, ig_62⟩ := okA_at g_62
        refine va_iald hx hb hK hP k_61 1 (Wd_ai kg_62 sg_62) rfl ig_62 dX9_gatherResources_160 ?_
        obtain ⟨z_63, _u, hfc, hf⟩ := cal_some hf
        have hFc := de_free hD hS hA
        refine va_callv (va_runV (As := [.int 3, .long (z_54.2.1 k_57 p_1.toNatClampNeg), .int (z_54.1 k_59 p_1.toNatClampNeg), .int (z_54.1 k_61 p_1.toNatClampNeg)]) (rest := []) ⟨hx, hb, hml, hown, hts⟩ (de_X9_addPlace l dC dI cy a sh n H_56.size F sk z_54 h0 3 (z_54.2.1 k_57 p_1.toNatClampNeg) (z_54.1 k_59 p_1.toNatClampNeg) (z_54.1 k_61 p_1.toNatClampNeg) hfc) (cwV 4 hts gX9_gatherResources_X9_addPlace rfl rfl rfl (by decide +kernel) ⟨Nat.le_of_ble_eq_true rfl, Nat.le_of_ble_eq_true rfl⟩) ⟨fun a U g mk q => by obtain ⟨q0, q1, qP, qK, qD, qN, qS⟩ := q; exact ⟨q0, q1, qP, va_K.moved (u := U) (U := U.calling g mk a) (Vm.Alike.refl U.vm) qK, qD, qN.same rfl, SKs.moved (u := U) (U := U.calling g mk a) (Vm.Alike.refl U.vm) qS⟩, va_recv hK hP (ci := 9) (q0 := h0) rfl (Wd_ob kg_10 sg_10 (by decide)), fun U hU hW => ⟨rfl, by rw [hU], by rw [hU]; exact hP, va_K.moved hW.alike hK, hD.weaken (fun _ _ _ _ => trivial), hN.warm hW, by rw [hU]; exact ((hSK.kept hS.2.1).narrow hFc).moved hW.alike⟩⟩ rfl rfl hl.1 rfl (lv_room (Nat.le_of_ble_eq_true rfl)) dX9_gatherResources_161 ⟨Nat.le_of_ble_eq_true rfl, Nat.le_of_ble_eq_true rfl⟩) hS (fun q _ h => hFc q h) hFc (fun u t H_64 locs ht hvm hw hB hz1 hk1 hS2 => ?_)
        obtain ⟨hP1, -, hD1⟩ := hB
        rw [ht] at hP1
        replace hD := hD1.weaken (fun _ _ _ h => hFc _ h)
        replace hP := hP1
        replace hS := hS2
        clear hP1 hD1 hS2 hFc hfc hz1 hk1 hvm ht
        exact B164 (z_63) ls H_64 locs ⟨lv_sub hl [2, 3, 4] rfl, hP, hD, hS⟩ hf
      · skip
        rw [if_neg c_22] at hf
        refine lv_aload_n hx hb dX9_gatherResources_47 rfl (lv_at hl 3 rfl) ?_
        obtain ⟨k_65, ek_65, hf⟩ := lnk_some hf
        refine va_get (D := (dC, dI)) (ci := 9) (v := .ref (a k_65)) (C := RX9) (T := TX9) (N := 13) hx hb hts iwd_X9_gatherResources_X9 hown hK hP h0 (Wd_ob kg_10 sg_10 (by decide)) rfl 2 (by decide) (hts _ md_X9_gatherResources_3) (fun _ h9 => h9) (fl_q rfl ek_65) dX9_gatherResources_48 ?_
        refine lv_aload_n hx hb dX9_gatherResources_51 rfl (lv_at hl 3 rfl) ?_
        obtain ⟨k_66, ek_66, hf⟩ := lnk_some hf
        refine va_get (D := (dC, dI)) (ci := 9) (v := .ref (a k_66)) (C := RX9) (T := TX9) (N := 13) hx hb hts iwd_X9_gatherResources_X9 hown hK hP h0 (Wd_ob kg_10 sg_10 (by decide)) rfl 8 (by decide) (hts _ md_X9_gatherResources_2) (fun _ h9 => h9) (fl_q rfl ek_66) dX9_gatherResources_52 ?_
        refine lv_iload hx hb dX9_gatherResources_55 (lv_at hl 0 rfl) ?_
        obtain ⟨g_67, hf⟩ := grd_some hf
        obtain ⟨kg_67, sg_67, ig_67⟩ := okA_at g_67
        refine va_bald hx hb hK hP k_66 0 (Wd_ab kg_67 sg_67) rfl ig_67 dX9_gatherResources_57 ?_
        obtain ⟨g_69, hf⟩ := grd_some hf
        obtain ⟨kg_69, sg_69⟩ := okO_at g_69
        obtain ⟨z_68, _u, hfc, hf⟩ := cal_some hf
        have hFc := de_free hD hS hA
        refine va_callv (va_runV (As := [.int (z_20.1 k_66 p_19.toNatClampNeg)]) (rest := []) ⟨hx, hb, hml, hown, hts⟩ (de_X0_put l dC dI cy a sh n H.size F sk z_20 k_65 (z_20.1 k_66 p_19.toNatClampNeg) hfc) (cwV 1 hts gX9_gatherResources_X0_put rfl rfl rfl (by decide +kernel) ⟨Nat.le_of_ble_eq_true rfl, Nat.le_of_ble_eq_true rfl⟩) ⟨fun a U g mk q => by obtain ⟨q0, q1, qP, qK, qD, qN, qS⟩ := q; exact ⟨q0, q1, qP, va_K.moved (u := U) (U := U.calling g mk a) (Vm.Alike.refl U.vm) qK, qD, qN.same rfl, SKs.moved (u := U) (U := U.calling g mk a) (Vm.Alike.refl U.vm) qS⟩, va_recv hK hP (ci := 0) (q0 := k_65) rfl (Wd_ob kg_69 sg_69 (by decide)), fun U hU hW => ⟨rfl, by rw [hU], by rw [hU]; exact hP, va_K.moved hW.alike hK, hD.weaken (fun _ _ _ _ => trivial), hN.warm hW, by rw [hU]; exact ((hSK.kept hS.2.1).narrow hFc).moved hW.alike⟩⟩ rfl rfl hl.1 rfl (lv_room (Nat.le_of_ble_eq_true rfl)) dX9_gatherResources_58 ⟨Nat.le_of_ble_eq_true rfl, Nat.le_of_ble_eq_true rfl⟩) hS (fun q _ h => hFc q h) hFc (fun u t H_70 locs ht hvm hw hB hz1 hk1 hS2 => ?_)
        obtain ⟨hP1, -, hD1⟩ := hB
        rw [ht] at hP1
        replace hD := hD1.weaken (fun _ _ _ h => hFc _ h)
        replace hP := hP1
        replace hS := hS2
        clear hP1 hD1 hS2 hFc hfc hz1 hk1 hvm ht
        refine lv_iinc (v := (p_19 + 1)) (lv' := [(4, .int (p_19 + 1)), (3, .int r_13), (2, .int p_1), (0, .ref (a h0)), (1, .ref (a x0))]) hx hb dX9_gatherResources_61 hl (k := 0) rfl rfl (by decide) rfl (fun ls hl2 => ?_)
        replace hl := hl2
        clear hl2
        refine lv_goto (tgt := 41) hx hb dX9_gatherResources_64 (by decide) ?_
        exact ih41 (z_68, (p_19 + 1)) ls H_70 locs ⟨lv_sub hl [0, 1, 2, 3, 4] rfl, hP, hD, hS⟩ hf
    · skip
      rw [if_pos c_9] at hf
      refine lv_goto (tgt := 164) hx hb dX9_gatherResources_18 (by decide) ?_
      exact B164 (z_2) ls H locs ⟨lv_sub hl [0, 1, 2] rfl, hP, hD, hS⟩ hf

theorem md_X13_come_1 : (.fieldLink RX13 48 "ResourceLedgerModel$Looker" "fault" "I" : Cond) ∈ wsX13_come := List.mem_of_getElem? (i := 1) rfl
theorem iwd_X13_come_X13 : ∀ w ∈ wsX130, w ∈ wsX13_come := fun _ h => List.mem_cons_of_mem _ (List.mem_append_left _ (List.mem_append_right _ h))
theorem md_X13_come_2 : (.fieldLink RX13 13 "ResourceLedgerModel$Looker" "came" "[Z" : Cond) ∈ wsX13_come := List.mem_of_getElem? (i := 2) rfl
theorem md_X13_come_3 : (.fieldLink RX13 136 "ResourceLedgerModel$Looker" "locals" "I" : Cond) ∈ wsX13_come := List.mem_of_getElem? (i := 3) rfl
theorem md_X13_come_4 : (.fieldLink RX13 21 "ResourceLedgerModel$Looker" "thereAt" "[Z" : Cond) ∈ wsX13_come := List.mem_of_getElem? (i := 4) rfl
theorem md_X13_come_5 : (.fieldLink RX13 39 "ResourceLedgerModel$Looker" "there" "[Z" : Cond) ∈ wsX13_come := List.mem_of_getElem? (i := 5) rfl
theorem md_X13_come_6 : (.fieldLink RX13 24 "ResourceLedgerModel$Looker" "originsAt" "[J" : Cond) ∈ wsX13_come := List.mem_of_getElem? (i := 6) rfl
theorem md_X13_come_8 : (.fieldLink RX13 27 "ResourceLedgerModel$Looker" "insideAt" "[Z" : Cond) ∈ wsX13_come := List.mem_of_getElem? (i := 8) rfl
theorem md_X13_come_9 : (.fieldLink RX13 45 "ResourceLedgerModel$Looker" "within" "[Z" : Cond) ∈ wsX13_come := List.mem_of_getElem? (i := 9) rfl
theorem md_X13_come_7 : (.fieldLink RX13 42 "ResourceLedgerModel$Looker" "points" "[J" : Cond) ∈ wsX13_come := List.mem_of_getElem? (i := 7) rfl
set_option maxHeartbeats 4000000 in
set_option maxRecDepth 100000 in
theorem de_X13_come (l : Launch) (dC : Nat → ClassId) (dI : Nat → Nat → Nat) (cy : Nat → ClassId) (a : Nat → Nat) (sh : Nat → Nat × Nat) (n sz : Nat) (F : Nat) (z : St) (h0 : Nat) (x0 : Int32) (x1 : Int32) {z8 : St} {r8 : Unit} (hf : fn_X13_come F sh n z h0 x0 x1 = some (z8, r8)) : Met l yX13_come wsX13_come ({ frames := 5, cells := 0, slots := 0, locals := 117 }) (va_Pc [.ref (a h0), .int x0, .int x1] (fun U => U.heap.size = sz ∧ va_P (dC, dI) vwCl (Wd cy a sh n z) U.heap ∧ va_K (dC, dI) vwCl (TYS cy) U ∧ va_D (fun _ => True) (Wd cy a sh n z) ∧ NK U)) (va_Qv (fun u : Unit => True) (fun u t => va_P (dC, dI) vwCl (Wd cy a sh n z8) t.heap ∧ va_K (dC, dI) vwCl (TYS cy) t ∧ va_D (va_A (Wd cy a sh n z) sz) (Wd cy a sh n z8)) (va_A (Wd cy a sh n z) sz)) 0 0 (va_A (Wd cy a sh n z) sz) := by
  refine Met.ofW (cc := cX13_come) (maxL := 6) (ret := none) (by decide) rfl ?_
  intro p e s m args below meth c s₁ B hml hv
  obtain ⟨rfl, hsz, hP, hK, hD0, hN⟩ := hv
  have hx := B.exec
  have hb := B.bytes
  have hr := B.returns
  have hts := atoms_spec (ws := wsX13_come) B.pre
  have hown : s.vm.findClass RX13 = some m.cls := findClass_of_methodNamed B.named
  have hlocks := B.notSynchronized
  subst hsz
  have hD := hD0.self (sz := s.heap.size)
  clear hD0
  generalize hAe : va_A (Wd cy a sh n z) s.heap.size = A at hD ⊢
  have hA : ∀ q : Nat, s.heap.size ≤ q → A q := fun q h => by rw [← hAe]; exact Or.inr h
  clear hAe
  have hS : va_S A s.heap s.heap [] := va_S.rf
  have hl := lv_entry ([.ref (a h0), .int x0, .int x1]) (n := 6) (Nat.le_of_ble_eq_true rfl)
  rw [lg_entry_eq]
  generalize (lg_sl ([.ref (a h0), .int x0, .int x1]) ++ List.replicate (6 - (lg_sl ([.ref (a h0), .int x0, .int x1])).length) Slot.unset).toArray = ls at hl ⊢
  replace hl : lv_has ls 6 [(0, .ref (a h0)), (1, .int x0), (2, .int x1)] := hl
  unfold fn_X13_come at hf
  refine de_start hS hP (fun H locs hS hP => ?_)
  refine lv_aload_n hx hb dX13_come_0 rfl (lv_at hl 0 rfl) ?_
  obtain ⟨g_1, hf⟩ := grd_some hf
  obtain ⟨kg_1, sg_1⟩ := okO_at g_1
  refine va_get (D := (dC, dI)) (ci := 13) (v := .int (z.1 h0 18)) (C := RX13) (T := TX13) (N := 22) hx hb hts iwd_X13_come_X13 hown hK hP h0 (Wd_ob kg_1 sg_1 (by decide)) rfl 18 (by decide) (hts _ md_X13_come_1) (fun _ h9 => h9) (fl_at (t := 0) rfl) dX13_come_1 ?_
  refine lv_if_eq (tgt := 8) hx hb dX13_come_4 (by decide) (fun c_2 => ?_) (fun c_2 => ?_)
  · skip
    rw [if_pos c_2] at hf
    refine lv_iload_n hx hb dX13_come_8 rfl (lv_at hl 2 rfl) ?_
    refine lv_iload_n hx hb dX13_come_9 rfl (lv_at hl 1 rfl) ?_
    refine de_cut (h := 27) (fun (x : St × Int32) => [.int x.2]) (fun x ls H locs => lv_has ls 6 [(0, .ref (a h0)), (1, .int x0), (2, .int x1)] ∧ va_P (dC, dI) vwCl (Wd cy a sh n x.1) H ∧ va_D A (Wd cy a sh n x.1) ∧ va_S A s.heap H locs) (fun x => fn_X13_come_B27 F sh n h0 x1 x0 x.1 x.2) (z8, r8) ?_ (fun B27 => ?_)
    · intro x ls H locs hI hf
      obtain ⟨z_4, p_3⟩ := x
      obtain ⟨hl2, hP2, hD2, hS2⟩ := hI
      replace hl : lv_has ls 6 [(0, .ref (a h0)), (1, .int x0), (2, .int x1)] := hl2
      replace hP := hP2
      replace hD := hD2
      replace hS := hS2
      clear hl2 hP2 hD2 hS2
      replace hf := fn_X13_come_B27_s hf
      refine W.eq (g2 := F0 m 27 ls [.int p_3]) rfl ?_
      refine lv_istore_n (lv' := [(3, .int p_3), (0, .ref (a h0)), (1, .int x0), (2, .int x1)]) hx hb dX13_come_27 rfl hl (by decide) rfl (fun ls hl2 => ?_)
      replace hl := hl2
      clear hl2
      refine lv_aload_n hx hb dX13_come_28 rfl (lv_at hl 1 rfl) ?_
      obtain ⟨k_5, ek_5, hf⟩ := lnk_some hf
      refine va_get (D := (dC, dI)) (ci := 13) (v := .ref (a k_5)) (C := RX13) (T := TX13) (N := 22) hx hb hts iwd_X13_come_X13 hown hK hP h0 (Wd_ob kg_1 sg_1 (by decide)) rfl 6 (by decide) (hts _ md_X13_come_2) (fun _ h9 => h9) (fl_q rfl ek_5) dX13_come_29 ?_
      refine lv_iload_n hx hb dX13_come_32 rfl (lv_at hl 3 rfl) ?_
      refine lv_iconst (v := 1) hx hb dX13_come_33 (by decide) ?_
      obtain ⟨g_6, hf⟩ := grd_some hf
      obtain ⟨kg_6, sg_6, ig_6⟩ := okA_at g_6
      refine va_zast hx hb hK hP hD hS k_5 3 (Wd_az kg_6 sg_6) rfl ig_6 dX13_come_34 (fun H_7 locs hP2 hD2 hS2 => ?_)
      rw [Wd_tz sg_6] at hP2 hD2
      obtain ⟨z_8, ez_8⟩ : ∃ w, w = si z_4 k_5 x1.toNatClampNeg (vp_nar .boolean 1) := ⟨_, rfl⟩
      rw [← ez_8] at hP2 hD2
      replace hf := lt_at ez_8 hf
      clear ez_8
      replace hP := hP2
      replace hD := hD2
      replace hS := hS2
      clear hP2 hD2 hS2
      refine lv_iconst (v := 0) hx hb dX13_come_35 (by decide) ?_
      refine lv_istore (lv' := [(4, .int 0), (3, .int p_3), (0, .ref (a h0)), (1, .int x0), (2, .int x1)]) hx hb dX13_come_36 hl (by decide) rfl (fun ls hl2 => ?_)
      replace hl := hl2
      clear hl2
      have hl0 : lv_has ls 6 [(4, .int 0), (3, .int p_3), (0, .ref (a h0)), (1, .int x0), (2, .int x1)] := lv_sub hl [0, 1, 2, 3, 4] rfl
      refine de_loop (h := 38) (fun (x : St × Int32) ls H locs => lv_has ls 6 [(4, .int x.2), (3, .int p_3), (0, .ref (a h0)), (1, .int x0), (2, .int x1)] ∧ va_P (dC, dI) vwCl (Wd cy a sh n x.1) H ∧ va_D A (Wd cy a sh n x.1) ∧ va_S A s.heap H locs) (fun f x => fn_X13_come_L38 F sh n h0 x1 p_3 x0 f x.1 x.2) (z8, r8) ?_ (fun _ => rfl) F (z_8, 0) ls H_7 locs ⟨hl0, hP, hD, hS⟩ hf
      intro f_11 x ls H locs ih38 hI hf
      obtain ⟨z_10, p_9⟩ := x
      obtain ⟨hl2, hP2, hD2, hS2⟩ := hI
      replace hl : lv_has ls 6 [(4, .int p_9), (3, .int p_3), (0, .ref (a h0)), (1, .int x0), (2, .int x1)] := hl2
      replace hP := hP2
      replace hD := hD2
      replace hS := hS2
      clear hl2 hP2 hD2 hS2 hl0
      replace hf := fn_X13_come_L38_s hf
      refine lv_iload hx hb dX13_come_38 (lv_at hl 0 rfl) ?_
      refine lv_aload_n hx hb dX13_come_40 rfl (lv_at hl 2 rfl) ?_
      refine va_get (D := (dC, dI)) (ci := 13) (v := .int (z_10.1 h0 2)) (C := RX13) (T := TX13) (N := 22) hx hb hts iwd_X13_come_X13 hown hK hP h0 (Wd_ob kg_1 sg_1 (by decide)) rfl 2 (by decide) (hts _ md_X13_come_3) (fun _ h9 => h9) (fl_at (t := 0) rfl) dX13_come_41 ?_
      refine lv_icmp_ge (tgt := 174) hx hb dX13_come_44 (by decide) (fun c_12 => ?_) (fun c_12 => ?_)
      · skip
        rw [if_pos c_12] at hf
        obtain ⟨h8, h9⟩ := ret_some hf
        rw [h8]
        exact W.vret hx hb hr (fun t ht hW => ⟨⟨(), rfl, trivial, by rw [ht]; exact hP, va_K.moved hW.alike hK, hD⟩, hS.F ht⟩) hS.2.2 dX13_come_174
      · skip
        rw [if_neg c_12] at hf
        refine lv_aload_n hx hb dX13_come_47 rfl (lv_at hl 2 rfl) ?_
        refine va_get (D := (dC, dI)) (ci := 13) (v := .int (z_10.1 h0 18)) (C := RX13) (T := TX13) (N := 22) hx hb hts iwd_X13_come_X13 hown hK hP h0 (Wd_ob kg_1 sg_1 (by decide)) rfl 18 (by decide) (hts _ md_X13_come_1) (fun _ h9 => h9) (fl_at (t := 0) rfl) dX13_come_48 ?_
        refine lv_if_ne (tgt := 174) hx hb dX13_come_51 (by decide) (fun c_13 => ?_) (fun c_13 => ?_)
        · skip
          rw [if_neg c_13] at hf
          obtain ⟨h8, h9⟩ := ret_some hf
          rw [h8]
          exact W.vret hx hb hr (fun t ht hW => ⟨⟨(), rfl, trivial, by rw [ht]; exact hP, va_K.moved hW.alike hK, hD⟩, hS.F ht⟩) hS.2.2 dX13_come_174
        · skip
          rw [if_pos c_13] at hf
          refine lv_bipush (v := 40) hx hb dX13_come_54 (by decide) ?_
          refine lv_iload_n hx hb dX13_come_56 rfl (lv_at hl 4 rfl) ?_
          refine lv_imul hx hb dX13_come_57 ?_
          refine lv_iload hx hb dX13_come_58 (lv_at hl 0 rfl) ?_
          refine lv_iadd hx hb dX13_come_60 ?_
          refine lv_topi (fun v_14 ev_14 => ?_)
          replace hf := lt_at ev_14 hf
          clear ev_14
          refine lv_istore (lv' := [(5, .int v_14), (4, .int p_9), (3, .int p_3), (0, .ref (a h0)), (1, .int x0), (2, .int x1)]) hx hb dX13_come_61 hl (by decide) rfl (fun ls hl2 => ?_)
          replace hl := hl2
          clear hl2
          refine lv_iload_n hx hb dX13_come_63 rfl (lv_at hl 2 rfl) ?_
          refine de_cut (h := 168) (fun (x : St) => []) (fun x ls H locs => lv_has ls 6 [(4, .int p_9), (3, .int p_3), (0, .ref (a h0)), (1, .int x0), (2, .int x1)] ∧ va_P (dC, dI) vwCl (Wd cy a sh n x) H ∧ va_D A (Wd cy a sh n x) ∧ va_S A s.heap H locs) (fun x => fn_X13_come_B168 F sh n p_9 (fun z9 q4 => fn_X13_come_L38 F sh n h0 x1 p_3 x0 f_11 z9 q4) x) (z8, r8) ?_ (fun B168 => ?_)
          · intro x ls H locs hI hf
            obtain ⟨z_15, ez⟩ : ∃ w, w = x := ⟨_, rfl⟩
            subst ez
            obtain ⟨hl2, hP2, hD2, hS2⟩ := hI
            replace hl : lv_has ls 6 [(4, .int p_9), (3, .int p_3), (0, .ref (a h0)), (1, .int x0), (2, .int x1)] := hl2
            replace hP := hP2
            replace hD := hD2
            replace hS := hS2
            clear hl2 hP2 hD2 hS2
            replace hf := fn_X13_come_B168_s hf
            refine W.eq (g2 := F0 m 168 ls []) rfl ?_
            refine lv_iinc (v := (p_9 + 1)) (lv' := [(4, .int (p_9 + 1)), (3, .int p_3), (0, .ref (a h0)), (1, .int x0), (2, .int x1)]) hx hb dX13_come_168 hl (k := 0) rfl rfl (by decide) rfl (fun ls hl2 => ?_)
            replace hl := hl2
            clear hl2
            refine lv_goto (tgt := 38) hx hb dX13_come_171 (by decide) ?_
            exact ih38 (z_15, (p_9 + 1)) ls H locs ⟨lv_sub hl [0, 1, 2, 3, 4] rfl, hP, hD, hS⟩ hf
          refine lv_if_eq (tgt := 144) hx hb dX13_come_64 (by decide) (fun c_16 => ?_) (fun c_16 => ?_)
          · skip
            rw [if_pos c_16] at hf
            refine lv_iload_n hx hb dX13_come_144 rfl (lv_at hl 5 rfl) ?_
            refine lv_iload_n hx hb dX13_come_145 rfl (lv_at hl 4 rfl) ?_
            refine lv_icmp_le (tgt := 160) hx hb dX13_come_146 (by decide) (fun c_17 => ?_) (fun c_17 => ?_)
            · skip
              rw [if_pos c_17] at hf
              refine lv_aload_n hx hb dX13_come_160 rfl (lv_at hl 3 rfl) ?_
              refine lv_iload hx hb dX13_come_161 (lv_at hl 0 rfl) ?_
              refine lv_iload hx hb dX13_come_163 (lv_at hl 1 rfl) ?_
              obtain ⟨z_18, _u, hfc, hf⟩ := cal_some hf
              have hFc := de_free hD hS hA
              refine va_callv (va_runV (As := [.int v_14, .int p_9]) (rest := []) ⟨hx, hb, hml, hown, hts⟩ (de_X13_back l dC dI cy a sh n H.size F z_10 h0 v_14 p_9 hfc) (cwV 2 hts gX13_come_X13_back rfl rfl rfl (by decide +kernel) ⟨Nat.le_of_ble_eq_true rfl, Nat.le_of_ble_eq_true rfl⟩) ⟨fun a U g mk q => by obtain ⟨q0, q1, qP, qK, qD, qN⟩ := q; exact ⟨q0, q1, qP, va_K.moved (u := U) (U := U.calling g mk a) (Vm.Alike.refl U.vm) qK, qD, qN.same rfl⟩, va_recv hK hP (ci := 13) (q0 := h0) rfl (Wd_ob kg_1 sg_1 (by decide)), fun U hU hW => ⟨rfl, by rw [hU], by rw [hU]; exact hP, va_K.moved hW.alike hK, hD.weaken (fun _ _ _ _ => trivial), hN.warm hW⟩⟩ rfl rfl hl.1 rfl (lv_room (Nat.le_of_ble_eq_true rfl)) dX13_come_165 ⟨Nat.le_of_ble_eq_true rfl, Nat.le_of_ble_eq_true rfl⟩) hS (fun q _ h => hFc q h) hFc (fun u t H_19 locs ht hvm hw hB hz1 hk1 hS2 => ?_)
              obtain ⟨hP1, -, hD1⟩ := hB
              rw [ht] at hP1
              replace hD := hD1.weaken (fun _ _ _ h => hFc _ h)
              replace hP := hP1
              replace hS := hS2
              clear hP1 hD1 hS2 hFc hfc hz1 hk1 hvm ht
              exact B168 (z_18) ls H_19 locs ⟨lv_sub hl [1, 2, 3, 4, 5] rfl, hP, hD, hS⟩ hf
            · skip
              rw [if_neg c_17] at hf
              refine lv_aload_n hx hb dX13_come_149 rfl (lv_at hl 3 rfl) ?_
              refine lv_iload hx hb dX13_come_150 (lv_at hl 0 rfl) ?_
              refine lv_iload hx hb dX13_come_152 (lv_at hl 1 rfl) ?_
              obtain ⟨z_20, _u, hfc, hf⟩ := cal_some hf
              have hFc := de_free hD hS hA
              refine va_callv (va_runV (As := [.int v_14, .int p_9]) (rest := []) ⟨hx, hb, hml, hown, hts⟩ (de_X13_meet l dC dI cy a sh n H.size F z_10 h0 v_14 p_9 hfc) (cwV 2 hts gX13_come_X13_meet rfl rfl rfl (by decide +kernel) ⟨Nat.le_of_ble_eq_true rfl, Nat.le_of_ble_eq_true rfl⟩) ⟨fun a U g mk q => by obtain ⟨q0, q1, qP, qK, qD, qN⟩ := q; exact ⟨q0, q1, qP, va_K.moved (u := U) (U := U.calling g mk a) (Vm.Alike.refl U.vm) qK, qD, qN.same rfl⟩, va_recv hK hP (ci := 13) (q0 := h0) rfl (Wd_ob kg_1 sg_1 (by decide)), fun U hU hW => ⟨rfl, by rw [hU], by rw [hU]; exact hP, va_K.moved hW.alike hK, hD.weaken (fun _ _ _ _ => trivial), hN.warm hW⟩⟩ rfl rfl hl.1 rfl (lv_room (Nat.le_of_ble_eq_true rfl)) dX13_come_154 ⟨Nat.le_of_ble_eq_true rfl, Nat.le_of_ble_eq_true rfl⟩) hS (fun q _ h => hFc q h) hFc (fun u t H_21 locs ht hvm hw hB hz1 hk1 hS2 => ?_)
              obtain ⟨hP1, -, hD1⟩ := hB
              rw [ht] at hP1
              replace hD := hD1.weaken (fun _ _ _ h => hFc _ h)
              replace hP := hP1
              replace hS := hS2
              clear hP1 hD1 hS2 hFc hfc hz1 hk1 hvm ht
              refine lv_goto (tgt := 168) hx hb dX13_come_157 (by decide) ?_
              exact B168 (z_20) ls H_21 locs ⟨lv_sub hl [1, 2, 3, 4, 5] rfl, hP, hD, hS⟩ hf
          · skip
            rw [if_neg c_16] at hf
            refine lv_aload_n hx hb dX13_come_67 rfl (lv_at hl 3 rfl) ?_
            obtain ⟨k_22, ek_22, hf⟩ := lnk_some hf
            refine va_get (D := (dC, dI)) (ci := 13) (v := .ref (a k_22)) (C := RX13) (T := TX13) (N := 22) hx hb hts iwd_X13_come_X13 hown hK hP h0 (Wd_ob kg_1 sg_1 (by decide)) rfl 8 (by decide) (hts _ md_X13_come_4) (fun _ h9 => h9) (fl_q rfl ek_22) dX13_come_68 ?_
            refine lv_iload hx hb dX13_come_71 (lv_at hl 0 rfl) ?_
            refine lv_aload_n hx hb dX13_come_73 rfl (lv_at hl 3 rfl) ?_
            obtain ⟨k_23, ek_23, hf⟩ := lnk_some hf
            refine va_get (D := (dC, dI)) (ci := 13) (v := .ref (a k_23)) (C := RX13) (T := TX13) (N := 22) hx hb hts iwd_X13_come_X13 hown hK hP h0 (Wd_ob kg_1 sg_1 (by decide)) rfl 15 (by decide) (hts _ md_X13_come_5) (fun _ h9 => h9) (fl_q rfl ek_23) dX13_come_74 ?_
            refine lv_iload hx hb dX13_come_77 (lv_at hl 1 rfl) ?_
            obtain ⟨g_24, hf⟩ := grd_some hf
            obtain ⟨kg_24, sg_24, ig_24⟩ := okA_at g_24
            refine va_zald hx hb hK hP k_23 3 (Wd_az kg_24 sg_24) rfl ig_24 dX13_come_79 ?_
            obtain ⟨g_25, hf⟩ := grd_some hf
            obtain ⟨kg_25, sg_25, ig_25⟩ := okA_at g_25
            refine va_zast hx hb hK hP hD hS k_22 3 (Wd_az kg_25 sg_25) rfl ig_25 dX13_come_80 (fun H_26 locs hP2 hD2 hS2 => ?_)
            rw [Wd_tz sg_25] at hP2 hD2
            obtain ⟨z_27, ez_27⟩ : ∃ w, w = si z_10 k_22 v_14.toNatClampNeg (vp_nar .boolean (z_10.1 k_23 p_9.toNatClampNeg)) := ⟨_, rfl⟩
            rw [← ez_27] at hP2 hD2
            replace hf := lt_at ez_27 hf
            clear ez_27
            replace hP := hP2
            replace hD := hD2
            replace hS := hS2
            clear hP2 hD2 hS2
            refine lv_aload_n hx hb dX13_come_81 rfl (lv_at hl 3 rfl) ?_
            obtain ⟨k_28, ek_28, hf⟩ := lnk_some hf
            refine va_get (D := (dC, dI)) (ci := 13) (v := .ref (a k_28)) (C := RX13) (T := TX13) (N := 22) hx hb hts iwd_X13_come_X13 hown hK hP h0 (Wd_ob kg_1 sg_1 (by decide)) rfl 9 (by decide) (hts _ md_X13_come_6) (fun _ h9 => h9) (fl_q rfl ek_28) dX13_come_82 ?_
            refine lv_iload hx hb dX13_come_85 (lv_at hl 0 rfl) ?_
            refine lv_aload_n hx hb dX13_come_87 rfl (lv_at hl 3 rfl) ?_
            obtain ⟨k_29, ek_29, hf⟩ := lnk_some hf
            refine va_get (D := (dC, dI)) (ci := 13) (v := .ref (a k_29)) (C := RX13) (T := TX13) (N := 22) hx hb hts iwd_X13_come_X13 hown hK hP h0 (Wd_ob kg_1 sg_1 (by decide)) rfl 15 (by decide) (hts _ md_X13_come_5) (fun _ h9 => h9) (fl_q rfl ek_29) dX13_come_88 ?_
            refine lv_iload hx hb dX13_come_91 (lv_at hl 1 rfl) ?_
            obtain ⟨g_30, hf⟩ := grd_some hf
            obtain ⟨kg_30, sg_30, ig_30⟩ := okA_at g_30
            refine va_zald hx hb hK hP k_29 3 (Wd_az kg_30 sg_30) rfl ig_30 dX13_come_93 ?_
            refine de_cut (h := 108) (fun (x : St × Int64) => [.long x.2, .int v_14, .ref (a k_28)]) (fun x ls H locs => lv_has ls 6 [(5, .int v_14), (4, .int p_9), (3, .int p_3), (0, .ref (a h0)), (1, .int x0), (2, .int x1)] ∧ va_P (dC, dI) vwCl (Wd cy a sh n x.1) H ∧ va_D A (Wd cy a sh n x.1) ∧ va_S A s.heap H locs) (fun x => fn_X13_come_B108 F sh n k_28 v_14 h0 p_9 (fun z9 q4 => fn_X13_come_L38 F sh n h0 x1 p_3 x0 f_11 z9 q4) x.1 x.2) (z8, r8) ?_ (fun B108 => ?_)
            · intro x ls H locs hI hf
              obtain ⟨z_32, p_31⟩ := x
              obtain ⟨hl2, hP2, hD2, hS2⟩ := hI
              replace hl : lv_has ls 6 [(5, .int v_14), (4, .int p_9), (3, .int p_3), (0, .ref (a h0)), (1, .int x0), (2, .int x1)] := hl2
              replace hP := hP2
              replace hD := hD2
              replace hS := hS2
              clear hl2 hP2 hD2 hS2
              replace hf := fn_X13_come_B108_s hf
              refine W.eq (g2 := F0 m 108 ls [.long p_31, .int v_14, .ref (a k_28)]) rfl ?_
              obtain ⟨g_33, hf⟩ := grd_some hf
              obtain ⟨kg_33, sg_33, ig_33⟩ := okA_at g_33
              refine va_last hx hb hK hP hD hS k_28 2 (Wd_al kg_33 sg_33) rfl ig_33 dX13_come_108 (fun H_34 locs hP2 hD2 hS2 => ?_)
              rw [Wd_tl sg_33] at hP2 hD2
              obtain ⟨z_35, ez_35⟩ : ∃ w, w = sl z_32 k_28 v_14.toNatClampNeg p_31 := ⟨_, rfl⟩
              rw [← ez_35] at hP2 hD2
              replace hf := lt_at ez_35 hf
              clear ez_35
              replace hP := hP2
              replace hD := hD2
              replace hS := hS2
              clear hP2 hD2 hS2
              refine lv_aload_n hx hb dX13_come_109 rfl (lv_at hl 3 rfl) ?_
              obtain ⟨k_36, ek_36, hf⟩ := lnk_some hf
              refine va_get (D := (dC, dI)) (ci := 13) (v := .ref (a k_36)) (C := RX13) (T := TX13) (N := 22) hx hb hts iwd_X13_come_X13 hown hK hP h0 (Wd_ob kg_1 sg_1 (by decide)) rfl 10 (by decide) (hts _ md_X13_come_8) (fun _ h9 => h9) (fl_q rfl ek_36) dX13_come_110 ?_
              refine lv_iload hx hb dX13_come_113 (lv_at hl 0 rfl) ?_
              refine lv_aload_n hx hb dX13_come_115 rfl (lv_at hl 3 rfl) ?_
              obtain ⟨k_37, ek_37, hf⟩ := lnk_some hf
              refine va_get (D := (dC, dI)) (ci := 13) (v := .ref (a k_37)) (C := RX13) (T := TX13) (N := 22) hx hb hts iwd_X13_come_X13 hown hK hP h0 (Wd_ob kg_1 sg_1 (by decide)) rfl 15 (by decide) (hts _ md_X13_come_5) (fun _ h9 => h9) (fl_q rfl ek_37) dX13_come_116 ?_
              refine lv_iload hx hb dX13_come_119 (lv_at hl 1 rfl) ?_
              obtain ⟨g_38, hf⟩ := grd_some hf
              obtain ⟨kg_38, sg_38, ig_38⟩ := okA_at g_38
              refine va_zald hx hb hK hP k_37 3 (Wd_az kg_38 sg_38) rfl ig_38 dX13_come_121 ?_
              refine de_cut (h := 140) (fun (x : St × Int32) => [.int x.2, .int v_14, .ref (a k_36)]) (fun x ls H locs => lv_has ls 6 [(4, .int p_9), (3, .int p_3), (0, .ref (a h0)), (1, .int x0), (2, .int x1)] ∧ va_P (dC, dI) vwCl (Wd cy a sh n x.1) H ∧ va_D A (Wd cy a sh n x.1) ∧ va_S A s.heap H locs) (fun x => fn_X13_come_B140 F sh n k_36 v_14 p_9 (fun z9 q4 => fn_X13_come_L38 F sh n h0 x1 p_3 x0 f_11 z9 q4) x.1 x.2) (z8, r8) ?_ (fun B140 => ?_)
              · intro x ls H locs hI hf
                obtain ⟨z_40, p_39⟩ := x
                obtain ⟨hl2, hP2, hD2, hS2⟩ := hI
                replace hl : lv_has ls 6 [(4, .int p_9), (3, .int p_3), (0, .ref (a h0)), (1, .int x0), (2, .int x1)] := hl2
                replace hP := hP2
                replace hD := hD2
                replace hS := hS2
                clear hl2 hP2 hD2 hS2
                replace hf := fn_X13_come_B140_s hf
                refine W.eq (g2 := F0 m 140 ls [.int p_39, .int v_14, .ref (a k_36)]) rfl ?_
                obtain ⟨g_41, hf⟩ := grd_some hf
                obtain ⟨kg_41, sg_41, ig_41⟩ := okA_at g_41
                refine va_zast hx hb hK hP hD hS k_36 3 (Wd_az kg_41 sg_41) rfl ig_41 dX13_come_140 (fun H_42 locs hP2 hD2 hS2 => ?_)
                rw [Wd_tz sg_41] at hP2 hD2
                obtain ⟨z_43, ez_43⟩ : ∃ w, w = si z_40 k_36 v_14.toNatClampNeg (vp_nar .boolean p_39) := ⟨_, rfl⟩
                rw [← ez_43] at hP2 hD2
                replace hf := lt_at ez_43 hf
                clear ez_43
                replace hP := hP2
                replace hD := hD2
                replace hS := hS2
                clear hP2 hD2 hS2
                refine lv_goto (tgt := 168) hx hb dX13_come_141 (by decide) ?_
                exact B168 (z_43) ls H_42 locs ⟨lv_sub hl [0, 1, 2, 3, 4] rfl, hP, hD, hS⟩ hf
              refine de_cut (h := 139) (fun (x : St) => [.int v_14, .ref (a k_36)]) (fun x ls H locs => lv_has ls 6 [(4, .int p_9), (3, .int p_3), (0, .ref (a h0)), (1, .int x0), (2, .int x1)] ∧ va_P (dC, dI) vwCl (Wd cy a sh n x) H ∧ va_D A (Wd cy a sh n x) ∧ va_S A s.heap H locs) (fun x => fn_X13_come_B139 F sh n k_36 v_14 p_9 (fun z9 q4 => fn_X13_come_L38 F sh n h0 x1 p_3 x0 f_11 z9 q4) x) (z8, r8) ?_ (fun B139 => ?_)
              · intro x ls H locs hI hf
                obtain ⟨z_44, ez⟩ : ∃ w, w = x := ⟨_, rfl⟩
                subst ez
                obtain ⟨hl2, hP2, hD2, hS2⟩ := hI
                replace hl : lv_has ls 6 [(4, .int p_9), (3, .int p_3), (0, .ref (a h0)), (1, .int x0), (2, .int x1)] := hl2
                replace hP := hP2
                replace hD := hD2
                replace hS := hS2
                clear hl2 hP2 hD2 hS2
                replace hf := fn_X13_come_B139_s hf
                refine W.eq (g2 := F0 m 139 ls [.int v_14, .ref (a k_36)]) rfl ?_
                refine lv_iconst (v := 0) hx hb dX13_come_139 (by decide) ?_
                exact B140 (z_44, 0) ls H locs ⟨lv_sub hl [0, 1, 2, 3, 4] rfl, hP, hD, hS⟩ hf
              refine lv_if_eq (tgt := 139) hx hb dX13_come_122 (by decide) (fun c_45 => ?_) (fun c_45 => ?_)
              · skip
                rw [if_pos c_45] at hf
                exact B139 (z_35) ls H_34 locs ⟨lv_sub hl [1, 2, 3, 4, 5] rfl, hP, hD, hS⟩ hf
              · skip
                rw [if_neg c_45] at hf
                refine lv_aload_n hx hb dX13_come_125 rfl (lv_at hl 3 rfl) ?_
                obtain ⟨k_46, ek_46, hf⟩ := lnk_some hf
                refine va_get (D := (dC, dI)) (ci := 13) (v := .ref (a k_46)) (C := RX13) (T := TX13) (N := 22) hx hb hts iwd_X13_come_X13 hown hK hP h0 (Wd_ob kg_1 sg_1 (by decide)) rfl 17 (by decide) (hts _ md_X13_come_9) (fun _ h9 => h9) (fl_q rfl ek_46) dX13_come_126 ?_
                refine lv_iload hx hb dX13_come_129 (lv_at hl 1 rfl) ?_
                obtain ⟨g_47, hf⟩ := grd_some hf
                obtain ⟨kg_47, sg_47, ig_47⟩ := okA_at g_47
                refine va_zald hx hb hK hP k_46 3 (Wd_az kg_47 sg_47) rfl ig_47 dX13_come_131 ?_
                refine lv_if_eq (tgt := 139) hx hb dX13_come_132 (by decide) (fun c_48 => ?_) (fun c_48 => ?_)
                · skip
                  rw [if_pos c_48] at hf
                  exact B139 (z_35) ls H_34 locs ⟨lv_sub hl [1, 2, 3, 4, 5] rfl, hP, hD, hS⟩ hf
                · skip
                  rw [if_neg c_48] at hf
                  refine lv_iconst (v := 1) hx hb dX13_come_135 (by decide) ?_
                  refine lv_goto (tgt := 140) hx hb dX13_come_136 (by decide) ?_
                  exact B140 (z_35, 1) ls H_34 locs ⟨lv_sub hl [1, 2, 3, 4, 5] rfl, hP, hD, hS⟩ hf
            refine lv_if_eq (tgt := 107) hx hb dX13_come_94 (by decide) (fun c_49 => ?_) (fun c_49 => ?_)
            · skip
              rw [if_pos c_49] at hf
              refine lv_lconst (v := 0) hx hb dX13_come_107 (by decide) ?_
              exact B108 (z_27, 0) ls H_26 locs ⟨lv_sub hl [0, 1, 2, 3, 4, 5] rfl, hP, hD, hS⟩ hf
            · skip
              rw [if_neg c_49] at hf
              refine lv_aload_n hx hb dX13_come_97 rfl (lv_at hl 3 rfl) ?_
              obtain ⟨k_50, ek_50, hf⟩ := lnk_some hf
              refine va_get (D := (dC, dI)) (ci := 13) (v := .ref (a k_50)) (C := RX13) (T := TX13) (N := 22) hx hb hts iwd_X13_come_X13 hown hK hP h0 (Wd_ob kg_1 sg_1 (by decide)) rfl 16 (by decide) (hts _ md_X13_come_7) (fun _ h9 => h9) (fl_q rfl ek_50) dX13_come_98 ?_
              refine lv_iload hx hb dX13_come_101 (lv_at hl 1 rfl) ?_
              obtain ⟨g_51, hf⟩ := grd_some hf
              obtain ⟨kg_51, sg_51, ig_51⟩ := okA_at g_51
              refine va_lald hx hb hK hP k_50 2 (Wd_al kg_51 sg_51) rfl ig_51 dX13_come_103 ?_
              refine lv_goto (tgt := 108) hx hb dX13_come_104 (by decide) ?_
              exact B108 (z_27, (z_27.2.1 k_50 p_9.toNatClampNeg)) ls H_26 locs ⟨lv_sub hl [0, 1, 2, 3, 4, 5] rfl, hP, hD, hS⟩ hf
    refine de_cut (h := 26) (fun (x : St) => []) (fun x ls H locs => lv_has ls 6 [(0, .ref (a h0)), (1, .int x0), (2, .int x1)] ∧ va_P (dC, dI) vwCl (Wd cy a sh n x) H ∧ va_D A (Wd cy a sh n x) ∧ va_S A s.heap H locs) (fun x => fn_X13_come_B26 F sh n h0 x1 x0 x) (z8, r8) ?_ (fun B26 => ?_)
    · intro x ls H locs hI hf
      obtain ⟨z_52, ez⟩ : ∃ w, w = x := ⟨_, rfl⟩
      subst ez
      obtain ⟨hl2, hP2, hD2, hS2⟩ := hI
      replace hl : lv_has ls 6 [(0, .ref (a h0)), (1, .int x0), (2, .int x1)] := hl2
      replace hP := hP2
      replace hD := hD2
      replace hS := hS2
      clear hl2 hP2 hD2 hS2
      replace hf := fn_X13_come_B26_s hf
      refine W.eq (g2 := F0 m 26 ls []) rfl ?_
      refine lv_iconst (v := 0) hx hb dX13_come_26 (by decide) ?_
      exact B27 (z_52, 0) ls H locs ⟨lv_sub hl [0, 1, 2] rfl, hP, hD, hS⟩ hf
    refine lv_icmp_le (tgt := 26) hx hb dX13_come_10 (by decide) (fun c_53 => ?_) (fun c_53 => ?_)
    · skip
      rw [if_pos c_53] at hf
      exact B26 (z) ls H locs ⟨lv_sub hl [0, 1, 2] rfl, hP, hD, hS⟩ hf
    · skip
      rw [if_neg c_53] at hf
      refine lv_aload_n hx hb dX13_come_13 rfl (lv_at hl 0 rfl) ?_
      obtain ⟨k_54, ek_54, hf⟩ := lnk_some hf
      refine va_get (D := (dC, dI)) (ci := 13) (v := .ref (a k_54)) (C := RX13) (T := TX13) (N := 22) hx hb hts iwd_X13_come_X13 hown hK hP h0 (Wd_ob kg_1 sg_1 (by decide)) rfl 6 (by decide) (hts _ md_X13_come_2) (fun _ h9 => h9) (fl_q rfl ek_54) dX13_come_14 ?_
      refine lv_iload_n hx hb dX13_come_17 rfl (lv_at hl 2 rfl) ?_
      obtain ⟨g_55, hf⟩ := grd_some hf
      obtain ⟨kg_55, sg_55, ig_55⟩ := okA_at g_55
      refine va_zald hx hb hK hP k_54 3 (Wd_az kg_55 sg_55) rfl ig_55 dX13_come_18 ?_
      refine lv_if_ne (tgt := 26) hx hb dX13_come_19 (by decide) (fun c_56 => ?_) (fun c_56 => ?_)
      · skip
        rw [if_neg c_56] at hf
        exact B26 (z) ls H locs ⟨lv_sub hl [0, 1, 2] rfl, hP, hD, hS⟩ hf
      · skip
        rw [if_pos c_56] at hf
        refine lv_iconst (v := 1) hx hb dX13_come_22 (by decide) ?_
        refine lv_goto (tgt := 27) hx hb dX13_come_23 (by decide) ?_
        exact B27 (z, 1) ls H locs ⟨lv_sub hl [0, 1, 2] rfl, hP, hD, hS⟩ hf
  · skip
    rw [if_neg c_2] at hf
    obtain ⟨h8, h9⟩ := ret_some hf
    rw [h8]
    exact W.vret hx hb hr (fun t ht hW => ⟨⟨(), rfl, trivial, by rw [ht]; exact hP, va_K.moved hW.alike hK, hD⟩, hS.F ht⟩) hS.2.2 dX13_come_7

theorem md_X2_commit_1 : (.fieldLink RX2 46 "ResourceLedger$Journal" "count" "I" : Cond) ∈ wsX2_commit := List.mem_of_getElem? (i := 1) rfl
theorem iwd_X2_commit_X2 : ∀ w ∈ wsX20, w ∈ wsX2_commit := fun _ h => List.mem_cons_of_mem _ (List.mem_append_left _ (List.mem_append_left _ (List.mem_append_right _ h)))
theorem md_X2_commit_2 : (.fieldLink RX2 11 "ResourceLedger$Journal" "kind" "[I" : Cond) ∈ wsX2_commit := List.mem_of_getElem? (i := 2) rfl
theorem md_X2_commit_4 : (.fieldLink RX2 29 "ResourceLedger$Journal" "isThere" "[Z" : Cond) ∈ wsX2_commit := List.mem_of_getElem? (i := 4) rfl
theorem md_X2_commit_5 : (.fieldLink RX2 38 "ResourceLedger$Journal" "state" "LResourceLedger$State;" : Cond) ∈ wsX2_commit := List.mem_of_getElem? (i := 5) rfl
theorem md_X2_commit_6 : (.fieldLink RX2 15 "ResourceLedger$Journal" "address" "[J" : Cond) ∈ wsX2_commit := List.mem_of_getElem? (i := 6) rfl
theorem md_X2_commit_9 : (.fieldLink RX2 68 "ResourceLedger$State" "balance" "[J" : Cond) ∈ wsX2_commit := List.mem_of_getElem? (i := 9) rfl
theorem iwd_X2_commit_X7 : ∀ w ∈ wsX70, w ∈ wsX2_commit := fun _ h => List.mem_cons_of_mem _ (List.mem_append_left _ (List.mem_append_right _ h))
theorem md_X2_commit_10 : (.fieldLink RX2 32 "ResourceLedger$Journal" "balance" "[J" : Cond) ∈ wsX2_commit := List.mem_of_getElem? (i := 10) rfl
theorem md_X2_commit_3 : (.fieldLink RX2 25 "ResourceLedger$Journal" "wasThere" "[Z" : Cond) ∈ wsX2_commit := List.mem_of_getElem? (i := 3) rfl
theorem md_X2_commit_7 : (.fieldLink RX2 19 "ResourceLedger$Journal" "module" "[I" : Cond) ∈ wsX2_commit := List.mem_of_getElem? (i := 7) rfl
theorem md_X2_commit_8 : (.fieldLink RX2 22 "ResourceLedger$Journal" "structure" "[I" : Cond) ∈ wsX2_commit := List.mem_of_getElem? (i := 8) rfl
set_option maxHeartbeats 4000000 in
set_option maxRecDepth 100000 in
theorem de_X2_commit (l : Launch) (dC : Nat → ClassId) (dI : Nat → Nat → Nat) (cy : Nat → ClassId) (a : Nat → Nat) (sh : Nat → Nat × Nat) (n sz : Nat) (F : Nat) (z : St) (h0 : Nat) {z8 : St} {r8 : Unit} (hf : fn_X2_commit F sh n z h0 = some (z8, r8)) : Met l yX2_commit wsX2_commit ({ frames := 53, cells := 0, slots := 0, locals := 1414 }) (va_Pc [.ref (a h0)] (fun U => U.heap.size = sz ∧ va_P (dC, dI) vwCl (Wd cy a sh n z) U.heap ∧ va_K (dC, dI) vwCl (TYS cy) U ∧ va_D (fun _ => True) (Wd cy a sh n z) ∧ NK U)) (va_Qv (fun u : Unit => True) (fun u t => va_P (dC, dI) vwCl (Wd cy a sh n z8) t.heap ∧ va_K (dC, dI) vwCl (TYS cy) t ∧ va_D (va_A (Wd cy a sh n z) sz) (Wd cy a sh n z8)) (va_A (Wd cy a sh n z) sz)) 0 0 (va_A (Wd cy a sh n z) sz) := by
  refine Met.ofW (cc := cX2_commit) (maxL := 3) (ret := none) (by decide) rfl ?_
  intro p e s m args below meth c s₁ B hml hv
  obtain ⟨rfl, hsz, hP, hK, hD0, hN⟩ := hv
  have hx := B.exec
  have hb := B.bytes
  have hr := B.returns
  have hts := atoms_spec (ws := wsX2_commit) B.pre
  have hown : s.vm.findClass RX2 = some m.cls := findClass_of_methodNamed B.named
  have hlocks := B.notSynchronized
  subst hsz
  have hD := hD0.self (sz := s.heap.size)
  clear hD0
  generalize hAe : va_A (Wd cy a sh n z) s.heap.size = A at hD ⊢
  have hA : ∀ q : Nat, s.heap.size ≤ q → A q := fun q h => by rw [← hAe]; exact Or.inr h
  clear hAe
  have hS : va_S A s.heap s.heap [] := va_S.rf
  have hl := lv_entry ([.ref (a h0)]) (n := 3) (Nat.le_of_ble_eq_true rfl)
  rw [lg_entry_eq]
  generalize (lg_sl ([.ref (a h0)]) ++ List.replicate (3 - (lg_sl ([.ref (a h0)])).length) Slot.unset).toArray = ls at hl ⊢
  replace hl : lv_has ls 3 [(0, .ref (a h0))] := hl
  unfold fn_X2_commit at hf
  refine de_start hS hP (fun H locs hS hP => ?_)
  refine lv_iconst (v := 0) hx hb dX2_commit_0 (by decide) ?_
  refine lv_istore_n (lv' := [(1, .int 0), (0, .ref (a h0))]) hx hb dX2_commit_1 rfl hl (by decide) rfl (fun ls hl2 => ?_)
  replace hl := hl2
  clear hl2
  have hl0 : lv_has ls 3 [(1, .int 0), (0, .ref (a h0))] := lv_sub hl [0, 1] rfl
  refine de_loop (h := 2) (fun (x : St × Int32) ls H locs => lv_has ls 3 [(1, .int x.2), (0, .ref (a h0))] ∧ va_P (dC, dI) vwCl (Wd cy a sh n x.1) H ∧ va_D A (Wd cy a sh n x.1) ∧ va_S A s.heap H locs) (fun f x => fn_X2_commit_L2 F sh n h0 f x.1 x.2) (z8, r8) ?_ (fun _ => rfl) F (z, 0) ls H locs ⟨hl0, hP, hD, hS⟩ hf
  intro f_3 x ls H locs ih2 hI hf
  obtain ⟨z_2, p_1⟩ := x
  obtain ⟨hl2, hP2, hD2, hS2⟩ := hI
  replace hl : lv_has ls 3 [(1, .int p_1), (0, .ref (a h0))] := hl2
  replace hP := hP2
  replace hD := hD2
  replace hS := hS2
  clear hl2 hP2 hD2 hS2 hl0
  replace hf := fn_X2_commit_L2_s hf
  refine lv_iload_n hx hb dX2_commit_2 rfl (lv_at hl 0 rfl) ?_
  refine lv_aload_n hx hb dX2_commit_3 rfl (lv_at hl 1 rfl) ?_
  obtain ⟨g_4, hf⟩ := grd_some hf
  obtain ⟨kg_4, sg_4⟩ := okO_at g_4
  refine va_get (D := (dC, dI)) (ci := 2) (v := .int (z_2.1 h0 7)) (C := RX2) (T := TX2) (N := 11) hx hb hts iwd_X2_commit_X2 hown hK hP h0 (Wd_ob kg_4 sg_4 (by decide)) rfl 7 (by decide) (hts _ md_X2_commit_1) (fun _ h9 => h9) (fl_at (t := 0) rfl) dX2_commit_4 ?_
  refine lv_icmp_ge (tgt := 69) hx hb dX2_commit_7 (by decide) (fun c_5 => ?_) (fun c_5 => ?_)
  · skip
    rw [if_pos c_5] at hf
    refine lv_iconst (v := 0) hx hb dX2_commit_69 (by decide) ?_
    refine lv_istore_n (lv' := [(1, .int 0), (0, .ref (a h0))]) hx hb dX2_commit_70 rfl hl (by decide) rfl (fun ls hl2 => ?_)
    replace hl := hl2
    clear hl2
    have hl0 : lv_has ls 3 [(1, .int 0), (0, .ref (a h0))] := lv_sub hl [0, 1] rfl
    refine de_loop (h := 71) (fun (x : St × Int32) ls H locs => lv_has ls 3 [(1, .int x.2), (0, .ref (a h0))] ∧ va_P (dC, dI) vwCl (Wd cy a sh n x.1) H ∧ va_D A (Wd cy a sh n x.1) ∧ va_S A s.heap H locs) (fun f x => fn_X2_commit_L71 F sh n h0 f x.1 x.2) (z8, r8) ?_ (fun _ => rfl) F (z_2, 0) ls H locs ⟨hl0, hP, hD, hS⟩ hf
    intro f_8 x ls H locs ih71 hI hf
    obtain ⟨z_7, p_6⟩ := x
    obtain ⟨hl2, hP2, hD2, hS2⟩ := hI
    replace hl : lv_has ls 3 [(1, .int p_6), (0, .ref (a h0))] := hl2
    replace hP := hP2
    replace hD := hD2
    replace hS := hS2
    clear hl2 hP2 hD2 hS2 hl0
    replace hf := fn_X2_commit_L71_s hf
    refine lv_iload_n hx hb dX2_commit_71 rfl (lv_at hl 0 rfl) ?_
    refine lv_aload_n hx hb dX2_commit_72 rfl (lv_at hl 1 rfl) ?_
    refine va_get (D := (dC, dI)) (ci := 2) (v := .int (z_7.1 h0 7)) (C := RX2) (T := TX2) (N := 11) hx hb hts iwd_X2_commit_X2 hown hK hP h0 (Wd_ob kg_4 sg_4 (by decide)) rfl 7 (by decide) (hts _ md_X2_commit_1) (fun _ h9 => h9) (fl_at (t := 0) rfl) dX2_commit_73 ?_
    refine lv_icmp_ge (tgt := 182) hx hb dX2_commit_76 (by decide) (fun c_9 => ?_) (fun c_9 => ?_)
    · skip
      rw [if_pos c_9] at hf
      obtain ⟨h8, h9⟩ := ret_some hf
      rw [h8]
      exact W.vret hx hb hr (fun t ht hW => ⟨⟨(), rfl, trivial, by rw [ht]; exact hP, va_K.moved hW.alike hK, hD⟩, hS.F ht⟩) hS.2.2 dX2_commit_182
    · skip
      rw [if_neg c_9] at hf
      refine lv_aload_n hx hb dX2_commit_79 rfl (lv_at hl 1 rfl) ?_
      obtain ⟨k_10, ek_10, hf⟩ := lnk_some hf
      refine va_get (D := (dC, dI)) (ci := 2) (v := .ref (a k_10)) (C := RX2) (T := TX2) (N := 11) hx hb hts iwd_X2_commit_X2 hown hK hP h0 (Wd_ob kg_4 sg_4 (by decide)) rfl 2 (by decide) (hts _ md_X2_commit_2) (fun _ h9 => h9) (fl_q rfl ek_10) dX2_commit_80 ?_
      refine lv_iload_n hx hb dX2_commit_83 rfl (lv_at hl 0 rfl) ?_
      obtain ⟨g_11, hf⟩ := grd_some hf
      obtain ⟨kg_11, sg_11, ig_11⟩ := okA_at g_11
      refine va_iald hx hb hK hP k_10 1 (Wd_ai kg_11 sg_11) rfl ig_11 dX2_commit_84 ?_
      refine lv_iconst (v := 1) hx hb dX2_commit_85 (by decide) ?_
      refine de_cut (h := 176) (fun (x : St) => []) (fun x ls H locs => lv_has ls 3 [(1, .int p_6), (0, .ref (a h0))] ∧ va_P (dC, dI) vwCl (Wd cy a sh n x) H ∧ va_D A (Wd cy a sh n x) ∧ va_S A s.heap H locs) (fun x => fn_X2_commit_B176 F sh n p_6 (fun z9 q1 => fn_X2_commit_L71 F sh n h0 f_8 z9 q1) x) (z8, r8) ?_ (fun B176 => ?_)
      · intro x ls H locs hI hf
        obtain ⟨z_12, ez⟩ : ∃ w, w = x := ⟨_, rfl⟩
        subst ez
        obtain ⟨hl2, hP2, hD2, hS2⟩ := hI
        replace hl : lv_has ls 3 [(1, .int p_6), (0, .ref (a h0))] := hl2
        replace hP := hP2
        replace hD := hD2
        replace hS := hS2
        clear hl2 hP2 hD2 hS2
        replace hf := fn_X2_commit_B176_s hf
        refine W.eq (g2 := F0 m 176 ls []) rfl ?_
        refine lv_iinc (v := (p_6 + 1)) (lv' := [(1, .int (p_6 + 1)), (0, .ref (a h0))]) hx hb dX2_commit_176 hl (k := 0) rfl rfl (by decide) rfl (fun ls hl2 => ?_)
        replace hl := hl2
        clear hl2
        refine lv_goto (tgt := 71) hx hb dX2_commit_179 (by decide) ?_
        exact ih71 (z_12, (p_6 + 1)) ls H locs ⟨lv_sub hl [0, 1] rfl, hP, hD, hS⟩ hf
      refine de_cut (h := 152) (fun (x : St) => []) (fun x ls H locs => lv_has ls 3 [(1, .int p_6), (0, .ref (a h0))] ∧ va_P (dC, dI) vwCl (Wd cy a sh n x) H ∧ va_D A (Wd cy a sh n x) ∧ va_S A s.heap H locs) (fun x => fn_X2_commit_B152 F sh n h0 p_6 (fun z9 q1 => fn_X2_commit_L71 F sh n h0 f_8 z9 q1) x) (z8, r8) ?_ (fun B152 => ?_)
      · intro x ls H locs hI hf
        obtain ⟨z_13, ez⟩ : ∃ w, w = x := ⟨_, rfl⟩
        subst ez
        obtain ⟨hl2, hP2, hD2, hS2⟩ := hI
        replace hl : lv_has ls 3 [(1, .int p_6), (0, .ref (a h0))] := hl2
        replace hP := hP2
        replace hD := hD2
        replace hS := hS2
        clear hl2 hP2 hD2 hS2
        replace hf := fn_X2_commit_B152_s hf
        refine W.eq (g2 := F0 m 152 ls []) rfl ?_
        refine lv_aload_n hx hb dX2_commit_152 rfl (lv_at hl 1 rfl) ?_
        obtain ⟨k_14, ek_14, hf⟩ := lnk_some hf
        refine va_get (D := (dC, dI)) (ci := 2) (v := .ref (a k_14)) (C := RX2) (T := TX2) (N := 11) hx hb hts iwd_X2_commit_X2 hown hK hP h0 (Wd_ob kg_4 sg_4 (by decide)) rfl 2 (by decide) (hts _ md_X2_commit_2) (fun _ h9 => h9) (fl_q rfl ek_14) dX2_commit_153 ?_
        refine lv_iload_n hx hb dX2_commit_156 rfl (lv_at hl 0 rfl) ?_
        obtain ⟨g_15, hf⟩ := grd_some hf
        obtain ⟨kg_15, sg_15, ig_15⟩ := okA_at g_15
        refine va_iald hx hb hK hP k_14 1 (Wd_ai kg_15 sg_15) rfl ig_15 dX2_commit_157 ?_
        refine lv_iconst (v := 3) hx hb dX2_commit_158 (by decide) ?_
        refine lv_icmp_ne (tgt := 176) hx hb dX2_commit_159 (by decide) (fun c_16 => ?_) (fun c_16 => ?_)
        · skip
          rw [if_neg c_16] at hf
          exact B176 (z_13) ls H locs ⟨lv_sub hl [0, 1] rfl, hP, hD, hS⟩ hf
        · skip
          rw [if_pos c_16] at hf
          refine lv_aload_n hx hb dX2_commit_162 rfl (lv_at hl 1 rfl) ?_
          obtain ⟨k_17, ek_17, hf⟩ := lnk_some hf
          refine va_get (D := (dC, dI)) (ci := 2) (v := .ref (a k_17)) (C := RX2) (T := TX2) (N := 11) hx hb hts iwd_X2_commit_X2 hown hK hP h0 (Wd_ob kg_4 sg_4 (by decide)) rfl 8 (by decide) (hts _ md_X2_commit_4) (fun _ h9 => h9) (fl_q rfl ek_17) dX2_commit_163 ?_
          refine lv_iload_n hx hb dX2_commit_166 rfl (lv_at hl 0 rfl) ?_
          obtain ⟨g_18, hf⟩ := grd_some hf
          obtain ⟨kg_18, sg_18, ig_18⟩ := okA_at g_18
          refine va_zald hx hb hK hP k_17 3 (Wd_az kg_18 sg_18) rfl ig_18 dX2_commit_167 ?_
          refine lv_if_eq (tgt := 176) hx hb dX2_commit_168 (by decide) (fun c_19 => ?_) (fun c_19 => ?_)
          · skip
            rw [if_pos c_19] at hf
            exact B176 (z_13) ls H locs ⟨lv_sub hl [0, 1] rfl, hP, hD, hS⟩ hf
          · skip
            rw [if_neg c_19] at hf
            refine lv_aload_n hx hb dX2_commit_171 rfl (lv_at hl 1 rfl) ?_
            refine lv_iload_n hx hb dX2_commit_172 rfl (lv_at hl 0 rfl) ?_
            obtain ⟨z_20, _u, hfc, hf⟩ := cal_some hf
            have hFc := de_free hD hS hA
            refine va_callv (va_runV (As := [.int p_6]) (rest := []) ⟨hx, hb, hml, hown, hts⟩ (de_X2_storeResource l dC dI cy a sh n H.size F z_13 h0 p_6 hfc) (cwV 1 hts gX2_commit_X2_storeResource rfl rfl rfl (by decide +kernel) ⟨Nat.le_of_ble_eq_true rfl, Nat.le_of_ble_eq_true rfl⟩) ⟨fun a U g mk q => by obtain ⟨q0, q1, qP, qK, qD, qN⟩ := q; exact ⟨q0, q1, qP, va_K.moved (u := U) (U := U.calling g mk a) (Vm.Alike.refl U.vm) qK, qD, qN.same rfl⟩, va_recv hK hP (ci := 2) (q0 := h0) rfl (Wd_ob kg_4 sg_4 (by decide)), fun U hU hW => ⟨rfl, by rw [hU], by rw [hU]; exact hP, va_K.moved hW.alike hK, hD.weaken (fun _ _ _ _ => trivial), hN.warm hW⟩⟩ rfl rfl hl.1 rfl (lv_room (Nat.le_of_ble_eq_true rfl)) dX2_commit_173 ⟨Nat.le_of_ble_eq_true rfl, Nat.le_of_ble_eq_true rfl⟩) hS (fun q _ h => hFc q h) hFc (fun u t H_21 locs ht hvm hw hB hz1 hk1 hS2 => ?_)
            obtain ⟨hP1, -, hD1⟩ := hB
            rw [ht] at hP1
            replace hD := hD1.weaken (fun _ _ _ h => hFc _ h)
            replace hP := hP1
            replace hS := hS2
            clear hP1 hD1 hS2 hFc hfc hz1 hk1 hvm ht
            exact B176 (z_20) ls H_21 locs ⟨lv_sub hl [0, 1] rfl, hP, hD, hS⟩ hf
      refine lv_icmp_ne (tgt := 152) hx hb dX2_commit_86 (by decide) (fun c_22 => ?_) (fun c_22 => ?_)
      · skip
        rw [if_neg c_22] at hf
        exact B152 (z_7) ls H locs ⟨lv_sub hl [0, 1] rfl, hP, hD, hS⟩ hf
      · skip
        rw [if_pos c_22] at hf
        refine lv_aload_n hx hb dX2_commit_89 rfl (lv_at hl 1 rfl) ?_
        obtain ⟨k_23, ek_23, hf⟩ := lnk_some hf
        refine va_get (D := (dC, dI)) (ci := 2) (v := .ref (a k_23)) (C := RX2) (T := TX2) (N := 11) hx hb hts iwd_X2_commit_X2 hown hK hP h0 (Wd_ob kg_4 sg_4 (by decide)) rfl 8 (by decide) (hts _ md_X2_commit_4) (fun _ h9 => h9) (fl_q rfl ek_23) dX2_commit_90 ?_
        refine lv_iload_n hx hb dX2_commit_93 rfl (lv_at hl 0 rfl) ?_
        obtain ⟨g_24, hf⟩ := grd_some hf
        obtain ⟨kg_24, sg_24, ig_24⟩ := okA_at g_24
        refine va_zald hx hb hK hP k_23 3 (Wd_az kg_24 sg_24) rfl ig_24 dX2_commit_94 ?_
        refine lv_if_eq (tgt := 152) hx hb dX2_commit_95 (by decide) (fun c_25 => ?_) (fun c_25 => ?_)
        · skip
          rw [if_pos c_25] at hf
          exact B152 (z_7) ls H locs ⟨lv_sub hl [0, 1] rfl, hP, hD, hS⟩ hf
        · skip
          rw [if_neg c_25] at hf
          refine lv_aload_n hx hb dX2_commit_98 rfl (lv_at hl 1 rfl) ?_
          obtain ⟨k_26, ek_26, hf⟩ := lnk_some hf
          refine va_get (D := (dC, dI)) (ci := 2) (v := .ref (a k_26)) (C := RX2) (T := TX2) (N := 11) hx hb hts iwd_X2_commit_X2 hown hK hP h0 (Wd_ob kg_4 sg_4 (by decide)) rfl 0 (by decide) (hts _ md_X2_commit_5) (fun _ h9 => h9) (fl_q rfl ek_26) dX2_commit_99 ?_
          refine lv_aload_n hx hb dX2_commit_102 rfl (lv_at hl 1 rfl) ?_
          obtain ⟨k_27, ek_27, hf⟩ := lnk_some hf
          refine va_get (D := (dC, dI)) (ci := 2) (v := .ref (a k_27)) (C := RX2) (T := TX2) (N := 11) hx hb hts iwd_X2_commit_X2 hown hK hP h0 (Wd_ob kg_4 sg_4 (by decide)) rfl 3 (by decide) (hts _ md_X2_commit_6) (fun _ h9 => h9) (fl_q rfl ek_27) dX2_commit_103 ?_
          refine lv_iload_n hx hb dX2_commit_106 rfl (lv_at hl 0 rfl) ?_
          obtain ⟨g_28, hf⟩ := grd_some hf
          obtain ⟨kg_28, sg_28, ig_28⟩ := okA_at g_28
          refine va_lald hx hb hK hP k_27 2 (Wd_al kg_28 sg_28) rfl ig_28 dX2_commit_107 ?_
          obtain ⟨g_31, hf⟩ := grd_some hf
          obtain ⟨kg_31, sg_31⟩ := okO_at g_31
          obtain ⟨z_29, r_30, hfc, hf⟩ := cal_some hf
          have hFc := de_free hD hS hA
          refine va_calli (va_runV (As := [.long (z_7.2.1 k_27 p_6.toNatClampNeg)]) (rest := []) ⟨hx, hb, hml, hown, hts⟩ (de_X7_findAccount l dC dI cy a sh n H.size F z_7 k_26 (z_7.2.1 k_27 p_6.toNatClampNeg) hfc) (cwV 1 hts gX2_commit_X7_findAccount rfl rfl rfl (by decide +kernel) ⟨Nat.le_of_ble_eq_true rfl, Nat.le_of_ble_eq_true rfl⟩) ⟨fun a U g mk q => by obtain ⟨q0, q1, qP, qK, qD, qN⟩ := q; exact ⟨q0, q1, qP, va_K.moved (u := U) (U := U.calling g mk a) (Vm.Alike.refl U.vm) qK, qD, qN.same rfl⟩, va_recv hK hP (ci := 7) (q0 := k_26) rfl (Wd_ob kg_31 sg_31 (by decide)), fun U hU hW => ⟨rfl, by rw [hU], by rw [hU]; exact hP, va_K.moved hW.alike hK, hD.weaken (fun _ _ _ _ => trivial), hN.warm hW⟩⟩ rfl rfl hl.1 rfl (lv_room (Nat.le_of_ble_eq_true rfl)) dX2_commit_108 ⟨Nat.le_of_ble_eq_true rfl, Nat.le_of_ble_eq_true rfl⟩) hS (fun q _ h => hFc q h) hFc (fun rr u t H_32 locs ht hvm hw hB hz1 hk1 hS2 => ?_)
          rw [hw]
          clear hw
          obtain ⟨hP1, -, hD1⟩ := hB
          rw [ht] at hP1
          replace hD := hD1.weaken (fun _ _ _ h => hFc _ h)
          replace hP := hP1
          replace hS := hS2
          clear hP1 hD1 hS2 hFc hfc hz1 hk1 hvm ht
          refine lv_istore_n (lv' := [(2, .int r_30), (1, .int p_6), (0, .ref (a h0))]) hx hb dX2_commit_111 rfl hl (by decide) rfl (fun ls hl2 => ?_)
          replace hl := hl2
          clear hl2
          refine lv_iload_n hx hb dX2_commit_112 rfl (lv_at hl 0 rfl) ?_
          refine de_cut (h := 133) (fun (x : St × Int32) => [.int x.2]) (fun x ls H locs => lv_has ls 3 [(1, .int p_6), (0, .ref (a h0))] ∧ va_P (dC, dI) vwCl (Wd cy a sh n x.1) H ∧ va_D A (Wd cy a sh n x.1) ∧ va_S A s.heap H locs) (fun x => fn_X2_commit_B133 F sh n h0 p_6 (fun z9 q1 => fn_X2_commit_L71 F sh n h0 f_8 z9 q1) x.1 x.2) (z8, r8) ?_ (fun B133 => ?_)
          · intro x ls H locs hI hf
            obtain ⟨z_34, p_33⟩ := x
            obtain ⟨hl2, hP2, hD2, hS2⟩ := hI
            replace hl : lv_has ls 3 [(1, .int p_6), (0, .ref (a h0))] := hl2
            replace hP := hP2
            replace hD := hD2
            replace hS := hS2
            clear hl2 hP2 hD2 hS2
            replace hf := fn_X2_commit_B133_s hf
            refine W.eq (g2 := F0 m 133 ls [.int p_33]) rfl ?_
            refine lv_istore_n (lv' := [(2, .int p_33), (1, .int p_6), (0, .ref (a h0))]) hx hb dX2_commit_133 rfl hl (by decide) rfl (fun ls hl2 => ?_)
            replace hl := hl2
            clear hl2
            refine lv_aload_n hx hb dX2_commit_134 rfl (lv_at hl 2 rfl) ?_
            obtain ⟨k_35, ek_35, hf⟩ := lnk_some hf
            refine va_get (D := (dC, dI)) (ci := 2) (v := .ref (a k_35)) (C := RX2) (T := TX2) (N := 11) hx hb hts iwd_X2_commit_X2 hown hK hP h0 (Wd_ob kg_4 sg_4 (by decide)) rfl 0 (by decide) (hts _ md_X2_commit_5) (fun _ h9 => h9) (fl_q rfl ek_35) dX2_commit_135 ?_
            obtain ⟨g_36, hf⟩ := grd_some hf
            obtain ⟨kg_36, sg_36⟩ := okO_at g_36
            obtain ⟨k_37, ek_37, hf⟩ := lnk_some hf
            refine va_get (D := (dC, dI)) (ci := 7) (v := .ref (a k_37)) (C := RX7) (T := TX7) (N := 16) hx hb hts iwd_X2_commit_X7 hown hK hP k_35 (Wd_ob kg_36 sg_36 (by decide)) rfl 1 (by decide) (hts _ md_X2_commit_9) (fun _ h9 => h9) (fl_q rfl ek_37) dX2_commit_138 ?_
            refine lv_iload_n hx hb dX2_commit_141 rfl (lv_at hl 0 rfl) ?_
            refine lv_aload_n hx hb dX2_commit_142 rfl (lv_at hl 2 rfl) ?_
            obtain ⟨k_38, ek_38, hf⟩ := lnk_some hf
            refine va_get (D := (dC, dI)) (ci := 2) (v := .ref (a k_38)) (C := RX2) (T := TX2) (N := 11) hx hb hts iwd_X2_commit_X2 hown hK hP h0 (Wd_ob kg_4 sg_4 (by decide)) rfl 9 (by decide) (hts _ md_X2_commit_10) (fun _ h9 => h9) (fl_q rfl ek_38) dX2_commit_143 ?_
            refine lv_iload_n hx hb dX2_commit_146 rfl (lv_at hl 1 rfl) ?_
            obtain ⟨g_39, hf⟩ := grd_some hf
            obtain ⟨kg_39, sg_39, ig_39⟩ := okA_at g_39
            refine va_lald hx hb hK hP k_38 2 (Wd_al kg_39 sg_39) rfl ig_39 dX2_commit_147 ?_
            obtain ⟨g_40, hf⟩ := grd_some hf
            obtain ⟨kg_40, sg_40, ig_40⟩ := okA_at g_40
            refine va_last hx hb hK hP hD hS k_37 2 (Wd_al kg_40 sg_40) rfl ig_40 dX2_commit_148 (fun H_41 locs hP2 hD2 hS2 => ?_)
            rw [Wd_tl sg_40] at hP2 hD2
            obtain ⟨z_42, ez_42⟩ : ∃ w, w = sl z_34 k_37 p_33.toNatClampNeg (z_34.2.1 k_38 p_6.toNatClampNeg) := ⟨_, rfl⟩
            rw [← ez_42] at hP2 hD2
            replace hf := lt_at ez_42 hf
            clear ez_42
            replace hP := hP2
            replace hD := hD2
            replace hS := hS2
            clear hP2 hD2 hS2
            refine lv_goto (tgt := 176) hx hb dX2_commit_149 (by decide) ?_
            exact B176 (z_42) ls H_41 locs ⟨lv_sub hl [1, 2] rfl, hP, hD, hS⟩ hf
          refine lv_if_ge (tgt := 132) hx hb dX2_commit_113 (by decide) (fun c_43 => ?_) (fun c_43 => ?_)
          · skip
            rw [if_pos c_43] at hf
            refine lv_iload_n hx hb dX2_commit_132 rfl (lv_at hl 0 rfl) ?_
            exact B133 (z_29, r_30) ls H_32 locs ⟨lv_sub hl [1, 2] rfl, hP, hD, hS⟩ hf
          · skip
            rw [if_neg c_43] at hf
            refine lv_aload_n hx hb dX2_commit_116 rfl (lv_at hl 2 rfl) ?_
            obtain ⟨k_44, ek_44, hf⟩ := lnk_some hf
            refine va_get (D := (dC, dI)) (ci := 2) (v := .ref (a k_44)) (C := RX2) (T := TX2) (N := 11) hx hb hts iwd_X2_commit_X2 hown hK hP h0 (Wd_ob kg_4 sg_4 (by decide)) rfl 0 (by decide) (hts _ md_X2_commit_5) (fun _ h9 => h9) (fl_q rfl ek_44) dX2_commit_117 ?_
            refine lv_aload_n hx hb dX2_commit_120 rfl (lv_at hl 2 rfl) ?_
            obtain ⟨k_45, ek_45, hf⟩ := lnk_some hf
            refine va_get (D := (dC, dI)) (ci := 2) (v := .ref (a k_45)) (C := RX2) (T := TX2) (N := 11) hx hb hts iwd_X2_commit_X2 hown hK hP h0 (Wd_ob kg_4 sg_4 (by decide)) rfl 3 (by decide) (hts _ md_X2_commit_6) (fun _ h9 => h9) (fl_q rfl ek_45) dX2_commit_121 ?_
            refine lv_iload_n hx hb dX2_commit_124 rfl (lv_at hl 1 rfl) ?_
            obtain ⟨g_46, hf⟩ := grd_some hf
            obtain ⟨kg_46, sg_46, ig_46⟩ := okA_at g_46
            refine va_lald hx hb hK hP k_45 2 (Wd_al kg_46 sg_46) rfl ig_46 dX2_commit_125 ?_
            obtain ⟨g_49, hf⟩ := grd_some hf
            obtain ⟨kg_49, sg_49⟩ := okO_at g_49
            obtain ⟨z_47, r_48, hfc, hf⟩ := cal_some hf
            have hFc := de_free hD hS hA
            refine va_calli (va_runV (As := [.long (z_29.2.1 k_45 p_6.toNatClampNeg)]) (rest := []) ⟨hx, hb, hml, hown, hts⟩ (de_X7_openAccount l dC dI cy a sh n H_32.size F z_29 k_44 (z_29.2.1 k_45 p_6.toNatClampNeg) hfc) (cwV 1 hts gX2_commit_X7_openAccount rfl rfl rfl (by decide +kernel) ⟨Nat.le_of_ble_eq_true rfl, Nat.le_of_ble_eq_true rfl⟩) ⟨fun a U g mk q => by obtain ⟨q0, q1, qP, qK, qD, qN⟩ := q; exact ⟨q0, q1, qP, va_K.moved (u := U) (U := U.calling g mk a) (Vm.Alike.refl U.vm) qK, qD, qN.same rfl⟩, va_recv hK hP (ci := 7) (q0 := k_44) rfl (Wd_ob kg_49 sg_49 (by decide)), fun U hU hW => ⟨rfl, by rw [hU], by rw [hU]; exact hP, va_K.moved hW.alike hK, hD.weaken (fun _ _ _ _ => trivial), hN.warm hW⟩⟩ rfl rfl hl.1 rfl (lv_room (Nat.le_of_ble_eq_true rfl)) dX2_commit_126 ⟨Nat.le_of_ble_eq_true rfl, Nat.le_of_ble_eq_true rfl⟩) hS (fun q _ h => hFc q h) hFc (fun rr u t H_50 locs ht hvm hw hB hz1 hk1 hS2 => ?_)
            rw [hw]
            clear hw
            obtain ⟨hP1, -, hD1⟩ := hB
            rw [ht] at hP1
            replace hD := hD1.weaken (fun _ _ _ h => hFc _ h)
            replace hP := hP1
            replace hS := hS2
            clear hP1 hD1 hS2 hFc hfc hz1 hk1 hvm ht
            refine lv_goto (tgt := 133) hx hb dX2_commit_129 (by decide) ?_
            exact B133 (z_47, r_48) ls H_50 locs ⟨lv_sub hl [1, 2] rfl, hP, hD, hS⟩ hf
  · skip
    rw [if_neg c_5] at hf
    refine lv_aload_n hx hb dX2_commit_10 rfl (lv_at hl 1 rfl) ?_
    obtain ⟨k_51, ek_51, hf⟩ := lnk_some hf
    refine va_get (D := (dC, dI)) (ci := 2) (v := .ref (a k_51)) (C := RX2) (T := TX2) (N := 11) hx hb hts iwd_X2_commit_X2 hown hK hP h0 (Wd_ob kg_4 sg_4 (by decide)) rfl 2 (by decide) (hts _ md_X2_commit_2) (fun _ h9 => h9) (fl_q rfl ek_51) dX2_commit_11 ?_
    refine lv_iload_n hx hb dX2_commit_14 rfl (lv_at hl 0 rfl) ?_
    obtain ⟨g_52, hf⟩ := grd_some hf
    obtain ⟨kg_52, sg_52, ig_52⟩ := okA_at g_52
    refine va_iald hx hb hK hP k_51 1 (Wd_ai kg_52 sg_52) rfl ig_52 dX2_commit_15 ?_
    refine lv_iconst (v := 3) hx hb dX2_commit_16 (by decide) ?_
    refine de_cut (h := 63) (fun (x : St) => []) (fun x ls H locs => lv_has ls 3 [(1, .int p_1), (0, .ref (a h0))] ∧ va_P (dC, dI) vwCl (Wd cy a sh n x) H ∧ va_D A (Wd cy a sh n x) ∧ va_S A s.heap H locs) (fun x => fn_X2_commit_B63 F sh n p_1 (fun z9 q1 => fn_X2_commit_L2 F sh n h0 f_3 z9 q1) x) (z8, r8) ?_ (fun B63 => ?_)
    · intro x ls H locs hI hf
      obtain ⟨z_53, ez⟩ : ∃ w, w = x := ⟨_, rfl⟩
      subst ez
      obtain ⟨hl2, hP2, hD2, hS2⟩ := hI
      replace hl : lv_has ls 3 [(1, .int p_1), (0, .ref (a h0))] := hl2
      replace hP := hP2
      replace hD := hD2
      replace hS := hS2
      clear hl2 hP2 hD2 hS2
      replace hf := fn_X2_commit_B63_s hf
      refine W.eq (g2 := F0 m 63 ls []) rfl ?_
      refine lv_iinc (v := (p_1 + 1)) (lv' := [(1, .int (p_1 + 1)), (0, .ref (a h0))]) hx hb dX2_commit_63 hl (k := 0) rfl rfl (by decide) rfl (fun ls hl2 => ?_)
      replace hl := hl2
      clear hl2
      refine lv_goto (tgt := 2) hx hb dX2_commit_66 (by decide) ?_
      exact ih2 (z_53, (p_1 + 1)) ls H locs ⟨lv_sub hl [0, 1] rfl, hP, hD, hS⟩ hf
    refine lv_icmp_ne (tgt := 63) hx hb dX2_commit_17 (by decide) (fun c_54 => ?_) (fun c_54 => ?_)
    · skip
      rw [if_neg c_54] at hf
      exact B63 (z_2) ls H locs ⟨lv_sub hl [0, 1] rfl, hP, hD, hS⟩ hf
    · skip
      rw [if_pos c_54] at hf
      refine lv_aload_n hx hb dX2_commit_20 rfl (lv_at hl 1 rfl) ?_
      obtain ⟨k_55, ek_55, hf⟩ := lnk_some hf
      refine va_get (D := (dC, dI)) (ci := 2) (v := .ref (a k_55)) (C := RX2) (T := TX2) (N := 11) hx hb hts iwd_X2_commit_X2 hown hK hP h0 (Wd_ob kg_4 sg_4 (by decide)) rfl 6 (by decide) (hts _ md_X2_commit_3) (fun _ h9 => h9) (fl_q rfl ek_55) dX2_commit_21 ?_
      refine lv_iload_n hx hb dX2_commit_24 rfl (lv_at hl 0 rfl) ?_
      obtain ⟨g_56, hf⟩ := grd_some hf
      obtain ⟨kg_56, sg_56, ig_56⟩ := okA_at g_56
      refine va_zald hx hb hK hP k_55 3 (Wd_az kg_56 sg_56) rfl ig_56 dX2_commit_25 ?_
      refine lv_if_eq (tgt := 63) hx hb dX2_commit_26 (by decide) (fun c_57 => ?_) (fun c_57 => ?_)
      · skip
        rw [if_pos c_57] at hf
        exact B63 (z_2) ls H locs ⟨lv_sub hl [0, 1] rfl, hP, hD, hS⟩ hf
      · skip
        rw [if_neg c_57] at hf
        refine lv_aload_n hx hb dX2_commit_29 rfl (lv_at hl 1 rfl) ?_
        obtain ⟨k_58, ek_58, hf⟩ := lnk_some hf
        refine va_get (D := (dC, dI)) (ci := 2) (v := .ref (a k_58)) (C := RX2) (T := TX2) (N := 11) hx hb hts iwd_X2_commit_X2 hown hK hP h0 (Wd_ob kg_4 sg_4 (by decide)) rfl 8 (by decide) (hts _ md_X2_commit_4) (fun _ h9 => h9) (fl_q rfl ek_58) dX2_commit_30 ?_
        refine lv_iload_n hx hb dX2_commit_33 rfl (lv_at hl 0 rfl) ?_
        obtain ⟨g_59, hf⟩ := grd_some hf
        obtain ⟨kg_59, sg_59, ig_59⟩ := okA_at g_59
        refine va_zald hx hb hK hP k_58 3 (Wd_az kg_59 sg_59) rfl ig_59 dX2_commit_34 ?_
        refine lv_if_ne (tgt := 63) hx hb dX2_commit_35 (by decide) (fun c_60 => ?_) (fun c_60 => ?_)
        · skip
          rw [if_neg c_60] at hf
          exact B63 (z_2) ls H locs ⟨lv_sub hl [0, 1] rfl, hP, hD, hS⟩ hf
        · skip
          rw [if_pos c_60] at hf
          refine lv_aload_n hx hb dX2_commit_38 rfl (lv_at hl 1 rfl) ?_
          obtain ⟨k_61, ek_61, hf⟩ := lnk_some hf
          refine va_get (D := (dC, dI)) (ci := 2) (v := .ref (a k_61)) (C := RX2) (T := TX2) (N := 11) hx hb hts iwd_X2_commit_X2 hown hK hP h0 (Wd_ob kg_4 sg_4 (by decide)) rfl 0 (by decide) (hts _ md_X2_commit_5) (fun _ h9 => h9) (fl_q rfl ek_61) dX2_commit_39 ?_
          refine lv_aload_n hx hb dX2_commit_42 rfl (lv_at hl 1 rfl) ?_
          obtain ⟨k_62, ek_62, hf⟩ := lnk_some hf
          refine va_get (D := (dC, dI)) (ci := 2) (v := .ref (a k_62)) (C := RX2) (T := TX2) (N := 11) hx hb hts iwd_X2_commit_X2 hown hK hP h0 (Wd_ob kg_4 sg_4 (by decide)) rfl 3 (by decide) (hts _ md_X2_commit_6) (fun _ h9 => h9) (fl_q rfl ek_62) dX2_commit_43 ?_
          refine lv_iload_n hx hb dX2_commit_46 rfl (lv_at hl 0 rfl) ?_
          obtain ⟨g_63, hf⟩ := grd_some hf
          obtain ⟨kg_63, sg_63, ig_63⟩ := okA_at g_63
          refine va_lald hx hb hK hP k_62 2 (Wd_al kg_63 sg_63) rfl ig_63 dX2_commit_47 ?_
          refine lv_aload_n hx hb dX2_commit_48 rfl (lv_at hl 1 rfl) ?_
          obtain ⟨k_64, ek_64, hf⟩ := lnk_some hf
          refine va_get (D := (dC, dI)) (ci := 2) (v := .ref (a k_64)) (C := RX2) (T := TX2) (N := 11) hx hb hts iwd_X2_commit_X2 hown hK hP h0 (Wd_ob kg_4 sg_4 (by decide)) rfl 4 (by decide) (hts _ md_X2_commit_7) (fun _ h9 => h9) (fl_q rfl ek_64) dX2_commit_49 ?_
          refine lv_iload_n hx hb dX2_commit_52 rfl (lv_at hl 0 rfl) ?_
          obtain ⟨g_65, hf⟩ := grd_some hf
          obtain ⟨kg_65, sg_65, ig_65⟩ := okA_at g_65
          refine va_iald hx hb hK hP k_64 1 (Wd_ai kg_65 sg_65) rfl ig_65 dX2_commit_53 ?_
          refine lv_aload_n hx hb dX2_commit_54 rfl (lv_at hl 1 rfl) ?_
          obtain ⟨k_66, ek_66, hf⟩ := lnk_some hf
          refine va_get (D := (dC, dI)) (ci := 2) (v := .ref (a k_66)) (C := RX2) (T := TX2) (N := 11) hx hb hts iwd_X2_commit_X2 hown hK hP h0 (Wd_ob kg_4 sg_4 (by decide)) rfl 5 (by decide) (hts _ md_X2_commit_8) (fun _ h9 => h9) (fl_q rfl ek_66) dX2_commit_55 ?_
          refine lv_iload_n hx hb dX2_commit_58 rfl (lv_at hl 0 rfl) ?_
          obtain ⟨g_67, hf⟩ := grd_some hf
          obtain ⟨kg_67, sg_67, ig_67⟩ := okA_at g_67
          refine va_iald hx hb hK hP k_66 1 (Wd_ai kg_67 sg_67) rfl ig_67 dX2_commit_59 ?_
          obtain ⟨g_69, hf⟩ := grd_some hf
          obtain ⟨kg_69, sg_69⟩ := okO_at g_69
          obtain ⟨z_68, _u, hfc, hf⟩ := cal_some hf
          have hFc := de_free hD hS hA
          refine va_callv (va_runV (As := [.long (z_2.2.1 k_62 p_1.toNatClampNeg), .int (z_2.1 k_64 p_1.toNatClampNeg), .int (z_2.1 k_66 p_1.toNatClampNeg)]) (rest := []) ⟨hx, hb, hml, hown, hts⟩ (de_X7_removeResource l dC dI cy a sh n H.size F z_2 k_61 (z_2.2.1 k_62 p_1.toNatClampNeg) (z_2.1 k_64 p_1.toNatClampNeg) (z_2.1 k_66 p_1.toNatClampNeg) hfc) (cwV 3 hts gX2_commit_X7_removeResource rfl rfl rfl (by decide +kernel) ⟨Nat.le_of_ble_eq_true rfl, Nat.le_of_ble_eq_true rfl⟩) ⟨fun a U g mk q => by obtain ⟨q0, q1, qP, qK, qD, qN⟩ := q; exact ⟨q0, q1, qP, va_K.moved (u := U) (U := U.calling g mk a) (Vm.Alike.refl U.vm) qK, qD, qN.same rfl⟩, va_recv hK hP (ci := 7) (q0 := k_61) rfl (Wd_ob kg_69 sg_69 (by decide)), fun U hU hW => ⟨rfl, by rw [hU], by rw [hU]; exact hP, va_K.moved hW.alike hK, hD.weaken (fun _ _ _ _ => trivial), hN.warm hW⟩⟩ rfl rfl hl.1 rfl (lv_room (Nat.le_of_ble_eq_true rfl)) dX2_commit_60 ⟨Nat.le_of_ble_eq_true rfl, Nat.le_of_ble_eq_true rfl⟩) hS (fun q _ h => hFc q h) hFc (fun u t H_70 locs ht hvm hw hB hz1 hk1 hS2 => ?_)
          obtain ⟨hP1, -, hD1⟩ := hB
          rw [ht] at hP1
          replace hD := hD1.weaken (fun _ _ _ h => hFc _ h)
          replace hP := hP1
          replace hS := hS2
          clear hP1 hD1 hS2 hFc hfc hz1 hk1 hvm ht
          exact B63 (z_68) ls H_70 locs ⟨lv_sub hl [0, 1] rfl, hP, hD, hS⟩ hf

theorem md_X16_lookAll_1 : (.fieldLink RX16 92 "ResourceLedgerModel$Unit" "structures" "I" : Cond) ∈ wsX16_lookAll := List.mem_of_getElem? (i := 1) rfl
theorem iwd_X16_lookAll_X16 : ∀ w ∈ wsX160, w ∈ wsX16_lookAll := fun _ h => List.mem_cons_of_mem _ (List.mem_append_right _ h)
theorem md_X16_lookAll_3 : (.fieldLink RX16 98 "ResourceLedgerModel$Unit" "callees" "I" : Cond) ∈ wsX16_lookAll := List.mem_of_getElem? (i := 3) rfl
theorem md_X16_lookAll_5 : (.fieldLink RX16 101 "ResourceLedgerModel$Unit" "elements" "I" : Cond) ∈ wsX16_lookAll := List.mem_of_getElem? (i := 5) rfl
theorem md_X16_lookAll_7 : (.fieldLink RX16 104 "ResourceLedgerModel$Unit" "functions" "I" : Cond) ∈ wsX16_lookAll := List.mem_of_getElem? (i := 7) rfl
theorem md_X16_lookAll_8 : (.fieldLink RX16 23 "ResourceLedgerModel$Unit" "functionAt" "[I" : Cond) ∈ wsX16_lookAll := List.mem_of_getElem? (i := 8) rfl
theorem md_X16_lookAll_9 : (.fieldLink RX16 26 "ResourceLedgerModel$Unit" "firsts" "[I" : Cond) ∈ wsX16_lookAll := List.mem_of_getElem? (i := 9) rfl
theorem md_X16_lookAll_10 : (.fieldLink RX16 29 "ResourceLedgerModel$Unit" "instructionAt" "[I" : Cond) ∈ wsX16_lookAll := List.mem_of_getElem? (i := 10) rfl
theorem md_X16_lookAll_6 : (.fieldLink RX16 20 "ResourceLedgerModel$Unit" "elementAt" "[I" : Cond) ∈ wsX16_lookAll := List.mem_of_getElem? (i := 6) rfl
theorem md_X16_lookAll_4 : (.fieldLink RX16 17 "ResourceLedgerModel$Unit" "calleeAt" "[I" : Cond) ∈ wsX16_lookAll := List.mem_of_getElem? (i := 4) rfl
theorem md_X16_lookAll_2 : (.fieldLink RX16 13 "ResourceLedgerModel$Unit" "structureAt" "[I" : Cond) ∈ wsX16_lookAll := List.mem_of_getElem? (i := 2) rfl
set_option maxHeartbeats 4000000 in
set_option maxRecDepth 100000 in
theorem de_X16_lookAll (l : Launch) (dC : Nat → ClassId) (dI : Nat → Nat → Nat) (cy : Nat → ClassId) (a : Nat → Nat) (sh : Nat → Nat × Nat) (n sz : Nat) (F : Nat) (z : St) (h0 : Nat) {z8 : St} {r8 : Unit} (hf : fn_X16_lookAll F sh n z h0 = some (z8, r8)) : Met l yX16_lookAll wsX16_lookAll ({ frames := 5, cells := 0, slots := 0, locals := 113 }) (va_Pc [.ref (a h0)] (fun U => U.heap.size = sz ∧ va_P (dC, dI) vwCl (Wd cy a sh n z) U.heap ∧ va_K (dC, dI) vwCl (TYS cy) U ∧ va_D (fun _ => True) (Wd cy a sh n z) ∧ NK U)) (va_Qv (fun u : Unit => True) (fun u t => va_P (dC, dI) vwCl (Wd cy a sh n z8) t.heap ∧ va_K (dC, dI) vwCl (TYS cy) t ∧ va_D (va_A (Wd cy a sh n z) sz) (Wd cy a sh n z8)) (va_A (Wd cy a sh n z) sz)) 0 0 (va_A (Wd cy a sh n z) sz) := by
  refine Met.ofW (cc := cX16_lookAll) (maxL := 4) (ret := none) (by decide) rfl ?_
  intro p e s m args below meth c s₁ B hml hv
  obtain ⟨rfl, hsz, hP, hK, hD0, hN⟩ := hv
  have hx := B.exec
  have hb := B.bytes
  have hr := B.returns
  have hts := atoms_spec (ws := wsX16_lookAll) B.pre
  have hown : s.vm.findClass RX16 = some m.cls := findClass_of_methodNamed B.named
  have hlocks := B.notSynchronized
  subst hsz
  have hD := hD0.self (sz := s.heap.size)
  clear hD0
  generalize hAe : va_A (Wd cy a sh n z) s.heap.size = A at hD ⊢
  have hA : ∀ q : Nat, s.heap.size ≤ q → A q := fun q h => by rw [← hAe]; exact Or.inr h
  clear hAe
  have hS : va_S A s.heap s.heap [] := va_S.rf
  have hl := lv_entry ([.ref (a h0)]) (n := 4) (Nat.le_of_ble_eq_true rfl)
  rw [lg_entry_eq]
  generalize (lg_sl ([.ref (a h0)]) ++ List.replicate (4 - (lg_sl ([.ref (a h0)])).length) Slot.unset).toArray = ls at hl ⊢
  replace hl : lv_has ls 4 [(0, .ref (a h0))] := hl
  unfold fn_X16_lookAll at hf
  refine de_start hS hP (fun H locs hS hP => ?_)
  refine lv_iconst (v := 0) hx hb dX16_lookAll_0 (by decide) ?_
  refine lv_istore_n (lv' := [(1, .int 0), (0, .ref (a h0))]) hx hb dX16_lookAll_1 rfl hl (by decide) rfl (fun ls hl2 => ?_)
  replace hl := hl2
  clear hl2
  have hl0 : lv_has ls 4 [(1, .int 0), (0, .ref (a h0))] := lv_sub hl [0, 1] rfl
  refine de_loop (h := 2) (fun (x : St × Int32) ls H locs => lv_has ls 4 [(1, .int x.2), (0, .ref (a h0))] ∧ va_P (dC, dI) vwCl (Wd cy a sh n x.1) H ∧ va_D A (Wd cy a sh n x.1) ∧ va_S A s.heap H locs) (fun f x => fn_X16_lookAll_L2 F sh n h0 f x.1 x.2) (z8, r8) ?_ (fun _ => rfl) F (z, 0) ls H locs ⟨hl0, hP, hD, hS⟩ hf
  intro f_3 x ls H locs ih2 hI hf
  obtain ⟨z_2, p_1⟩ := x
  obtain ⟨hl2, hP2, hD2, hS2⟩ := hI
  replace hl : lv_has ls 4 [(1, .int p_1), (0, .ref (a h0))] := hl2
  replace hP := hP2
  replace hD := hD2
  replace hS := hS2
  clear hl2 hP2 hD2 hS2 hl0
  replace hf := fn_X16_lookAll_L2_s hf
  refine lv_iload_n hx hb dX16_lookAll_2 rfl (lv_at hl 0 rfl) ?_
  refine lv_aload_n hx hb dX16_lookAll_3 rfl (lv_at hl 1 rfl) ?_
  obtain ⟨g_4, hf⟩ := grd_some hf
  obtain ⟨kg_4, sg_4⟩ := okO_at g_4
  refine va_get (D := (dC, dI)) (ci := 16) (v := .int (z_2.1 h0 5)) (C := RX16) (T := TX16) (N := 18) hx hb hts iwd_X16_lookAll_X16 hown hK hP h0 (Wd_ob kg_4 sg_4 (by decide)) rfl 5 (by decide) (hts _ md_X16_lookAll_1) (fun _ h9 => h9) (fl_at (t := 0) rfl) dX16_lookAll_4 ?_
  refine de_cut (h := 55) (fun (x : St) => []) (fun x ls H locs => lv_has ls 4 [(0, .ref (a h0))] ∧ va_P (dC, dI) vwCl (Wd cy a sh n x) H ∧ va_D A (Wd cy a sh n x) ∧ va_S A s.heap H locs) (fun x => fn_X16_lookAll_B55 F sh n h0 x) (z8, r8) ?_ (fun B55 => ?_)
  · intro x ls H locs hI hf
    obtain ⟨z_5, ez⟩ : ∃ w, w = x := ⟨_, rfl⟩
    subst ez
    obtain ⟨hl2, hP2, hD2, hS2⟩ := hI
    replace hl : lv_has ls 4 [(0, .ref (a h0))] := hl2
    replace hP := hP2
    replace hD := hD2
    replace hS := hS2
    clear hl2 hP2 hD2 hS2
    replace hf := fn_X16_lookAll_B55_s hf
    refine W.eq (g2 := F0 m 55 ls []) rfl ?_
    refine lv_iconst (v := 0) hx hb dX16_lookAll_55 (by decide) ?_
    refine lv_istore_n (lv' := [(1, .int 0), (0, .ref (a h0))]) hx hb dX16_lookAll_56 rfl hl (by decide) rfl (fun ls hl2 => ?_)
    replace hl := hl2
    clear hl2
    have hl0 : lv_has ls 4 [(1, .int 0), (0, .ref (a h0))] := lv_sub hl [0, 1] rfl
    refine de_loop (h := 57) (fun (x : St × Int32) ls H locs => lv_has ls 4 [(1, .int x.2), (0, .ref (a h0))] ∧ va_P (dC, dI) vwCl (Wd cy a sh n x.1) H ∧ va_D A (Wd cy a sh n x.1) ∧ va_S A s.heap H locs) (fun f x => fn_X16_lookAll_L57 F sh n h0 f x.1 x.2) (z8, r8) ?_ (fun _ => rfl) F (z_5, 0) ls H locs ⟨hl0, hP, hD, hS⟩ hf
    intro f_8 x ls H locs ih57 hI hf
    obtain ⟨z_7, p_6⟩ := x
    obtain ⟨hl2, hP2, hD2, hS2⟩ := hI
    replace hl : lv_has ls 4 [(1, .int p_6), (0, .ref (a h0))] := hl2
    replace hP := hP2
    replace hD := hD2
    replace hS := hS2
    clear hl2 hP2 hD2 hS2 hl0
    replace hf := fn_X16_lookAll_L57_s hf
    refine lv_iload_n hx hb dX16_lookAll_57 rfl (lv_at hl 0 rfl) ?_
    refine lv_aload_n hx hb dX16_lookAll_58 rfl (lv_at hl 1 rfl) ?_
    refine va_get (D := (dC, dI)) (ci := 16) (v := .int (z_7.1 h0 7)) (C := RX16) (T := TX16) (N := 18) hx hb hts iwd_X16_lookAll_X16 hown hK hP h0 (Wd_ob kg_4 sg_4 (by decide)) rfl 7 (by decide) (hts _ md_X16_lookAll_3) (fun _ h9 => h9) (fl_at (t := 0) rfl) dX16_lookAll_59 ?_
    refine de_cut (h := 95) (fun (x : St) => []) (fun x ls H locs => lv_has ls 4 [(0, .ref (a h0))] ∧ va_P (dC, dI) vwCl (Wd cy a sh n x) H ∧ va_D A (Wd cy a sh n x) ∧ va_S A s.heap H locs) (fun x => fn_X16_lookAll_B95 F sh n h0 x) (z8, r8) ?_ (fun B95 => ?_)
    · intro x ls H locs hI hf
      obtain ⟨z_9, ez⟩ : ∃ w, w = x := ⟨_, rfl⟩
      subst ez
      obtain ⟨hl2, hP2, hD2, hS2⟩ := hI
      replace hl : lv_has ls 4 [(0, .ref (a h0))] := hl2
      replace hP := hP2
      replace hD := hD2
      replace hS := hS2
      clear hl2 hP2 hD2 hS2
      replace hf := fn_X16_lookAll_B95_s hf
      refine W.eq (g2 := F0 m 95 ls []) rfl ?_
      refine lv_iconst (v := 0) hx hb dX16_lookAll_95 (by decide) ?_
      refine lv_istore_n (lv' := [(1, .int 0), (0, .ref (a h0))]) hx hb dX16_lookAll_96 rfl hl (by decide) rfl (fun ls hl2 => ?_)
      replace hl := hl2
      clear hl2
      have hl0 : lv_has ls 4 [(1, .int 0), (0, .ref (a h0))] := lv_sub hl [0, 1] rfl
      refine de_loop (h := 97) (fun (x : St × Int32) ls H locs => lv_has ls 4 [(1, .int x.2), (0, .ref (a h0))] ∧ va_P (dC, dI) vwCl (Wd cy a sh n x.1) H ∧ va_D A (Wd cy a sh n x.1) ∧ va_S A s.heap H locs) (fun f x => fn_X16_lookAll_L97 F sh n h0 f x.1 x.2) (z8, r8) ?_ (fun _ => rfl) F (z_9, 0) ls H locs ⟨hl0, hP, hD, hS⟩ hf
      intro f_12 x ls H locs ih97 hI hf
      obtain ⟨z_11, p_10⟩ := x
      obtain ⟨hl2, hP2, hD2, hS2⟩ := hI
      replace hl : lv_has ls 4 [(1, .int p_10), (0, .ref (a h0))] := hl2
      replace hP := hP2
      replace hD := hD2
      replace hS := hS2
      clear hl2 hP2 hD2 hS2 hl0
      replace hf := fn_X16_lookAll_L97_s hf
      refine lv_iload_n hx hb dX16_lookAll_97 rfl (lv_at hl 0 rfl) ?_
      refine lv_aload_n hx hb dX16_lookAll_98 rfl (lv_at hl 1 rfl) ?_
      refine va_get (D := (dC, dI)) (ci := 16) (v := .int (z_11.1 h0 8)) (C := RX16) (T := TX16) (N := 18) hx hb hts iwd_X16_lookAll_X16 hown hK hP h0 (Wd_ob kg_4 sg_4 (by decide)) rfl 8 (by decide) (hts _ md_X16_lookAll_5) (fun _ h9 => h9) (fl_at (t := 0) rfl) dX16_lookAll_99 ?_
      refine de_cut (h := 129) (fun (x : St) => []) (fun x ls H locs => lv_has ls 4 [(0, .ref (a h0))] ∧ va_P (dC, dI) vwCl (Wd cy a sh n x) H ∧ va_D A (Wd cy a sh n x) ∧ va_S A s.heap H locs) (fun x => fn_X16_lookAll_B129 F sh n h0 x) (z8, r8) ?_ (fun B129 => ?_)
      · intro x ls H locs hI hf
        obtain ⟨z_13, ez⟩ : ∃ w, w = x := ⟨_, rfl⟩
        subst ez
        obtain ⟨hl2, hP2, hD2, hS2⟩ := hI
        replace hl : lv_has ls 4 [(0, .ref (a h0))] := hl2
        replace hP := hP2
        replace hD := hD2
        replace hS := hS2
        clear hl2 hP2 hD2 hS2
        replace hf := fn_X16_lookAll_B129_s hf
        refine W.eq (g2 := F0 m 129 ls []) rfl ?_
        refine lv_iconst (v := 0) hx hb dX16_lookAll_129 (by decide) ?_
        refine lv_istore_n (lv' := [(1, .int 0), (0, .ref (a h0))]) hx hb dX16_lookAll_130 rfl hl (by decide) rfl (fun ls hl2 => ?_)
        replace hl := hl2
        clear hl2
        have hl0 : lv_has ls 4 [(1, .int 0), (0, .ref (a h0))] := lv_sub hl [0, 1] rfl
        refine de_loop (h := 131) (fun (x : St × Int32) ls H locs => lv_has ls 4 [(1, .int x.2), (0, .ref (a h0))] ∧ va_P (dC, dI) vwCl (Wd cy a sh n x.1) H ∧ va_D A (Wd cy a sh n x.1) ∧ va_S A s.heap H locs) (fun f x => fn_X16_lookAll_L131 F sh n h0 f x.1 x.2) (z8, r8) ?_ (fun _ => rfl) F (z_13, 0) ls H locs ⟨hl0, hP, hD, hS⟩ hf
        intro f_16 x ls H locs ih131 hI hf
        obtain ⟨z_15, p_14⟩ := x
        obtain ⟨hl2, hP2, hD2, hS2⟩ := hI
        replace hl : lv_has ls 4 [(1, .int p_14), (0, .ref (a h0))] := hl2
        replace hP := hP2
        replace hD := hD2
        replace hS := hS2
        clear hl2 hP2 hD2 hS2 hl0
        replace hf := fn_X16_lookAll_L131_s hf
        refine lv_iload_n hx hb dX16_lookAll_131 rfl (lv_at hl 0 rfl) ?_
        refine lv_aload_n hx hb dX16_lookAll_132 rfl (lv_at hl 1 rfl) ?_
        refine va_get (D := (dC, dI)) (ci := 16) (v := .int (z_15.1 h0 9)) (C := RX16) (T := TX16) (N := 18) hx hb hts iwd_X16_lookAll_X16 hown hK hP h0 (Wd_ob kg_4 sg_4 (by decide)) rfl 9 (by decide) (hts _ md_X16_lookAll_7) (fun _ h9 => h9) (fl_at (t := 0) rfl) dX16_lookAll_133 ?_
        refine lv_icmp_ge (tgt := 245) hx hb dX16_lookAll_136 (by decide) (fun c_17 => ?_) (fun c_17 => ?_)
        · skip
          rw [if_pos c_17] at hf
          obtain ⟨h8, h9⟩ := ret_some hf
          rw [h8]
          exact W.vret hx hb hr (fun t ht hW => ⟨⟨(), rfl, trivial, by rw [ht]; exact hP, va_K.moved hW.alike hK, hD⟩, hS.F ht⟩) hS.2.2 dX16_lookAll_245
        · skip
          rw [if_neg c_17] at hf
          refine lv_aload_n hx hb dX16_lookAll_139 rfl (lv_at hl 1 rfl) ?_
          obtain ⟨z_18, r_19, hfc, hf⟩ := cal_some hf
          have hFc := de_free hD hS hA
          refine va_calli (va_runV (As := []) (rest := []) ⟨hx, hb, hml, hown, hts⟩ (de_X16_isGood l dC dI cy a sh n H.size F z_15 h0 hfc) (cwV 0 hts gX16_lookAll_X16_isGood rfl rfl rfl (by decide +kernel) ⟨Nat.le_of_ble_eq_true rfl, Nat.le_of_ble_eq_true rfl⟩) ⟨fun a U g mk q => by obtain ⟨q0, q1, qP, qK, qD, qN⟩ := q; exact ⟨q0, q1, qP, va_K.moved (u := U) (U := U.calling g mk a) (Vm.Alike.refl U.vm) qK, qD, qN.same rfl⟩, va_recv hK hP (ci := 16) (q0 := h0) rfl (Wd_ob kg_4 sg_4 (by decide)), fun U hU hW => ⟨rfl, by rw [hU], by rw [hU]; exact hP, va_K.moved hW.alike hK, hD.weaken (fun _ _ _ _ => trivial), hN.warm hW⟩⟩ rfl rfl hl.1 rfl (lv_room (Nat.le_of_ble_eq_true rfl)) dX16_lookAll_140 ⟨Nat.le_of_ble_eq_true rfl, Nat.le_of_ble_eq_true rfl⟩) hS (fun q _ h => hFc q h) hFc (fun rr u t H_20 locs ht hvm hw hB hz1 hk1 hS2 => ?_)
          rw [hw]
          clear hw
          obtain ⟨hP1, -, hD1⟩ := hB
          rw [ht] at hP1
          replace hD := hD1.weaken (fun _ _ _ h => hFc _ h)
          replace hP := hP1
          replace hS := hS2
          clear hP1 hD1 hS2 hFc hfc hz1 hk1 hvm ht
          refine lv_if_eq (tgt := 245) hx hb dX16_lookAll_143 (by decide) (fun c_21 => ?_) (fun c_21 => ?_)
          · skip
            rw [if_pos c_21] at hf
            obtain ⟨h8, h9⟩ := ret_some hf
            rw [h8]
            exact W.vret hx hb hr (fun t ht hW => ⟨⟨(), rfl, trivial, by rw [ht]; exact hP, va_K.moved hW.alike hK, hD⟩, hS.F ht⟩) hS.2.2 dX16_lookAll_245
          · skip
            rw [if_neg c_21] at hf
            refine lv_aload_n hx hb dX16_lookAll_146 rfl (lv_at hl 1 rfl) ?_
            refine lv_aload_n hx hb dX16_lookAll_147 rfl (lv_at hl 1 rfl) ?_
            refine lv_aload_n hx hb dX16_lookAll_148 rfl (lv_at hl 1 rfl) ?_
            refine lv_aload_n hx hb dX16_lookAll_149 rfl (lv_at hl 1 rfl) ?_
            obtain ⟨k_22, ek_22, hf⟩ := lnk_some hf
            refine va_get (D := (dC, dI)) (ci := 16) (v := .ref (a k_22)) (C := RX16) (T := TX16) (N := 18) hx hb hts iwd_X16_lookAll_X16 hown hK hP h0 (Wd_ob kg_4 sg_4 (by decide)) rfl 14 (by decide) (hts _ md_X16_lookAll_8) (fun _ h9 => h9) (fl_q rfl ek_22) dX16_lookAll_150 ?_
            refine lv_iload_n hx hb dX16_lookAll_153 rfl (lv_at hl 0 rfl) ?_
            obtain ⟨g_23, hf⟩ := grd_some hf
            obtain ⟨kg_23, sg_23, ig_23⟩ := okA_at g_23
            refine va_iald hx hb hK hP k_22 1 (Wd_ai kg_23 sg_23) rfl ig_23 dX16_lookAll_154 ?_
            refine lv_iconst (v := 1) hx hb dX16_lookAll_155 (by decide) ?_
            refine lv_iadd hx hb dX16_lookAll_156 ?_
            obtain ⟨z_24, r_25, hfc, hf⟩ := cal_some hf
            have hFc := de_free hD hS hA
            refine va_calli (va_runV (As := [.int ((z_18.1 k_22 p_14.toNatClampNeg) + 1)]) (rest := [.ref (a h0), .ref (a h0)]) ⟨hx, hb, hml, hown, hts⟩ (de_X16_lookList l dC dI cy a sh n H_20.size F z_18 h0 ((z_18.1 k_22 p_14.toNatClampNeg) + 1) hfc) (cwV 1 hts gX16_lookAll_X16_lookList rfl rfl rfl (by decide +kernel) ⟨Nat.le_of_ble_eq_true rfl, Nat.le_of_ble_eq_true rfl⟩) ⟨fun a U g mk q => by obtain ⟨q0, q1, qP, qK, qD, qN⟩ := q; exact ⟨q0, q1, qP, va_K.moved (u := U) (U := U.calling g mk a) (Vm.Alike.refl U.vm) qK, qD, qN.same rfl⟩, va_recv hK hP (ci := 16) (q0 := h0) rfl (Wd_ob kg_4 sg_4 (by decide)), fun U hU hW => ⟨rfl, by rw [hU], by rw [hU]; exact hP, va_K.moved hW.alike hK, hD.weaken (fun _ _ _ _ => trivial), hN.warm hW⟩⟩ rfl rfl hl.1 rfl (lv_room (Nat.le_of_ble_eq_true rfl)) dX16_lookAll_157 ⟨Nat.le_of_ble_eq_true rfl, Nat.le_of_ble_eq_true rfl⟩) hS (fun q _ h => hFc q h) hFc (fun rr u t H_26 locs ht hvm hw hB hz1 hk1 hS2 => ?_)
            rw [hw]
            clear hw
            obtain ⟨hP1, -, hD1⟩ := hB
            rw [ht] at hP1
            replace hD := hD1.weaken (fun _ _ _ h => hFc _ h)
            replace hP := hP1
            replace hS := hS2
            clear hP1 hD1 hS2 hFc hfc hz1 hk1 hvm ht
            obtain ⟨z_27, r_28, hfc, hf⟩ := cal_some hf
            have hFc := de_free hD hS hA
            refine va_calli (va_runV (As := [.int r_25]) (rest := [.ref (a h0)]) ⟨hx, hb, hml, hown, hts⟩ (de_X16_lookList l dC dI cy a sh n H_26.size F z_24 h0 r_25 hfc) (cwV 1 hts gX16_lookAll_X16_lookList rfl rfl rfl (by decide +kernel) ⟨Nat.le_of_ble_eq_true rfl, Nat.le_of_ble_eq_true rfl⟩) ⟨fun a U g mk q => by obtain ⟨q0, q1, qP, qK, qD, qN⟩ := q; exact ⟨q0, q1, qP, va_K.moved (u := U) (U := U.calling g mk a) (Vm.Alike.refl U.vm) qK, qD, qN.same rfl⟩, va_recv hK hP (ci := 16) (q0 := h0) rfl (Wd_ob kg_4 sg_4 (by decide)), fun U hU hW => ⟨rfl, by rw [hU], by rw [hU]; exact hP, va_K.moved hW.alike hK, hD.weaken (fun _ _ _ _ => trivial), hN.warm hW⟩⟩ rfl rfl hl.1 rfl (lv_room (Nat.le_of_ble_eq_true rfl)) dX16_lookAll_160 ⟨Nat.le_of_ble_eq_true rfl, Nat.le_of_ble_eq_true rfl⟩) hS (fun q _ h => hFc q h) hFc (fun rr u t H_29 locs ht hvm hw hB hz1 hk1 hS2 => ?_)
            rw [hw]
            clear hw
            obtain ⟨hP1, -, hD1⟩ := hB
            rw [ht] at hP1
            replace hD := hD1.weaken (fun _ _ _ h => hFc _ h)
            replace hP := hP1
            replace hS := hS2
            clear hP1 hD1 hS2 hFc hfc hz1 hk1 hvm ht
            obtain ⟨z_30, r_31, hfc, hf⟩ := cal_some hf
            have hFc := de_free hD hS hA
            refine va_calli (va_runV (As := [.int r_28]) (rest := []) ⟨hx, hb, hml, hown, hts⟩ (de_X16_lookList l dC dI cy a sh n H_29.size F z_27 h0 r_28 hfc) (cwV 1 hts gX16_lookAll_X16_lookList rfl rfl rfl (by decide +kernel) ⟨Nat.le_of_ble_eq_true rfl, Nat.le_of_ble_eq_true rfl⟩) ⟨fun a U g mk q => by obtain ⟨q0, q1, qP, qK, qD, qN⟩ := q; exact ⟨q0, q1, qP, va_K.moved (u := U) (U := U.calling g mk a) (Vm.Alike.refl U.vm) qK, qD, qN.same rfl⟩, va_recv hK hP (ci := 16) (q0 := h0) rfl (Wd_ob kg_4 sg_4 (by decide)), fun U hU hW => ⟨rfl, by rw [hU], by rw [hU]; exact hP, va_K.moved hW.alike hK, hD.weaken (fun _ _ _ _ => trivial), hN.warm hW⟩⟩ rfl rfl hl.1 rfl (lv_room (Nat.le_of_ble_eq_true rfl)) dX16_lookAll_163 ⟨Nat.le_of_ble_eq_true rfl, Nat.le_of_ble_eq_true rfl⟩) hS (fun q _ h => hFc q h) hFc (fun rr u t H_32 locs ht hvm hw hB hz1 hk1 hS2 => ?_)
            rw [hw]
            clear hw
            obtain ⟨hP1, -, hD1⟩ := hB
            rw [ht] at hP1
            replace hD := hD1.weaken (fun _ _ _ h => hFc _ h)
            replace hP := hP1
            replace hS := hS2
            clear hP1 hD1 hS2 hFc hfc hz1 hk1 hvm ht
            refine lv_pop hx hb dX16_lookAll_166 rfl ?_
            refine lv_aload_n hx hb dX16_lookAll_167 rfl (lv_at hl 1 rfl) ?_
            refine lv_iload_n hx hb dX16_lookAll_168 rfl (lv_at hl 0 rfl) ?_
            refine lv_iconst (v := 0) hx hb dX16_lookAll_169 (by decide) ?_
            obtain ⟨z_33, r_34, hfc, hf⟩ := cal_some hf
            have hFc := de_free hD hS hA
            refine va_calli (va_runV (As := [.int p_14, .int 0]) (rest := []) ⟨hx, hb, hml, hown, hts⟩ (de_X16_manyIn l dC dI cy a sh n H_32.size F z_30 h0 p_14 0 hfc) (cwV 2 hts gX16_lookAll_X16_manyIn rfl rfl rfl (by decide +kernel) ⟨Nat.le_of_ble_eq_true rfl, Nat.le_of_ble_eq_true rfl⟩) ⟨fun a U g mk q => by obtain ⟨q0, q1, qP, qK, qD, qN⟩ := q; exact ⟨q0, q1, qP, va_K.moved (u := U) (U := U.calling g mk a) (Vm.Alike.refl U.vm) qK, qD, qN.same rfl⟩, va_recv hK hP (ci := 16) (q0 := h0) rfl (Wd_ob kg_4 sg_4 (by decide)), fun U hU hW => ⟨rfl, by rw [hU], by rw [hU]; exact hP, va_K.moved hW.alike hK, hD.weaken (fun _ _ _ _ => trivial), hN.warm hW⟩⟩ rfl rfl hl.1 rfl (lv_room (Nat.le_of_ble_eq_true rfl)) dX16_lookAll_170 ⟨Nat.le_of_ble_eq_true rfl, Nat.le_of_ble_eq_true rfl⟩) hS (fun q _ h => hFc q h) hFc (fun rr u t H_35 locs ht hvm hw hB hz1 hk1 hS2 => ?_)
            rw [hw]
            clear hw
            obtain ⟨hP1, -, hD1⟩ := hB
            rw [ht] at hP1
            replace hD := hD1.weaken (fun _ _ _ h => hFc _ h)
            replace hP := hP1
            replace hS := hS2
            clear hP1 hD1 hS2 hFc hfc hz1 hk1 hvm ht
            refine lv_aload_n hx hb dX16_lookAll_173 rfl (lv_at hl 1 rfl) ?_
            refine lv_iload_n hx hb dX16_lookAll_174 rfl (lv_at hl 0 rfl) ?_
            refine lv_iconst (v := 2) hx hb dX16_lookAll_175 (by decide) ?_
            obtain ⟨z_36, r_37, hfc, hf⟩ := cal_some hf
            have hFc := de_free hD hS hA
            refine va_calli (va_runV (As := [.int p_14, .int 2]) (rest := [.int r_34]) ⟨hx, hb, hml, hown, hts⟩ (de_X16_manyIn l dC dI cy a sh n H_35.size F z_33 h0 p_14 2 hfc) (cwV 2 hts gX16_lookAll_X16_manyIn rfl rfl rfl (by decide +kernel) ⟨Nat.le_of_ble_eq_true rfl, Nat.le_of_ble_eq_true rfl⟩) ⟨fun a U g mk q => by obtain ⟨q0, q1, qP, qK, qD, qN⟩ := q; exact ⟨q0, q1, qP, va_K.moved (u := U) (U := U.calling g mk a) (Vm.Alike.refl U.vm) qK, qD, qN.same rfl⟩, va_recv hK hP (ci := 16) (q0 := h0) rfl (Wd_ob kg_4 sg_4 (by decide)), fun U hU hW => ⟨rfl, by rw [hU], by rw [hU]; exact hP, va_K.moved hW.alike hK, hD.weaken (fun _ _ _ _ => trivial), hN.warm hW⟩⟩ rfl rfl hl.1 rfl (lv_room (Nat.le_of_ble_eq_true rfl)) dX16_lookAll_176 ⟨Nat.le_of_ble_eq_true rfl, Nat.le_of_ble_eq_true rfl⟩) hS (fun q _ h => hFc q h) hFc (fun rr u t H_38 locs ht hvm hw hB hz1 hk1 hS2 => ?_)
            rw [hw]
            clear hw
            obtain ⟨hP1, -, hD1⟩ := hB
            rw [ht] at hP1
            replace hD := hD1.weaken (fun _ _ _ h => hFc _ h)
            replace hP := hP1
            replace hS := hS2
            clear hP1 hD1 hS2 hFc hfc hz1 hk1 hvm ht
            refine lv_iadd hx hb dX16_lookAll_179 ?_
            refine lv_topi (fun v_39 ev_39 => ?_)
            replace hf := lt_at ev_39 hf
            clear ev_39
            refine lv_istore_n (lv' := [(2, .int v_39), (1, .int p_14), (0, .ref (a h0))]) hx hb dX16_lookAll_180 rfl hl (by decide) rfl (fun ls hl2 => ?_)
            replace hl := hl2
            clear hl2
            refine lv_aload_n hx hb dX16_lookAll_181 rfl (lv_at hl 2 rfl) ?_
            obtain ⟨k_40, ek_40, hf⟩ := lnk_some hf
            refine va_get (D := (dC, dI)) (ci := 16) (v := .ref (a k_40)) (C := RX16) (T := TX16) (N := 18) hx hb hts iwd_X16_lookAll_X16 hown hK hP h0 (Wd_ob kg_4 sg_4 (by decide)) rfl 15 (by decide) (hts _ md_X16_lookAll_9) (fun _ h9 => h9) (fl_q rfl ek_40) dX16_lookAll_182 ?_
            refine lv_iload_n hx hb dX16_lookAll_185 rfl (lv_at hl 1 rfl) ?_
            obtain ⟨g_41, hf⟩ := grd_some hf
            obtain ⟨kg_41, sg_41, ig_41⟩ := okA_at g_41
            refine va_iald hx hb hK hP k_40 1 (Wd_ai kg_41 sg_41) rfl ig_41 dX16_lookAll_186 ?_
            refine lv_topi (fun v_42 ev_42 => ?_)
            replace hf := lt_at ev_42 hf
            clear ev_42
            refine lv_istore_n (lv' := [(3, .int v_42), (2, .int v_39), (1, .int p_14), (0, .ref (a h0))]) hx hb dX16_lookAll_187 rfl hl (by decide) rfl (fun ls hl2 => ?_)
            replace hl := hl2
            clear hl2
            have hl0 : lv_has ls 4 [(3, .int v_42), (2, .int v_39), (1, .int p_14), (0, .ref (a h0))] := lv_sub hl [0, 1, 2, 3] rfl
            refine de_loop (h := 188) (fun (x : St × Int32) ls H locs => lv_has ls 4 [(3, .int x.2), (2, .int v_39), (1, .int p_14), (0, .ref (a h0))] ∧ va_P (dC, dI) vwCl (Wd cy a sh n x.1) H ∧ va_D A (Wd cy a sh n x.1) ∧ va_S A s.heap H locs) (fun f x => fn_X16_lookAll_L188 F sh n h0 p_14 v_39 (fun z9 q1 => fn_X16_lookAll_L131 F sh n h0 f_16 z9 q1) f x.1 x.2) (z8, r8) ?_ (fun _ => rfl) F (z_36, v_42) ls H_38 locs ⟨hl0, hP, hD, hS⟩ hf
            intro f_45 x ls H locs ih188 hI hf
            obtain ⟨z_44, p_43⟩ := x
            obtain ⟨hl2, hP2, hD2, hS2⟩ := hI
            replace hl : lv_has ls 4 [(3, .int p_43), (2, .int v_39), (1, .int p_14), (0, .ref (a h0))] := hl2
            replace hP := hP2
            replace hD := hD2
            replace hS := hS2
            clear hl2 hP2 hD2 hS2 hl0
            replace hf := fn_X16_lookAll_L188_s hf
            refine lv_iload_n hx hb dX16_lookAll_188 rfl (lv_at hl 0 rfl) ?_
            refine lv_aload_n hx hb dX16_lookAll_189 rfl (lv_at hl 3 rfl) ?_
            obtain ⟨k_46, ek_46, hf⟩ := lnk_some hf
            refine va_get (D := (dC, dI)) (ci := 16) (v := .ref (a k_46)) (C := RX16) (T := TX16) (N := 18) hx hb hts iwd_X16_lookAll_X16 hown hK hP h0 (Wd_ob kg_4 sg_4 (by decide)) rfl 15 (by decide) (hts _ md_X16_lookAll_9) (fun _ h9 => h9) (fl_q rfl ek_46) dX16_lookAll_190 ?_
            refine lv_iload_n hx hb dX16_lookAll_193 rfl (lv_at hl 2 rfl) ?_
            refine lv_iconst (v := 1) hx hb dX16_lookAll_194 (by decide) ?_
            refine lv_iadd hx hb dX16_lookAll_195 ?_
            obtain ⟨g_47, hf⟩ := grd_some hf
            obtain ⟨kg_47, sg_47, ig_47⟩ := okA_at g_47
            refine va_iald hx hb hK hP k_46 1 (Wd_ai kg_47 sg_47) rfl ig_47 dX16_lookAll_196 ?_
            refine de_cut (h := 239) (fun (x : St) => []) (fun x ls H locs => lv_has ls 4 [(1, .int p_14), (0, .ref (a h0))] ∧ va_P (dC, dI) vwCl (Wd cy a sh n x) H ∧ va_D A (Wd cy a sh n x) ∧ va_S A s.heap H locs) (fun x => fn_X16_lookAll_B239 F sh n p_14 (fun z9 q1 => fn_X16_lookAll_L131 F sh n h0 f_16 z9 q1) x) (z8, r8) ?_ (fun B239 => ?_)
            · intro x ls H locs hI hf
              obtain ⟨z_48, ez⟩ : ∃ w, w = x := ⟨_, rfl⟩
              subst ez
              obtain ⟨hl2, hP2, hD2, hS2⟩ := hI
              replace hl : lv_has ls 4 [(1, .int p_14), (0, .ref (a h0))] := hl2
              replace hP := hP2
              replace hD := hD2
              replace hS := hS2
              clear hl2 hP2 hD2 hS2
              replace hf := fn_X16_lookAll_B239_s hf
              refine W.eq (g2 := F0 m 239 ls []) rfl ?_
              refine lv_iinc (v := (p_14 + 1)) (lv' := [(1, .int (p_14 + 1)), (0, .ref (a h0))]) hx hb dX16_lookAll_239 hl (k := 0) rfl rfl (by decide) rfl (fun ls hl2 => ?_)
              replace hl := hl2
              clear hl2
              refine lv_goto (tgt := 131) hx hb dX16_lookAll_242 (by decide) ?_
              exact ih131 (z_48, (p_14 + 1)) ls H locs ⟨lv_sub hl [0, 1] rfl, hP, hD, hS⟩ hf
            refine lv_icmp_ge (tgt := 239) hx hb dX16_lookAll_197 (by decide) (fun c_49 => ?_) (fun c_49 => ?_)
            · skip
              rw [if_pos c_49] at hf
              exact B239 (z_44) ls H locs ⟨lv_sub hl [2, 3] rfl, hP, hD, hS⟩ hf
            · skip
              rw [if_neg c_49] at hf
              refine lv_aload_n hx hb dX16_lookAll_200 rfl (lv_at hl 3 rfl) ?_
              obtain ⟨z_50, r_51, hfc, hf⟩ := cal_some hf
              have hFc := de_free hD hS hA
              refine va_calli (va_runV (As := []) (rest := []) ⟨hx, hb, hml, hown, hts⟩ (de_X16_isGood l dC dI cy a sh n H.size F z_44 h0 hfc) (cwV 0 hts gX16_lookAll_X16_isGood rfl rfl rfl (by decide +kernel) ⟨Nat.le_of_ble_eq_true rfl, Nat.le_of_ble_eq_true rfl⟩) ⟨fun a U g mk q => by obtain ⟨q0, q1, qP, qK, qD, qN⟩ := q; exact ⟨q0, q1, qP, va_K.moved (u := U) (U := U.calling g mk a) (Vm.Alike.refl U.vm) qK, qD, qN.same rfl⟩, va_recv hK hP (ci := 16) (q0 := h0) rfl (Wd_ob kg_4 sg_4 (by decide)), fun U hU hW => ⟨rfl, by rw [hU], by rw [hU]; exact hP, va_K.moved hW.alike hK, hD.weaken (fun _ _ _ _ => trivial), hN.warm hW⟩⟩ rfl rfl hl.1 rfl (lv_room (Nat.le_of_ble_eq_true rfl)) dX16_lookAll_201 ⟨Nat.le_of_ble_eq_true rfl, Nat.le_of_ble_eq_true rfl⟩) hS (fun q _ h => hFc q h) hFc (fun rr u t H_52 locs ht hvm hw hB hz1 hk1 hS2 => ?_)
              rw [hw]
              clear hw
              obtain ⟨hP1, -, hD1⟩ := hB
              rw [ht] at hP1
              replace hD := hD1.weaken (fun _ _ _ h => hFc _ h)
              replace hP := hP1
              replace hS := hS2
              clear hP1 hD1 hS2 hFc hfc hz1 hk1 hvm ht
              refine lv_if_eq (tgt := 239) hx hb dX16_lookAll_204 (by decide) (fun c_53 => ?_) (fun c_53 => ?_)
              · skip
                rw [if_pos c_53] at hf
                exact B239 (z_50) ls H_52 locs ⟨lv_sub hl [2, 3] rfl, hP, hD, hS⟩ hf
              · skip
                rw [if_neg c_53] at hf
                refine lv_aload_n hx hb dX16_lookAll_207 rfl (lv_at hl 3 rfl) ?_
                refine lv_aload_n hx hb dX16_lookAll_208 rfl (lv_at hl 3 rfl) ?_
                obtain ⟨k_54, ek_54, hf⟩ := lnk_some hf
                refine va_get (D := (dC, dI)) (ci := 16) (v := .ref (a k_54)) (C := RX16) (T := TX16) (N := 18) hx hb hts iwd_X16_lookAll_X16 hown hK hP h0 (Wd_ob kg_4 sg_4 (by decide)) rfl 16 (by decide) (hts _ md_X16_lookAll_10) (fun _ h9 => h9) (fl_q rfl ek_54) dX16_lookAll_209 ?_
                refine lv_iload_n hx hb dX16_lookAll_212 rfl (lv_at hl 0 rfl) ?_
                obtain ⟨g_55, hf⟩ := grd_some hf
                obtain ⟨kg_55, sg_55, ig_55⟩ := okA_at g_55
                refine va_iald hx hb hK hP k_54 1 (Wd_ai kg_55 sg_55) rfl ig_55 dX16_lookAll_213 ?_
                refine lv_iload_n hx hb dX16_lookAll_214 rfl (lv_at hl 1 rfl) ?_
                refine lv_aload_n hx hb dX16_lookAll_215 rfl (lv_at hl 3 rfl) ?_
                obtain ⟨k_56, ek_56, hf⟩ := lnk_some hf
                refine va_get (D := (dC, dI)) (ci := 16) (v := .ref (a k_56)) (C := RX16) (T := TX16) (N := 18) hx hb hts iwd_X16_lookAll_X16 hown hK hP h0 (Wd_ob kg_4 sg_4 (by decide)) rfl 15 (by decide) (hts _ md_X16_lookAll_9) (fun _ h9 => h9) (fl_q rfl ek_56) dX16_lookAll_216 ?_
                refine lv_iload_n hx hb dX16_lookAll_219 rfl (lv_at hl 2 rfl) ?_
                refine lv_iconst (v := 1) hx hb dX16_lookAll_220 (by decide) ?_
                refine lv_iadd hx hb dX16_lookAll_221 ?_
                obtain ⟨g_57, hf⟩ := grd_some hf
                obtain ⟨kg_57, sg_57, ig_57⟩ := okA_at g_57
                refine va_iald hx hb hK hP k_56 1 (Wd_ai kg_57 sg_57) rfl ig_57 dX16_lookAll_222 ?_
                refine lv_aload_n hx hb dX16_lookAll_223 rfl (lv_at hl 3 rfl) ?_
                obtain ⟨k_58, ek_58, hf⟩ := lnk_some hf
                refine va_get (D := (dC, dI)) (ci := 16) (v := .ref (a k_58)) (C := RX16) (T := TX16) (N := 18) hx hb hts iwd_X16_lookAll_X16 hown hK hP h0 (Wd_ob kg_4 sg_4 (by decide)) rfl 15 (by decide) (hts _ md_X16_lookAll_9) (fun _ h9 => h9) (fl_q rfl ek_58) dX16_lookAll_224 ?_
                refine lv_iload_n hx hb dX16_lookAll_227 rfl (lv_at hl 2 rfl) ?_
                obtain ⟨g_59, hf⟩ := grd_some hf
                obtain ⟨kg_59, sg_59, ig_59⟩ := okA_at g_59
                refine va_iald hx hb hK hP k_58 1 (Wd_ai kg_59 sg_59) rfl ig_59 dX16_lookAll_228 ?_
                refine lv_isub hx hb dX16_lookAll_229 ?_
                obtain ⟨z_60, _u, hfc, hf⟩ := cal_some hf
                have hFc := de_free hD hS hA
                refine va_callv (va_runV (As := [.int (z_50.1 k_54 p_43.toNatClampNeg), .int v_39, .int ((z_50.1 k_56 (p_14 + 1).toNatClampNeg) - (z_50.1 k_58 p_14.toNatClampNeg))]) (rest := []) ⟨hx, hb, hml, hown, hts⟩ (de_X16_lookInstruction l dC dI cy a sh n H_52.size F z_50 h0 (z_50.1 k_54 p_43.toNatClampNeg) v_39 ((z_50.1 k_56 (p_14 + 1).toNatClampNeg) - (z_50.1 k_58 p_14.toNatClampNeg)) hfc) (cwV 3 hts gX16_lookAll_X16_lookInstruction rfl rfl rfl (by decide +kernel) ⟨Nat.le_of_ble_eq_true rfl, Nat.le_of_ble_eq_true rfl⟩) ⟨fun a U g mk q => by obtain ⟨q0, q1, qP, qK, qD, qN⟩ := q; exact ⟨q0, q1, qP, va_K.moved (u := U) (U := U.calling g mk a) (Vm.Alike.refl U.vm) qK, qD, qN.same rfl⟩, va_recv hK hP (ci := 16) (q0 := h0) rfl (Wd_ob kg_4 sg_4 (by decide)), fun U hU hW => ⟨rfl, by rw [hU], by rw [hU]; exact hP, va_K.moved hW.alike hK, hD.weaken (fun _ _ _ _ => trivial), hN.warm hW⟩⟩ rfl rfl hl.1 rfl (lv_room (Nat.le_of_ble_eq_true rfl)) dX16_lookAll_230 ⟨Nat.le_of_ble_eq_true rfl, Nat.le_of_ble_eq_true rfl⟩) hS (fun q _ h => hFc q h) hFc (fun u t H_61 locs ht hvm hw hB hz1 hk1 hS2 => ?_)
                obtain ⟨hP1, -, hD1⟩ := hB
                rw [ht] at hP1
                replace hD := hD1.weaken (fun _ _ _ h => hFc _ h)
                replace hP := hP1
                replace hS := hS2
                clear hP1 hD1 hS2 hFc hfc hz1 hk1 hvm ht
                refine lv_iinc (v := (p_43 + 1)) (lv' := [(3, .int (p_43 + 1)), (2, .int v_39), (1, .int p_14), (0, .ref (a h0))]) hx hb dX16_lookAll_233 hl (k := 0) rfl rfl (by decide) rfl (fun ls hl2 => ?_)
                replace hl := hl2
                clear hl2
                refine lv_goto (tgt := 188) hx hb dX16_lookAll_236 (by decide) ?_
                exact ih188 (z_60, (p_43 + 1)) ls H_61 locs ⟨lv_sub hl [0, 1, 2, 3] rfl, hP, hD, hS⟩ hf
      refine lv_icmp_ge (tgt := 129) hx hb dX16_lookAll_102 (by decide) (fun c_62 => ?_) (fun c_62 => ?_)
      · skip
        rw [if_pos c_62] at hf
        exact B129 (z_11) ls H locs ⟨lv_sub hl [1] rfl, hP, hD, hS⟩ hf
      · skip
        rw [if_neg c_62] at hf
        refine lv_aload_n hx hb dX16_lookAll_105 rfl (lv_at hl 1 rfl) ?_
        obtain ⟨z_63, r_64, hfc, hf⟩ := cal_some hf
        have hFc := de_free hD hS hA
        refine va_calli (va_runV (As := []) (rest := []) ⟨hx, hb, hml, hown, hts⟩ (de_X16_isGood l dC dI cy a sh n H.size F z_11 h0 hfc) (cwV 0 hts gX16_lookAll_X16_isGood rfl rfl rfl (by decide +kernel) ⟨Nat.le_of_ble_eq_true rfl, Nat.le_of_ble_eq_true rfl⟩) ⟨fun a U g mk q => by obtain ⟨q0, q1, qP, qK, qD, qN⟩ := q; exact ⟨q0, q1, qP, va_K.moved (u := U) (U := U.calling g mk a) (Vm.Alike.refl U.vm) qK, qD, qN.same rfl⟩, va_recv hK hP (ci := 16) (q0 := h0) rfl (Wd_ob kg_4 sg_4 (by decide)), fun U hU hW => ⟨rfl, by rw [hU], by rw [hU]; exact hP, va_K.moved hW.alike hK, hD.weaken (fun _ _ _ _ => trivial), hN.warm hW⟩⟩ rfl rfl hl.1 rfl (lv_room (Nat.le_of_ble_eq_true rfl)) dX16_lookAll_106 ⟨Nat.le_of_ble_eq_true rfl, Nat.le_of_ble_eq_true rfl⟩) hS (fun q _ h => hFc q h) hFc (fun rr u t H_65 locs ht hvm hw hB hz1 hk1 hS2 => ?_)
        rw [hw]
        clear hw
        obtain ⟨hP1, -, hD1⟩ := hB
        rw [ht] at hP1
        replace hD := hD1.weaken (fun _ _ _ h => hFc _ h)
        replace hP := hP1
        replace hS := hS2
        clear hP1 hD1 hS2 hFc hfc hz1 hk1 hvm ht
        refine lv_if_eq (tgt := 129) hx hb dX16_lookAll_109 (by decide) (fun c_66 => ?_) (fun c_66 => ?_)
        · skip
          rw [if_pos c_66] at hf
          exact B129 (z_63) ls H_65 locs ⟨lv_sub hl [1] rfl, hP, hD, hS⟩ hf
        · skip
          rw [if_neg c_66] at hf
          refine lv_aload_n hx hb dX16_lookAll_112 rfl (lv_at hl 1 rfl) ?_
          refine lv_aload_n hx hb dX16_lookAll_113 rfl (lv_at hl 1 rfl) ?_
          obtain ⟨k_67, ek_67, hf⟩ := lnk_some hf
          refine va_get (D := (dC, dI)) (ci := 16) (v := .ref (a k_67)) (C := RX16) (T := TX16) (N := 18) hx hb hts iwd_X16_lookAll_X16 hown hK hP h0 (Wd_ob kg_4 sg_4 (by decide)) rfl 13 (by decide) (hts _ md_X16_lookAll_6) (fun _ h9 => h9) (fl_q rfl ek_67) dX16_lookAll_114 ?_
          refine lv_iload_n hx hb dX16_lookAll_117 rfl (lv_at hl 0 rfl) ?_
          obtain ⟨g_68, hf⟩ := grd_some hf
          obtain ⟨kg_68, sg_68, ig_68⟩ := okA_at g_68
          refine va_iald hx hb hK hP k_67 1 (Wd_ai kg_68 sg_68) rfl ig_68 dX16_lookAll_118 ?_
          obtain ⟨z_69, r_70, hfc, hf⟩ := cal_some hf
          have hFc := de_free hD hS hA
          refine va_calli (va_runV (As := [.int (z_63.1 k_67 p_10.toNatClampNeg)]) (rest := []) ⟨hx, hb, hml, hown, hts⟩ (de_X16_lookType l dC dI cy a sh n H_65.size F z_63 h0 (z_63.1 k_67 p_10.toNatClampNeg) hfc) (cwV 1 hts gX16_lookAll_X16_lookType rfl rfl rfl (by decide +kernel) ⟨Nat.le_of_ble_eq_true rfl, Nat.le_of_ble_eq_true rfl⟩) ⟨fun a U g mk q => by obtain ⟨q0, q1, qP, qK, qD, qN⟩ := q; exact ⟨q0, q1, qP, va_K.moved (u := U) (U := U.calling g mk a) (Vm.Alike.refl U.vm) qK, qD, qN.same rfl⟩, va_recv hK hP (ci := 16) (q0 := h0) rfl (Wd_ob kg_4 sg_4 (by decide)), fun U hU hW => ⟨rfl, by rw [hU], by rw [hU]; exact hP, va_K.moved hW.alike hK, hD.weaken (fun _ _ _ _ => trivial), hN.warm hW⟩⟩ rfl rfl hl.1 rfl (lv_room (Nat.le_of_ble_eq_true rfl)) dX16_lookAll_119 ⟨Nat.le_of_ble_eq_true rfl, Nat.le_of_ble_eq_true rfl⟩) hS (fun q _ h => hFc q h) hFc (fun rr u t H_71 locs ht hvm hw hB hz1 hk1 hS2 => ?_)
          rw [hw]
          clear hw
          obtain ⟨hP1, -, hD1⟩ := hB
          rw [ht] at hP1
          replace hD := hD1.weaken (fun _ _ _ h => hFc _ h)
          replace hP := hP1
          replace hS := hS2
          clear hP1 hD1 hS2 hFc hfc hz1 hk1 hvm ht
          refine lv_pop hx hb dX16_lookAll_122 rfl ?_
          refine lv_iinc (v := (p_10 + 1)) (lv' := [(1, .int (p_10 + 1)), (0, .ref (a h0))]) hx hb dX16_lookAll_123 hl (k := 0) rfl rfl (by decide) rfl (fun ls hl2 => ?_)
          replace hl := hl2
          clear hl2
          refine lv_goto (tgt := 97) hx hb dX16_lookAll_126 (by decide) ?_
          exact ih97 (z_69, (p_10 + 1)) ls H_71 locs ⟨lv_sub hl [0, 1] rfl, hP, hD, hS⟩ hf
    refine lv_icmp_ge (tgt := 95) hx hb dX16_lookAll_62 (by decide) (fun c_72 => ?_) (fun c_72 => ?_)
    · skip
      rw [if_pos c_72] at hf
      exact B95 (z_7) ls H locs ⟨lv_sub hl [1] rfl, hP, hD, hS⟩ hf
    · skip
      rw [if_neg c_72] at hf
      refine lv_aload_n hx hb dX16_lookAll_65 rfl (lv_at hl 1 rfl) ?_
      obtain ⟨z_73, r_74, hfc, hf⟩ := cal_some hf
      have hFc := de_free hD hS hA
      refine va_calli (va_runV (As := []) (rest := []) ⟨hx, hb, hml, hown, hts⟩ (de_X16_isGood l dC dI cy a sh n H.size F z_7 h0 hfc) (cwV 0 hts gX16_lookAll_X16_isGood rfl rfl rfl (by decide +kernel) ⟨Nat.le_of_ble_eq_true rfl, Nat.le_of_ble_eq_true rfl⟩) ⟨fun a U g mk q => by obtain ⟨q0, q1, qP, qK, qD, qN⟩ := q; exact ⟨q0, q1, qP, va_K.moved (u := U) (U := U.calling g mk a) (Vm.Alike.refl U.vm) qK, qD, qN.same rfl⟩, va_recv hK hP (ci := 16) (q0 := h0) rfl (Wd_ob kg_4 sg_4 (by decide)), fun U hU hW => ⟨rfl, by rw [hU], by rw [hU]; exact hP, va_K.moved hW.alike hK, hD.weaken (fun _ _ _ _ => trivial), hN.warm hW⟩⟩ rfl rfl hl.1 rfl (lv_room (Nat.le_of_ble_eq_true rfl)) dX16_lookAll_66 ⟨Nat.le_of_ble_eq_true rfl, Nat.le_of_ble_eq_true rfl⟩) hS (fun q _ h => hFc q h) hFc (fun rr u t H_75 locs ht hvm hw hB hz1 hk1 hS2 => ?_)
      rw [hw]
      clear hw
      obtain ⟨hP1, -, hD1⟩ := hB
      rw [ht] at hP1
      replace hD := hD1.weaken (fun _ _ _ h => hFc _ h)
      replace hP := hP1
      replace hS := hS2
      clear hP1 hD1 hS2 hFc hfc hz1 hk1 hvm ht
      refine lv_if_eq (tgt := 95) hx hb dX16_lookAll_69 (by decide) (fun c_76 => ?_) (fun c_76 => ?_)
      · skip
        rw [if_pos c_76] at hf
        exact B95 (z_73) ls H_75 locs ⟨lv_sub hl [1] rfl, hP, hD, hS⟩ hf
      · skip
        rw [if_neg c_76] at hf
        refine lv_aload_n hx hb dX16_lookAll_72 rfl (lv_at hl 1 rfl) ?_
        refine lv_aload_n hx hb dX16_lookAll_73 rfl (lv_at hl 1 rfl) ?_
        refine lv_aload_n hx hb dX16_lookAll_74 rfl (lv_at hl 1 rfl) ?_
        obtain ⟨k_77, ek_77, hf⟩ := lnk_some hf
        refine va_get (D := (dC, dI)) (ci := 16) (v := .ref (a k_77)) (C := RX16) (T := TX16) (N := 18) hx hb hts iwd_X16_lookAll_X16 hown hK hP h0 (Wd_ob kg_4 sg_4 (by decide)) rfl 12 (by decide) (hts _ md_X16_lookAll_4) (fun _ h9 => h9) (fl_q rfl ek_77) dX16_lookAll_75 ?_
        refine lv_iload_n hx hb dX16_lookAll_78 rfl (lv_at hl 0 rfl) ?_
        obtain ⟨g_78, hf⟩ := grd_some hf
        obtain ⟨kg_78, sg_78, ig_78⟩ := okA_at g_78
        refine va_iald hx hb hK hP k_77 1 (Wd_ai kg_78 sg_78) rfl ig_78 dX16_lookAll_79 ?_
        refine lv_iconst (v := 4) hx hb dX16_lookAll_80 (by decide) ?_
        refine lv_iadd hx hb dX16_lookAll_81 ?_
        obtain ⟨z_79, r_80, hfc, hf⟩ := cal_some hf
        have hFc := de_free hD hS hA
        refine va_calli (va_runV (As := [.int ((z_73.1 k_77 p_6.toNatClampNeg) + 4)]) (rest := [.ref (a h0)]) ⟨hx, hb, hml, hown, hts⟩ (de_X16_lookList l dC dI cy a sh n H_75.size F z_73 h0 ((z_73.1 k_77 p_6.toNatClampNeg) + 4) hfc) (cwV 1 hts gX16_lookAll_X16_lookList rfl rfl rfl (by decide +kernel) ⟨Nat.le_of_ble_eq_true rfl, Nat.le_of_ble_eq_true rfl⟩) ⟨fun a U g mk q => by obtain ⟨q0, q1, qP, qK, qD, qN⟩ := q; exact ⟨q0, q1, qP, va_K.moved (u := U) (U := U.calling g mk a) (Vm.Alike.refl U.vm) qK, qD, qN.same rfl⟩, va_recv hK hP (ci := 16) (q0 := h0) rfl (Wd_ob kg_4 sg_4 (by decide)), fun U hU hW => ⟨rfl, by rw [hU], by rw [hU]; exact hP, va_K.moved hW.alike hK, hD.weaken (fun _ _ _ _ => trivial), hN.warm hW⟩⟩ rfl rfl hl.1 rfl (lv_room (Nat.le_of_ble_eq_true rfl)) dX16_lookAll_82 ⟨Nat.le_of_ble_eq_true rfl, Nat.le_of_ble_eq_true rfl⟩) hS (fun q _ h => hFc q h) hFc (fun rr u t H_81 locs ht hvm hw hB hz1 hk1 hS2 => ?_)
        rw [hw]
        clear hw
        obtain ⟨hP1, -, hD1⟩ := hB
        rw [ht] at hP1
        replace hD := hD1.weaken (fun _ _ _ h => hFc _ h)
        replace hP := hP1
        replace hS := hS2
        clear hP1 hD1 hS2 hFc hfc hz1 hk1 hvm ht
        obtain ⟨z_82, r_83, hfc, hf⟩ := cal_some hf
        have hFc := de_free hD hS hA
        refine va_calli (va_runV (As := [.int r_80]) (rest := []) ⟨hx, hb, hml, hown, hts⟩ (de_X16_lookList l dC dI cy a sh n H_81.size F z_79 h0 r_80 hfc) (cwV 1 hts gX16_lookAll_X16_lookList rfl rfl rfl (by decide +kernel) ⟨Nat.le_of_ble_eq_true rfl, Nat.le_of_ble_eq_true rfl⟩) ⟨fun a U g mk q => by obtain ⟨q0, q1, qP, qK, qD, qN⟩ := q; exact ⟨q0, q1, qP, va_K.moved (u := U) (U := U.calling g mk a) (Vm.Alike.refl U.vm) qK, qD, qN.same rfl⟩, va_recv hK hP (ci := 16) (q0 := h0) rfl (Wd_ob kg_4 sg_4 (by decide)), fun U hU hW => ⟨rfl, by rw [hU], by rw [hU]; exact hP, va_K.moved hW.alike hK, hD.weaken (fun _ _ _ _ => trivial), hN.warm hW⟩⟩ rfl rfl hl.1 rfl (lv_room (Nat.le_of_ble_eq_true rfl)) dX16_lookAll_85 ⟨Nat.le_of_ble_eq_true rfl, Nat.le_of_ble_eq_true rfl⟩) hS (fun q _ h => hFc q h) hFc (fun rr u t H_84 locs ht hvm hw hB hz1 hk1 hS2 => ?_)
        rw [hw]
        clear hw
        obtain ⟨hP1, -, hD1⟩ := hB
        rw [ht] at hP1
        replace hD := hD1.weaken (fun _ _ _ h => hFc _ h)
        replace hP := hP1
        replace hS := hS2
        clear hP1 hD1 hS2 hFc hfc hz1 hk1 hvm ht
        refine lv_pop hx hb dX16_lookAll_88 rfl ?_
        refine lv_iinc (v := (p_6 + 1)) (lv' := [(1, .int (p_6 + 1)), (0, .ref (a h0))]) hx hb dX16_lookAll_89 hl (k := 0) rfl rfl (by decide) rfl (fun ls hl2 => ?_)
        replace hl := hl2
        clear hl2
        refine lv_goto (tgt := 57) hx hb dX16_lookAll_92 (by decide) ?_
        exact ih57 (z_82, (p_6 + 1)) ls H_84 locs ⟨lv_sub hl [0, 1] rfl, hP, hD, hS⟩ hf
  refine lv_icmp_ge (tgt := 55) hx hb dX16_lookAll_7 (by decide) (fun c_85 => ?_) (fun c_85 => ?_)
  · skip
    rw [if_pos c_85] at hf
    exact B55 (z_2) ls H locs ⟨lv_sub hl [1] rfl, hP, hD, hS⟩ hf
  · skip
    rw [if_neg c_85] at hf
    refine lv_aload_n hx hb dX16_lookAll_10 rfl (lv_at hl 1 rfl) ?_
    obtain ⟨z_86, r_87, hfc, hf⟩ := cal_some hf
    have hFc := de_free hD hS hA
    refine va_calli (va_runV (As := []) (rest := []) ⟨hx, hb, hml, hown, hts⟩ (de_X16_isGood l dC dI cy a sh n H.size F z_2 h0 hfc) (cwV 0 hts gX16_lookAll_X16_isGood rfl rfl rfl (by decide +kernel) ⟨Nat.le_of_ble_eq_true rfl, Nat.le_of_ble_eq_true rfl⟩) ⟨fun a U g mk q => by obtain ⟨q0, q1, qP, qK, qD, qN⟩ := q; exact ⟨q0, q1, qP, va_K.moved (u := U) (U := U.calling g mk a) (Vm.Alike.refl U.vm) qK, qD, qN.same rfl⟩, va_recv hK hP (ci := 16) (q0 := h0) rfl (Wd_ob kg_4 sg_4 (by decide)), fun U hU hW => ⟨rfl, by rw [hU], by rw [hU]; exact hP, va_K.moved hW.alike hK, hD.weaken (fun _ _ _ _ => trivial), hN.warm hW⟩⟩ rfl rfl hl.1 rfl (lv_room (Nat.le_of_ble_eq_true rfl)) dX16_lookAll_11 ⟨Nat.le_of_ble_eq_true rfl, Nat.le_of_ble_eq_true rfl⟩) hS (fun q _ h => hFc q h) hFc (fun rr u t H_88 locs ht hvm hw hB hz1 hk1 hS2 => ?_)
    rw [hw]
    clear hw
    obtain ⟨hP1, -, hD1⟩ := hB
    rw [ht] at hP1
    replace hD := hD1.weaken (fun _ _ _ h => hFc _ h)
    replace hP := hP1
    replace hS := hS2
    clear hP1 hD1 hS2 hFc hfc hz1 hk1 hvm ht
    refine lv_if_eq (tgt := 55) hx hb dX16_lookAll_14 (by decide) (fun c_89 => ?_) (fun c_89 => ?_)
    · skip
      rw [if_pos c_89] at hf
      exact B55 (z_86) ls H_88 locs ⟨lv_sub hl [1] rfl, hP, hD, hS⟩ hf
    · skip
      rw [if_neg c_89] at hf
      refine lv_aload_n hx hb dX16_lookAll_17 rfl (lv_at hl 1 rfl) ?_
      obtain ⟨k_90, ek_90, hf⟩ := lnk_some hf
      refine va_get (D := (dC, dI)) (ci := 16) (v := .ref (a k_90)) (C := RX16) (T := TX16) (N := 18) hx hb hts iwd_X16_lookAll_X16 hown hK hP h0 (Wd_ob kg_4 sg_4 (by decide)) rfl 11 (by decide) (hts _ md_X16_lookAll_2) (fun _ h9 => h9) (fl_q rfl ek_90) dX16_lookAll_18 ?_
      refine lv_iload_n hx hb dX16_lookAll_21 rfl (lv_at hl 0 rfl) ?_
      obtain ⟨g_91, hf⟩ := grd_some hf
      obtain ⟨kg_91, sg_91, ig_91⟩ := okA_at g_91
      refine va_iald hx hb hK hP k_90 1 (Wd_ai kg_91 sg_91) rfl ig_91 dX16_lookAll_22 ?_
      refine lv_iconst (v := 2) hx hb dX16_lookAll_23 (by decide) ?_
      refine lv_iadd hx hb dX16_lookAll_24 ?_
      refine lv_topi (fun v_92 ev_92 => ?_)
      replace hf := lt_at ev_92 hf
      clear ev_92
      refine lv_istore_n (lv' := [(2, .int v_92), (1, .int p_1), (0, .ref (a h0))]) hx hb dX16_lookAll_25 rfl hl (by decide) rfl (fun ls hl2 => ?_)
      replace hl := hl2
      clear hl2
      refine lv_iconst (v := 0) hx hb dX16_lookAll_26 (by decide) ?_
      refine lv_istore_n (lv' := [(3, .int 0), (2, .int v_92), (1, .int p_1), (0, .ref (a h0))]) hx hb dX16_lookAll_27 rfl hl (by decide) rfl (fun ls hl2 => ?_)
      replace hl := hl2
      clear hl2
      have hl0 : lv_has ls 4 [(3, .int 0), (2, .int v_92), (1, .int p_1), (0, .ref (a h0))] := lv_sub hl [0, 1, 2, 3] rfl
      refine de_loop (h := 28) (fun (x : St × Int32 × Int32) ls H locs => lv_has ls 4 [(3, .int x.2.2), (2, .int x.2.1), (1, .int p_1), (0, .ref (a h0))] ∧ va_P (dC, dI) vwCl (Wd cy a sh n x.1) H ∧ va_D A (Wd cy a sh n x.1) ∧ va_S A s.heap H locs) (fun f x => fn_X16_lookAll_L28 F sh n h0 p_1 (fun z9 q1 => fn_X16_lookAll_L2 F sh n h0 f_3 z9 q1) f x.1 x.2.1 x.2.2) (z8, r8) ?_ (fun _ => rfl) F (z_86, v_92, 0) ls H_88 locs ⟨hl0, hP, hD, hS⟩ hf
      intro f_96 x ls H locs ih28 hI hf
      obtain ⟨z_95, p_93, p_94⟩ := x
      obtain ⟨hl2, hP2, hD2, hS2⟩ := hI
      replace hl : lv_has ls 4 [(3, .int p_94), (2, .int p_93), (1, .int p_1), (0, .ref (a h0))] := hl2
      replace hP := hP2
      replace hD := hD2
      replace hS := hS2
      clear hl2 hP2 hD2 hS2 hl0
      replace hf := fn_X16_lookAll_L28_s hf
      refine lv_iload_n hx hb dX16_lookAll_28 rfl (lv_at hl 0 rfl) ?_
      refine lv_aload_n hx hb dX16_lookAll_29 rfl (lv_at hl 3 rfl) ?_
      refine lv_iload_n hx hb dX16_lookAll_30 rfl (lv_at hl 2 rfl) ?_
      obtain ⟨z_97, r_98, hfc, hf⟩ := cal_some hf
      have hFc := de_free hD hS hA
      refine va_calli (va_runV (As := [.int p_1]) (rest := [.int p_94]) ⟨hx, hb, hml, hown, hts⟩ (de_X16_fieldsOf l dC dI cy a sh n H.size F z_95 h0 p_1 hfc) (cwV 1 hts gX16_lookAll_X16_fieldsOf rfl rfl rfl (by decide +kernel) ⟨Nat.le_of_ble_eq_true rfl, Nat.le_of_ble_eq_true rfl⟩) ⟨fun a U g mk q => by obtain ⟨q0, q1, qP, qK, qD, qN⟩ := q; exact ⟨q0, q1, qP, va_K.moved (u := U) (U := U.calling g mk a) (Vm.Alike.refl U.vm) qK, qD, qN.same rfl⟩, va_recv hK hP (ci := 16) (q0 := h0) rfl (Wd_ob kg_4 sg_4 (by decide)), fun U hU hW => ⟨rfl, by rw [hU], by rw [hU]; exact hP, va_K.moved hW.alike hK, hD.weaken (fun _ _ _ _ => trivial), hN.warm hW⟩⟩ rfl rfl hl.1 rfl (lv_room (Nat.le_of_ble_eq_true rfl)) dX16_lookAll_31 ⟨Nat.le_of_ble_eq_true rfl, Nat.le_of_ble_eq_true rfl⟩) hS (fun q _ h => hFc q h) hFc (fun rr u t H_99 locs ht hvm hw hB hz1 hk1 hS2 => ?_)
      rw [hw]
      clear hw
      obtain ⟨hP1, -, hD1⟩ := hB
      rw [ht] at hP1
      replace hD := hD1.weaken (fun _ _ _ h => hFc _ h)
      replace hP := hP1
      replace hS := hS2
      clear hP1 hD1 hS2 hFc hfc hz1 hk1 hvm ht
      refine lv_icmp_ge (tgt := 49) hx hb dX16_lookAll_34 (by decide) (fun c_100 => ?_) (fun c_100 => ?_)
      · skip
        rw [if_pos c_100] at hf
        refine lv_iinc (v := (p_1 + 1)) (lv' := [(1, .int (p_1 + 1)), (3, .int p_94), (2, .int p_93), (0, .ref (a h0))]) hx hb dX16_lookAll_49 hl (k := 2) rfl rfl (by decide) rfl (fun ls hl2 => ?_)
        replace hl := hl2
        clear hl2
        refine lv_goto (tgt := 2) hx hb dX16_lookAll_52 (by decide) ?_
        exact ih2 (z_97, (p_1 + 1)) ls H_99 locs ⟨lv_sub hl [0, 3] rfl, hP, hD, hS⟩ hf
      · skip
        rw [if_neg c_100] at hf
        refine lv_aload_n hx hb dX16_lookAll_37 rfl (lv_at hl 3 rfl) ?_
        refine lv_iload_n hx hb dX16_lookAll_38 rfl (lv_at hl 1 rfl) ?_
        obtain ⟨z_101, r_102, hfc, hf⟩ := cal_some hf
        have hFc := de_free hD hS hA
        refine va_calli (va_runV (As := [.int p_93]) (rest := []) ⟨hx, hb, hml, hown, hts⟩ (de_X16_lookType l dC dI cy a sh n H_99.size F z_97 h0 p_93 hfc) (cwV 1 hts gX16_lookAll_X16_lookType rfl rfl rfl (by decide +kernel) ⟨Nat.le_of_ble_eq_true rfl, Nat.le_of_ble_eq_true rfl⟩) ⟨fun a U g mk q => by obtain ⟨q0, q1, qP, qK, qD, qN⟩ := q; exact ⟨q0, q1, qP, va_K.moved (u := U) (U := U.calling g mk a) (Vm.Alike.refl U.vm) qK, qD, qN.same rfl⟩, va_recv hK hP (ci := 16) (q0 := h0) rfl (Wd_ob kg_4 sg_4 (by decide)), fun U hU hW => ⟨rfl, by rw [hU], by rw [hU]; exact hP, va_K.moved hW.alike hK, hD.weaken (fun _ _ _ _ => trivial), hN.warm hW⟩⟩ rfl rfl hl.1 rfl (lv_room (Nat.le_of_ble_eq_true rfl)) dX16_lookAll_39 ⟨Nat.le_of_ble_eq_true rfl, Nat.le_of_ble_eq_true rfl⟩) hS (fun q _ h => hFc q h) hFc (fun rr u t H_103 locs ht hvm hw hB hz1 hk1 hS2 => ?_)
        rw [hw]
        clear hw
        obtain ⟨hP1, -, hD1⟩ := hB
        rw [ht] at hP1
        replace hD := hD1.weaken (fun _ _ _ h => hFc _ h)
        replace hP := hP1
        replace hS := hS2
        clear hP1 hD1 hS2 hFc hfc hz1 hk1 hvm ht
        refine lv_istore_n (lv' := [(2, .int r_102), (3, .int p_94), (1, .int p_1), (0, .ref (a h0))]) hx hb dX16_lookAll_42 rfl hl (by decide) rfl (fun ls hl2 => ?_)
        replace hl := hl2
        clear hl2
        refine lv_iinc (v := (p_94 + 1)) (lv' := [(3, .int (p_94 + 1)), (2, .int r_102), (1, .int p_1), (0, .ref (a h0))]) hx hb dX16_lookAll_43 hl (k := 1) rfl rfl (by decide) rfl (fun ls hl2 => ?_)
        replace hl := hl2
        clear hl2
        refine lv_goto (tgt := 28) hx hb dX16_lookAll_46 (by decide) ?_
        exact ih28 (z_101, r_102, (p_94 + 1)) ls H_103 locs ⟨lv_sub hl [0, 1, 2, 3] rfl, hP, hD, hS⟩ hf

theorem md_X4_step_1 : (.fieldLink RX4 38 "ResourceLedger$Machine" "programs" "[LResourceLedger$Program;" : Cond) ∈ wsX4_step := List.mem_of_getElem? (i := 1) rfl
theorem iwd_X4_step_X4 : ∀ w ∈ wsX40, w ∈ wsX4_step := fun _ h => List.mem_cons_of_mem _ (List.mem_append_left _ (List.mem_append_left _ (List.mem_append_left _ (List.mem_append_left _ (List.mem_append_left _ (List.mem_append_left _ (List.mem_append_left _ (List.mem_append_right _ h))))))))
theorem md_X4_step_2 : (.fieldLink RX4 100 "ResourceLedger$Machine" "top" "I" : Cond) ∈ wsX4_step := List.mem_of_getElem? (i := 2) rfl
theorem md_X4_step_3 : (.fieldLink RX4 46 "ResourceLedger$Machine" "nexts" "[I" : Cond) ∈ wsX4_step := List.mem_of_getElem? (i := 3) rfl
theorem md_X4_step_5 : (.fieldLink RX4 12 "ResourceLedger$Machine" "heap" "LResourceLedger$Heap;" : Cond) ∈ wsX4_step := List.mem_of_getElem? (i := 5) rfl
theorem md_X4_step_6 : (.fieldLink RX4 71 "ResourceLedger$Heap" "slips" "I" : Cond) ∈ wsX4_step := List.mem_of_getElem? (i := 6) rfl
theorem iwd_X4_step_X1 : ∀ w ∈ wsX10, w ∈ wsX4_step := fun _ h => List.mem_cons_of_mem _ (List.mem_append_left _ (List.mem_append_left _ (List.mem_append_left _ (List.mem_append_left _ (List.mem_append_left _ (List.mem_append_left _ (List.mem_append_right _ h)))))))
theorem md_X4_step_7 : (.constantLong RX4 151 (4) : Cond) ∈ wsX4_step := List.mem_of_getElem? (i := 7) rfl
theorem md_X4_step_4 : (.fieldLink RX4 42 "ResourceLedger$Machine" "functions" "[I" : Cond) ∈ wsX4_step := List.mem_of_getElem? (i := 4) rfl
theorem md_X4_step_12 : (.fieldLink RX4 242 "ResourceLedger$Program" "number" "I" : Cond) ∈ wsX4_step := List.mem_of_getElem? (i := 12) rfl
theorem iwd_X4_step_X5 : ∀ w ∈ wsX50, w ∈ wsX4_step := fun _ h => List.mem_cons_of_mem _ (List.mem_append_left _ (List.mem_append_left _ (List.mem_append_left _ (List.mem_append_left _ (List.mem_append_left _ (List.mem_append_right _ h))))))
theorem md_X4_step_8 : (.methodLink RX4 141 Lib.Math.min.name : Cond) ∈ wsX4_step := List.mem_of_getElem? (i := 8) rfl
theorem md_X4_step_9 : (.static Lib.Math.min.name : Cond) ∈ wsX4_step := List.mem_of_getElem? (i := 9) rfl
theorem md_X4_step_10 : (.initialized "java/lang/Math" : Cond) ∈ wsX4_step := List.mem_of_getElem? (i := 10) rfl
theorem md_X4_step_11 : (.code Lib.Math.min.name Lib.Math.min.code 2 (some .int) : Cond) ∈ wsX4_step := List.mem_of_getElem? (i := 11) rfl
set_option maxHeartbeats 4000000 in
set_option maxRecDepth 100000 in
theorem de_X4_step (l : Launch) (dC : Nat → ClassId) (dI : Nat → Nat → Nat) (cy : Nat → ClassId) (a : Nat → Nat) (sh : Nat → Nat × Nat) (n sz : Nat) (F : Nat) (sk : Nat → Nat) (z : St) (h0 : Nat) {z8 : St} {r8 : Unit} (hf : fn_X4_step F sh n z h0 = some (z8, r8)) : Met l yX4_step wsX4_step ({ frames := 53, cells := 0, slots := 0, locals := 1473 }) (va_Pc [.ref (a h0)] (fun U => U.heap.size = sz ∧ va_P (dC, dI) vwCl (Wd cy a sh n z) U.heap ∧ va_K (dC, dI) vwCl (TYS cy) U ∧ va_D (fun _ => True) (Wd cy a sh n z) ∧ NK U ∧ SKs sk (a CBK) (va_A (Wd cy a sh n z) sz) U U.heap)) (va_Qv (fun u : Unit => True) (fun u t => va_P (dC, dI) vwCl (Wd cy a sh n z8) t.heap ∧ va_K (dC, dI) vwCl (TYS cy) t ∧ va_D (va_A (Wd cy a sh n z) sz) (Wd cy a sh n z8)) (va_A (Wd cy a sh n z) sz)) 0 0 (va_A (Wd cy a sh n z) sz) := by
  refine Met.ofW (cc := cX4_step) (maxL := 8) (ret := none) (by decide) rfl ?_
  intro p e s m args below meth c s₁ B hml hv
  obtain ⟨rfl, hsz, hP, hK, hD0, hN, hSK⟩ := hv
  have hx := B.exec
  have hb := B.bytes
  have hr := B.returns
  have hts := atoms_spec (ws := wsX4_step) B.pre
  have hown : s.vm.findClass RX4 = some m.cls := findClass_of_methodNamed B.named
  have hlocks := B.notSynchronized
  subst hsz
  have hD := hD0.self (sz := s.heap.size)
  clear hD0
  generalize hAe : va_A (Wd cy a sh n z) s.heap.size = A at hD hSK ⊢
  have hA : ∀ q : Nat, s.heap.size ≤ q → A q := fun q h => by rw [← hAe]; exact Or.inr h
  clear hAe
  have hS : va_S A s.heap s.heap [] := va_S.rf
  have hl := lv_entry ([.ref (a h0)]) (n := 8) (Nat.le_of_ble_eq_true rfl)
  rw [lg_entry_eq]
  generalize (lg_sl ([.ref (a h0)]) ++ List.replicate (8 - (lg_sl ([.ref (a h0)])).length) Slot.unset).toArray = ls at hl ⊢
  replace hl : lv_has ls 8 [(0, .ref (a h0))] := hl
  unfold fn_X4_step at hf
  refine de_start hS hP (fun H locs hS hP => ?_)
  refine lv_aload_n hx hb dX4_step_0 rfl (lv_at hl 0 rfl) ?_
  obtain ⟨g_1, hf⟩ := grd_some hf
  obtain ⟨kg_1, sg_1⟩ := okO_at g_1
  obtain ⟨k_2, ek_2, hf⟩ := lnk_some hf
  refine va_get (D := (dC, dI)) (ci := 4) (v := .ref (a k_2)) (C := RX4) (T := TX4) (N := 18) hx hb hts iwd_X4_step_X4 hown hK hP h0 (Wd_ob kg_1 sg_1 (by decide)) rfl 6 (by decide) (hts _ md_X4_step_1) (fun _ h9 => h9) (fl_q rfl ek_2) dX4_step_1 ?_
  refine lv_aload_n hx hb dX4_step_4 rfl (lv_at hl 0 rfl) ?_
  refine va_get (D := (dC, dI)) (ci := 4) (v := .int (z.1 h0 12)) (C := RX4) (T := TX4) (N := 18) hx hb hts iwd_X4_step_X4 hown hK hP h0 (Wd_ob kg_1 sg_1 (by decide)) rfl 12 (by decide) (hts _ md_X4_step_2) (fun _ h9 => h9) (fl_at (t := 0) rfl) dX4_step_5 ?_
  obtain ⟨g_3, hf⟩ := grd_some hf
  obtain ⟨kg_3, sg_3, ig_3⟩ := okA_at g_3
  obtain ⟨k_4, ek_4, hf⟩ := lnk_some hf
  refine va_aldq (C := RX5) hx hb hK hP k_2 4 (Wd_aq kg_3 sg_3 (by decide)) rfl ig_3 dX4_step_8 ?_
  refine W.eq (g2 := F0 m 9 ls [.ref (a k_4)]) (by rw [ek_4]; rfl) ?_
  refine lv_astore_n (lv' := [(1, .ref (a k_4)), (0, .ref (a h0))]) hx hb dX4_step_9 rfl hl (by decide) rfl (fun ls hl2 => ?_)
  replace hl := hl2
  clear hl2
  refine lv_aload_n hx hb dX4_step_10 rfl (lv_at hl 1 rfl) ?_
  obtain ⟨k_5, ek_5, hf⟩ := lnk_some hf
  refine va_get (D := (dC, dI)) (ci := 4) (v := .ref (a k_5)) (C := RX4) (T := TX4) (N := 18) hx hb hts iwd_X4_step_X4 hown hK hP h0 (Wd_ob kg_1 sg_1 (by decide)) rfl 8 (by decide) (hts _ md_X4_step_3) (fun _ h9 => h9) (fl_q rfl ek_5) dX4_step_11 ?_
  refine lv_aload_n hx hb dX4_step_14 rfl (lv_at hl 1 rfl) ?_
  refine va_get (D := (dC, dI)) (ci := 4) (v := .int (z.1 h0 12)) (C := RX4) (T := TX4) (N := 18) hx hb hts iwd_X4_step_X4 hown hK hP h0 (Wd_ob kg_1 sg_1 (by decide)) rfl 12 (by decide) (hts _ md_X4_step_2) (fun _ h9 => h9) (fl_at (t := 0) rfl) dX4_step_15 ?_
  obtain ⟨g_6, hf⟩ := grd_some hf
  obtain ⟨kg_6, sg_6, ig_6⟩ := okA_at g_6
  refine va_iald hx hb hK hP k_5 1 (Wd_ai kg_6 sg_6) rfl ig_6 dX4_step_18 ?_
  refine lv_topi (fun v_7 ev_7 => ?_)
  replace hf := lt_at ev_7 hf
  clear ev_7
  refine lv_istore_n (lv' := [(2, .int v_7), (1, .ref (a k_4)), (0, .ref (a h0))]) hx hb dX4_step_19 rfl hl (by decide) rfl (fun ls hl2 => ?_)
  replace hl := hl2
  clear hl2
  refine lv_aload_n hx hb dX4_step_20 rfl (lv_at hl 1 rfl) ?_
  refine de_cut (h := 41) (fun (x : St) => []) (fun x ls H locs => lv_has ls 8 [(0, .ref (a h0))] ∧ va_P (dC, dI) vwCl (Wd cy a sh n x) H ∧ va_D A (Wd cy a sh n x) ∧ va_S A s.heap H locs) (fun x => fn_X4_step_B41 F sh n h0 x) (z8, r8) ?_ (fun B41 => ?_)
  · intro x ls H locs hI hf
    obtain ⟨z_8, ez⟩ : ∃ w, w = x := ⟨_, rfl⟩
    subst ez
    obtain ⟨hl2, hP2, hD2, hS2⟩ := hI
    replace hl : lv_has ls 8 [(0, .ref (a h0))] := hl2
    replace hP := hP2
    replace hD := hD2
    replace hS := hS2
    clear hl2 hP2 hD2 hS2
    replace hf := fn_X4_step_B41_s hf
    refine W.eq (g2 := F0 m 41 ls []) rfl ?_
    refine lv_aload_n hx hb dX4_step_41 rfl (lv_at hl 0 rfl) ?_
    obtain ⟨k_9, ek_9, hf⟩ := lnk_some hf
    refine va_get (D := (dC, dI)) (ci := 4) (v := .ref (a k_9)) (C := RX4) (T := TX4) (N := 18) hx hb hts iwd_X4_step_X4 hown hK hP h0 (Wd_ob kg_1 sg_1 (by decide)) rfl 1 (by decide) (hts _ md_X4_step_5) (fun _ h9 => h9) (fl_q rfl ek_9) dX4_step_42 ?_
    refine lv_dup hx hb dX4_step_45 rfl ?_
    obtain ⟨g_10, hf⟩ := grd_some hf
    obtain ⟨kg_10, sg_10⟩ := okO_at g_10
    refine va_get (D := (dC, dI)) (ci := 1) (v := .int (z_8.1 k_9 6)) (C := RX1) (T := TX1) (N := 7) hx hb hts iwd_X4_step_X1 hown hK hP k_9 (Wd_ob kg_10 sg_10 (by decide)) rfl 6 (by decide) (hts _ md_X4_step_6) (fun _ h9 => h9) (fl_at (t := 0) rfl) dX4_step_46 ?_
    refine lv_iconst (v := 1) hx hb dX4_step_49 (by decide) ?_
    refine lv_iadd hx hb dX4_step_50 ?_
    refine va_put (D := (dC, dI)) (ci := 1) (v := .int ((z_8.1 k_9 6) + 1)) (ty := .int) (C := RX1) (T := TX1) (N := 7) hx hb hts iwd_X4_step_X1 tyX1 tyX1_ok nmX1 hown hK hP hD hS k_9 (Wd_ob kg_10 sg_10 (by decide)) rfl 6 (by decide) (hts _ md_X4_step_6) (fun _ h9 => h9) rfl (by decide +kernel) rfl rfl (by rw [fl_len]; decide) dX4_step_51 (fun H_11 locs hP2 hD2 hS2 => ?_)
    rw [Wd_si sg_10 (by decide) rfl] at hP2 hD2
    obtain ⟨z_12, ez_12⟩ : ∃ w, w = si z_8 k_9 6 ((z_8.1 k_9 6) + 1) := ⟨_, rfl⟩
    rw [← ez_12] at hP2 hD2
    replace hf := lt_at ez_12 hf
    clear ez_12
    replace hP := hP2
    replace hD := hD2
    replace hS := hS2
    clear hP2 hD2 hS2
    refine lv_aload_n hx hb dX4_step_54 rfl (lv_at hl 0 rfl) ?_
    refine lv_iconst (v := 2) hx hb dX4_step_55 (by decide) ?_
    refine lv_ldc2 hx hb hown (hts _ md_X4_step_7) dX4_step_56 ?_
    obtain ⟨z_13, _u, hfc, hf⟩ := cal_some hf
    have hFc := de_free hD hS hA
    refine va_callv (va_runV (As := [.int 2, .long 4]) (rest := []) ⟨hx, hb, hml, hown, hts⟩ (de_X4_end l dC dI cy a sh n H_11.size F z_12 h0 2 4 hfc) (cwV 2 hts gX4_step_X4_end rfl rfl rfl (by decide +kernel) ⟨Nat.le_of_ble_eq_true rfl, Nat.le_of_ble_eq_true rfl⟩) ⟨fun a U g mk q => by obtain ⟨q0, q1, qP, qK, qD, qN⟩ := q; exact ⟨q0, q1, qP, va_K.moved (u := U) (U := U.calling g mk a) (Vm.Alike.refl U.vm) qK, qD, qN.same rfl⟩, va_recv hK hP (ci := 4) (q0 := h0) rfl (Wd_ob kg_1 sg_1 (by decide)), fun U hU hW => ⟨rfl, by rw [hU], by rw [hU]; exact hP, va_K.moved hW.alike hK, hD.weaken (fun _ _ _ _ => trivial), hN.warm hW⟩⟩ rfl rfl hl.1 rfl (lv_room (Nat.le_of_ble_eq_true rfl)) dX4_step_59 ⟨Nat.le_of_ble_eq_true rfl, Nat.le_of_ble_eq_true rfl⟩) hS (fun q _ h => hFc q h) hFc (fun u t H_14 locs ht hvm hw hB hz1 hk1 hS2 => ?_)
    obtain ⟨hP1, -, hD1⟩ := hB
    rw [ht] at hP1
    replace hD := hD1.weaken (fun _ _ _ h => hFc _ h)
    replace hP := hP1
    replace hS := hS2
    clear hP1 hD1 hS2 hFc hfc hz1 hk1 hvm ht
    obtain ⟨h8, h9⟩ := ret_some hf
    rw [h8]
    exact W.vret hx hb hr (fun t ht hW => ⟨⟨(), rfl, trivial, by rw [ht]; exact hP, va_K.moved hW.alike hK, hD⟩, hS.F ht⟩) hS.2.2 dX4_step_62
  refine lv_ifnull hx hb dX4_step_21 ?_
  refine lv_iload_n hx hb dX4_step_24 rfl (lv_at hl 0 rfl) ?_
  refine lv_aload_n hx hb dX4_step_25 rfl (lv_at hl 1 rfl) ?_
  refine lv_aload_n hx hb dX4_step_26 rfl (lv_at hl 2 rfl) ?_
  obtain ⟨k_15, ek_15, hf⟩ := lnk_some hf
  refine va_get (D := (dC, dI)) (ci := 4) (v := .ref (a k_15)) (C := RX4) (T := TX4) (N := 18) hx hb hts iwd_X4_step_X4 hown hK hP h0 (Wd_ob kg_1 sg_1 (by decide)) rfl 7 (by decide) (hts _ md_X4_step_4) (fun _ h9 => h9) (fl_q rfl ek_15) dX4_step_27 ?_
  refine lv_aload_n hx hb dX4_step_30 rfl (lv_at hl 2 rfl) ?_
  refine va_get (D := (dC, dI)) (ci := 4) (v := .int (z.1 h0 12)) (C := RX4) (T := TX4) (N := 18) hx hb hts iwd_X4_step_X4 hown hK hP h0 (Wd_ob kg_1 sg_1 (by decide)) rfl 12 (by decide) (hts _ md_X4_step_2) (fun _ h9 => h9) (fl_at (t := 0) rfl) dX4_step_31 ?_
  obtain ⟨g_16, hf⟩ := grd_some hf
  obtain ⟨kg_16, sg_16, ig_16⟩ := okA_at g_16
  refine va_iald hx hb hK hP k_15 1 (Wd_ai kg_16 sg_16) rfl ig_16 dX4_step_34 ?_
  obtain ⟨g_19, hf⟩ := grd_some hf
  obtain ⟨kg_19, sg_19⟩ := okO_at g_19
  obtain ⟨z_17, r_18, hfc, hf⟩ := cal_some hf
  have hFc := de_free hD hS hA
  refine va_calli (va_runV (As := [.int (z.1 k_15 (z.1 h0 12).toNatClampNeg)]) (rest := [.int v_7]) ⟨hx, hb, hml, hown, hts⟩ (de_X5_instructions l dC dI cy a sh n H.size F z k_4 (z.1 k_15 (z.1 h0 12).toNatClampNeg) hfc) (cwV 1 hts gX4_step_X5_instructions rfl rfl rfl (by decide +kernel) ⟨Nat.le_of_ble_eq_true rfl, Nat.le_of_ble_eq_true rfl⟩) ⟨fun a U g mk q => by obtain ⟨q0, q1, qP, qK, qD, qN⟩ := q; exact ⟨q0, q1, qP, va_K.moved (u := U) (U := U.calling g mk a) (Vm.Alike.refl U.vm) qK, qD, qN.same rfl⟩, va_recv hK hP (ci := 5) (q0 := k_4) rfl (Wd_ob kg_19 sg_19 (by decide)), fun U hU hW => ⟨rfl, by rw [hU], by rw [hU]; exact hP, va_K.moved hW.alike hK, hD.weaken (fun _ _ _ _ => trivial), hN.warm hW⟩⟩ rfl rfl hl.1 rfl (lv_room (Nat.le_of_ble_eq_true rfl)) dX4_step_35 ⟨Nat.le_of_ble_eq_true rfl, Nat.le_of_ble_eq_true rfl⟩) hS (fun q _ h => hFc q h) hFc (fun rr u t H_20 locs ht hvm hw hB hz1 hk1 hS2 => ?_)
  rw [hw]
  clear hw
  obtain ⟨hP1, -, hD1⟩ := hB
  rw [ht] at hP1
  replace hD := hD1.weaken (fun _ _ _ h => hFc _ h)
  replace hP := hP1
  replace hS := hS2
  clear hP1 hD1 hS2 hFc hfc hz1 hk1 hvm ht
  refine lv_icmp_lt (tgt := 63) hx hb dX4_step_38 (by decide) (fun c_21 => ?_) (fun c_21 => ?_)
  · skip
    rw [if_pos c_21] at hf
    refine lv_aload_n hx hb dX4_step_63 rfl (lv_at hl 1 rfl) ?_
    refine lv_aload_n hx hb dX4_step_64 rfl (lv_at hl 2 rfl) ?_
    obtain ⟨k_22, ek_22, hf⟩ := lnk_some hf
    refine va_get (D := (dC, dI)) (ci := 4) (v := .ref (a k_22)) (C := RX4) (T := TX4) (N := 18) hx hb hts iwd_X4_step_X4 hown hK hP h0 (Wd_ob kg_1 sg_1 (by decide)) rfl 7 (by decide) (hts _ md_X4_step_4) (fun _ h9 => h9) (fl_q rfl ek_22) dX4_step_65 ?_
    refine lv_aload_n hx hb dX4_step_68 rfl (lv_at hl 2 rfl) ?_
    refine va_get (D := (dC, dI)) (ci := 4) (v := .int (z_17.1 h0 12)) (C := RX4) (T := TX4) (N := 18) hx hb hts iwd_X4_step_X4 hown hK hP h0 (Wd_ob kg_1 sg_1 (by decide)) rfl 12 (by decide) (hts _ md_X4_step_2) (fun _ h9 => h9) (fl_at (t := 0) rfl) dX4_step_69 ?_
    obtain ⟨g_23, hf⟩ := grd_some hf
    obtain ⟨kg_23, sg_23, ig_23⟩ := okA_at g_23
    refine va_iald hx hb hK hP k_22 1 (Wd_ai kg_23 sg_23) rfl ig_23 dX4_step_72 ?_
    refine lv_iload_n hx hb dX4_step_73 rfl (lv_at hl 0 rfl) ?_
    obtain ⟨z_24, r_25, hfc, hf⟩ := cal_some hf
    have hFc := de_free hD hS hA
    refine va_calli (va_runV (As := [.int (z_17.1 k_22 (z_17.1 h0 12).toNatClampNeg), .int v_7]) (rest := []) ⟨hx, hb, hml, hown, hts⟩ (de_X5_instructionPlace l dC dI cy a sh n H_20.size F z_17 k_4 (z_17.1 k_22 (z_17.1 h0 12).toNatClampNeg) v_7 hfc) (cwV 2 hts gX4_step_X5_instructionPlace rfl rfl rfl (by decide +kernel) ⟨Nat.le_of_ble_eq_true rfl, Nat.le_of_ble_eq_true rfl⟩) ⟨fun a U g mk q => by obtain ⟨q0, q1, qP, qK, qD, qN⟩ := q; exact ⟨q0, q1, qP, va_K.moved (u := U) (U := U.calling g mk a) (Vm.Alike.refl U.vm) qK, qD, qN.same rfl⟩, va_recv hK hP (ci := 5) (q0 := k_4) rfl (Wd_ob kg_19 sg_19 (by decide)), fun U hU hW => ⟨rfl, by rw [hU], by rw [hU]; exact hP, va_K.moved hW.alike hK, hD.weaken (fun _ _ _ _ => trivial), hN.warm hW⟩⟩ rfl rfl hl.1 rfl (lv_room (Nat.le_of_ble_eq_true rfl)) dX4_step_74 ⟨Nat.le_of_ble_eq_true rfl, Nat.le_of_ble_eq_true rfl⟩) hS (fun q _ h => hFc q h) hFc (fun rr u t H_26 locs ht hvm hw hB hz1 hk1 hS2 => ?_)
    rw [hw]
    clear hw
    obtain ⟨hP1, -, hD1⟩ := hB
    rw [ht] at hP1
    replace hD := hD1.weaken (fun _ _ _ h => hFc _ h)
    replace hP := hP1
    replace hS := hS2
    clear hP1 hD1 hS2 hFc hfc hz1 hk1 hvm ht
    refine lv_istore_n (lv' := [(3, .int r_25), (2, .int v_7), (1, .ref (a k_4)), (0, .ref (a h0))]) hx hb dX4_step_77 rfl hl (by decide) rfl (fun ls hl2 => ?_)
    replace hl := hl2
    clear hl2
    refine lv_aload_n hx hb dX4_step_78 rfl (lv_at hl 2 rfl) ?_
    refine lv_iload_n hx hb dX4_step_79 rfl (lv_at hl 0 rfl) ?_
    obtain ⟨z_27, r_28, hfc, hf⟩ := cal_some hf
    have hFc := de_free hD hS hA
    refine va_calli (va_runV (As := [.int r_25]) (rest := []) ⟨hx, hb, hml, hown, hts⟩ (de_X5_at l dC dI cy a sh n H_26.size F sk z_24 k_4 r_25 hfc) (cwV 1 hts gX4_step_X5_at rfl rfl rfl (by decide +kernel) ⟨Nat.le_of_ble_eq_true rfl, Nat.le_of_ble_eq_true rfl⟩) ⟨fun a U g mk q => by obtain ⟨q0, q1, qP, qK, qD, qN, qS⟩ := q; exact ⟨q0, q1, qP, va_K.moved (u := U) (U := U.calling g mk a) (Vm.Alike.refl U.vm) qK, qD, qN.same rfl, SKs.moved (u := U) (U := U.calling g mk a) (Vm.Alike.refl U.vm) qS⟩, va_recv hK hP (ci := 5) (q0 := k_4) rfl (Wd_ob kg_19 sg_19 (by decide)), fun U hU hW => ⟨rfl, by rw [hU], by rw [hU]; exact hP, va_K.moved hW.alike hK, hD.weaken (fun _ _ _ _ => trivial), hN.warm hW, by rw [hU]; exact ((hSK.kept hS.2.1).narrow hFc).moved hW.alike⟩⟩ rfl rfl hl.1 rfl (lv_room (Nat.le_of_ble_eq_true rfl)) dX4_step_80 ⟨Nat.le_of_ble_eq_true rfl, Nat.le_of_ble_eq_true rfl⟩) hS (fun q _ h => hFc q h) hFc (fun rr u t H_29 locs ht hvm hw hB hz1 hk1 hS2 => ?_)
    rw [hw]
    clear hw
    obtain ⟨hP1, -, hD1⟩ := hB
    rw [ht] at hP1
    replace hD := hD1.weaken (fun _ _ _ h => hFc _ h)
    replace hP := hP1
    replace hS := hS2
    clear hP1 hD1 hS2 hFc hfc hz1 hk1 hvm ht
    refine lv_istore (lv' := [(4, .int r_28), (3, .int r_25), (2, .int v_7), (1, .ref (a k_4)), (0, .ref (a h0))]) hx hb dX4_step_83 hl (by decide) rfl (fun ls hl2 => ?_)
    replace hl := hl2
    clear hl2
    refine lv_aload_n hx hb dX4_step_85 rfl (lv_at hl 3 rfl) ?_
    refine lv_iload_n hx hb dX4_step_86 rfl (lv_at hl 1 rfl) ?_
    refine lv_iconst (v := 1) hx hb dX4_step_87 (by decide) ?_
    refine lv_iadd hx hb dX4_step_88 ?_
    obtain ⟨z_30, r_31, hfc, hf⟩ := cal_some hf
    have hFc := de_free hD hS hA
    refine va_calli (va_runV (As := [.int (r_25 + 1)]) (rest := []) ⟨hx, hb, hml, hown, hts⟩ (de_X5_at l dC dI cy a sh n H_29.size F sk z_27 k_4 (r_25 + 1) hfc) (cwV 1 hts gX4_step_X5_at rfl rfl rfl (by decide +kernel) ⟨Nat.le_of_ble_eq_true rfl, Nat.le_of_ble_eq_true rfl⟩) ⟨fun a U g mk q => by obtain ⟨q0, q1, qP, qK, qD, qN, qS⟩ := q; exact ⟨q0, q1, qP, va_K.moved (u := U) (U := U.calling g mk a) (Vm.Alike.refl U.vm) qK, qD, qN.same rfl, SKs.moved (u := U) (U := U.calling g mk a) (Vm.Alike.refl U.vm) qS⟩, va_recv hK hP (ci := 5) (q0 := k_4) rfl (Wd_ob kg_19 sg_19 (by decide)), fun U hU hW => ⟨rfl, by rw [hU], by rw [hU]; exact hP, va_K.moved hW.alike hK, hD.weaken (fun _ _ _ _ => trivial), hN.warm hW, by rw [hU]; exact ((hSK.kept hS.2.1).narrow hFc).moved hW.alike⟩⟩ rfl rfl hl.1 rfl (lv_room (Nat.le_of_ble_eq_true rfl)) dX4_step_89 ⟨Nat.le_of_ble_eq_true rfl, Nat.le_of_ble_eq_true rfl⟩) hS (fun q _ h => hFc q h) hFc (fun rr u t H_32 locs ht hvm hw hB hz1 hk1 hS2 => ?_)
    rw [hw]
    clear hw
    obtain ⟨hP1, -, hD1⟩ := hB
    rw [ht] at hP1
    replace hD := hD1.weaken (fun _ _ _ h => hFc _ h)
    replace hP := hP1
    replace hS := hS2
    clear hP1 hD1 hS2 hFc hfc hz1 hk1 hvm ht
    refine lv_istore (lv' := [(5, .int r_31), (4, .int r_28), (3, .int r_25), (2, .int v_7), (1, .ref (a k_4)), (0, .ref (a h0))]) hx hb dX4_step_92 hl (by decide) rfl (fun ls hl2 => ?_)
    replace hl := hl2
    clear hl2
    refine lv_aload_n hx hb dX4_step_94 rfl (lv_at hl 5 rfl) ?_
    obtain ⟨k_33, ek_33, hf⟩ := lnk_some hf
    refine va_get (D := (dC, dI)) (ci := 4) (v := .ref (a k_33)) (C := RX4) (T := TX4) (N := 18) hx hb hts iwd_X4_step_X4 hown hK hP h0 (Wd_ob kg_1 sg_1 (by decide)) rfl 8 (by decide) (hts _ md_X4_step_3) (fun _ h9 => h9) (fl_q rfl ek_33) dX4_step_95 ?_
    refine lv_aload_n hx hb dX4_step_98 rfl (lv_at hl 5 rfl) ?_
    refine va_get (D := (dC, dI)) (ci := 4) (v := .int (z_30.1 h0 12)) (C := RX4) (T := TX4) (N := 18) hx hb hts iwd_X4_step_X4 hown hK hP h0 (Wd_ob kg_1 sg_1 (by decide)) rfl 12 (by decide) (hts _ md_X4_step_2) (fun _ h9 => h9) (fl_at (t := 0) rfl) dX4_step_99 ?_
    refine lv_iload_n hx hb dX4_step_102 rfl (lv_at hl 3 rfl) ?_
    refine lv_iconst (v := 1) hx hb dX4_step_103 (by decide) ?_
    refine lv_iadd hx hb dX4_step_104 ?_
    obtain ⟨g_34, hf⟩ := grd_some hf
    obtain ⟨kg_34, sg_34, ig_34⟩ := okA_at g_34
    refine va_iast hx hb hK hP hD hS k_33 1 (Wd_ai kg_34 sg_34) rfl ig_34 dX4_step_105 (fun H_35 locs hP2 hD2 hS2 => ?_)
    rw [Wd_ti sg_34] at hP2 hD2
    obtain ⟨z_36, ez_36⟩ : ∃ w, w = si z_30 k_33 (z_30.1 h0 12).toNatClampNeg (v_7 + 1) := ⟨_, rfl⟩
    rw [← ez_36] at hP2 hD2
    replace hf := lt_at ez_36 hf
    clear ez_36
    replace hP := hP2
    replace hD := hD2
    replace hS := hS2
    clear hP2 hD2 hS2
    refine lv_aload_n hx hb dX4_step_106 rfl (lv_at hl 5 rfl) ?_
    refine lv_iconst (v := 1) hx hb dX4_step_107 (by decide) ?_
    obtain ⟨z_37, r_38, hfc, hf⟩ := cal_some hf
    have hFc := de_free hD hS hA
    refine va_calli (va_runV (As := [.int 1]) (rest := []) ⟨hx, hb, hml, hown, hts⟩ (de_X4_pay l dC dI cy a sh n H_35.size F z_36 h0 1 hfc) (cwV 1 hts gX4_step_X4_pay rfl rfl rfl (by decide +kernel) ⟨Nat.le_of_ble_eq_true rfl, Nat.le_of_ble_eq_true rfl⟩) ⟨fun a U g mk q => by obtain ⟨q0, q1, qP, qK, qD, qN⟩ := q; exact ⟨q0, q1, qP, va_K.moved (u := U) (U := U.calling g mk a) (Vm.Alike.refl U.vm) qK, qD, qN.same rfl⟩, va_recv hK hP (ci := 4) (q0 := h0) rfl (Wd_ob kg_1 sg_1 (by decide)), fun U hU hW => ⟨rfl, by rw [hU], by rw [hU]; exact hP, va_K.moved hW.alike hK, hD.weaken (fun _ _ _ _ => trivial), hN.warm hW⟩⟩ rfl rfl hl.1 rfl (lv_room (Nat.le_of_ble_eq_true rfl)) dX4_step_108 ⟨Nat.le_of_ble_eq_true rfl, Nat.le_of_ble_eq_true rfl⟩) hS (fun q _ h => hFc q h) hFc (fun rr u t H_39 locs ht hvm hw hB hz1 hk1 hS2 => ?_)
    rw [hw]
    clear hw
    obtain ⟨hP1, -, hD1⟩ := hB
    rw [ht] at hP1
    replace hD := hD1.weaken (fun _ _ _ h => hFc _ h)
    replace hP := hP1
    replace hS := hS2
    clear hP1 hD1 hS2 hFc hfc hz1 hk1 hvm ht
    refine lv_if_ne (tgt := 115) hx hb dX4_step_111 (by decide) (fun c_40 => ?_) (fun c_40 => ?_)
    · skip
      rw [if_neg c_40] at hf
      refine lv_iload hx hb dX4_step_115 (lv_at hl 1 rfl) ?_
      refine lv_iconst (v := 4) hx hb dX4_step_117 (by decide) ?_
      refine de_cut (h := 128) (fun (x : St) => []) (fun x ls H locs => lv_has ls 8 [(4, .int r_28), (3, .int r_25), (1, .ref (a k_4)), (0, .ref (a h0))] ∧ va_P (dC, dI) vwCl (Wd cy a sh n x) H ∧ va_D A (Wd cy a sh n x) ∧ va_S A s.heap H locs) (fun x => fn_X4_step_B128 F sh n k_4 r_25 h0 r_28 x) (z8, r8) ?_ (fun B128 => ?_)
      · intro x ls H locs hI hf
        obtain ⟨z_41, ez⟩ : ∃ w, w = x := ⟨_, rfl⟩
        subst ez
        obtain ⟨hl2, hP2, hD2, hS2⟩ := hI
        replace hl : lv_has ls 8 [(4, .int r_28), (3, .int r_25), (1, .ref (a k_4)), (0, .ref (a h0))] := hl2
        replace hP := hP2
        replace hD := hD2
        replace hS := hS2
        clear hl2 hP2 hD2 hS2
        replace hf := fn_X4_step_B128_s hf
        refine W.eq (g2 := F0 m 128 ls []) rfl ?_
        refine lv_aload_n hx hb dX4_step_128 rfl (lv_at hl 3 rfl) ?_
        refine lv_iload hx hb dX4_step_129 (lv_at hl 0 rfl) ?_
        refine lv_aload_n hx hb dX4_step_131 rfl (lv_at hl 2 rfl) ?_
        refine lv_iload_n hx hb dX4_step_132 rfl (lv_at hl 1 rfl) ?_
        refine lv_iconst (v := 1) hx hb dX4_step_133 (by decide) ?_
        refine lv_iadd hx hb dX4_step_134 ?_
        refine lv_iconst (v := 2) hx hb dX4_step_135 (by decide) ?_
        obtain ⟨z_42, r_43, hfc, hf⟩ := cal_some hf
        have hFc := de_free hD hS hA
        refine va_calll (va_runV (As := [.int (r_25 + 1), .int 2]) (rest := [.int r_28, .ref (a h0)]) ⟨hx, hb, hml, hown, hts⟩ (de_X5_numberAt l dC dI cy a sh n H.size F sk z_41 k_4 (r_25 + 1) 2 hfc) (cwV 2 hts gX4_step_X5_numberAt rfl rfl rfl (by decide +kernel) ⟨Nat.le_of_ble_eq_true rfl, Nat.le_of_ble_eq_true rfl⟩) ⟨fun a U g mk q => by obtain ⟨q0, q1, qP, qK, qD, qN, qS⟩ := q; exact ⟨q0, q1, qP, va_K.moved (u := U) (U := U.calling g mk a) (Vm.Alike.refl U.vm) qK, qD, qN.same rfl, SKs.moved (u := U) (U := U.calling g mk a) (Vm.Alike.refl U.vm) qS⟩, va_recv hK hP (ci := 5) (q0 := k_4) rfl (Wd_ob kg_19 sg_19 (by decide)), fun U hU hW => ⟨rfl, by rw [hU], by rw [hU]; exact hP, va_K.moved hW.alike hK, hD.weaken (fun _ _ _ _ => trivial), hN.warm hW, by rw [hU]; exact ((hSK.kept hS.2.1).narrow hFc).moved hW.alike⟩⟩ rfl rfl hl.1 rfl (lv_room (Nat.le_of_ble_eq_true rfl)) dX4_step_136 ⟨Nat.le_of_ble_eq_true rfl, Nat.le_of_ble_eq_true rfl⟩) hS (fun q _ h => hFc q h) hFc (fun rr u t H_44 locs ht hvm hw hB hz1 hk1 hS2 => ?_)
        rw [hw]
        clear hw
        obtain ⟨hP1, -, hD1⟩ := hB
        rw [ht] at hP1
        replace hD := hD1.weaken (fun _ _ _ h => hFc _ h)
        replace hP := hP1
        replace hS := hS2
        clear hP1 hD1 hS2 hFc hfc hz1 hk1 hvm ht
        refine lv_l2i (v := (r_43 : Int64).toInt32) hx hb dX4_step_139 rfl ?_
        obtain ⟨z_45, _u, hfc, hf⟩ := cal_some hf
        have hFc := de_free hD hS hA
        refine va_callv (va_runV (As := [.int r_28, .int ((r_43 : Int64).toInt32)]) (rest := []) ⟨hx, hb, hml, hown, hts⟩ (de_X4_steer l dC dI cy a sh n H_44.size F z_42 h0 r_28 ((r_43 : Int64).toInt32) hfc) (cwV 2 hts gX4_step_X4_steer rfl rfl rfl (by decide +kernel) ⟨Nat.le_of_ble_eq_true rfl, Nat.le_of_ble_eq_true rfl⟩) ⟨fun a U g mk q => by obtain ⟨q0, q1, qP, qK, qD, qN⟩ := q; exact ⟨q0, q1, qP, va_K.moved (u := U) (U := U.calling g mk a) (Vm.Alike.refl U.vm) qK, qD, qN.same rfl⟩, va_recv hK hP (ci := 4) (q0 := h0) rfl (Wd_ob kg_1 sg_1 (by decide)), fun U hU hW => ⟨rfl, by rw [hU], by rw [hU]; exact hP, va_K.moved hW.alike hK, hD.weaken (fun _ _ _ _ => trivial), hN.warm hW⟩⟩ rfl rfl hl.1 rfl (lv_room (Nat.le_of_ble_eq_true rfl)) dX4_step_140 ⟨Nat.le_of_ble_eq_true rfl, Nat.le_of_ble_eq_true rfl⟩) hS (fun q _ h => hFc q h) hFc (fun u t H_46 locs ht hvm hw hB hz1 hk1 hS2 => ?_)
        obtain ⟨hP1, -, hD1⟩ := hB
        rw [ht] at hP1
        replace hD := hD1.weaken (fun _ _ _ h => hFc _ h)
        replace hP := hP1
        replace hS := hS2
        clear hP1 hD1 hS2 hFc hfc hz1 hk1 hvm ht
        refine lv_goto (tgt := 393) hx hb dX4_step_143 (by decide) ?_
        obtain ⟨h8, h9⟩ := ret_some hf
        rw [h8]
        exact W.vret hx hb hr (fun t ht hW => ⟨⟨(), rfl, trivial, by rw [ht]; exact hP, va_K.moved hW.alike hK, hD⟩, hS.F ht⟩) hS.2.2 dX4_step_393
      refine lv_icmp_le (tgt := 128) hx hb dX4_step_118 (by decide) (fun c_47 => ?_) (fun c_47 => ?_)
      · skip
        rw [if_pos c_47] at hf
        exact B128 (z_37) ls H_39 locs ⟨lv_sub hl [1, 2, 4, 5] rfl, hP, hD, hS⟩ hf
      · skip
        rw [if_neg c_47] at hf
        refine lv_iload hx hb dX4_step_121 (lv_at hl 1 rfl) ?_
        refine lv_bipush (v := 45) hx hb dX4_step_123 (by decide) ?_
        refine lv_icmp_ne (tgt := 146) hx hb dX4_step_125 (by decide) (fun c_48 => ?_) (fun c_48 => ?_)
        · skip
          rw [if_neg c_48] at hf
          refine lv_iload hx hb dX4_step_146 (lv_at hl 1 rfl) ?_
          refine lv_bipush (v := 10) hx hb dX4_step_148 (by decide) ?_
          refine de_cut (h := 167) (fun (x : St) => []) (fun x ls H locs => lv_has ls 8 [(4, .int r_28), (3, .int r_25), (1, .ref (a k_4)), (0, .ref (a h0))] ∧ va_P (dC, dI) vwCl (Wd cy a sh n x) H ∧ va_D A (Wd cy a sh n x) ∧ va_S A s.heap H locs) (fun x => fn_X4_step_B167 F sh n h0 r_28 k_4 r_25 x) (z8, r8) ?_ (fun B167 => ?_)
          · intro x ls H locs hI hf
            obtain ⟨z_49, ez⟩ : ∃ w, w = x := ⟨_, rfl⟩
            subst ez
            obtain ⟨hl2, hP2, hD2, hS2⟩ := hI
            replace hl : lv_has ls 8 [(4, .int r_28), (3, .int r_25), (1, .ref (a k_4)), (0, .ref (a h0))] := hl2
            replace hP := hP2
            replace hD := hD2
            replace hS := hS2
            clear hl2 hP2 hD2 hS2
            replace hf := fn_X4_step_B167_s hf
            refine W.eq (g2 := F0 m 167 ls []) rfl ?_
            refine lv_aload_n hx hb dX4_step_167 rfl (lv_at hl 3 rfl) ?_
            refine lv_iload hx hb dX4_step_168 (lv_at hl 0 rfl) ?_
            refine lv_aload_n hx hb dX4_step_170 rfl (lv_at hl 2 rfl) ?_
            refine lv_iload_n hx hb dX4_step_171 rfl (lv_at hl 1 rfl) ?_
            refine lv_iconst (v := 1) hx hb dX4_step_172 (by decide) ?_
            refine lv_iadd hx hb dX4_step_173 ?_
            obtain ⟨z_50, _u, hfc, hf⟩ := cal_some hf
            have hFc := de_free hD hS hA
            refine va_callv (va_runV (As := [.int r_28, .ref (a k_4), .int (r_25 + 1)]) (rest := []) ⟨hx, hb, hml, hown, hts⟩ (de_X4_set l dC dI cy a sh n H.size F sk z_49 h0 r_28 k_4 (r_25 + 1) hfc) (cwV 3 hts gX4_step_X4_set rfl rfl rfl (by decide +kernel) ⟨Nat.le_of_ble_eq_true rfl, Nat.le_of_ble_eq_true rfl⟩) ⟨fun a U g mk q => by obtain ⟨q0, q1, qP, qK, qD, qN, qS⟩ := q; exact ⟨q0, q1, qP, va_K.moved (u := U) (U := U.calling g mk a) (Vm.Alike.refl U.vm) qK, qD, qN.same rfl, SKs.moved (u := U) (U := U.calling g mk a) (Vm.Alike.refl U.vm) qS⟩, va_recv hK hP (ci := 4) (q0 := h0) rfl (Wd_ob kg_1 sg_1 (by decide)), fun U hU hW => ⟨rfl, by rw [hU], by rw [hU]; exact hP, va_K.moved hW.alike hK, hD.weaken (fun _ _ _ _ => trivial), hN.warm hW, by rw [hU]; exact ((hSK.kept hS.2.1).narrow hFc).moved hW.alike⟩⟩ rfl rfl hl.1 rfl (lv_room (Nat.le_of_ble_eq_true rfl)) dX4_step_174 ⟨Nat.le_of_ble_eq_true rfl, Nat.le_of_ble_eq_true rfl⟩) hS (fun q _ h => hFc q h) hFc (fun u t H_51 locs ht hvm hw hB hz1 hk1 hS2 => ?_)
            obtain ⟨hP1, -, hD1⟩ := hB
            rw [ht] at hP1
            replace hD := hD1.weaken (fun _ _ _ h => hFc _ h)
            replace hP := hP1
            replace hS := hS2
            clear hP1 hD1 hS2 hFc hfc hz1 hk1 hvm ht
            refine lv_goto (tgt := 393) hx hb dX4_step_177 (by decide) ?_
            obtain ⟨h8, h9⟩ := ret_some hf
            rw [h8]
            exact W.vret hx hb hr (fun t ht hW => ⟨⟨(), rfl, trivial, by rw [ht]; exact hP, va_K.moved hW.alike hK, hD⟩, hS.F ht⟩) hS.2.2 dX4_step_393
          refine lv_icmp_le (tgt := 167) hx hb dX4_step_150 (by decide) (fun c_52 => ?_) (fun c_52 => ?_)
          · skip
            rw [if_pos c_52] at hf
            exact B167 (z_37) ls H_39 locs ⟨lv_sub hl [1, 2, 4, 5] rfl, hP, hD, hS⟩ hf
          · skip
            rw [if_neg c_52] at hf
            refine lv_iload hx hb dX4_step_153 (lv_at hl 1 rfl) ?_
            refine lv_bipush (v := 35) hx hb dX4_step_155 (by decide) ?_
            refine lv_icmp_eq (tgt := 167) hx hb dX4_step_157 (by decide) (fun c_53 => ?_) (fun c_53 => ?_)
            · skip
              rw [if_pos c_53] at hf
              exact B167 (z_37) ls H_39 locs ⟨lv_sub hl [1, 2, 4, 5] rfl, hP, hD, hS⟩ hf
            · skip
              rw [if_neg c_53] at hf
              refine lv_iload hx hb dX4_step_160 (lv_at hl 1 rfl) ?_
              refine lv_bipush (v := 46) hx hb dX4_step_162 (by decide) ?_
              refine lv_icmp_ne (tgt := 180) hx hb dX4_step_164 (by decide) (fun c_54 => ?_) (fun c_54 => ?_)
              · skip
                rw [if_neg c_54] at hf
                refine lv_iload hx hb dX4_step_180 (lv_at hl 1 rfl) ?_
                refine lv_bipush (v := 15) hx hb dX4_step_182 (by decide) ?_
                refine lv_icmp_gt (tgt := 211) hx hb dX4_step_184 (by decide) (fun c_55 => ?_) (fun c_55 => ?_)
                · skip
                  rw [if_pos c_55] at hf
                  refine lv_iload hx hb dX4_step_211 (lv_at hl 1 rfl) ?_
                  refine lv_bipush (v := 20) hx hb dX4_step_213 (by decide) ?_
                  refine lv_icmp_gt (tgt := 234) hx hb dX4_step_215 (by decide) (fun c_56 => ?_) (fun c_56 => ?_)
                  · skip
                    rw [if_pos c_56] at hf
                    refine lv_iload hx hb dX4_step_234 (lv_at hl 1 rfl) ?_
                    refine lv_bipush (v := 21) hx hb dX4_step_236 (by decide) ?_
                    refine lv_icmp_ne (tgt := 256) hx hb dX4_step_238 (by decide) (fun c_57 => ?_) (fun c_57 => ?_)
                    · skip
                      rw [if_neg c_57] at hf
                      refine lv_iload hx hb dX4_step_256 (lv_at hl 1 rfl) ?_
                      refine lv_bipush (v := 22) hx hb dX4_step_258 (by decide) ?_
                      refine lv_icmp_ne (tgt := 276) hx hb dX4_step_260 (by decide) (fun c_58 => ?_) (fun c_58 => ?_)
                      · skip
                        rw [if_neg c_58] at hf
                        refine lv_iload hx hb dX4_step_276 (lv_at hl 1 rfl) ?_
                        refine lv_bipush (v := 23) hx hb dX4_step_278 (by decide) ?_
                        refine lv_icmp_ne (tgt := 328) hx hb dX4_step_280 (by decide) (fun c_59 => ?_) (fun c_59 => ?_)
                        · skip
                          rw [if_neg c_59] at hf
                          refine lv_iload hx hb dX4_step_328 (lv_at hl 1 rfl) ?_
                          refine lv_bipush (v := 44) hx hb dX4_step_330 (by decide) ?_
                          refine lv_icmp_gt (tgt := 344) hx hb dX4_step_332 (by decide) (fun c_60 => ?_) (fun c_60 => ?_)
                          · skip
                            rw [if_pos c_60] at hf
                            refine lv_iload hx hb dX4_step_344 (lv_at hl 1 rfl) ?_
                            refine lv_bipush (v := 51) hx hb dX4_step_346 (by decide) ?_
                            refine lv_icmp_gt (tgt := 366) hx hb dX4_step_348 (by decide) (fun c_61 => ?_) (fun c_61 => ?_)
                            · skip
                              rw [if_pos c_61] at hf
                              refine lv_iload hx hb dX4_step_366 (lv_at hl 1 rfl) ?_
                              refine lv_bipush (v := 59) hx hb dX4_step_368 (by decide) ?_
                              refine lv_icmp_ne (tgt := 380) hx hb dX4_step_370 (by decide) (fun c_62 => ?_) (fun c_62 => ?_)
                              · skip
                                rw [if_neg c_62] at hf
                                refine lv_aload_n hx hb dX4_step_380 rfl (lv_at hl 5 rfl) ?_
                                refine lv_iload hx hb dX4_step_381 (lv_at hl 1 rfl) ?_
                                refine lv_aload_n hx hb dX4_step_383 rfl (lv_at hl 4 rfl) ?_
                                refine lv_iload_n hx hb dX4_step_384 rfl (lv_at hl 2 rfl) ?_
                                refine lv_iconst (v := 2) hx hb dX4_step_385 (by decide) ?_
                                refine lv_iadd hx hb dX4_step_386 ?_
                                obtain ⟨z_63, r_64, hfc, hf⟩ := cal_some hf
                                have hFc := de_free hD hS hA
                                refine va_calli (va_runV (As := [.int (r_25 + 2)]) (rest := [.int r_28, .ref (a h0)]) ⟨hx, hb, hml, hown, hts⟩ (de_X5_at l dC dI cy a sh n H_39.size F sk z_37 k_4 (r_25 + 2) hfc) (cwV 1 hts gX4_step_X5_at rfl rfl rfl (by decide +kernel) ⟨Nat.le_of_ble_eq_true rfl, Nat.le_of_ble_eq_true rfl⟩) ⟨fun a U g mk q => by obtain ⟨q0, q1, qP, qK, qD, qN, qS⟩ := q; exact ⟨q0, q1, qP, va_K.moved (u := U) (U := U.calling g mk a) (Vm.Alike.refl U.vm) qK, qD, qN.same rfl, SKs.moved (u := U) (U := U.calling g mk a) (Vm.Alike.refl U.vm) qS⟩, va_recv hK hP (ci := 5) (q0 := k_4) rfl (Wd_ob kg_19 sg_19 (by decide)), fun U hU hW => ⟨rfl, by rw [hU], by rw [hU]; exact hP, va_K.moved hW.alike hK, hD.weaken (fun _ _ _ _ => trivial), hN.warm hW, by rw [hU]; exact ((hSK.kept hS.2.1).narrow hFc).moved hW.alike⟩⟩ rfl rfl hl.1 rfl (lv_room (Nat.le_of_ble_eq_true rfl)) dX4_step_387 ⟨Nat.le_of_ble_eq_true rfl, Nat.le_of_ble_eq_true rfl⟩) hS (fun q _ h => hFc q h) hFc (fun rr u t H_65 locs ht hvm hw hB hz1 hk1 hS2 => ?_)
                                rw [hw]
                                clear hw
                                obtain ⟨hP1, -, hD1⟩ := hB
                                rw [ht] at hP1
                                replace hD := hD1.weaken (fun _ _ _ h => hFc _ h)
                                replace hP := hP1
                                replace hS := hS2
                                clear hP1 hD1 hS2 hFc hfc hz1 hk1 hvm ht
                                obtain ⟨z_66, _u, hfc, hf⟩ := cal_some hf
                                have hFc := de_free hD hS hA
                                refine va_callv (va_runV (As := [.int r_28, .int r_64]) (rest := []) ⟨hx, hb, hml, hown, hts⟩ (de_X4_lineUp l dC dI cy a sh n H_65.size F z_63 h0 r_28 r_64 hfc) (cwV 2 hts gX4_step_X4_lineUp rfl rfl rfl (by decide +kernel) ⟨Nat.le_of_ble_eq_true rfl, Nat.le_of_ble_eq_true rfl⟩) ⟨fun a U g mk q => by obtain ⟨q0, q1, qP, qK, qD, qN⟩ := q; exact ⟨q0, q1, qP, va_K.moved (u := U) (U := U.calling g mk a) (Vm.Alike.refl U.vm) qK, qD, qN.same rfl⟩, va_recv hK hP (ci := 4) (q0 := h0) rfl (Wd_ob kg_1 sg_1 (by decide)), fun U hU hW => ⟨rfl, by rw [hU], by rw [hU]; exact hP, va_K.moved hW.alike hK, hD.weaken (fun _ _ _ _ => trivial), hN.warm hW⟩⟩ rfl rfl hl.1 rfl (lv_room (Nat.le_of_ble_eq_true rfl)) dX4_step_390 ⟨Nat.le_of_ble_eq_true rfl, Nat.le_of_ble_eq_true rfl⟩) hS (fun q _ h => hFc q h) hFc (fun u t H_67 locs ht hvm hw hB hz1 hk1 hS2 => ?_)
                                obtain ⟨hP1, -, hD1⟩ := hB
                                rw [ht] at hP1
                                replace hD := hD1.weaken (fun _ _ _ h => hFc _ h)
                                replace hP := hP1
                                replace hS := hS2
                                clear hP1 hD1 hS2 hFc hfc hz1 hk1 hvm ht
                                obtain ⟨h8, h9⟩ := ret_some hf
                                rw [h8]
                                exact W.vret hx hb hr (fun t ht hW => ⟨⟨(), rfl, trivial, by rw [ht]; exact hP, va_K.moved hW.alike hK, hD⟩, hS.F ht⟩) hS.2.2 dX4_step_393
                              · skip
                                rw [if_pos c_62] at hf
                                refine lv_aload_n hx hb dX4_step_373 rfl (lv_at hl 5 rfl) ?_
                                obtain ⟨z_68, _u, hfc, hf⟩ := cal_some hf
                                have hFc := de_free hD hS hA
                                refine va_callv (va_runV (As := []) (rest := []) ⟨hx, hb, hml, hown, hts⟩ (de_X4_hash l dC dI cy a sh n H_39.size F sk z_37 h0 hfc) (cwV 0 hts gX4_step_X4_hash rfl rfl rfl (by decide +kernel) ⟨Nat.le_of_ble_eq_true rfl, Nat.le_of_ble_eq_true rfl⟩) ⟨fun a U g mk q => by obtain ⟨q0, q1, qP, qK, qD, qN, qS⟩ := q; exact ⟨q0, q1, qP, va_K.moved (u := U) (U := U.calling g mk a) (Vm.Alike.refl U.vm) qK, qD, qN.same rfl, SKs.moved (u := U) (U := U.calling g mk a) (Vm.Alike.refl U.vm) qS⟩, va_recv hK hP (ci := 4) (q0 := h0) rfl (Wd_ob kg_1 sg_1 (by decide)), fun U hU hW => ⟨rfl, by rw [hU], by rw [hU]; exact hP, va_K.moved hW.alike hK, hD.weaken (fun _ _ _ _ => trivial), hN.warm hW, by rw [hU]; exact ((hSK.kept hS.2.1).narrow hFc).moved hW.alike⟩⟩ rfl rfl hl.1 rfl (lv_room (Nat.le_of_ble_eq_true rfl)) dX4_step_374 ⟨Nat.le_of_ble_eq_true rfl, Nat.le_of_ble_eq_true rfl⟩) hS (fun q _ h => hFc q h) hFc (fun u t H_69 locs ht hvm hw hB hz1 hk1 hS2 => ?_)
                                obtain ⟨hP1, -, hD1⟩ := hB
                                rw [ht] at hP1
                                replace hD := hD1.weaken (fun _ _ _ h => hFc _ h)
                                replace hP := hP1
                                replace hS := hS2
                                clear hP1 hD1 hS2 hFc hfc hz1 hk1 hvm ht
                                refine lv_goto (tgt := 393) hx hb dX4_step_377 (by decide) ?_
                                obtain ⟨h8, h9⟩ := ret_some hf
                                rw [h8]
                                exact W.vret hx hb hr (fun t ht hW => ⟨⟨(), rfl, trivial, by rw [ht]; exact hP, va_K.moved hW.alike hK, hD⟩, hS.F ht⟩) hS.2.2 dX4_step_393
                            · skip
                              rw [if_neg c_61] at hf
                              refine lv_aload_n hx hb dX4_step_351 rfl (lv_at hl 5 rfl) ?_
                              refine lv_iload hx hb dX4_step_352 (lv_at hl 1 rfl) ?_
                              refine lv_aload_n hx hb dX4_step_354 rfl (lv_at hl 4 rfl) ?_
                              refine va_get (D := (dC, dI)) (ci := 5) (v := .int (z_37.1 k_4 2)) (C := RX5) (T := TX5) (N := 15) hx hb hts iwd_X4_step_X5 hown hK hP k_4 (Wd_ob kg_19 sg_19 (by decide)) rfl 2 (by decide) (hts _ md_X4_step_12) (fun _ h9 => h9) (fl_at (t := 0) rfl) dX4_step_355 ?_
                              refine lv_iload hx hb dX4_step_358 (lv_at hl 0 rfl) ?_
                              obtain ⟨z_70, _u, hfc, hf⟩ := cal_some hf
                              have hFc := de_free hD hS hA
                              refine va_callv (va_runV (As := [.int r_28, .int (z_37.1 k_4 2), .int r_31]) (rest := []) ⟨hx, hb, hml, hown, hts⟩ (de_X4_keep l dC dI cy a sh n H_39.size F z_37 h0 r_28 (z_37.1 k_4 2) r_31 hfc) (cwV 3 hts gX4_step_X4_keep rfl rfl rfl (by decide +kernel) ⟨Nat.le_of_ble_eq_true rfl, Nat.le_of_ble_eq_true rfl⟩) ⟨fun a U g mk q => by obtain ⟨q0, q1, qP, qK, qD, qN⟩ := q; exact ⟨q0, q1, qP, va_K.moved (u := U) (U := U.calling g mk a) (Vm.Alike.refl U.vm) qK, qD, qN.same rfl⟩, va_recv hK hP (ci := 4) (q0 := h0) rfl (Wd_ob kg_1 sg_1 (by decide)), fun U hU hW => ⟨rfl, by rw [hU], by rw [hU]; exact hP, va_K.moved hW.alike hK, hD.weaken (fun _ _ _ _ => trivial), hN.warm hW⟩⟩ rfl rfl hl.1 rfl (lv_room (Nat.le_of_ble_eq_true rfl)) dX4_step_360 ⟨Nat.le_of_ble_eq_true rfl, Nat.le_of_ble_eq_true rfl⟩) hS (fun q _ h => hFc q h) hFc (fun u t H_71 locs ht hvm hw hB hz1 hk1 hS2 => ?_)
                              obtain ⟨hP1, -, hD1⟩ := hB
                              rw [ht] at hP1
                              replace hD := hD1.weaken (fun _ _ _ h => hFc _ h)
                              replace hP := hP1
                              replace hS := hS2
                              clear hP1 hD1 hS2 hFc hfc hz1 hk1 hvm ht
                              refine lv_goto (tgt := 393) hx hb dX4_step_363 (by decide) ?_
                              obtain ⟨h8, h9⟩ := ret_some hf
                              rw [h8]
                              exact W.vret hx hb hr (fun t ht hW => ⟨⟨(), rfl, trivial, by rw [ht]; exact hP, va_K.moved hW.alike hK, hD⟩, hS.F ht⟩) hS.2.2 dX4_step_393
                          · skip
                            rw [if_neg c_60] at hf
                            refine lv_aload_n hx hb dX4_step_335 rfl (lv_at hl 5 rfl) ?_
                            refine lv_iload hx hb dX4_step_336 (lv_at hl 1 rfl) ?_
                            obtain ⟨z_72, _u, hfc, hf⟩ := cal_some hf
                            have hFc := de_free hD hS hA
                            refine va_callv (va_runV (As := [.int r_28]) (rest := []) ⟨hx, hb, hml, hown, hts⟩ (de_X4_reckon l dC dI cy a sh n H_39.size F z_37 h0 r_28 hfc) (cwV 1 hts gX4_step_X4_reckon rfl rfl rfl (by decide +kernel) ⟨Nat.le_of_ble_eq_true rfl, Nat.le_of_ble_eq_true rfl⟩) ⟨fun a U g mk q => by obtain ⟨q0, q1, qP, qK, qD, qN⟩ := q; exact ⟨q0, q1, qP, va_K.moved (u := U) (U := U.calling g mk a) (Vm.Alike.refl U.vm) qK, qD, qN.same rfl⟩, va_recv hK hP (ci := 4) (q0 := h0) rfl (Wd_ob kg_1 sg_1 (by decide)), fun U hU hW => ⟨rfl, by rw [hU], by rw [hU]; exact hP, va_K.moved hW.alike hK, hD.weaken (fun _ _ _ _ => trivial), hN.warm hW⟩⟩ rfl rfl hl.1 rfl (lv_room (Nat.le_of_ble_eq_true rfl)) dX4_step_338 ⟨Nat.le_of_ble_eq_true rfl, Nat.le_of_ble_eq_true rfl⟩) hS (fun q _ h => hFc q h) hFc (fun u t H_73 locs ht hvm hw hB hz1 hk1 hS2 => ?_)
                            obtain ⟨hP1, -, hD1⟩ := hB
                            rw [ht] at hP1
                            replace hD := hD1.weaken (fun _ _ _ h => hFc _ h)
                            replace hP := hP1
                            replace hS := hS2
                            clear hP1 hD1 hS2 hFc hfc hz1 hk1 hvm ht
                            refine lv_goto (tgt := 393) hx hb dX4_step_341 (by decide) ?_
                            obtain ⟨h8, h9⟩ := ret_some hf
                            rw [h8]
                            exact W.vret hx hb hr (fun t ht hW => ⟨⟨(), rfl, trivial, by rw [ht]; exact hP, va_K.moved hW.alike hK, hD⟩, hS.F ht⟩) hS.2.2 dX4_step_393
                        · skip
                          rw [if_pos c_59] at hf
                          refine lv_aload_n hx hb dX4_step_283 rfl (lv_at hl 4 rfl) ?_
                          refine lv_iload hx hb dX4_step_284 (lv_at hl 0 rfl) ?_
                          refine lv_bipush (v := 7) hx hb dX4_step_286 (by decide) ?_
                          obtain ⟨z_74, r_75, hfc, hf⟩ := cal_some hf
                          have hFc := de_free hD hS hA
                          refine va_calli (va_runV (As := [.int r_31, .int 7]) (rest := []) ⟨hx, hb, hml, hown, hts⟩ (de_X5_functionColumn l dC dI cy a sh n H_39.size F z_37 k_4 r_31 7 hfc) (cwV 2 hts gX4_step_X5_functionColumn rfl rfl rfl (by decide +kernel) ⟨Nat.le_of_ble_eq_true rfl, Nat.le_of_ble_eq_true rfl⟩) ⟨fun a U g mk q => by obtain ⟨q0, q1, qP, qK, qD, qN⟩ := q; exact ⟨q0, q1, qP, va_K.moved (u := U) (U := U.calling g mk a) (Vm.Alike.refl U.vm) qK, qD, qN.same rfl⟩, va_recv hK hP (ci := 5) (q0 := k_4) rfl (Wd_ob kg_19 sg_19 (by decide)), fun U hU hW => ⟨rfl, by rw [hU], by rw [hU]; exact hP, va_K.moved hW.alike hK, hD.weaken (fun _ _ _ _ => trivial), hN.warm hW⟩⟩ rfl rfl hl.1 rfl (lv_room (Nat.le_of_ble_eq_true rfl)) dX4_step_288 ⟨Nat.le_of_ble_eq_true rfl, Nat.le_of_ble_eq_true rfl⟩) hS (fun q _ h => hFc q h) hFc (fun rr u t H_76 locs ht hvm hw hB hz1 hk1 hS2 => ?_)
                          rw [hw]
                          clear hw
                          obtain ⟨hP1, -, hD1⟩ := hB
                          rw [ht] at hP1
                          replace hD := hD1.weaken (fun _ _ _ h => hFc _ h)
                          replace hP := hP1
                          replace hS := hS2
                          clear hP1 hD1 hS2 hFc hfc hz1 hk1 hvm ht
                          refine lv_istore (lv' := [(6, .int r_75), (5, .int r_31), (4, .int r_28), (3, .int r_25), (2, .int v_7), (1, .ref (a k_4)), (0, .ref (a h0))]) hx hb dX4_step_291 hl (by decide) rfl (fun ls hl2 => ?_)
                          replace hl := hl2
                          clear hl2
                          refine lv_aload_n hx hb dX4_step_293 rfl (lv_at hl 5 rfl) ?_
                          refine lv_iload hx hb dX4_step_294 (lv_at hl 1 rfl) ?_
                          refine lv_bipush (v := 8) hx hb dX4_step_296 (by decide) ?_
                          obtain ⟨z_77, r_78, hfc, hf⟩ := cal_some hf
                          have hFc := de_free hD hS hA
                          refine va_calli (va_runV (As := [.int r_31, .int 8]) (rest := []) ⟨hx, hb, hml, hown, hts⟩ (de_X5_functionColumn l dC dI cy a sh n H_76.size F z_74 k_4 r_31 8 hfc) (cwV 2 hts gX4_step_X5_functionColumn rfl rfl rfl (by decide +kernel) ⟨Nat.le_of_ble_eq_true rfl, Nat.le_of_ble_eq_true rfl⟩) ⟨fun a U g mk q => by obtain ⟨q0, q1, qP, qK, qD, qN⟩ := q; exact ⟨q0, q1, qP, va_K.moved (u := U) (U := U.calling g mk a) (Vm.Alike.refl U.vm) qK, qD, qN.same rfl⟩, va_recv hK hP (ci := 5) (q0 := k_4) rfl (Wd_ob kg_19 sg_19 (by decide)), fun U hU hW => ⟨rfl, by rw [hU], by rw [hU]; exact hP, va_K.moved hW.alike hK, hD.weaken (fun _ _ _ _ => trivial), hN.warm hW⟩⟩ rfl rfl hl.1 rfl (lv_room (Nat.le_of_ble_eq_true rfl)) dX4_step_298 ⟨Nat.le_of_ble_eq_true rfl, Nat.le_of_ble_eq_true rfl⟩) hS (fun q _ h => hFc q h) hFc (fun rr u t H_79 locs ht hvm hw hB hz1 hk1 hS2 => ?_)
                          rw [hw]
                          clear hw
                          obtain ⟨hP1, -, hD1⟩ := hB
                          rw [ht] at hP1
                          replace hD := hD1.weaken (fun _ _ _ h => hFc _ h)
                          replace hP := hP1
                          replace hS := hS2
                          clear hP1 hD1 hS2 hFc hfc hz1 hk1 hvm ht
                          refine lv_istore (lv' := [(7, .int r_78), (6, .int r_75), (5, .int r_31), (4, .int r_28), (3, .int r_25), (2, .int v_7), (1, .ref (a k_4)), (0, .ref (a h0))]) hx hb dX4_step_301 hl (by decide) rfl (fun ls hl2 => ?_)
                          replace hl := hl2
                          clear hl2
                          refine lv_iload hx hb dX4_step_303 (lv_at hl 1 rfl) ?_
                          refine lv_if_ne (tgt := 317) hx hb dX4_step_305 (by decide) (fun c_80 => ?_) (fun c_80 => ?_)
                          · skip
                            rw [if_neg c_80] at hf
                            refine lv_aload_n hx hb dX4_step_317 rfl (lv_at hl 7 rfl) ?_
                            refine lv_iload hx hb dX4_step_318 (lv_at hl 1 rfl) ?_
                            refine lv_iload hx hb dX4_step_320 (lv_at hl 0 rfl) ?_
                            obtain ⟨z_81, _u, hfc, hf⟩ := cal_some hf
                            have hFc := de_free hD hS hA
                            refine va_callv (va_runV (As := [.int r_75, .int r_78]) (rest := []) ⟨hx, hb, hml, hown, hts⟩ (de_X4_enter l dC dI cy a sh n H_79.size F z_77 h0 r_75 r_78 hfc) (cwV 2 hts gX4_step_X4_enter rfl rfl rfl (by decide +kernel) ⟨Nat.le_of_ble_eq_true rfl, Nat.le_of_ble_eq_true rfl⟩) ⟨fun a U g mk q => by obtain ⟨q0, q1, qP, qK, qD, qN⟩ := q; exact ⟨q0, q1, qP, va_K.moved (u := U) (U := U.calling g mk a) (Vm.Alike.refl U.vm) qK, qD, qN.same rfl⟩, va_recv hK hP (ci := 4) (q0 := h0) rfl (Wd_ob kg_1 sg_1 (by decide)), fun U hU hW => ⟨rfl, by rw [hU], by rw [hU]; exact hP, va_K.moved hW.alike hK, hD.weaken (fun _ _ _ _ => trivial), hN.warm hW⟩⟩ rfl rfl hl.1 rfl (lv_room (Nat.le_of_ble_eq_true rfl)) dX4_step_322 ⟨Nat.le_of_ble_eq_true rfl, Nat.le_of_ble_eq_true rfl⟩) hS (fun q _ h => hFc q h) hFc (fun u t H_82 locs ht hvm hw hB hz1 hk1 hS2 => ?_)
                            obtain ⟨hP1, -, hD1⟩ := hB
                            rw [ht] at hP1
                            replace hD := hD1.weaken (fun _ _ _ h => hFc _ h)
                            replace hP := hP1
                            replace hS := hS2
                            clear hP1 hD1 hS2 hFc hfc hz1 hk1 hvm ht
                            refine lv_goto (tgt := 393) hx hb dX4_step_325 (by decide) ?_
                            obtain ⟨h8, h9⟩ := ret_some hf
                            rw [h8]
                            exact W.vret hx hb hr (fun t ht hW => ⟨⟨(), rfl, trivial, by rw [ht]; exact hP, va_K.moved hW.alike hK, hD⟩, hS.F ht⟩) hS.2.2 dX4_step_393
                          · skip
                            rw [if_pos c_80] at hf
                            refine lv_aload_n hx hb dX4_step_308 rfl (lv_at hl 7 rfl) ?_
                            refine lv_iload hx hb dX4_step_309 (lv_at hl 0 rfl) ?_
                            obtain ⟨z_83, _u, hfc, hf⟩ := cal_some hf
                            have hFc := de_free hD hS hA
                            refine va_callv (va_runV (As := [.int r_78]) (rest := []) ⟨hx, hb, hml, hown, hts⟩ (de_X4_useCoin l dC dI cy a sh n H_79.size F z_77 h0 r_78 hfc) (cwV 1 hts gX4_step_X4_useCoin rfl rfl rfl (by decide +kernel) ⟨Nat.le_of_ble_eq_true rfl, Nat.le_of_ble_eq_true rfl⟩) ⟨fun a U g mk q => by obtain ⟨q0, q1, qP, qK, qD, qN⟩ := q; exact ⟨q0, q1, qP, va_K.moved (u := U) (U := U.calling g mk a) (Vm.Alike.refl U.vm) qK, qD, qN.same rfl⟩, va_recv hK hP (ci := 4) (q0 := h0) rfl (Wd_ob kg_1 sg_1 (by decide)), fun U hU hW => ⟨rfl, by rw [hU], by rw [hU]; exact hP, va_K.moved hW.alike hK, hD.weaken (fun _ _ _ _ => trivial), hN.warm hW⟩⟩ rfl rfl hl.1 rfl (lv_room (Nat.le_of_ble_eq_true rfl)) dX4_step_311 ⟨Nat.le_of_ble_eq_true rfl, Nat.le_of_ble_eq_true rfl⟩) hS (fun q _ h => hFc q h) hFc (fun u t H_84 locs ht hvm hw hB hz1 hk1 hS2 => ?_)
                            obtain ⟨hP1, -, hD1⟩ := hB
                            rw [ht] at hP1
                            replace hD := hD1.weaken (fun _ _ _ h => hFc _ h)
                            replace hP := hP1
                            replace hS := hS2
                            clear hP1 hD1 hS2 hFc hfc hz1 hk1 hvm ht
                            refine lv_goto (tgt := 325) hx hb dX4_step_314 (by decide) ?_
                            refine lv_goto (tgt := 393) hx hb dX4_step_325 (by decide) ?_
                            obtain ⟨h8, h9⟩ := ret_some hf
                            rw [h8]
                            exact W.vret hx hb hr (fun t ht hW => ⟨⟨(), rfl, trivial, by rw [ht]; exact hP, va_K.moved hW.alike hK, hD⟩, hS.F ht⟩) hS.2.2 dX4_step_393
                      · skip
                        rw [if_pos c_58] at hf
                        refine lv_aload_n hx hb dX4_step_263 rfl (lv_at hl 5 rfl) ?_
                        refine lv_aload_n hx hb dX4_step_264 rfl (lv_at hl 4 rfl) ?_
                        refine lv_iload hx hb dX4_step_265 (lv_at hl 0 rfl) ?_
                        obtain ⟨z_85, r_86, hfc, hf⟩ := cal_some hf
                        have hFc := de_free hD hS hA
                        refine va_calli (va_runV (As := [.int r_31]) (rest := [.ref (a h0)]) ⟨hx, hb, hml, hown, hts⟩ (de_X5_fieldCount l dC dI cy a sh n H_39.size F z_37 k_4 r_31 hfc) (cwV 1 hts gX4_step_X5_fieldCount rfl rfl rfl (by decide +kernel) ⟨Nat.le_of_ble_eq_true rfl, Nat.le_of_ble_eq_true rfl⟩) ⟨fun a U g mk q => by obtain ⟨q0, q1, qP, qK, qD, qN⟩ := q; exact ⟨q0, q1, qP, va_K.moved (u := U) (U := U.calling g mk a) (Vm.Alike.refl U.vm) qK, qD, qN.same rfl⟩, va_recv hK hP (ci := 5) (q0 := k_4) rfl (Wd_ob kg_19 sg_19 (by decide)), fun U hU hW => ⟨rfl, by rw [hU], by rw [hU]; exact hP, va_K.moved hW.alike hK, hD.weaken (fun _ _ _ _ => trivial), hN.warm hW⟩⟩ rfl rfl hl.1 rfl (lv_room (Nat.le_of_ble_eq_true rfl)) dX4_step_267 ⟨Nat.le_of_ble_eq_true rfl, Nat.le_of_ble_eq_true rfl⟩) hS (fun q _ h => hFc q h) hFc (fun rr u t H_87 locs ht hvm hw hB hz1 hk1 hS2 => ?_)
                        rw [hw]
                        clear hw
                        obtain ⟨hP1, -, hD1⟩ := hB
                        rw [ht] at hP1
                        replace hD := hD1.weaken (fun _ _ _ h => hFc _ h)
                        replace hP := hP1
                        replace hS := hS2
                        clear hP1 hD1 hS2 hFc hfc hz1 hk1 hvm ht
                        obtain ⟨z_88, _u, hfc, hf⟩ := cal_some hf
                        have hFc := de_free hD hS hA
                        refine va_callv (va_runV (As := [.int r_86]) (rest := []) ⟨hx, hb, hml, hown, hts⟩ (de_X4_scatter l dC dI cy a sh n H_87.size F z_85 h0 r_86 hfc) (cwV 1 hts gX4_step_X4_scatter rfl rfl rfl (by decide +kernel) ⟨Nat.le_of_ble_eq_true rfl, Nat.le_of_ble_eq_true rfl⟩) ⟨fun a U g mk q => by obtain ⟨q0, q1, qP, qK, qD, qN⟩ := q; exact ⟨q0, q1, qP, va_K.moved (u := U) (U := U.calling g mk a) (Vm.Alike.refl U.vm) qK, qD, qN.same rfl⟩, va_recv hK hP (ci := 4) (q0 := h0) rfl (Wd_ob kg_1 sg_1 (by decide)), fun U hU hW => ⟨rfl, by rw [hU], by rw [hU]; exact hP, va_K.moved hW.alike hK, hD.weaken (fun _ _ _ _ => trivial), hN.warm hW⟩⟩ rfl rfl hl.1 rfl (lv_room (Nat.le_of_ble_eq_true rfl)) dX4_step_270 ⟨Nat.le_of_ble_eq_true rfl, Nat.le_of_ble_eq_true rfl⟩) hS (fun q _ h => hFc q h) hFc (fun u t H_89 locs ht hvm hw hB hz1 hk1 hS2 => ?_)
                        obtain ⟨hP1, -, hD1⟩ := hB
                        rw [ht] at hP1
                        replace hD := hD1.weaken (fun _ _ _ h => hFc _ h)
                        replace hP := hP1
                        replace hS := hS2
                        clear hP1 hD1 hS2 hFc hfc hz1 hk1 hvm ht
                        refine lv_goto (tgt := 393) hx hb dX4_step_273 (by decide) ?_
                        obtain ⟨h8, h9⟩ := ret_some hf
                        rw [h8]
                        exact W.vret hx hb hr (fun t ht hW => ⟨⟨(), rfl, trivial, by rw [ht]; exact hP, va_K.moved hW.alike hK, hD⟩, hS.F ht⟩) hS.2.2 dX4_step_393
                    · skip
                      rw [if_pos c_57] at hf
                      refine lv_aload_n hx hb dX4_step_241 rfl (lv_at hl 5 rfl) ?_
                      refine lv_bipush (v := 6) hx hb dX4_step_242 (by decide) ?_
                      refine lv_aload_n hx hb dX4_step_244 rfl (lv_at hl 4 rfl) ?_
                      refine lv_iload hx hb dX4_step_245 (lv_at hl 0 rfl) ?_
                      obtain ⟨z_90, r_91, hfc, hf⟩ := cal_some hf
                      have hFc := de_free hD hS hA
                      refine va_calli (va_runV (As := [.int r_31]) (rest := [.int 6, .ref (a h0)]) ⟨hx, hb, hml, hown, hts⟩ (de_X5_fieldCount l dC dI cy a sh n H_39.size F z_37 k_4 r_31 hfc) (cwV 1 hts gX4_step_X5_fieldCount rfl rfl rfl (by decide +kernel) ⟨Nat.le_of_ble_eq_true rfl, Nat.le_of_ble_eq_true rfl⟩) ⟨fun a U g mk q => by obtain ⟨q0, q1, qP, qK, qD, qN⟩ := q; exact ⟨q0, q1, qP, va_K.moved (u := U) (U := U.calling g mk a) (Vm.Alike.refl U.vm) qK, qD, qN.same rfl⟩, va_recv hK hP (ci := 5) (q0 := k_4) rfl (Wd_ob kg_19 sg_19 (by decide)), fun U hU hW => ⟨rfl, by rw [hU], by rw [hU]; exact hP, va_K.moved hW.alike hK, hD.weaken (fun _ _ _ _ => trivial), hN.warm hW⟩⟩ rfl rfl hl.1 rfl (lv_room (Nat.le_of_ble_eq_true rfl)) dX4_step_247 ⟨Nat.le_of_ble_eq_true rfl, Nat.le_of_ble_eq_true rfl⟩) hS (fun q _ h => hFc q h) hFc (fun rr u t H_92 locs ht hvm hw hB hz1 hk1 hS2 => ?_)
                      rw [hw]
                      clear hw
                      obtain ⟨hP1, -, hD1⟩ := hB
                      rw [ht] at hP1
                      replace hD := hD1.weaken (fun _ _ _ h => hFc _ h)
                      replace hP := hP1
                      replace hS := hS2
                      clear hP1 hD1 hS2 hFc hfc hz1 hk1 hvm ht
                      obtain ⟨z_93, _u, hfc, hf⟩ := cal_some hf
                      have hFc := de_free hD hS hA
                      refine va_callv (va_runV (As := [.int 6, .int r_91]) (rest := []) ⟨hx, hb, hml, hown, hts⟩ (de_X4_gather l dC dI cy a sh n H_92.size F z_90 h0 6 r_91 hfc) (cwV 2 hts gX4_step_X4_gather rfl rfl rfl (by decide +kernel) ⟨Nat.le_of_ble_eq_true rfl, Nat.le_of_ble_eq_true rfl⟩) ⟨fun a U g mk q => by obtain ⟨q0, q1, qP, qK, qD, qN⟩ := q; exact ⟨q0, q1, qP, va_K.moved (u := U) (U := U.calling g mk a) (Vm.Alike.refl U.vm) qK, qD, qN.same rfl⟩, va_recv hK hP (ci := 4) (q0 := h0) rfl (Wd_ob kg_1 sg_1 (by decide)), fun U hU hW => ⟨rfl, by rw [hU], by rw [hU]; exact hP, va_K.moved hW.alike hK, hD.weaken (fun _ _ _ _ => trivial), hN.warm hW⟩⟩ rfl rfl hl.1 rfl (lv_room (Nat.le_of_ble_eq_true rfl)) dX4_step_250 ⟨Nat.le_of_ble_eq_true rfl, Nat.le_of_ble_eq_true rfl⟩) hS (fun q _ h => hFc q h) hFc (fun u t H_94 locs ht hvm hw hB hz1 hk1 hS2 => ?_)
                      obtain ⟨hP1, -, hD1⟩ := hB
                      rw [ht] at hP1
                      replace hD := hD1.weaken (fun _ _ _ h => hFc _ h)
                      replace hP := hP1
                      replace hS := hS2
                      clear hP1 hD1 hS2 hFc hfc hz1 hk1 hvm ht
                      refine lv_goto (tgt := 393) hx hb dX4_step_253 (by decide) ?_
                      obtain ⟨h8, h9⟩ := ret_some hf
                      rw [h8]
                      exact W.vret hx hb hr (fun t ht hW => ⟨⟨(), rfl, trivial, by rw [ht]; exact hP, va_K.moved hW.alike hK, hD⟩, hS.F ht⟩) hS.2.2 dX4_step_393
                  · skip
                    rw [if_neg c_56] at hf
                    refine lv_aload_n hx hb dX4_step_218 rfl (lv_at hl 5 rfl) ?_
                    refine lv_iload hx hb dX4_step_219 (lv_at hl 1 rfl) ?_
                    refine lv_aload_n hx hb dX4_step_221 rfl (lv_at hl 4 rfl) ?_
                    refine lv_iload_n hx hb dX4_step_222 rfl (lv_at hl 2 rfl) ?_
                    refine lv_iconst (v := 2) hx hb dX4_step_223 (by decide) ?_
                    refine lv_iadd hx hb dX4_step_224 ?_
                    obtain ⟨z_95, r_96, hfc, hf⟩ := cal_some hf
                    have hFc := de_free hD hS hA
                    refine va_calli (va_runV (As := [.int (r_25 + 2)]) (rest := [.int r_28, .ref (a h0)]) ⟨hx, hb, hml, hown, hts⟩ (de_X5_at l dC dI cy a sh n H_39.size F sk z_37 k_4 (r_25 + 2) hfc) (cwV 1 hts gX4_step_X5_at rfl rfl rfl (by decide +kernel) ⟨Nat.le_of_ble_eq_true rfl, Nat.le_of_ble_eq_true rfl⟩) ⟨fun a U g mk q => by obtain ⟨q0, q1, qP, qK, qD, qN, qS⟩ := q; exact ⟨q0, q1, qP, va_K.moved (u := U) (U := U.calling g mk a) (Vm.Alike.refl U.vm) qK, qD, qN.same rfl, SKs.moved (u := U) (U := U.calling g mk a) (Vm.Alike.refl U.vm) qS⟩, va_recv hK hP (ci := 5) (q0 := k_4) rfl (Wd_ob kg_19 sg_19 (by decide)), fun U hU hW => ⟨rfl, by rw [hU], by rw [hU]; exact hP, va_K.moved hW.alike hK, hD.weaken (fun _ _ _ _ => trivial), hN.warm hW, by rw [hU]; exact ((hSK.kept hS.2.1).narrow hFc).moved hW.alike⟩⟩ rfl rfl hl.1 rfl (lv_room (Nat.le_of_ble_eq_true rfl)) dX4_step_225 ⟨Nat.le_of_ble_eq_true rfl, Nat.le_of_ble_eq_true rfl⟩) hS (fun q _ h => hFc q h) hFc (fun rr u t H_97 locs ht hvm hw hB hz1 hk1 hS2 => ?_)
                    rw [hw]
                    clear hw
                    obtain ⟨hP1, -, hD1⟩ := hB
                    rw [ht] at hP1
                    replace hD := hD1.weaken (fun _ _ _ h => hFc _ h)
                    replace hP := hP1
                    replace hS := hS2
                    clear hP1 hD1 hS2 hFc hfc hz1 hk1 hvm ht
                    obtain ⟨z_98, _u, hfc, hf⟩ := cal_some hf
                    have hFc := de_free hD hS hA
                    refine va_callv (va_runV (As := [.int r_28, .int r_96]) (rest := []) ⟨hx, hb, hml, hown, hts⟩ (de_X4_refer l dC dI cy a sh n H_97.size F z_95 h0 r_28 r_96 hfc) (cwV 2 hts gX4_step_X4_refer rfl rfl rfl (by decide +kernel) ⟨Nat.le_of_ble_eq_true rfl, Nat.le_of_ble_eq_true rfl⟩) ⟨fun a U g mk q => by obtain ⟨q0, q1, qP, qK, qD, qN⟩ := q; exact ⟨q0, q1, qP, va_K.moved (u := U) (U := U.calling g mk a) (Vm.Alike.refl U.vm) qK, qD, qN.same rfl⟩, va_recv hK hP (ci := 4) (q0 := h0) rfl (Wd_ob kg_1 sg_1 (by decide)), fun U hU hW => ⟨rfl, by rw [hU], by rw [hU]; exact hP, va_K.moved hW.alike hK, hD.weaken (fun _ _ _ _ => trivial), hN.warm hW⟩⟩ rfl rfl hl.1 rfl (lv_room (Nat.le_of_ble_eq_true rfl)) dX4_step_228 ⟨Nat.le_of_ble_eq_true rfl, Nat.le_of_ble_eq_true rfl⟩) hS (fun q _ h => hFc q h) hFc (fun u t H_99 locs ht hvm hw hB hz1 hk1 hS2 => ?_)
                    obtain ⟨hP1, -, hD1⟩ := hB
                    rw [ht] at hP1
                    replace hD := hD1.weaken (fun _ _ _ h => hFc _ h)
                    replace hP := hP1
                    replace hS := hS2
                    clear hP1 hD1 hS2 hFc hfc hz1 hk1 hvm ht
                    refine lv_goto (tgt := 393) hx hb dX4_step_231 (by decide) ?_
                    obtain ⟨h8, h9⟩ := ret_some hf
                    rw [h8]
                    exact W.vret hx hb hr (fun t ht hW => ⟨⟨(), rfl, trivial, by rw [ht]; exact hP, va_K.moved hW.alike hK, hD⟩, hS.F ht⟩) hS.2.2 dX4_step_393
                · skip
                  rw [if_neg c_55] at hf
                  refine lv_aload_n hx hb dX4_step_187 rfl (lv_at hl 5 rfl) ?_
                  refine lv_iload hx hb dX4_step_188 (lv_at hl 1 rfl) ?_
                  refine lv_aload_n hx hb dX4_step_190 rfl (lv_at hl 5 rfl) ?_
                  refine va_get (D := (dC, dI)) (ci := 4) (v := .int (z_37.1 h0 12)) (C := RX4) (T := TX4) (N := 18) hx hb hts iwd_X4_step_X4 hown hK hP h0 (Wd_ob kg_1 sg_1 (by decide)) rfl 12 (by decide) (hts _ md_X4_step_2) (fun _ h9 => h9) (fl_at (t := 0) rfl) dX4_step_191 ?_
                  refine lv_bipush (v := 40) hx hb dX4_step_194 (by decide) ?_
                  refine lv_imul hx hb dX4_step_196 ?_
                  refine lv_iload hx hb dX4_step_197 (lv_at hl 0 rfl) ?_
                  refine lv_bipush (v := 39) hx hb dX4_step_199 (by decide) ?_
                  refine va_mmin hx hb (hml.trans hl.1.symm) hown (hts _ md_X4_step_8) (hts _ md_X4_step_9) (hts _ md_X4_step_10) (hts _ md_X4_step_11) (Nat.le_of_ble_eq_true rfl) (Nat.le_of_ble_eq_true rfl) (Nat.le_of_ble_eq_true rfl) (Nat.le_of_ble_eq_true rfl) dX4_step_201 ?_
                  refine lv_topi (fun v_100 ev_100 => ?_)
                  replace hf := lt_at ev_100 hf
                  clear ev_100
                  refine lv_iadd hx hb dX4_step_204 ?_
                  obtain ⟨z_101, _u, hfc, hf⟩ := cal_some hf
                  have hFc := de_free hD hS hA
                  refine va_callv (va_runV (As := [.int r_28, .int (((z_37.1 h0 12) * 40) + v_100)]) (rest := []) ⟨hx, hb, hml, hown, hts⟩ (de_X4_useLocal l dC dI cy a sh n H_39.size F z_37 h0 r_28 (((z_37.1 h0 12) * 40) + v_100) hfc) (cwV 2 hts gX4_step_X4_useLocal rfl rfl rfl (by decide +kernel) ⟨Nat.le_of_ble_eq_true rfl, Nat.le_of_ble_eq_true rfl⟩) ⟨fun a U g mk q => by obtain ⟨q0, q1, qP, qK, qD, qN⟩ := q; exact ⟨q0, q1, qP, va_K.moved (u := U) (U := U.calling g mk a) (Vm.Alike.refl U.vm) qK, qD, qN.same rfl⟩, va_recv hK hP (ci := 4) (q0 := h0) rfl (Wd_ob kg_1 sg_1 (by decide)), fun U hU hW => ⟨rfl, by rw [hU], by rw [hU]; exact hP, va_K.moved hW.alike hK, hD.weaken (fun _ _ _ _ => trivial), hN.warm hW⟩⟩ rfl rfl hl.1 rfl (lv_room (Nat.le_of_ble_eq_true rfl)) dX4_step_205 ⟨Nat.le_of_ble_eq_true rfl, Nat.le_of_ble_eq_true rfl⟩) hS (fun q _ h => hFc q h) hFc (fun u t H_102 locs ht hvm hw hB hz1 hk1 hS2 => ?_)
                  obtain ⟨hP1, -, hD1⟩ := hB
                  rw [ht] at hP1
                  replace hD := hD1.weaken (fun _ _ _ h => hFc _ h)
                  replace hP := hP1
                  replace hS := hS2
                  clear hP1 hD1 hS2 hFc hfc hz1 hk1 hvm ht
                  refine lv_goto (tgt := 393) hx hb dX4_step_208 (by decide) ?_
                  obtain ⟨h8, h9⟩ := ret_some hf
                  rw [h8]
                  exact W.vret hx hb hr (fun t ht hW => ⟨⟨(), rfl, trivial, by rw [ht]; exact hP, va_K.moved hW.alike hK, hD⟩, hS.F ht⟩) hS.2.2 dX4_step_393
              · skip
                rw [if_pos c_54] at hf
                exact B167 (z_37) ls H_39 locs ⟨lv_sub hl [1, 2, 4, 5] rfl, hP, hD, hS⟩ hf
        · skip
          rw [if_pos c_48] at hf
          exact B128 (z_37) ls H_39 locs ⟨lv_sub hl [1, 2, 4, 5] rfl, hP, hD, hS⟩ hf
    · skip
      rw [if_pos c_40] at hf
      obtain ⟨h8, h9⟩ := ret_some hf
      rw [h8]
      exact W.vret hx hb hr (fun t ht hW => ⟨⟨(), rfl, trivial, by rw [ht]; exact hP, va_K.moved hW.alike hK, hD⟩, hS.F ht⟩) hS.2.2 dX4_step_114
  · skip
    rw [if_neg c_21] at hf
    exact B41 (z_17) ls H_20 locs ⟨lv_sub hl [2] rfl, hP, hD, hS⟩ hf

theorem md_X18_onVector_4 : (.fieldLink RX18 40 "ResourceLedgerModel" "trees" "LResourceLedgerModel$Trees;" : Cond) ∈ wsX18_onVector := List.mem_of_getElem? (i := 4) rfl
theorem iwd_X18_onVector_X18 : ∀ w ∈ wsX180, w ∈ wsX18_onVector := fun _ h => List.mem_cons_of_mem _ (List.mem_append_left _ (List.mem_append_left _ (List.mem_append_right _ h)))
theorem md_X18_onVector_7 : (.constantLong RX18 425 (2) : Cond) ∈ wsX18_onVector := List.mem_of_getElem? (i := 7) rfl
theorem iwd_X18_onVector_X15 : ∀ w ∈ wsX150, w ∈ wsX18_onVector := fun _ h => List.mem_cons_of_mem _ (List.mem_append_left _ (List.mem_append_right _ h))
theorem md_X18_onVector_6 : (.constantLong RX18 283 (4) : Cond) ∈ wsX18_onVector := List.mem_of_getElem? (i := 6) rfl
theorem md_X18_onVector_1 : (.fieldLink RX18 312 "ResourceLedgerModel" "height" "I" : Cond) ∈ wsX18_onVector := List.mem_of_getElem? (i := 1) rfl
theorem md_X18_onVector_2 : (.fieldLink RX18 325 "ResourceLedgerModel" "bases" "[I" : Cond) ∈ wsX18_onVector := List.mem_of_getElem? (i := 2) rfl
theorem md_X18_onVector_3 : (.fieldLink RX18 328 "ResourceLedgerModel" "frames" "I" : Cond) ∈ wsX18_onVector := List.mem_of_getElem? (i := 3) rfl
theorem md_X18_onVector_5 : (.fieldLink RX18 309 "ResourceLedgerModel" "stack" "[I" : Cond) ∈ wsX18_onVector := List.mem_of_getElem? (i := 5) rfl
set_option maxHeartbeats 4000000 in
set_option maxRecDepth 100000 in
theorem de_X18_onVector (l : Launch) (dC : Nat → ClassId) (dI : Nat → Nat → Nat) (cy : Nat → ClassId) (a : Nat → Nat) (sh : Nat → Nat × Nat) (n sz : Nat) (F : Nat) (sk : Nat → Nat) (z : St) (h0 : Nat) (x0 : Int32) (x1 : Int32) {z8 : St} {r8 : Unit} (hf : fn_X18_onVector F sh n z h0 x0 x1 = some (z8, r8)) : Met l yX18_onVector wsX18_onVector ({ frames := 5, cells := 0, slots := 0, locals := 109 }) (va_Pc [.ref (a h0), .int x0, .int x1] (fun U => U.heap.size = sz ∧ va_P (dC, dI) vwCl (Wd cy a sh n z) U.heap ∧ va_K (dC, dI) vwCl (TYS cy) U ∧ va_D (fun _ => True) (Wd cy a sh n z) ∧ NK U ∧ SKs sk (a CBK) (va_A (Wd cy a sh n z) sz) U U.heap)) (va_Qv (fun u : Unit => True) (fun u t => va_P (dC, dI) vwCl (Wd cy a sh n z8) t.heap ∧ va_K (dC, dI) vwCl (TYS cy) t ∧ va_D (va_A (Wd cy a sh n z) sz) (Wd cy a sh n z8)) (va_A (Wd cy a sh n z) sz)) 0 0 (va_A (Wd cy a sh n z) sz) := by
  refine Met.ofW (cc := cX18_onVector) (maxL := 11) (ret := none) (by decide) rfl ?_
  intro p e s m args below meth c s₁ B hml hv
  obtain ⟨rfl, hsz, hP, hK, hD0, hN, hSK⟩ := hv
  have hx := B.exec
  have hb := B.bytes
  have hr := B.returns
  have hts := atoms_spec (ws := wsX18_onVector) B.pre
  have hown : s.vm.findClass RX18 = some m.cls := findClass_of_methodNamed B.named
  have hlocks := B.notSynchronized
  subst hsz
  have hD := hD0.self (sz := s.heap.size)
  clear hD0
  generalize hAe : va_A (Wd cy a sh n z) s.heap.size = A at hD hSK ⊢
  have hA : ∀ q : Nat, s.heap.size ≤ q → A q := fun q h => by rw [← hAe]; exact Or.inr h
  clear hAe
  have hS : va_S A s.heap s.heap [] := va_S.rf
  have hl := lv_entry ([.ref (a h0), .int x0, .int x1]) (n := 11) (Nat.le_of_ble_eq_true rfl)
  rw [lg_entry_eq]
  generalize (lg_sl ([.ref (a h0), .int x0, .int x1]) ++ List.replicate (11 - (lg_sl ([.ref (a h0), .int x0, .int x1])).length) Slot.unset).toArray = ls at hl ⊢
  replace hl : lv_has ls 11 [(0, .ref (a h0)), (1, .int x0), (2, .int x1)] := hl
  unfold fn_X18_onVector at hf
  refine de_start hS hP (fun H locs hS hP => ?_)
  refine lv_iload_n hx hb dX18_onVector_0 rfl (lv_at hl 1 rfl) ?_
  refine lv_bipush (v := 52) hx hb dX18_onVector_1 (by decide) ?_
  refine lv_icmp_ne (tgt := 106) hx hb dX18_onVector_3 (by decide) (fun c_1 => ?_) (fun c_1 => ?_)
  · skip
    rw [if_neg c_1] at hf
    refine lv_iload_n hx hb dX18_onVector_106 rfl (lv_at hl 1 rfl) ?_
    refine lv_bipush (v := 59) hx hb dX18_onVector_107 (by decide) ?_
    refine lv_icmp_ne (tgt := 117) hx hb dX18_onVector_109 (by decide) (fun c_2 => ?_) (fun c_2 => ?_)
    · skip
      rw [if_neg c_2] at hf
      refine lv_iload_n hx hb dX18_onVector_117 rfl (lv_at hl 1 rfl) ?_
      refine lv_bipush (v := 58) hx hb dX18_onVector_118 (by decide) ?_
      refine de_cut (h := 143) (fun (x : St × Int64) => [.long x.2]) (fun x ls H locs => lv_has ls 11 [(0, .ref (a h0)), (1, .int x0)] ∧ va_P (dC, dI) vwCl (Wd cy a sh n x.1) H ∧ va_D A (Wd cy a sh n x.1) ∧ va_S A s.heap H locs) (fun x => fn_X18_onVector_B143 F sh n x0 h0 x.1 x.2) (z8, r8) ?_ (fun B143 => ?_)
      · intro x ls H locs hI hf
        obtain ⟨z_4, p_3⟩ := x
        obtain ⟨hl2, hP2, hD2, hS2⟩ := hI
        replace hl : lv_has ls 11 [(0, .ref (a h0)), (1, .int x0)] := hl2
        replace hP := hP2
        replace hD := hD2
        replace hS := hS2
        clear hl2 hP2 hD2 hS2
        replace hf := fn_X18_onVector_B143_s hf
        refine W.eq (g2 := F0 m 143 ls [.long p_3]) rfl ?_
        refine lv_lstore_n (lv' := [(3, .long p_3), (0, .ref (a h0)), (1, .int x0)]) hx hb dX18_onVector_143 rfl hl (by decide) rfl (fun ls hl2 => ?_)
        replace hl := hl2
        clear hl2
        refine lv_iload_n hx hb dX18_onVector_144 rfl (lv_at hl 2 rfl) ?_
        refine lv_bipush (v := 58) hx hb dX18_onVector_145 (by decide) ?_
        refine de_cut (h := 158) (fun (x : St × Int64) => [.long x.2]) (fun x ls H locs => lv_has ls 11 [(3, .long p_3), (0, .ref (a h0)), (1, .int x0)] ∧ va_P (dC, dI) vwCl (Wd cy a sh n x.1) H ∧ va_D A (Wd cy a sh n x.1) ∧ va_S A s.heap H locs) (fun x => fn_X18_onVector_B158 F sh n x0 h0 p_3 x.1 x.2) (z8, r8) ?_ (fun B158 => ?_)
        · intro x ls H locs hI hf
          obtain ⟨z_6, p_5⟩ := x
          obtain ⟨hl2, hP2, hD2, hS2⟩ := hI
          replace hl : lv_has ls 11 [(3, .long p_3), (0, .ref (a h0)), (1, .int x0)] := hl2
          replace hP := hP2
          replace hD := hD2
          replace hS := hS2
          clear hl2 hP2 hD2 hS2
          replace hf := fn_X18_onVector_B158_s hf
          refine W.eq (g2 := F0 m 158 ls [.long p_5]) rfl ?_
          refine lv_lstore (lv' := [(5, .long p_5), (3, .long p_3), (0, .ref (a h0)), (1, .int x0)]) hx hb dX18_onVector_158 hl (by decide) rfl (fun ls hl2 => ?_)
          replace hl := hl2
          clear hl2
          refine lv_iload_n hx hb dX18_onVector_160 rfl (lv_at hl 3 rfl) ?_
          refine lv_bipush (v := 56) hx hb dX18_onVector_161 (by decide) ?_
          refine de_cut (h := 175) (fun (x : St × Int32) => [.int x.2]) (fun x ls H locs => lv_has ls 11 [(5, .long p_5), (3, .long p_3), (0, .ref (a h0)), (1, .int x0)] ∧ va_P (dC, dI) vwCl (Wd cy a sh n x.1) H ∧ va_D A (Wd cy a sh n x.1) ∧ va_S A s.heap H locs) (fun x => fn_X18_onVector_B175 F sh n h0 x0 p_3 p_5 x.1 x.2) (z8, r8) ?_ (fun B175 => ?_)
          · intro x ls H locs hI hf
            obtain ⟨z_8, p_7⟩ := x
            obtain ⟨hl2, hP2, hD2, hS2⟩ := hI
            replace hl : lv_has ls 11 [(5, .long p_5), (3, .long p_3), (0, .ref (a h0)), (1, .int x0)] := hl2
            replace hP := hP2
            replace hD := hD2
            replace hS := hS2
            clear hl2 hP2 hD2 hS2
            replace hf := fn_X18_onVector_B175_s hf
            refine W.eq (g2 := F0 m 175 ls [.int p_7]) rfl ?_
            refine lv_istore (lv' := [(7, .int p_7), (5, .long p_5), (3, .long p_3), (0, .ref (a h0)), (1, .int x0)]) hx hb dX18_onVector_175 hl (by decide) rfl (fun ls hl2 => ?_)
            replace hl := hl2
            clear hl2
            refine lv_aload_n hx hb dX18_onVector_177 rfl (lv_at hl 3 rfl) ?_
            refine lv_iconst (v := 1) hx hb dX18_onVector_178 (by decide) ?_
            obtain ⟨g_11, hf⟩ := grd_some hf
            obtain ⟨kg_11, sg_11⟩ := okO_at g_11
            obtain ⟨z_9, r_10, hfc, hf⟩ := cal_some hf
            have hFc := de_free hD hS hA
            refine va_calli (va_runV (As := [.int 1]) (rest := []) ⟨hx, hb, hml, hown, hts⟩ (de_X18_takeAny l dC dI cy a sh n H.size F z_8 h0 1 hfc) (cwV 1 hts gX18_onVector_X18_takeAny rfl rfl rfl (by decide +kernel) ⟨Nat.le_of_ble_eq_true rfl, Nat.le_of_ble_eq_true rfl⟩) ⟨fun a U g mk q => by obtain ⟨q0, q1, qP, qK, qD, qN⟩ := q; exact ⟨q0, q1, qP, va_K.moved (u := U) (U := U.calling g mk a) (Vm.Alike.refl U.vm) qK, qD, qN.same rfl⟩, va_recv hK hP (ci := 18) (q0 := h0) rfl (Wd_ob kg_11 sg_11 (by decide)), fun U hU hW => ⟨rfl, by rw [hU], by rw [hU]; exact hP, va_K.moved hW.alike hK, hD.weaken (fun _ _ _ _ => trivial), hN.warm hW⟩⟩ rfl rfl hl.1 rfl (lv_room (Nat.le_of_ble_eq_true rfl)) dX18_onVector_179 ⟨Nat.le_of_ble_eq_true rfl, Nat.le_of_ble_eq_true rfl⟩) hS (fun q _ h => hFc q h) hFc (fun rr u t H_12 locs ht hvm hw hB hz1 hk1 hS2 => ?_)
            rw [hw]
            clear hw
            obtain ⟨hP1, -, hD1⟩ := hB
            rw [ht] at hP1
            replace hD := hD1.weaken (fun _ _ _ h => hFc _ h)
            replace hP := hP1
            replace hS := hS2
            clear hP1 hD1 hS2 hFc hfc hz1 hk1 hvm ht
            refine lv_istore (lv' := [(8, .int r_10), (7, .int p_7), (5, .long p_5), (3, .long p_3), (0, .ref (a h0)), (1, .int x0)]) hx hb dX18_onVector_182 hl (by decide) rfl (fun ls hl2 => ?_)
            replace hl := hl2
            clear hl2
            refine lv_aload_n hx hb dX18_onVector_184 rfl (lv_at hl 4 rfl) ?_
            obtain ⟨z_13, r_14, hfc, hf⟩ := cal_some hf
            have hFc := de_free hD hS hA
            refine va_calli (va_runV (As := []) (rest := []) ⟨hx, hb, hml, hown, hts⟩ (de_X18_goesOn l dC dI cy a sh n H_12.size F z_9 h0 hfc) (cwV 0 hts gX18_onVector_X18_goesOn rfl rfl rfl (by decide +kernel) ⟨Nat.le_of_ble_eq_true rfl, Nat.le_of_ble_eq_true rfl⟩) ⟨fun a U g mk q => by obtain ⟨q0, q1, qP, qK, qD, qN⟩ := q; exact ⟨q0, q1, qP, va_K.moved (u := U) (U := U.calling g mk a) (Vm.Alike.refl U.vm) qK, qD, qN.same rfl⟩, va_recv hK hP (ci := 18) (q0 := h0) rfl (Wd_ob kg_11 sg_11 (by decide)), fun U hU hW => ⟨rfl, by rw [hU], by rw [hU]; exact hP, va_K.moved hW.alike hK, hD.weaken (fun _ _ _ _ => trivial), hN.warm hW⟩⟩ rfl rfl hl.1 rfl (lv_room (Nat.le_of_ble_eq_true rfl)) dX18_onVector_185 ⟨Nat.le_of_ble_eq_true rfl, Nat.le_of_ble_eq_true rfl⟩) hS (fun q _ h => hFc q h) hFc (fun rr u t H_15 locs ht hvm hw hB hz1 hk1 hS2 => ?_)
            rw [hw]
            clear hw
            obtain ⟨hP1, -, hD1⟩ := hB
            rw [ht] at hP1
            replace hD := hD1.weaken (fun _ _ _ h => hFc _ h)
            replace hP := hP1
            replace hS := hS2
            clear hP1 hD1 hS2 hFc hfc hz1 hk1 hvm ht
            refine de_cut (h := 210) (fun (x : St) => []) (fun x ls H locs => lv_has ls 11 [(8, .int r_10), (7, .int p_7), (5, .long p_5), (3, .long p_3), (0, .ref (a h0)), (1, .int x0)] ∧ va_P (dC, dI) vwCl (Wd cy a sh n x) H ∧ va_D A (Wd cy a sh n x) ∧ va_S A s.heap H locs) (fun x => fn_X18_onVector_B210 F sh n h0 x0 r_10 p_7 p_3 p_5 x) (z8, r8) ?_ (fun B210 => ?_)
            · intro x ls H locs hI hf
              obtain ⟨z_16, ez⟩ : ∃ w, w = x := ⟨_, rfl⟩
              subst ez
              obtain ⟨hl2, hP2, hD2, hS2⟩ := hI
              replace hl : lv_has ls 11 [(8, .int r_10), (7, .int p_7), (5, .long p_5), (3, .long p_3), (0, .ref (a h0)), (1, .int x0)] := hl2
              replace hP := hP2
              replace hD := hD2
              replace hS := hS2
              clear hl2 hP2 hD2 hS2
              replace hf := fn_X18_onVector_B210_s hf
              refine W.eq (g2 := F0 m 210 ls []) rfl ?_
              refine lv_aload_n hx hb dX18_onVector_210 rfl (lv_at hl 4 rfl) ?_
              obtain ⟨z_17, r_18, hfc, hf⟩ := cal_some hf
              have hFc := de_free hD hS hA
              refine va_calli (va_runV (As := []) (rest := []) ⟨hx, hb, hml, hown, hts⟩ (de_X18_goesOn l dC dI cy a sh n H.size F z_16 h0 hfc) (cwV 0 hts gX18_onVector_X18_goesOn rfl rfl rfl (by decide +kernel) ⟨Nat.le_of_ble_eq_true rfl, Nat.le_of_ble_eq_true rfl⟩) ⟨fun a U g mk q => by obtain ⟨q0, q1, qP, qK, qD, qN⟩ := q; exact ⟨q0, q1, qP, va_K.moved (u := U) (U := U.calling g mk a) (Vm.Alike.refl U.vm) qK, qD, qN.same rfl⟩, va_recv hK hP (ci := 18) (q0 := h0) rfl (Wd_ob kg_11 sg_11 (by decide)), fun U hU hW => ⟨rfl, by rw [hU], by rw [hU]; exact hP, va_K.moved hW.alike hK, hD.weaken (fun _ _ _ _ => trivial), hN.warm hW⟩⟩ rfl rfl hl.1 rfl (lv_room (Nat.le_of_ble_eq_true rfl)) dX18_onVector_211 ⟨Nat.le_of_ble_eq_true rfl, Nat.le_of_ble_eq_true rfl⟩) hS (fun q _ h => hFc q h) hFc (fun rr u t H_19 locs ht hvm hw hB hz1 hk1 hS2 => ?_)
              rw [hw]
              clear hw
              obtain ⟨hP1, -, hD1⟩ := hB
              rw [ht] at hP1
              replace hD := hD1.weaken (fun _ _ _ h => hFc _ h)
              replace hP := hP1
              replace hS := hS2
              clear hP1 hD1 hS2 hFc hfc hz1 hk1 hvm ht
              refine lv_if_ne (tgt := 218) hx hb dX18_onVector_214 (by decide) (fun c_20 => ?_) (fun c_20 => ?_)
              · skip
                rw [if_neg c_20] at hf
                refine lv_iload_n hx hb dX18_onVector_218 rfl (lv_at hl 5 rfl) ?_
                refine lv_bipush (v := 53) hx hb dX18_onVector_219 (by decide) ?_
                refine lv_icmp_ne (tgt := 243) hx hb dX18_onVector_221 (by decide) (fun c_21 => ?_) (fun c_21 => ?_)
                · skip
                  rw [if_neg c_21] at hf
                  refine lv_iload_n hx hb dX18_onVector_243 rfl (lv_at hl 5 rfl) ?_
                  refine lv_bipush (v := 56) hx hb dX18_onVector_244 (by decide) ?_
                  refine lv_icmp_ne (tgt := 289) hx hb dX18_onVector_246 (by decide) (fun c_22 => ?_) (fun c_22 => ?_)
                  · skip
                    rw [if_neg c_22] at hf
                    refine lv_iload_n hx hb dX18_onVector_289 rfl (lv_at hl 5 rfl) ?_
                    refine lv_bipush (v := 57) hx hb dX18_onVector_290 (by decide) ?_
                    refine lv_icmp_ne (tgt := 337) hx hb dX18_onVector_292 (by decide) (fun c_23 => ?_) (fun c_23 => ?_)
                    · skip
                      rw [if_neg c_23] at hf
                      refine lv_aload_n hx hb dX18_onVector_337 rfl (lv_at hl 4 rfl) ?_
                      obtain ⟨k_24, ek_24, hf⟩ := lnk_some hf
                      refine va_get (D := (dC, dI)) (ci := 18) (v := .ref (a k_24)) (C := RX18) (T := TX18) (N := 78) hx hb hts iwd_X18_onVector_X18 hown hK hP h0 (Wd_ob kg_11 sg_11 (by decide)) rfl 15 (by decide) (hts _ md_X18_onVector_4) (fun _ h9 => h9) (fl_q rfl ek_24) dX18_onVector_338 ?_
                      refine lv_iload hx hb dX18_onVector_341 (lv_at hl 0 rfl) ?_
                      refine lv_lload_n hx hb dX18_onVector_343 rfl (lv_at hl 3 rfl) ?_
                      obtain ⟨g_27, hf⟩ := grd_some hf
                      obtain ⟨kg_27, sg_27⟩ := okO_at g_27
                      obtain ⟨z_25, r_26, hfc, hf⟩ := cal_some hf
                      have hFc := de_free hD hS hA
                      refine va_calli (va_runV (As := [.int r_10, .long p_3]) (rest := []) ⟨hx, hb, hml, hown, hts⟩ (de_X15_part l dC dI cy a sh n H_19.size F z_17 k_24 r_10 p_3 hfc) (cwV 2 hts gX18_onVector_X15_part rfl rfl rfl (by decide +kernel) ⟨Nat.le_of_ble_eq_true rfl, Nat.le_of_ble_eq_true rfl⟩) ⟨fun a U g mk q => by obtain ⟨q0, q1, qP, qK, qD, qN⟩ := q; exact ⟨q0, q1, qP, va_K.moved (u := U) (U := U.calling g mk a) (Vm.Alike.refl U.vm) qK, qD, qN.same rfl⟩, va_recv hK hP (ci := 15) (q0 := k_24) rfl (Wd_ob kg_27 sg_27 (by decide)), fun U hU hW => ⟨rfl, by rw [hU], by rw [hU]; exact hP, va_K.moved hW.alike hK, hD.weaken (fun _ _ _ _ => trivial), hN.warm hW⟩⟩ rfl rfl hl.1 rfl (lv_room (Nat.le_of_ble_eq_true rfl)) dX18_onVector_344 ⟨Nat.le_of_ble_eq_true rfl, Nat.le_of_ble_eq_true rfl⟩) hS (fun q _ h => hFc q h) hFc (fun rr u t H_28 locs ht hvm hw hB hz1 hk1 hS2 => ?_)
                      rw [hw]
                      clear hw
                      obtain ⟨hP1, -, hD1⟩ := hB
                      rw [ht] at hP1
                      replace hD := hD1.weaken (fun _ _ _ h => hFc _ h)
                      replace hP := hP1
                      replace hS := hS2
                      clear hP1 hD1 hS2 hFc hfc hz1 hk1 hvm ht
                      refine lv_istore (lv' := [(9, .int r_26), (8, .int r_10), (7, .int p_7), (5, .long p_5), (3, .long p_3), (0, .ref (a h0)), (1, .int x0)]) hx hb dX18_onVector_347 hl (by decide) rfl (fun ls hl2 => ?_)
                      replace hl := hl2
                      clear hl2
                      refine lv_iload_n hx hb dX18_onVector_349 rfl (lv_at hl 6 rfl) ?_
                      refine lv_bipush (v := 58) hx hb dX18_onVector_350 (by decide) ?_
                      refine de_cut (h := 371) (fun (x : St × Int32) => [.int x.2]) (fun x ls H locs => lv_has ls 11 [(9, .int r_26), (0, .ref (a h0)), (1, .int x0)] ∧ va_P (dC, dI) vwCl (Wd cy a sh n x.1) H ∧ va_D A (Wd cy a sh n x.1) ∧ va_S A s.heap H locs) (fun x => fn_X18_onVector_B371 F sh n r_26 h0 x0 x.1 x.2) (z8, r8) ?_ (fun B371 => ?_)
                      · intro x ls H locs hI hf
                        obtain ⟨z_30, p_29⟩ := x
                        obtain ⟨hl2, hP2, hD2, hS2⟩ := hI
                        replace hl : lv_has ls 11 [(9, .int r_26), (0, .ref (a h0)), (1, .int x0)] := hl2
                        replace hP := hP2
                        replace hD := hD2
                        replace hS := hS2
                        clear hl2 hP2 hD2 hS2
                        replace hf := fn_X18_onVector_B371_s hf
                        refine W.eq (g2 := F0 m 371 ls [.int p_29]) rfl ?_
                        refine lv_istore (lv' := [(10, .int p_29), (9, .int r_26), (0, .ref (a h0)), (1, .int x0)]) hx hb dX18_onVector_371 hl (by decide) rfl (fun ls hl2 => ?_)
                        replace hl := hl2
                        clear hl2
                        refine lv_iload hx hb dX18_onVector_373 (lv_at hl 1 rfl) ?_
                        refine lv_iconst (v := (-1)) hx hb dX18_onVector_375 (by decide) ?_
                        refine lv_icmp_eq (tgt := 385) hx hb dX18_onVector_376 (by decide) (fun c_31 => ?_) (fun c_31 => ?_)
                        · skip
                          rw [if_pos c_31] at hf
                          refine lv_aload_n hx hb dX18_onVector_385 rfl (lv_at hl 2 rfl) ?_
                          refine lv_iconst (v := 2) hx hb dX18_onVector_386 (by decide) ?_
                          refine lv_ldc2 hx hb hown (hts _ md_X18_onVector_7) dX18_onVector_387 ?_
                          obtain ⟨z_32, _u, hfc, hf⟩ := cal_some hf
                          have hFc := de_free hD hS hA
                          refine va_callv (va_runV (As := [.int 2, .long 2]) (rest := []) ⟨hx, hb, hml, hown, hts⟩ (de_X18_end l dC dI cy a sh n H.size F z_30 h0 2 2 hfc) (cwV 2 hts gX18_onVector_X18_end rfl rfl rfl (by decide +kernel) ⟨Nat.le_of_ble_eq_true rfl, Nat.le_of_ble_eq_true rfl⟩) ⟨fun a U g mk q => by obtain ⟨q0, q1, qP, qK, qD, qN⟩ := q; exact ⟨q0, q1, qP, va_K.moved (u := U) (U := U.calling g mk a) (Vm.Alike.refl U.vm) qK, qD, qN.same rfl⟩, va_recv hK hP (ci := 18) (q0 := h0) rfl (Wd_ob kg_11 sg_11 (by decide)), fun U hU hW => ⟨rfl, by rw [hU], by rw [hU]; exact hP, va_K.moved hW.alike hK, hD.weaken (fun _ _ _ _ => trivial), hN.warm hW⟩⟩ rfl rfl hl.1 rfl (lv_room (Nat.le_of_ble_eq_true rfl)) dX18_onVector_390 ⟨Nat.le_of_ble_eq_true rfl, Nat.le_of_ble_eq_true rfl⟩) hS (fun q _ h => hFc q h) hFc (fun u t H_33 locs ht hvm hw hB hz1 hk1 hS2 => ?_)
                          obtain ⟨hP1, -, hD1⟩ := hB
                          rw [ht] at hP1
                          replace hD := hD1.weaken (fun _ _ _ h => hFc _ h)
                          replace hP := hP1
                          replace hS := hS2
                          clear hP1 hD1 hS2 hFc hfc hz1 hk1 hvm ht
                          refine lv_goto (tgt := 423) hx hb dX18_onVector_393 (by decide) ?_
                          obtain ⟨h8, h9⟩ := ret_some hf
                          rw [h8]
                          exact W.vret hx hb hr (fun t ht hW => ⟨⟨(), rfl, trivial, by rw [ht]; exact hP, va_K.moved hW.alike hK, hD⟩, hS.F ht⟩) hS.2.2 dX18_onVector_423
                        · skip
                          rw [if_neg c_31] at hf
                          refine lv_iload hx hb dX18_onVector_379 (lv_at hl 0 rfl) ?_
                          refine lv_iconst (v := (-1)) hx hb dX18_onVector_381 (by decide) ?_
                          refine lv_icmp_ne (tgt := 396) hx hb dX18_onVector_382 (by decide) (fun c_34 => ?_) (fun c_34 => ?_)
                          · skip
                            rw [if_neg c_34] at hf
                            refine lv_iload_n hx hb dX18_onVector_396 rfl (lv_at hl 3 rfl) ?_
                            refine lv_bipush (v := 58) hx hb dX18_onVector_397 (by decide) ?_
                            refine lv_icmp_ne (tgt := 416) hx hb dX18_onVector_399 (by decide) (fun c_35 => ?_) (fun c_35 => ?_)
                            · skip
                              rw [if_neg c_35] at hf
                              refine lv_aload_n hx hb dX18_onVector_416 rfl (lv_at hl 2 rfl) ?_
                              refine lv_iload hx hb dX18_onVector_417 (lv_at hl 1 rfl) ?_
                              refine lv_iconst (v := 1) hx hb dX18_onVector_419 (by decide) ?_
                              obtain ⟨z_36, _u, hfc, hf⟩ := cal_some hf
                              have hFc := de_free hD hS hA
                              refine va_callv (va_runV (As := [.int r_26, .int 1]) (rest := []) ⟨hx, hb, hml, hown, hts⟩ (de_X18_push l dC dI cy a sh n H.size F z_30 h0 r_26 1 hfc) (cwV 2 hts gX18_onVector_X18_push rfl rfl rfl (by decide +kernel) ⟨Nat.le_of_ble_eq_true rfl, Nat.le_of_ble_eq_true rfl⟩) ⟨fun a U g mk q => by obtain ⟨q0, q1, qP, qK, qD, qN⟩ := q; exact ⟨q0, q1, qP, va_K.moved (u := U) (U := U.calling g mk a) (Vm.Alike.refl U.vm) qK, qD, qN.same rfl⟩, va_recv hK hP (ci := 18) (q0 := h0) rfl (Wd_ob kg_11 sg_11 (by decide)), fun U hU hW => ⟨rfl, by rw [hU], by rw [hU]; exact hP, va_K.moved hW.alike hK, hD.weaken (fun _ _ _ _ => trivial), hN.warm hW⟩⟩ rfl rfl hl.1 rfl (lv_room (Nat.le_of_ble_eq_true rfl)) dX18_onVector_420 ⟨Nat.le_of_ble_eq_true rfl, Nat.le_of_ble_eq_true rfl⟩) hS (fun q _ h => hFc q h) hFc (fun u t H_37 locs ht hvm hw hB hz1 hk1 hS2 => ?_)
                              obtain ⟨hP1, -, hD1⟩ := hB
                              rw [ht] at hP1
                              replace hD := hD1.weaken (fun _ _ _ h => hFc _ h)
                              replace hP := hP1
                              replace hS := hS2
                              clear hP1 hD1 hS2 hFc hfc hz1 hk1 hvm ht
                              obtain ⟨h8, h9⟩ := ret_some hf
                              rw [h8]
                              exact W.vret hx hb hr (fun t ht hW => ⟨⟨(), rfl, trivial, by rw [ht]; exact hP, va_K.moved hW.alike hK, hD⟩, hS.F ht⟩) hS.2.2 dX18_onVector_423
                            · skip
                              rw [if_pos c_35] at hf
                              refine lv_aload_n hx hb dX18_onVector_402 rfl (lv_at hl 2 rfl) ?_
                              obtain ⟨k_38, ek_38, hf⟩ := lnk_some hf
                              refine va_get (D := (dC, dI)) (ci := 18) (v := .ref (a k_38)) (C := RX18) (T := TX18) (N := 78) hx hb hts iwd_X18_onVector_X18 hown hK hP h0 (Wd_ob kg_11 sg_11 (by decide)) rfl 15 (by decide) (hts _ md_X18_onVector_4) (fun _ h9 => h9) (fl_q rfl ek_38) dX18_onVector_403 ?_
                              refine lv_iload hx hb dX18_onVector_406 (lv_at hl 1 rfl) ?_
                              refine lv_iload hx hb dX18_onVector_408 (lv_at hl 0 rfl) ?_
                              obtain ⟨g_40, hf⟩ := grd_some hf
                              obtain ⟨kg_40, sg_40⟩ := okO_at g_40
                              obtain ⟨z_39, _u, hfc, hf⟩ := cal_some hf
                              have hFc := de_free hD hS hA
                              refine va_callv (va_runV (As := [.int r_26, .int p_29]) (rest := []) ⟨hx, hb, hml, hown, hts⟩ (de_X15_swap l dC dI cy a sh n H.size F z_30 k_38 r_26 p_29 hfc) (cwV 2 hts gX18_onVector_X15_swap rfl rfl rfl (by decide +kernel) ⟨Nat.le_of_ble_eq_true rfl, Nat.le_of_ble_eq_true rfl⟩) ⟨fun a U g mk q => by obtain ⟨q0, q1, qP, qK, qD, qN⟩ := q; exact ⟨q0, q1, qP, va_K.moved (u := U) (U := U.calling g mk a) (Vm.Alike.refl U.vm) qK, qD, qN.same rfl⟩, va_recv hK hP (ci := 15) (q0 := k_38) rfl (Wd_ob kg_40 sg_40 (by decide)), fun U hU hW => ⟨rfl, by rw [hU], by rw [hU]; exact hP, va_K.moved hW.alike hK, hD.weaken (fun _ _ _ _ => trivial), hN.warm hW⟩⟩ rfl rfl hl.1 rfl (lv_room (Nat.le_of_ble_eq_true rfl)) dX18_onVector_410 ⟨Nat.le_of_ble_eq_true rfl, Nat.le_of_ble_eq_true rfl⟩) hS (fun q _ h => hFc q h) hFc (fun u t H_41 locs ht hvm hw hB hz1 hk1 hS2 => ?_)
                              obtain ⟨hP1, -, hD1⟩ := hB
                              rw [ht] at hP1
                              replace hD := hD1.weaken (fun _ _ _ h => hFc _ h)
                              replace hP := hP1
                              replace hS := hS2
                              clear hP1 hD1 hS2 hFc hfc hz1 hk1 hvm ht
                              refine lv_goto (tgt := 423) hx hb dX18_onVector_413 (by decide) ?_
                              obtain ⟨h8, h9⟩ := ret_some hf
                              rw [h8]
                              exact W.vret hx hb hr (fun t ht hW => ⟨⟨(), rfl, trivial, by rw [ht]; exact hP, va_K.moved hW.alike hK, hD⟩, hS.F ht⟩) hS.2.2 dX18_onVector_423
                          · skip
                            rw [if_pos c_34] at hf
                            refine lv_aload_n hx hb dX18_onVector_385 rfl (lv_at hl 2 rfl) ?_
                            refine lv_iconst (v := 2) hx hb dX18_onVector_386 (by decide) ?_
                            refine lv_ldc2 hx hb hown (hts _ md_X18_onVector_7) dX18_onVector_387 ?_
                            obtain ⟨z_42, _u, hfc, hf⟩ := cal_some hf
                            have hFc := de_free hD hS hA
                            refine va_callv (va_runV (As := [.int 2, .long 2]) (rest := []) ⟨hx, hb, hml, hown, hts⟩ (de_X18_end l dC dI cy a sh n H.size F z_30 h0 2 2 hfc) (cwV 2 hts gX18_onVector_X18_end rfl rfl rfl (by decide +kernel) ⟨Nat.le_of_ble_eq_true rfl, Nat.le_of_ble_eq_true rfl⟩) ⟨fun a U g mk q => by obtain ⟨q0, q1, qP, qK, qD, qN⟩ := q; exact ⟨q0, q1, qP, va_K.moved (u := U) (U := U.calling g mk a) (Vm.Alike.refl U.vm) qK, qD, qN.same rfl⟩, va_recv hK hP (ci := 18) (q0 := h0) rfl (Wd_ob kg_11 sg_11 (by decide)), fun U hU hW => ⟨rfl, by rw [hU], by rw [hU]; exact hP, va_K.moved hW.alike hK, hD.weaken (fun _ _ _ _ => trivial), hN.warm hW⟩⟩ rfl rfl hl.1 rfl (lv_room (Nat.le_of_ble_eq_true rfl)) dX18_onVector_390 ⟨Nat.le_of_ble_eq_true rfl, Nat.le_of_ble_eq_true rfl⟩) hS (fun q _ h => hFc q h) hFc (fun u t H_43 locs ht hvm hw hB hz1 hk1 hS2 => ?_)
                            obtain ⟨hP1, -, hD1⟩ := hB
                            rw [ht] at hP1
                            replace hD := hD1.weaken (fun _ _ _ h => hFc _ h)
                            replace hP := hP1
                            replace hS := hS2
                            clear hP1 hD1 hS2 hFc hfc hz1 hk1 hvm ht
                            refine lv_goto (tgt := 423) hx hb dX18_onVector_393 (by decide) ?_
                            obtain ⟨h8, h9⟩ := ret_some hf
                            rw [h8]
                            exact W.vret hx hb hr (fun t ht hW => ⟨⟨(), rfl, trivial, by rw [ht]; exact hP, va_K.moved hW.alike hK, hD⟩, hS.F ht⟩) hS.2.2 dX18_onVector_423
                      refine lv_icmp_ne (tgt := 369) hx hb dX18_onVector_352 (by decide) (fun c_44 => ?_) (fun c_44 => ?_)
                      · skip
                        rw [if_neg c_44] at hf
                        refine lv_iload hx hb dX18_onVector_369 (lv_at hl 0 rfl) ?_
                        exact B371 (z_25, r_26) ls H_28 locs ⟨lv_sub hl [0, 5, 6] rfl, hP, hD, hS⟩ hf
                      · skip
                        rw [if_pos c_44] at hf
                        refine lv_aload_n hx hb dX18_onVector_355 rfl (lv_at hl 5 rfl) ?_
                        obtain ⟨k_45, ek_45, hf⟩ := lnk_some hf
                        refine va_get (D := (dC, dI)) (ci := 18) (v := .ref (a k_45)) (C := RX18) (T := TX18) (N := 78) hx hb hts iwd_X18_onVector_X18 hown hK hP h0 (Wd_ob kg_11 sg_11 (by decide)) rfl 15 (by decide) (hts _ md_X18_onVector_4) (fun _ h9 => h9) (fl_q rfl ek_45) dX18_onVector_356 ?_
                        refine lv_iload hx hb dX18_onVector_359 (lv_at hl 1 rfl) ?_
                        refine lv_lload hx hb dX18_onVector_361 (lv_at hl 3 rfl) ?_
                        obtain ⟨g_48, hf⟩ := grd_some hf
                        obtain ⟨kg_48, sg_48⟩ := okO_at g_48
                        obtain ⟨z_46, r_47, hfc, hf⟩ := cal_some hf
                        have hFc := de_free hD hS hA
                        refine va_calli (va_runV (As := [.int r_10, .long p_5]) (rest := []) ⟨hx, hb, hml, hown, hts⟩ (de_X15_part l dC dI cy a sh n H_28.size F z_25 k_45 r_10 p_5 hfc) (cwV 2 hts gX18_onVector_X15_part rfl rfl rfl (by decide +kernel) ⟨Nat.le_of_ble_eq_true rfl, Nat.le_of_ble_eq_true rfl⟩) ⟨fun a U g mk q => by obtain ⟨q0, q1, qP, qK, qD, qN⟩ := q; exact ⟨q0, q1, qP, va_K.moved (u := U) (U := U.calling g mk a) (Vm.Alike.refl U.vm) qK, qD, qN.same rfl⟩, va_recv hK hP (ci := 15) (q0 := k_45) rfl (Wd_ob kg_48 sg_48 (by decide)), fun U hU hW => ⟨rfl, by rw [hU], by rw [hU]; exact hP, va_K.moved hW.alike hK, hD.weaken (fun _ _ _ _ => trivial), hN.warm hW⟩⟩ rfl rfl hl.1 rfl (lv_room (Nat.le_of_ble_eq_true rfl)) dX18_onVector_363 ⟨Nat.le_of_ble_eq_true rfl, Nat.le_of_ble_eq_true rfl⟩) hS (fun q _ h => hFc q h) hFc (fun rr u t H_49 locs ht hvm hw hB hz1 hk1 hS2 => ?_)
                        rw [hw]
                        clear hw
                        obtain ⟨hP1, -, hD1⟩ := hB
                        rw [ht] at hP1
                        replace hD := hD1.weaken (fun _ _ _ h => hFc _ h)
                        replace hP := hP1
                        replace hS := hS2
                        clear hP1 hD1 hS2 hFc hfc hz1 hk1 hvm ht
                        refine lv_goto (tgt := 371) hx hb dX18_onVector_366 (by decide) ?_
                        exact B371 (z_46, r_47) ls H_49 locs ⟨lv_sub hl [0, 5, 6] rfl, hP, hD, hS⟩ hf
                    · skip
                      rw [if_pos c_23] at hf
                      refine lv_aload_n hx hb dX18_onVector_295 rfl (lv_at hl 4 rfl) ?_
                      obtain ⟨k_50, ek_50, hf⟩ := lnk_some hf
                      refine va_get (D := (dC, dI)) (ci := 18) (v := .ref (a k_50)) (C := RX18) (T := TX18) (N := 78) hx hb hts iwd_X18_onVector_X18 hown hK hP h0 (Wd_ob kg_11 sg_11 (by decide)) rfl 15 (by decide) (hts _ md_X18_onVector_4) (fun _ h9 => h9) (fl_q rfl ek_50) dX18_onVector_296 ?_
                      obtain ⟨g_51, hf⟩ := grd_some hf
                      obtain ⟨kg_51, sg_51⟩ := okO_at g_51
                      obtain ⟨k_52, ek_52, hf⟩ := lnk_some hf
                      refine va_getN (D := (dC, dI)) (ci := 15) (v := .ref (a k_52)) (C := RX15) (T := TX15) (N := 6) hx hb hts iwd_X18_onVector_X15 hown hK hP k_50 (Wd_ob kg_51 sg_51 (by decide)) rfl 3 (by decide) (va_Nw.use rfl (NK_f_X18_84 hN)) (fun _ h9 => h9) (fl_q rfl ek_52) dX18_onVector_299 ?_
                      refine lv_iload hx hb dX18_onVector_302 (lv_at hl 0 rfl) ?_
                      obtain ⟨g_53, hf⟩ := grd_some hf
                      obtain ⟨kg_53, sg_53, ig_53⟩ := okA_at g_53
                      refine va_iald hx hb hK hP k_52 1 (Wd_ai kg_53 sg_53) rfl ig_53 dX18_onVector_304 ?_
                      refine lv_iconst (v := (-1)) hx hb dX18_onVector_305 (by decide) ?_
                      refine lv_icmp_ne (tgt := 320) hx hb dX18_onVector_306 (by decide) (fun c_54 => ?_) (fun c_54 => ?_)
                      · skip
                        rw [if_neg c_54] at hf
                        refine lv_aload_n hx hb dX18_onVector_320 rfl (lv_at hl 4 rfl) ?_
                        refine lv_aload_n hx hb dX18_onVector_321 rfl (lv_at hl 4 rfl) ?_
                        obtain ⟨k_55, ek_55, hf⟩ := lnk_some hf
                        refine va_get (D := (dC, dI)) (ci := 18) (v := .ref (a k_55)) (C := RX18) (T := TX18) (N := 78) hx hb hts iwd_X18_onVector_X18 hown hK hP h0 (Wd_ob kg_11 sg_11 (by decide)) rfl 15 (by decide) (hts _ md_X18_onVector_4) (fun _ h9 => h9) (fl_q rfl ek_55) dX18_onVector_322 ?_
                        refine lv_iload hx hb dX18_onVector_325 (lv_at hl 0 rfl) ?_
                        obtain ⟨g_58, hf⟩ := grd_some hf
                        obtain ⟨kg_58, sg_58⟩ := okO_at g_58
                        obtain ⟨z_56, r_57, hfc, hf⟩ := cal_some hf
                        have hFc := de_free hD hS hA
                        refine va_calli (va_runV (As := [.int r_10]) (rest := [.ref (a h0)]) ⟨hx, hb, hml, hown, hts⟩ (de_X15_takeLast l dC dI cy a sh n H_19.size F z_17 k_55 r_10 hfc) (cwV 1 hts gX18_onVector_X15_takeLast rfl rfl rfl (by decide +kernel) ⟨Nat.le_of_ble_eq_true rfl, Nat.le_of_ble_eq_true rfl⟩) ⟨fun a U g mk q => by obtain ⟨q0, q1, qP, qK, qD, qN⟩ := q; exact ⟨q0, q1, qP, va_K.moved (u := U) (U := U.calling g mk a) (Vm.Alike.refl U.vm) qK, qD, qN.same rfl⟩, va_recv hK hP (ci := 15) (q0 := k_55) rfl (Wd_ob kg_58 sg_58 (by decide)), fun U hU hW => ⟨rfl, by rw [hU], by rw [hU]; exact hP, va_K.moved hW.alike hK, hD.weaken (fun _ _ _ _ => trivial), hN.warm hW⟩⟩ rfl rfl hl.1 rfl (lv_room (Nat.le_of_ble_eq_true rfl)) dX18_onVector_327 ⟨Nat.le_of_ble_eq_true rfl, Nat.le_of_ble_eq_true rfl⟩) hS (fun q _ h => hFc q h) hFc (fun rr u t H_59 locs ht hvm hw hB hz1 hk1 hS2 => ?_)
                        rw [hw]
                        clear hw
                        obtain ⟨hP1, -, hD1⟩ := hB
                        rw [ht] at hP1
                        replace hD := hD1.weaken (fun _ _ _ h => hFc _ h)
                        replace hP := hP1
                        replace hS := hS2
                        clear hP1 hD1 hS2 hFc hfc hz1 hk1 hvm ht
                        refine lv_iconst (v := 0) hx hb dX18_onVector_330 (by decide) ?_
                        obtain ⟨z_60, _u, hfc, hf⟩ := cal_some hf
                        have hFc := de_free hD hS hA
                        refine va_callv (va_runV (As := [.int r_57, .int 0]) (rest := []) ⟨hx, hb, hml, hown, hts⟩ (de_X18_push l dC dI cy a sh n H_59.size F z_56 h0 r_57 0 hfc) (cwV 2 hts gX18_onVector_X18_push rfl rfl rfl (by decide +kernel) ⟨Nat.le_of_ble_eq_true rfl, Nat.le_of_ble_eq_true rfl⟩) ⟨fun a U g mk q => by obtain ⟨q0, q1, qP, qK, qD, qN⟩ := q; exact ⟨q0, q1, qP, va_K.moved (u := U) (U := U.calling g mk a) (Vm.Alike.refl U.vm) qK, qD, qN.same rfl⟩, va_recv hK hP (ci := 18) (q0 := h0) rfl (Wd_ob kg_11 sg_11 (by decide)), fun U hU hW => ⟨rfl, by rw [hU], by rw [hU]; exact hP, va_K.moved hW.alike hK, hD.weaken (fun _ _ _ _ => trivial), hN.warm hW⟩⟩ rfl rfl hl.1 rfl (lv_room (Nat.le_of_ble_eq_true rfl)) dX18_onVector_331 ⟨Nat.le_of_ble_eq_true rfl, Nat.le_of_ble_eq_true rfl⟩) hS (fun q _ h => hFc q h) hFc (fun u t H_61 locs ht hvm hw hB hz1 hk1 hS2 => ?_)
                        obtain ⟨hP1, -, hD1⟩ := hB
                        rw [ht] at hP1
                        replace hD := hD1.weaken (fun _ _ _ h => hFc _ h)
                        replace hP := hP1
                        replace hS := hS2
                        clear hP1 hD1 hS2 hFc hfc hz1 hk1 hvm ht
                        refine lv_goto (tgt := 423) hx hb dX18_onVector_334 (by decide) ?_
                        obtain ⟨h8, h9⟩ := ret_some hf
                        rw [h8]
                        exact W.vret hx hb hr (fun t ht hW => ⟨⟨(), rfl, trivial, by rw [ht]; exact hP, va_K.moved hW.alike hK, hD⟩, hS.F ht⟩) hS.2.2 dX18_onVector_423
                      · skip
                        rw [if_pos c_54] at hf
                        refine lv_aload_n hx hb dX18_onVector_309 rfl (lv_at hl 4 rfl) ?_
                        refine lv_iconst (v := 2) hx hb dX18_onVector_310 (by decide) ?_
                        refine lv_ldc2 hx hb hown (hts _ md_X18_onVector_7) dX18_onVector_311 ?_
                        obtain ⟨z_62, _u, hfc, hf⟩ := cal_some hf
                        have hFc := de_free hD hS hA
                        refine va_callv (va_runV (As := [.int 2, .long 2]) (rest := []) ⟨hx, hb, hml, hown, hts⟩ (de_X18_end l dC dI cy a sh n H_19.size F z_17 h0 2 2 hfc) (cwV 2 hts gX18_onVector_X18_end rfl rfl rfl (by decide +kernel) ⟨Nat.le_of_ble_eq_true rfl, Nat.le_of_ble_eq_true rfl⟩) ⟨fun a U g mk q => by obtain ⟨q0, q1, qP, qK, qD, qN⟩ := q; exact ⟨q0, q1, qP, va_K.moved (u := U) (U := U.calling g mk a) (Vm.Alike.refl U.vm) qK, qD, qN.same rfl⟩, va_recv hK hP (ci := 18) (q0 := h0) rfl (Wd_ob kg_11 sg_11 (by decide)), fun U hU hW => ⟨rfl, by rw [hU], by rw [hU]; exact hP, va_K.moved hW.alike hK, hD.weaken (fun _ _ _ _ => trivial), hN.warm hW⟩⟩ rfl rfl hl.1 rfl (lv_room (Nat.le_of_ble_eq_true rfl)) dX18_onVector_314 ⟨Nat.le_of_ble_eq_true rfl, Nat.le_of_ble_eq_true rfl⟩) hS (fun q _ h => hFc q h) hFc (fun u t H_63 locs ht hvm hw hB hz1 hk1 hS2 => ?_)
                        obtain ⟨hP1, -, hD1⟩ := hB
                        rw [ht] at hP1
                        replace hD := hD1.weaken (fun _ _ _ h => hFc _ h)
                        replace hP := hP1
                        replace hS := hS2
                        clear hP1 hD1 hS2 hFc hfc hz1 hk1 hvm ht
                        refine lv_goto (tgt := 423) hx hb dX18_onVector_317 (by decide) ?_
                        obtain ⟨h8, h9⟩ := ret_some hf
                        rw [h8]
                        exact W.vret hx hb hr (fun t ht hW => ⟨⟨(), rfl, trivial, by rw [ht]; exact hP, va_K.moved hW.alike hK, hD⟩, hS.F ht⟩) hS.2.2 dX18_onVector_423
                  · skip
                    rw [if_pos c_22] at hf
                    refine lv_aload_n hx hb dX18_onVector_249 rfl (lv_at hl 4 rfl) ?_
                    obtain ⟨k_64, ek_64, hf⟩ := lnk_some hf
                    refine va_get (D := (dC, dI)) (ci := 18) (v := .ref (a k_64)) (C := RX18) (T := TX18) (N := 78) hx hb hts iwd_X18_onVector_X18 hown hK hP h0 (Wd_ob kg_11 sg_11 (by decide)) rfl 15 (by decide) (hts _ md_X18_onVector_4) (fun _ h9 => h9) (fl_q rfl ek_64) dX18_onVector_250 ?_
                    refine lv_iload hx hb dX18_onVector_253 (lv_at hl 0 rfl) ?_
                    obtain ⟨g_67, hf⟩ := grd_some hf
                    obtain ⟨kg_67, sg_67⟩ := okO_at g_67
                    obtain ⟨z_65, r_66, hfc, hf⟩ := cal_some hf
                    have hFc := de_free hD hS hA
                    refine va_calli (va_runV (As := [.int r_10]) (rest := []) ⟨hx, hb, hml, hown, hts⟩ (de_X15_count l dC dI cy a sh n H_19.size F z_17 k_64 r_10 hfc) (cwV 1 hts gX18_onVector_X15_count rfl rfl rfl (by decide +kernel) ⟨Nat.le_of_ble_eq_true rfl, Nat.le_of_ble_eq_true rfl⟩) ⟨fun a U g mk q => by obtain ⟨q0, q1, qP, qK, qD, qN⟩ := q; exact ⟨q0, q1, qP, va_K.moved (u := U) (U := U.calling g mk a) (Vm.Alike.refl U.vm) qK, qD, qN.same rfl⟩, va_recv hK hP (ci := 15) (q0 := k_64) rfl (Wd_ob kg_67 sg_67 (by decide)), fun U hU hW => ⟨rfl, by rw [hU], by rw [hU]; exact hP, va_K.moved hW.alike hK, hD.weaken (fun _ _ _ _ => trivial), hN.warm hW⟩⟩ rfl rfl hl.1 rfl (lv_room (Nat.le_of_ble_eq_true rfl)) dX18_onVector_255 ⟨Nat.le_of_ble_eq_true rfl, Nat.le_of_ble_eq_true rfl⟩) hS (fun q _ h => hFc q h) hFc (fun rr u t H_68 locs ht hvm hw hB hz1 hk1 hS2 => ?_)
                    rw [hw]
                    clear hw
                    obtain ⟨hP1, -, hD1⟩ := hB
                    rw [ht] at hP1
                    replace hD := hD1.weaken (fun _ _ _ h => hFc _ h)
                    replace hP := hP1
                    replace hS := hS2
                    clear hP1 hD1 hS2 hFc hfc hz1 hk1 hvm ht
                    refine lv_sipush (v := 256) hx hb dX18_onVector_258 (by decide) ?_
                    refine lv_icmp_ne (tgt := 275) hx hb dX18_onVector_261 (by decide) (fun c_69 => ?_) (fun c_69 => ?_)
                    · skip
                      rw [if_neg c_69] at hf
                      refine lv_aload_n hx hb dX18_onVector_275 rfl (lv_at hl 4 rfl) ?_
                      obtain ⟨k_70, ek_70, hf⟩ := lnk_some hf
                      refine va_get (D := (dC, dI)) (ci := 18) (v := .ref (a k_70)) (C := RX18) (T := TX18) (N := 78) hx hb hts iwd_X18_onVector_X18 hown hK hP h0 (Wd_ob kg_11 sg_11 (by decide)) rfl 15 (by decide) (hts _ md_X18_onVector_4) (fun _ h9 => h9) (fl_q rfl ek_70) dX18_onVector_276 ?_
                      refine lv_iload hx hb dX18_onVector_279 (lv_at hl 0 rfl) ?_
                      refine lv_iload hx hb dX18_onVector_281 (lv_at hl 1 rfl) ?_
                      obtain ⟨g_72, hf⟩ := grd_some hf
                      obtain ⟨kg_72, sg_72⟩ := okO_at g_72
                      obtain ⟨z_71, _u, hfc, hf⟩ := cal_some hf
                      have hFc := de_free hD hS hA
                      refine va_callv (va_runV (As := [.int r_10, .int p_7]) (rest := []) ⟨hx, hb, hml, hown, hts⟩ (de_X15_add l dC dI cy a sh n H_68.size F z_65 k_70 r_10 p_7 hfc) (cwV 2 hts gX18_onVector_X15_add rfl rfl rfl (by decide +kernel) ⟨Nat.le_of_ble_eq_true rfl, Nat.le_of_ble_eq_true rfl⟩) ⟨fun a U g mk q => by obtain ⟨q0, q1, qP, qK, qD, qN⟩ := q; exact ⟨q0, q1, qP, va_K.moved (u := U) (U := U.calling g mk a) (Vm.Alike.refl U.vm) qK, qD, qN.same rfl⟩, va_recv hK hP (ci := 15) (q0 := k_70) rfl (Wd_ob kg_72 sg_72 (by decide)), fun U hU hW => ⟨rfl, by rw [hU], by rw [hU]; exact hP, va_K.moved hW.alike hK, hD.weaken (fun _ _ _ _ => trivial), hN.warm hW⟩⟩ rfl rfl hl.1 rfl (lv_room (Nat.le_of_ble_eq_true rfl)) dX18_onVector_283 ⟨Nat.le_of_ble_eq_true rfl, Nat.le_of_ble_eq_true rfl⟩) hS (fun q _ h => hFc q h) hFc (fun u t H_73 locs ht hvm hw hB hz1 hk1 hS2 => ?_)
                      obtain ⟨hP1, -, hD1⟩ := hB
                      rw [ht] at hP1
                      replace hD := hD1.weaken (fun _ _ _ h => hFc _ h)
                      replace hP := hP1
                      replace hS := hS2
                      clear hP1 hD1 hS2 hFc hfc hz1 hk1 hvm ht
                      refine lv_goto (tgt := 423) hx hb dX18_onVector_286 (by decide) ?_
                      obtain ⟨h8, h9⟩ := ret_some hf
                      rw [h8]
                      exact W.vret hx hb hr (fun t ht hW => ⟨⟨(), rfl, trivial, by rw [ht]; exact hP, va_K.moved hW.alike hK, hD⟩, hS.F ht⟩) hS.2.2 dX18_onVector_423
                    · skip
                      rw [if_pos c_69] at hf
                      refine lv_aload_n hx hb dX18_onVector_264 rfl (lv_at hl 4 rfl) ?_
                      refine lv_iconst (v := 2) hx hb dX18_onVector_265 (by decide) ?_
                      refine lv_ldc2 hx hb hown (hts _ md_X18_onVector_6) dX18_onVector_266 ?_
                      obtain ⟨z_74, _u, hfc, hf⟩ := cal_some hf
                      have hFc := de_free hD hS hA
                      refine va_callv (va_runV (As := [.int 2, .long 4]) (rest := []) ⟨hx, hb, hml, hown, hts⟩ (de_X18_end l dC dI cy a sh n H_68.size F z_65 h0 2 4 hfc) (cwV 2 hts gX18_onVector_X18_end rfl rfl rfl (by decide +kernel) ⟨Nat.le_of_ble_eq_true rfl, Nat.le_of_ble_eq_true rfl⟩) ⟨fun a U g mk q => by obtain ⟨q0, q1, qP, qK, qD, qN⟩ := q; exact ⟨q0, q1, qP, va_K.moved (u := U) (U := U.calling g mk a) (Vm.Alike.refl U.vm) qK, qD, qN.same rfl⟩, va_recv hK hP (ci := 18) (q0 := h0) rfl (Wd_ob kg_11 sg_11 (by decide)), fun U hU hW => ⟨rfl, by rw [hU], by rw [hU]; exact hP, va_K.moved hW.alike hK, hD.weaken (fun _ _ _ _ => trivial), hN.warm hW⟩⟩ rfl rfl hl.1 rfl (lv_room (Nat.le_of_ble_eq_true rfl)) dX18_onVector_269 ⟨Nat.le_of_ble_eq_true rfl, Nat.le_of_ble_eq_true rfl⟩) hS (fun q _ h => hFc q h) hFc (fun u t H_75 locs ht hvm hw hB hz1 hk1 hS2 => ?_)
                      obtain ⟨hP1, -, hD1⟩ := hB
                      rw [ht] at hP1
                      replace hD := hD1.weaken (fun _ _ _ h => hFc _ h)
                      replace hP := hP1
                      replace hS := hS2
                      clear hP1 hD1 hS2 hFc hfc hz1 hk1 hvm ht
                      refine lv_goto (tgt := 423) hx hb dX18_onVector_272 (by decide) ?_
                      obtain ⟨h8, h9⟩ := ret_some hf
                      rw [h8]
                      exact W.vret hx hb hr (fun t ht hW => ⟨⟨(), rfl, trivial, by rw [ht]; exact hP, va_K.moved hW.alike hK, hD⟩, hS.F ht⟩) hS.2.2 dX18_onVector_423
                · skip
                  rw [if_pos c_21] at hf
                  refine lv_aload_n hx hb dX18_onVector_224 rfl (lv_at hl 4 rfl) ?_
                  refine lv_iconst (v := 3) hx hb dX18_onVector_225 (by decide) ?_
                  refine lv_lconst (v := 0) hx hb dX18_onVector_226 (by decide) ?_
                  refine lv_aload_n hx hb dX18_onVector_227 rfl (lv_at hl 4 rfl) ?_
                  obtain ⟨k_76, ek_76, hf⟩ := lnk_some hf
                  refine va_get (D := (dC, dI)) (ci := 18) (v := .ref (a k_76)) (C := RX18) (T := TX18) (N := 78) hx hb hts iwd_X18_onVector_X18 hown hK hP h0 (Wd_ob kg_11 sg_11 (by decide)) rfl 15 (by decide) (hts _ md_X18_onVector_4) (fun _ h9 => h9) (fl_q rfl ek_76) dX18_onVector_228 ?_
                  refine lv_iload hx hb dX18_onVector_231 (lv_at hl 0 rfl) ?_
                  obtain ⟨g_79, hf⟩ := grd_some hf
                  obtain ⟨kg_79, sg_79⟩ := okO_at g_79
                  obtain ⟨z_77, r_78, hfc, hf⟩ := cal_some hf
                  have hFc := de_free hD hS hA
                  refine va_calli (va_runV (As := [.int r_10]) (rest := [.long 0, .int 3, .ref (a h0)]) ⟨hx, hb, hml, hown, hts⟩ (de_X15_count l dC dI cy a sh n H_19.size F z_17 k_76 r_10 hfc) (cwV 1 hts gX18_onVector_X15_count rfl rfl rfl (by decide +kernel) ⟨Nat.le_of_ble_eq_true rfl, Nat.le_of_ble_eq_true rfl⟩) ⟨fun a U g mk q => by obtain ⟨q0, q1, qP, qK, qD, qN⟩ := q; exact ⟨q0, q1, qP, va_K.moved (u := U) (U := U.calling g mk a) (Vm.Alike.refl U.vm) qK, qD, qN.same rfl⟩, va_recv hK hP (ci := 15) (q0 := k_76) rfl (Wd_ob kg_79 sg_79 (by decide)), fun U hU hW => ⟨rfl, by rw [hU], by rw [hU]; exact hP, va_K.moved hW.alike hK, hD.weaken (fun _ _ _ _ => trivial), hN.warm hW⟩⟩ rfl rfl hl.1 rfl (lv_room (Nat.le_of_ble_eq_true rfl)) dX18_onVector_233 ⟨Nat.le_of_ble_eq_true rfl, Nat.le_of_ble_eq_true rfl⟩) hS (fun q _ h => hFc q h) hFc (fun rr u t H_80 locs ht hvm hw hB hz1 hk1 hS2 => ?_)
                  rw [hw]
                  clear hw
                  obtain ⟨hP1, -, hD1⟩ := hB
                  rw [ht] at hP1
                  replace hD := hD1.weaken (fun _ _ _ h => hFc _ h)
                  replace hP := hP1
                  replace hS := hS2
                  clear hP1 hD1 hS2 hFc hfc hz1 hk1 hvm ht
                  refine lv_i2l (v := (r_78 : Int32).toInt64) hx hb dX18_onVector_236 rfl ?_
                  obtain ⟨z_81, _u, hfc, hf⟩ := cal_some hf
                  have hFc := de_free hD hS hA
                  refine va_callv (va_runV (As := [.int 3, .long 0, .long ((r_78 : Int32).toInt64)]) (rest := []) ⟨hx, hb, hml, hown, hts⟩ (de_X18_make l dC dI cy a sh n H_80.size F z_77 h0 3 0 ((r_78 : Int32).toInt64) hfc) (cwV 3 hts gX18_onVector_X18_make rfl rfl rfl (by decide +kernel) ⟨Nat.le_of_ble_eq_true rfl, Nat.le_of_ble_eq_true rfl⟩) ⟨fun a U g mk q => by obtain ⟨q0, q1, qP, qK, qD, qN⟩ := q; exact ⟨q0, q1, qP, va_K.moved (u := U) (U := U.calling g mk a) (Vm.Alike.refl U.vm) qK, qD, qN.same rfl⟩, va_recv hK hP (ci := 18) (q0 := h0) rfl (Wd_ob kg_11 sg_11 (by decide)), fun U hU hW => ⟨rfl, by rw [hU], by rw [hU]; exact hP, va_K.moved hW.alike hK, hD.weaken (fun _ _ _ _ => trivial), hN.warm hW⟩⟩ rfl rfl hl.1 rfl (lv_room (Nat.le_of_ble_eq_true rfl)) dX18_onVector_237 ⟨Nat.le_of_ble_eq_true rfl, Nat.le_of_ble_eq_true rfl⟩) hS (fun q _ h => hFc q h) hFc (fun u t H_82 locs ht hvm hw hB hz1 hk1 hS2 => ?_)
                  obtain ⟨hP1, -, hD1⟩ := hB
                  rw [ht] at hP1
                  replace hD := hD1.weaken (fun _ _ _ h => hFc _ h)
                  replace hP := hP1
                  replace hS := hS2
                  clear hP1 hD1 hS2 hFc hfc hz1 hk1 hvm ht
                  refine lv_goto (tgt := 423) hx hb dX18_onVector_240 (by decide) ?_
                  obtain ⟨h8, h9⟩ := ret_some hf
                  rw [h8]
                  exact W.vret hx hb hr (fun t ht hW => ⟨⟨(), rfl, trivial, by rw [ht]; exact hP, va_K.moved hW.alike hK, hD⟩, hS.F ht⟩) hS.2.2 dX18_onVector_423
              · skip
                rw [if_pos c_20] at hf
                obtain ⟨h8, h9⟩ := ret_some hf
                rw [h8]
                exact W.vret hx hb hr (fun t ht hW => ⟨⟨(), rfl, trivial, by rw [ht]; exact hP, va_K.moved hW.alike hK, hD⟩, hS.F ht⟩) hS.2.2 dX18_onVector_217
            refine lv_if_eq (tgt := 210) hx hb dX18_onVector_188 (by decide) (fun c_83 => ?_) (fun c_83 => ?_)
            · skip
              rw [if_pos c_83] at hf
              exact B210 (z_13) ls H_15 locs ⟨lv_sub hl [0, 1, 2, 3, 4, 5] rfl, hP, hD, hS⟩ hf
            · skip
              rw [if_neg c_83] at hf
              refine lv_aload_n hx hb dX18_onVector_191 rfl (lv_at hl 4 rfl) ?_
              obtain ⟨k_84, ek_84, hf⟩ := lnk_some hf
              refine va_get (D := (dC, dI)) (ci := 18) (v := .ref (a k_84)) (C := RX18) (T := TX18) (N := 78) hx hb hts iwd_X18_onVector_X18 hown hK hP h0 (Wd_ob kg_11 sg_11 (by decide)) rfl 15 (by decide) (hts _ md_X18_onVector_4) (fun _ h9 => h9) (fl_q rfl ek_84) dX18_onVector_192 ?_
              obtain ⟨g_85, hf⟩ := grd_some hf
              obtain ⟨kg_85, sg_85⟩ := okO_at g_85
              obtain ⟨k_86, ek_86, hf⟩ := lnk_some hf
              refine va_getN (D := (dC, dI)) (ci := 15) (v := .ref (a k_86)) (C := RX15) (T := TX15) (N := 6) hx hb hts iwd_X18_onVector_X15 hown hK hP k_84 (Wd_ob kg_85 sg_85 (by decide)) rfl 0 (by decide) (va_Nw.use rfl (NK_f_X18_71 hN)) (fun _ h9 => h9) (fl_q rfl ek_86) dX18_onVector_195 ?_
              refine lv_iload hx hb dX18_onVector_198 (lv_at hl 0 rfl) ?_
              obtain ⟨g_87, hf⟩ := grd_some hf
              obtain ⟨kg_87, sg_87, ig_87⟩ := okA_at g_87
              refine va_bald hx hb hK hP k_86 0 (Wd_ab kg_87 sg_87) rfl ig_87 dX18_onVector_200 ?_
              refine lv_bipush (v := 7) hx hb dX18_onVector_201 (by decide) ?_
              refine lv_icmp_eq (tgt := 210) hx hb dX18_onVector_203 (by decide) (fun c_88 => ?_) (fun c_88 => ?_)
              · skip
                rw [if_pos c_88] at hf
                exact B210 (z_13) ls H_15 locs ⟨lv_sub hl [0, 1, 2, 3, 4, 5] rfl, hP, hD, hS⟩ hf
              · skip
                rw [if_neg c_88] at hf
                refine lv_aload_n hx hb dX18_onVector_206 rfl (lv_at hl 4 rfl) ?_
                obtain ⟨z_89, _u, hfc, hf⟩ := cal_some hf
                have hFc := de_free hD hS hA
                refine va_callv (va_runV (As := []) (rest := []) ⟨hx, hb, hml, hown, hts⟩ (de_X18_slip l dC dI cy a sh n H_15.size F z_13 h0 hfc) (cwV 0 hts gX18_onVector_X18_slip rfl rfl rfl (by decide +kernel) ⟨Nat.le_of_ble_eq_true rfl, Nat.le_of_ble_eq_true rfl⟩) ⟨fun a U g mk q => by obtain ⟨q0, q1, qP, qK, qD, qN⟩ := q; exact ⟨q0, q1, qP, va_K.moved (u := U) (U := U.calling g mk a) (Vm.Alike.refl U.vm) qK, qD, qN.same rfl⟩, va_recv hK hP (ci := 18) (q0 := h0) rfl (Wd_ob kg_11 sg_11 (by decide)), fun U hU hW => ⟨rfl, by rw [hU], by rw [hU]; exact hP, va_K.moved hW.alike hK, hD.weaken (fun _ _ _ _ => trivial), hN.warm hW⟩⟩ rfl rfl hl.1 rfl (lv_room (Nat.le_of_ble_eq_true rfl)) dX18_onVector_207 ⟨Nat.le_of_ble_eq_true rfl, Nat.le_of_ble_eq_true rfl⟩) hS (fun q _ h => hFc q h) hFc (fun u t H_90 locs ht hvm hw hB hz1 hk1 hS2 => ?_)
                obtain ⟨hP1, -, hD1⟩ := hB
                rw [ht] at hP1
                replace hD := hD1.weaken (fun _ _ _ h => hFc _ h)
                replace hP := hP1
                replace hS := hS2
                clear hP1 hD1 hS2 hFc hfc hz1 hk1 hvm ht
                exact B210 (z_89) ls H_90 locs ⟨lv_sub hl [0, 1, 2, 3, 4, 5] rfl, hP, hD, hS⟩ hf
          refine lv_icmp_ne (tgt := 174) hx hb dX18_onVector_163 (by decide) (fun c_91 => ?_) (fun c_91 => ?_)
          · skip
            rw [if_neg c_91] at hf
            refine lv_iconst (v := 0) hx hb dX18_onVector_174 (by decide) ?_
            exact B175 (z_6, 0) ls H locs ⟨lv_sub hl [0, 1, 2, 3] rfl, hP, hD, hS⟩ hf
          · skip
            rw [if_pos c_91] at hf
            refine lv_aload_n hx hb dX18_onVector_166 rfl (lv_at hl 2 rfl) ?_
            refine lv_iconst (v := 0) hx hb dX18_onVector_167 (by decide) ?_
            obtain ⟨g_94, hf⟩ := grd_some hf
            obtain ⟨kg_94, sg_94⟩ := okO_at g_94
            obtain ⟨z_92, r_93, hfc, hf⟩ := cal_some hf
            have hFc := de_free hD hS hA
            refine va_calli (va_runV (As := [.int 0]) (rest := []) ⟨hx, hb, hml, hown, hts⟩ (de_X18_takeAny l dC dI cy a sh n H.size F z_6 h0 0 hfc) (cwV 1 hts gX18_onVector_X18_takeAny rfl rfl rfl (by decide +kernel) ⟨Nat.le_of_ble_eq_true rfl, Nat.le_of_ble_eq_true rfl⟩) ⟨fun a U g mk q => by obtain ⟨q0, q1, qP, qK, qD, qN⟩ := q; exact ⟨q0, q1, qP, va_K.moved (u := U) (U := U.calling g mk a) (Vm.Alike.refl U.vm) qK, qD, qN.same rfl⟩, va_recv hK hP (ci := 18) (q0 := h0) rfl (Wd_ob kg_94 sg_94 (by decide)), fun U hU hW => ⟨rfl, by rw [hU], by rw [hU]; exact hP, va_K.moved hW.alike hK, hD.weaken (fun _ _ _ _ => trivial), hN.warm hW⟩⟩ rfl rfl hl.1 rfl (lv_room (Nat.le_of_ble_eq_true rfl)) dX18_onVector_168 ⟨Nat.le_of_ble_eq_true rfl, Nat.le_of_ble_eq_true rfl⟩) hS (fun q _ h => hFc q h) hFc (fun rr u t H_95 locs ht hvm hw hB hz1 hk1 hS2 => ?_)
            rw [hw]
            clear hw
            obtain ⟨hP1, -, hD1⟩ := hB
            rw [ht] at hP1
            replace hD := hD1.weaken (fun _ _ _ h => hFc _ h)
            replace hP := hP1
            replace hS := hS2
            clear hP1 hD1 hS2 hFc hfc hz1 hk1 hvm ht
            refine lv_goto (tgt := 175) hx hb dX18_onVector_171 (by decide) ?_
            exact B175 (z_92, r_93) ls H_95 locs ⟨lv_sub hl [0, 1, 2, 3] rfl, hP, hD, hS⟩ hf
        refine lv_icmp_ne (tgt := 157) hx hb dX18_onVector_147 (by decide) (fun c_96 => ?_) (fun c_96 => ?_)
        · skip
          rw [if_neg c_96] at hf
          refine lv_lconst (v := 0) hx hb dX18_onVector_157 (by decide) ?_
          exact B158 (z_4, 0) ls H locs ⟨lv_sub hl [0, 1, 2] rfl, hP, hD, hS⟩ hf
        · skip
          rw [if_pos c_96] at hf
          refine lv_aload_n hx hb dX18_onVector_150 rfl (lv_at hl 1 rfl) ?_
          obtain ⟨g_99, hf⟩ := grd_some hf
          obtain ⟨kg_99, sg_99⟩ := okO_at g_99
          obtain ⟨z_97, r_98, hfc, hf⟩ := cal_some hf
          have hFc := de_free hD hS hA
          refine va_calll (va_runV (As := []) (rest := []) ⟨hx, hb, hml, hown, hts⟩ (de_X18_takeLong l dC dI cy a sh n H.size F z_4 h0 hfc) (cwV 0 hts gX18_onVector_X18_takeLong rfl rfl rfl (by decide +kernel) ⟨Nat.le_of_ble_eq_true rfl, Nat.le_of_ble_eq_true rfl⟩) ⟨fun a U g mk q => by obtain ⟨q0, q1, qP, qK, qD, qN⟩ := q; exact ⟨q0, q1, qP, va_K.moved (u := U) (U := U.calling g mk a) (Vm.Alike.refl U.vm) qK, qD, qN.same rfl⟩, va_recv hK hP (ci := 18) (q0 := h0) rfl (Wd_ob kg_99 sg_99 (by decide)), fun U hU hW => ⟨rfl, by rw [hU], by rw [hU]; exact hP, va_K.moved hW.alike hK, hD.weaken (fun _ _ _ _ => trivial), hN.warm hW⟩⟩ rfl rfl hl.1 rfl (lv_room (Nat.le_of_ble_eq_true rfl)) dX18_onVector_151 ⟨Nat.le_of_ble_eq_true rfl, Nat.le_of_ble_eq_true rfl⟩) hS (fun q _ h => hFc q h) hFc (fun rr u t H_100 locs ht hvm hw hB hz1 hk1 hS2 => ?_)
          rw [hw]
          clear hw
          obtain ⟨hP1, -, hD1⟩ := hB
          rw [ht] at hP1
          replace hD := hD1.weaken (fun _ _ _ h => hFc _ h)
          replace hP := hP1
          replace hS := hS2
          clear hP1 hD1 hS2 hFc hfc hz1 hk1 hvm ht
          refine lv_goto (tgt := 158) hx hb dX18_onVector_154 (by decide) ?_
          exact B158 (z_97, r_98) ls H_100 locs ⟨lv_sub hl [0, 1, 2] rfl, hP, hD, hS⟩ hf
      refine de_cut (h := 135) (fun (x : St) => []) (fun x ls H locs => lv_has ls 11 [(0, .ref (a h0)), (1, .int x0)] ∧ va_P (dC, dI) vwCl (Wd cy a sh n x) H ∧ va_D A (Wd cy a sh n x) ∧ va_S A s.heap H locs) (fun x => fn_X18_onVector_B135 F sh n h0 x0 x) (z8, r8) ?_ (fun B135 => ?_)
      · intro x ls H locs hI hf
        obtain ⟨z_101, ez⟩ : ∃ w, w = x := ⟨_, rfl⟩
        subst ez
        obtain ⟨hl2, hP2, hD2, hS2⟩ := hI
        replace hl : lv_has ls 11 [(0, .ref (a h0)), (1, .int x0)] := hl2
        replace hP := hP2
        replace hD := hD2
        replace hS := hS2
        clear hl2 hP2 hD2 hS2
        replace hf := fn_X18_onVector_B135_s hf
        refine W.eq (g2 := F0 m 135 ls []) rfl ?_
        refine lv_aload_n hx hb dX18_onVector_135 rfl (lv_at hl 0 rfl) ?_
        obtain ⟨g_104, hf⟩ := grd_some hf
        obtain ⟨kg_104, sg_104⟩ := okO_at g_104
        obtain ⟨z_102, r_103, hfc, hf⟩ := cal_some hf
        have hFc := de_free hD hS hA
        refine va_calll (va_runV (As := []) (rest := []) ⟨hx, hb, hml, hown, hts⟩ (de_X18_takeLong l dC dI cy a sh n H.size F z_101 h0 hfc) (cwV 0 hts gX18_onVector_X18_takeLong rfl rfl rfl (by decide +kernel) ⟨Nat.le_of_ble_eq_true rfl, Nat.le_of_ble_eq_true rfl⟩) ⟨fun a U g mk q => by obtain ⟨q0, q1, qP, qK, qD, qN⟩ := q; exact ⟨q0, q1, qP, va_K.moved (u := U) (U := U.calling g mk a) (Vm.Alike.refl U.vm) qK, qD, qN.same rfl⟩, va_recv hK hP (ci := 18) (q0 := h0) rfl (Wd_ob kg_104 sg_104 (by decide)), fun U hU hW => ⟨rfl, by rw [hU], by rw [hU]; exact hP, va_K.moved hW.alike hK, hD.weaken (fun _ _ _ _ => trivial), hN.warm hW⟩⟩ rfl rfl hl.1 rfl (lv_room (Nat.le_of_ble_eq_true rfl)) dX18_onVector_136 ⟨Nat.le_of_ble_eq_true rfl, Nat.le_of_ble_eq_true rfl⟩) hS (fun q _ h => hFc q h) hFc (fun rr u t H_105 locs ht hvm hw hB hz1 hk1 hS2 => ?_)
        rw [hw]
        clear hw
        obtain ⟨hP1, -, hD1⟩ := hB
        rw [ht] at hP1
        replace hD := hD1.weaken (fun _ _ _ h => hFc _ h)
        replace hP := hP1
        replace hS := hS2
        clear hP1 hD1 hS2 hFc hfc hz1 hk1 hvm ht
        refine lv_goto (tgt := 143) hx hb dX18_onVector_139 (by decide) ?_
        exact B143 (z_102, r_103) ls H_105 locs ⟨lv_sub hl [0, 1] rfl, hP, hD, hS⟩ hf
      refine lv_icmp_eq (tgt := 135) hx hb dX18_onVector_120 (by decide) (fun c_106 => ?_) (fun c_106 => ?_)
      · skip
        rw [if_pos c_106] at hf
        exact B135 (z) ls H locs ⟨lv_sub hl [0, 1] rfl, hP, hD, hS⟩ hf
      · skip
        rw [if_neg c_106] at hf
        refine lv_iload_n hx hb dX18_onVector_123 rfl (lv_at hl 1 rfl) ?_
        refine lv_bipush (v := 54) hx hb dX18_onVector_124 (by decide) ?_
        refine lv_icmp_eq (tgt := 135) hx hb dX18_onVector_126 (by decide) (fun c_107 => ?_) (fun c_107 => ?_)
        · skip
          rw [if_pos c_107] at hf
          exact B135 (z) ls H locs ⟨lv_sub hl [0, 1] rfl, hP, hD, hS⟩ hf
        · skip
          rw [if_neg c_107] at hf
          refine lv_iload_n hx hb dX18_onVector_129 rfl (lv_at hl 1 rfl) ?_
          refine lv_bipush (v := 55) hx hb dX18_onVector_130 (by decide) ?_
          refine lv_icmp_ne (tgt := 142) hx hb dX18_onVector_132 (by decide) (fun c_108 => ?_) (fun c_108 => ?_)
          · skip
            rw [if_neg c_108] at hf
            refine lv_lconst (v := 0) hx hb dX18_onVector_142 (by decide) ?_
            exact B143 (z, 0) ls H locs ⟨lv_sub hl [0, 1] rfl, hP, hD, hS⟩ hf
          · skip
            rw [if_pos c_108] at hf
            exact B135 (z) ls H locs ⟨lv_sub hl [0, 1] rfl, hP, hD, hS⟩ hf
    · skip
      rw [if_pos c_2] at hf
      refine lv_aload_n hx hb dX18_onVector_112 rfl (lv_at hl 0 rfl) ?_
      obtain ⟨g_110, hf⟩ := grd_some hf
      obtain ⟨kg_110, sg_110⟩ := okO_at g_110
      obtain ⟨z_109, _u, hfc, hf⟩ := cal_some hf
      have hFc := de_free hD hS hA
      refine va_callv (va_runV (As := []) (rest := []) ⟨hx, hb, hml, hown, hts⟩ (de_X18_digest l dC dI cy a sh n H.size F sk z h0 hfc) (cwV 0 hts gX18_onVector_X18_digest rfl rfl rfl (by decide +kernel) ⟨Nat.le_of_ble_eq_true rfl, Nat.le_of_ble_eq_true rfl⟩) ⟨fun a U g mk q => by obtain ⟨q0, q1, qP, qK, qD, qN, qS⟩ := q; exact ⟨q0, q1, qP, va_K.moved (u := U) (U := U.calling g mk a) (Vm.Alike.refl U.vm) qK, qD, qN.same rfl, SKs.moved (u := U) (U := U.calling g mk a) (Vm.Alike.refl U.vm) qS⟩, va_recv hK hP (ci := 18) (q0 := h0) rfl (Wd_ob kg_110 sg_110 (by decide)), fun U hU hW => ⟨rfl, by rw [hU], by rw [hU]; exact hP, va_K.moved hW.alike hK, hD.weaken (fun _ _ _ _ => trivial), hN.warm hW, by rw [hU]; exact ((hSK.kept hS.2.1).narrow hFc).moved hW.alike⟩⟩ rfl rfl hl.1 rfl (lv_room (Nat.le_of_ble_eq_true rfl)) dX18_onVector_113 ⟨Nat.le_of_ble_eq_true rfl, Nat.le_of_ble_eq_true rfl⟩) hS (fun q _ h => hFc q h) hFc (fun u t H_111 locs ht hvm hw hB hz1 hk1 hS2 => ?_)
      obtain ⟨hP1, -, hD1⟩ := hB
      rw [ht] at hP1
      replace hD := hD1.weaken (fun _ _ _ h => hFc _ h)
      replace hP := hP1
      replace hS := hS2
      clear hP1 hD1 hS2 hFc hfc hz1 hk1 hvm ht
      obtain ⟨h8, h9⟩ := ret_some hf
      rw [h8]
      exact W.vret hx hb hr (fun t ht hW => ⟨⟨(), rfl, trivial, by rw [ht]; exact hP, va_K.moved hW.alike hK, hD⟩, hS.F ht⟩) hS.2.2 dX18_onVector_116
  · skip
    rw [if_pos c_1] at hf
    refine lv_aload_n hx hb dX18_onVector_6 rfl (lv_at hl 0 rfl) ?_
    obtain ⟨g_112, hf⟩ := grd_some hf
    obtain ⟨kg_112, sg_112⟩ := okO_at g_112
    refine va_get (D := (dC, dI)) (ci := 18) (v := .int (z.1 h0 45)) (C := RX18) (T := TX18) (N := 78) hx hb hts iwd_X18_onVector_X18 hown hK hP h0 (Wd_ob kg_112 sg_112 (by decide)) rfl 45 (by decide) (hts _ md_X18_onVector_1) (fun _ h9 => h9) (fl_at (t := 0) rfl) dX18_onVector_7 ?_
    refine lv_aload_n hx hb dX18_onVector_10 rfl (lv_at hl 0 rfl) ?_
    obtain ⟨k_113, ek_113, hf⟩ := lnk_some hf
    refine va_get (D := (dC, dI)) (ci := 18) (v := .ref (a k_113)) (C := RX18) (T := TX18) (N := 78) hx hb hts iwd_X18_onVector_X18 hown hK hP h0 (Wd_ob kg_112 sg_112 (by decide)) rfl 40 (by decide) (hts _ md_X18_onVector_2) (fun _ h9 => h9) (fl_q rfl ek_113) dX18_onVector_11 ?_
    refine lv_aload_n hx hb dX18_onVector_14 rfl (lv_at hl 0 rfl) ?_
    refine va_get (D := (dC, dI)) (ci := 18) (v := .int (z.1 h0 36)) (C := RX18) (T := TX18) (N := 78) hx hb hts iwd_X18_onVector_X18 hown hK hP h0 (Wd_ob kg_112 sg_112 (by decide)) rfl 36 (by decide) (hts _ md_X18_onVector_3) (fun _ h9 => h9) (fl_at (t := 0) rfl) dX18_onVector_15 ?_
    refine lv_iconst (v := 1) hx hb dX18_onVector_18 (by decide) ?_
    refine lv_isub hx hb dX18_onVector_19 ?_
    obtain ⟨g_114, hf⟩ := grd_some hf
    obtain ⟨kg_114, sg_114, ig_114⟩ := okA_at g_114
    refine va_iald hx hb hK hP k_113 1 (Wd_ai kg_114 sg_114) rfl ig_114 dX18_onVector_20 ?_
    refine lv_isub hx hb dX18_onVector_21 ?_
    refine lv_iload_n hx hb dX18_onVector_22 rfl (lv_at hl 2 rfl) ?_
    refine de_cut (h := 30) (fun (x : St) => []) (fun x ls H locs => lv_has ls 11 [(0, .ref (a h0)), (2, .int x1)] ∧ va_P (dC, dI) vwCl (Wd cy a sh n x) H ∧ va_D A (Wd cy a sh n x) ∧ va_S A s.heap H locs) (fun x => fn_X18_onVector_B30 F sh n h0 x1 x) (z8, r8) ?_ (fun B30 => ?_)
    · intro x ls H locs hI hf
      obtain ⟨z_115, ez⟩ : ∃ w, w = x := ⟨_, rfl⟩
      subst ez
      obtain ⟨hl2, hP2, hD2, hS2⟩ := hI
      replace hl : lv_has ls 11 [(0, .ref (a h0)), (2, .int x1)] := hl2
      replace hP := hP2
      replace hD := hD2
      replace hS := hS2
      clear hl2 hP2 hD2 hS2
      replace hf := fn_X18_onVector_B30_s hf
      refine W.eq (g2 := F0 m 30 ls []) rfl ?_
      refine lv_aload_n hx hb dX18_onVector_30 rfl (lv_at hl 0 rfl) ?_
      refine lv_iload_n hx hb dX18_onVector_31 rfl (lv_at hl 1 rfl) ?_
      obtain ⟨z_116, r_117, hfc, hf⟩ := cal_some hf
      have hFc := de_free hD hS hA
      refine va_calli (va_runV (As := [.int x1]) (rest := []) ⟨hx, hb, hml, hown, hts⟩ (de_X18_spend l dC dI cy a sh n H.size F z_115 h0 x1 hfc) (cwV 1 hts gX18_onVector_X18_spend rfl rfl rfl (by decide +kernel) ⟨Nat.le_of_ble_eq_true rfl, Nat.le_of_ble_eq_true rfl⟩) ⟨fun a U g mk q => by obtain ⟨q0, q1, qP, qK, qD, qN⟩ := q; exact ⟨q0, q1, qP, va_K.moved (u := U) (U := U.calling g mk a) (Vm.Alike.refl U.vm) qK, qD, qN.same rfl⟩, va_recv hK hP (ci := 18) (q0 := h0) rfl (Wd_ob kg_112 sg_112 (by decide)), fun U hU hW => ⟨rfl, by rw [hU], by rw [hU]; exact hP, va_K.moved hW.alike hK, hD.weaken (fun _ _ _ _ => trivial), hN.warm hW⟩⟩ rfl rfl hl.1 rfl (lv_room (Nat.le_of_ble_eq_true rfl)) dX18_onVector_32 ⟨Nat.le_of_ble_eq_true rfl, Nat.le_of_ble_eq_true rfl⟩) hS (fun q _ h => hFc q h) hFc (fun rr u t H_118 locs ht hvm hw hB hz1 hk1 hS2 => ?_)
      rw [hw]
      clear hw
      obtain ⟨hP1, -, hD1⟩ := hB
      rw [ht] at hP1
      replace hD := hD1.weaken (fun _ _ _ h => hFc _ h)
      replace hP := hP1
      replace hS := hS2
      clear hP1 hD1 hS2 hFc hfc hz1 hk1 hvm ht
      refine lv_if_ne (tgt := 39) hx hb dX18_onVector_35 (by decide) (fun c_119 => ?_) (fun c_119 => ?_)
      · skip
        rw [if_neg c_119] at hf
        refine lv_aload_n hx hb dX18_onVector_39 rfl (lv_at hl 0 rfl) ?_
        obtain ⟨k_120, ek_120, hf⟩ := lnk_some hf
        refine va_get (D := (dC, dI)) (ci := 18) (v := .ref (a k_120)) (C := RX18) (T := TX18) (N := 78) hx hb hts iwd_X18_onVector_X18 hown hK hP h0 (Wd_ob kg_112 sg_112 (by decide)) rfl 15 (by decide) (hts _ md_X18_onVector_4) (fun _ h9 => h9) (fl_q rfl ek_120) dX18_onVector_40 ?_
        refine lv_bipush (v := 7) hx hb dX18_onVector_43 (by decide) ?_
        refine lv_lconst (v := 0) hx hb dX18_onVector_45 (by decide) ?_
        refine lv_lconst (v := 0) hx hb dX18_onVector_46 (by decide) ?_
        obtain ⟨g_123, hf⟩ := grd_some hf
        obtain ⟨kg_123, sg_123⟩ := okO_at g_123
        obtain ⟨z_121, r_122, hfc, hf⟩ := cal_some hf
        have hFc := de_free hD hS hA
        refine va_calli (va_runV (As := [.int 7, .long 0, .long 0]) (rest := []) ⟨hx, hb, hml, hown, hts⟩ (de_X15_make l dC dI cy a sh n H_118.size F z_116 k_120 7 0 0 hfc) (cwV 3 hts gX18_onVector_X15_make rfl rfl rfl (by decide +kernel) ⟨Nat.le_of_ble_eq_true rfl, Nat.le_of_ble_eq_true rfl⟩) ⟨fun a U g mk q => by obtain ⟨q0, q1, qP, qK, qD, qN⟩ := q; exact ⟨q0, q1, qP, va_K.moved (u := U) (U := U.calling g mk a) (Vm.Alike.refl U.vm) qK, qD, qN.same rfl⟩, va_recv hK hP (ci := 15) (q0 := k_120) rfl (Wd_ob kg_123 sg_123 (by decide)), fun U hU hW => ⟨rfl, by rw [hU], by rw [hU]; exact hP, va_K.moved hW.alike hK, hD.weaken (fun _ _ _ _ => trivial), hN.warm hW⟩⟩ rfl rfl hl.1 rfl (lv_room (Nat.le_of_ble_eq_true rfl)) dX18_onVector_47 ⟨Nat.le_of_ble_eq_true rfl, Nat.le_of_ble_eq_true rfl⟩) hS (fun q _ h => hFc q h) hFc (fun rr u t H_124 locs ht hvm hw hB hz1 hk1 hS2 => ?_)
        rw [hw]
        clear hw
        obtain ⟨hP1, -, hD1⟩ := hB
        rw [ht] at hP1
        replace hD := hD1.weaken (fun _ _ _ h => hFc _ h)
        replace hP := hP1
        replace hS := hS2
        clear hP1 hD1 hS2 hFc hfc hz1 hk1 hvm ht
        refine lv_istore_n (lv' := [(3, .int r_122), (0, .ref (a h0)), (2, .int x1)]) hx hb dX18_onVector_50 rfl hl (by decide) rfl (fun ls hl2 => ?_)
        replace hl := hl2
        clear hl2
        refine lv_aload_n hx hb dX18_onVector_51 rfl (lv_at hl 1 rfl) ?_
        refine va_get (D := (dC, dI)) (ci := 18) (v := .int (z_121.1 h0 45)) (C := RX18) (T := TX18) (N := 78) hx hb hts iwd_X18_onVector_X18 hown hK hP h0 (Wd_ob kg_112 sg_112 (by decide)) rfl 45 (by decide) (hts _ md_X18_onVector_1) (fun _ h9 => h9) (fl_at (t := 0) rfl) dX18_onVector_52 ?_
        refine lv_iload_n hx hb dX18_onVector_55 rfl (lv_at hl 2 rfl) ?_
        refine lv_isub hx hb dX18_onVector_56 ?_
        refine lv_topi (fun v_125 ev_125 => ?_)
        replace hf := lt_at ev_125 hf
        clear ev_125
        refine lv_istore (lv' := [(4, .int v_125), (3, .int r_122), (0, .ref (a h0)), (2, .int x1)]) hx hb dX18_onVector_57 hl (by decide) rfl (fun ls hl2 => ?_)
        replace hl := hl2
        clear hl2
        have hl0 : lv_has ls 11 [(4, .int v_125), (3, .int r_122), (0, .ref (a h0)), (2, .int x1)] := lv_sub hl [0, 1, 2, 3] rfl
        refine de_loop (h := 59) (fun (x : St × Int32) ls H locs => lv_has ls 11 [(4, .int x.2), (3, .int r_122), (0, .ref (a h0)), (2, .int x1)] ∧ va_P (dC, dI) vwCl (Wd cy a sh n x.1) H ∧ va_D A (Wd cy a sh n x.1) ∧ va_S A s.heap H locs) (fun f x => fn_X18_onVector_L59 F sh n h0 x1 r_122 f x.1 x.2) (z8, r8) ?_ (fun _ => rfl) F (z_121, v_125) ls H_124 locs ⟨hl0, hP, hD, hS⟩ hf
        intro f_128 x ls H locs ih59 hI hf
        obtain ⟨z_127, p_126⟩ := x
        obtain ⟨hl2, hP2, hD2, hS2⟩ := hI
        replace hl : lv_has ls 11 [(4, .int p_126), (3, .int r_122), (0, .ref (a h0)), (2, .int x1)] := hl2
        replace hP := hP2
        replace hD := hD2
        replace hS := hS2
        clear hl2 hP2 hD2 hS2 hl0
        replace hf := fn_X18_onVector_L59_s hf
        refine lv_iload hx hb dX18_onVector_59 (lv_at hl 0 rfl) ?_
        refine lv_aload_n hx hb dX18_onVector_61 rfl (lv_at hl 2 rfl) ?_
        refine va_get (D := (dC, dI)) (ci := 18) (v := .int (z_127.1 h0 45)) (C := RX18) (T := TX18) (N := 78) hx hb hts iwd_X18_onVector_X18 hown hK hP h0 (Wd_ob kg_112 sg_112 (by decide)) rfl 45 (by decide) (hts _ md_X18_onVector_1) (fun _ h9 => h9) (fl_at (t := 0) rfl) dX18_onVector_62 ?_
        refine lv_icmp_ge (tgt := 89) hx hb dX18_onVector_65 (by decide) (fun c_129 => ?_) (fun c_129 => ?_)
        · skip
          rw [if_pos c_129] at hf
          refine lv_aload_n hx hb dX18_onVector_89 rfl (lv_at hl 2 rfl) ?_
          refine lv_dup hx hb dX18_onVector_90 rfl ?_
          refine va_get (D := (dC, dI)) (ci := 18) (v := .int (z_127.1 h0 45)) (C := RX18) (T := TX18) (N := 78) hx hb hts iwd_X18_onVector_X18 hown hK hP h0 (Wd_ob kg_112 sg_112 (by decide)) rfl 45 (by decide) (hts _ md_X18_onVector_1) (fun _ h9 => h9) (fl_at (t := 0) rfl) dX18_onVector_91 ?_
          refine lv_iload_n hx hb dX18_onVector_94 rfl (lv_at hl 3 rfl) ?_
          refine lv_isub hx hb dX18_onVector_95 ?_
          refine va_put (D := (dC, dI)) (ci := 18) (v := .int ((z_127.1 h0 45) - x1)) (ty := .int) (C := RX18) (T := TX18) (N := 78) hx hb hts iwd_X18_onVector_X18 tyX18 tyX18_ok nmX18 hown hK hP hD hS h0 (Wd_ob kg_112 sg_112 (by decide)) rfl 45 (by decide) (hts _ md_X18_onVector_1) (fun _ h9 => h9) rfl (by decide +kernel) rfl rfl (by rw [fl_len]; decide) dX18_onVector_96 (fun H_130 locs hP2 hD2 hS2 => ?_)
          rw [Wd_si sg_112 (by decide) rfl] at hP2 hD2
          obtain ⟨z_131, ez_131⟩ : ∃ w, w = si z_127 h0 45 ((z_127.1 h0 45) - x1) := ⟨_, rfl⟩
          rw [← ez_131] at hP2 hD2
          replace hf := lt_at ez_131 hf
          clear ez_131
          replace hP := hP2
          replace hD := hD2
          replace hS := hS2
          clear hP2 hD2 hS2
          refine lv_aload_n hx hb dX18_onVector_99 rfl (lv_at hl 2 rfl) ?_
          refine lv_iload_n hx hb dX18_onVector_100 rfl (lv_at hl 1 rfl) ?_
          refine lv_iconst (v := 0) hx hb dX18_onVector_101 (by decide) ?_
          obtain ⟨z_132, _u, hfc, hf⟩ := cal_some hf
          have hFc := de_free hD hS hA
          refine va_callv (va_runV (As := [.int r_122, .int 0]) (rest := []) ⟨hx, hb, hml, hown, hts⟩ (de_X18_push l dC dI cy a sh n H_130.size F z_131 h0 r_122 0 hfc) (cwV 2 hts gX18_onVector_X18_push rfl rfl rfl (by decide +kernel) ⟨Nat.le_of_ble_eq_true rfl, Nat.le_of_ble_eq_true rfl⟩) ⟨fun a U g mk q => by obtain ⟨q0, q1, qP, qK, qD, qN⟩ := q; exact ⟨q0, q1, qP, va_K.moved (u := U) (U := U.calling g mk a) (Vm.Alike.refl U.vm) qK, qD, qN.same rfl⟩, va_recv hK hP (ci := 18) (q0 := h0) rfl (Wd_ob kg_112 sg_112 (by decide)), fun U hU hW => ⟨rfl, by rw [hU], by rw [hU]; exact hP, va_K.moved hW.alike hK, hD.weaken (fun _ _ _ _ => trivial), hN.warm hW⟩⟩ rfl rfl hl.1 rfl (lv_room (Nat.le_of_ble_eq_true rfl)) dX18_onVector_102 ⟨Nat.le_of_ble_eq_true rfl, Nat.le_of_ble_eq_true rfl⟩) hS (fun q _ h => hFc q h) hFc (fun u t H_133 locs ht hvm hw hB hz1 hk1 hS2 => ?_)
          obtain ⟨hP1, -, hD1⟩ := hB
          rw [ht] at hP1
          replace hD := hD1.weaken (fun _ _ _ h => hFc _ h)
          replace hP := hP1
          replace hS := hS2
          clear hP1 hD1 hS2 hFc hfc hz1 hk1 hvm ht
          obtain ⟨h8, h9⟩ := ret_some hf
          rw [h8]
          exact W.vret hx hb hr (fun t ht hW => ⟨⟨(), rfl, trivial, by rw [ht]; exact hP, va_K.moved hW.alike hK, hD⟩, hS.F ht⟩) hS.2.2 dX18_onVector_105
        · skip
          rw [if_neg c_129] at hf
          refine lv_aload_n hx hb dX18_onVector_68 rfl (lv_at hl 2 rfl) ?_
          obtain ⟨k_134, ek_134, hf⟩ := lnk_some hf
          refine va_get (D := (dC, dI)) (ci := 18) (v := .ref (a k_134)) (C := RX18) (T := TX18) (N := 78) hx hb hts iwd_X18_onVector_X18 hown hK hP h0 (Wd_ob kg_112 sg_112 (by decide)) rfl 15 (by decide) (hts _ md_X18_onVector_4) (fun _ h9 => h9) (fl_q rfl ek_134) dX18_onVector_69 ?_
          refine lv_iload_n hx hb dX18_onVector_72 rfl (lv_at hl 1 rfl) ?_
          refine lv_aload_n hx hb dX18_onVector_73 rfl (lv_at hl 2 rfl) ?_
          obtain ⟨k_135, ek_135, hf⟩ := lnk_some hf
          refine va_get (D := (dC, dI)) (ci := 18) (v := .ref (a k_135)) (C := RX18) (T := TX18) (N := 78) hx hb hts iwd_X18_onVector_X18 hown hK hP h0 (Wd_ob kg_112 sg_112 (by decide)) rfl 43 (by decide) (hts _ md_X18_onVector_5) (fun _ h9 => h9) (fl_q rfl ek_135) dX18_onVector_74 ?_
          refine lv_iload hx hb dX18_onVector_77 (lv_at hl 0 rfl) ?_
          obtain ⟨g_136, hf⟩ := grd_some hf
          obtain ⟨kg_136, sg_136, ig_136⟩ := okA_at g_136
          refine va_iald hx hb hK hP k_135 1 (Wd_ai kg_136 sg_136) rfl ig_136 dX18_onVector_79 ?_
          obtain ⟨g_138, hf⟩ := grd_some hf
          obtain ⟨kg_138, sg_138⟩ := okO_at g_138
          obtain ⟨z_137, _u, hfc, hf⟩ := cal_some hf
          have hFc := de_free hD hS hA
          refine va_callv (va_runV (As := [.int r_122, .int (z_127.1 k_135 p_126.toNatClampNeg)]) (rest := []) ⟨hx, hb, hml, hown, hts⟩ (de_X15_add l dC dI cy a sh n H.size F z_127 k_134 r_122 (z_127.1 k_135 p_126.toNatClampNeg) hfc) (cwV 2 hts gX18_onVector_X15_add rfl rfl rfl (by decide +kernel) ⟨Nat.le_of_ble_eq_true rfl, Nat.le_of_ble_eq_true rfl⟩) ⟨fun a U g mk q => by obtain ⟨q0, q1, qP, qK, qD, qN⟩ := q; exact ⟨q0, q1, qP, va_K.moved (u := U) (U := U.calling g mk a) (Vm.Alike.refl U.vm) qK, qD, qN.same rfl⟩, va_recv hK hP (ci := 15) (q0 := k_134) rfl (Wd_ob kg_138 sg_138 (by decide)), fun U hU hW => ⟨rfl, by rw [hU], by rw [hU]; exact hP, va_K.moved hW.alike hK, hD.weaken (fun _ _ _ _ => trivial), hN.warm hW⟩⟩ rfl rfl hl.1 rfl (lv_room (Nat.le_of_ble_eq_true rfl)) dX18_onVector_80 ⟨Nat.le_of_ble_eq_true rfl, Nat.le_of_ble_eq_true rfl⟩) hS (fun q _ h => hFc q h) hFc (fun u t H_139 locs ht hvm hw hB hz1 hk1 hS2 => ?_)
          obtain ⟨hP1, -, hD1⟩ := hB
          rw [ht] at hP1
          replace hD := hD1.weaken (fun _ _ _ h => hFc _ h)
          replace hP := hP1
          replace hS := hS2
          clear hP1 hD1 hS2 hFc hfc hz1 hk1 hvm ht
          refine lv_iinc (v := (p_126 + 1)) (lv' := [(4, .int (p_126 + 1)), (3, .int r_122), (0, .ref (a h0)), (2, .int x1)]) hx hb dX18_onVector_83 hl (k := 0) rfl rfl (by decide) rfl (fun ls hl2 => ?_)
          replace hl := hl2
          clear hl2
          refine lv_goto (tgt := 59) hx hb dX18_onVector_86 (by decide) ?_
          exact ih59 (z_137, (p_126 + 1)) ls H_139 locs ⟨lv_sub hl [0, 1, 2, 3] rfl, hP, hD, hS⟩ hf
      · skip
        rw [if_pos c_119] at hf
        obtain ⟨h8, h9⟩ := ret_some hf
        rw [h8]
        exact W.vret hx hb hr (fun t ht hW => ⟨⟨(), rfl, trivial, by rw [ht]; exact hP, va_K.moved hW.alike hK, hD⟩, hS.F ht⟩) hS.2.2 dX18_onVector_38
    refine lv_icmp_ge (tgt := 30) hx hb dX18_onVector_23 (by decide) (fun c_140 => ?_) (fun c_140 => ?_)
    · skip
      rw [if_pos c_140] at hf
      exact B30 (z) ls H locs ⟨lv_sub hl [0, 2] rfl, hP, hD, hS⟩ hf
    · skip
      rw [if_neg c_140] at hf
      refine lv_aload_n hx hb dX18_onVector_26 rfl (lv_at hl 0 rfl) ?_
      obtain ⟨z_141, _u, hfc, hf⟩ := cal_some hf
      have hFc := de_free hD hS hA
      refine va_callv (va_runV (As := []) (rest := []) ⟨hx, hb, hml, hown, hts⟩ (de_X18_slip l dC dI cy a sh n H.size F z h0 hfc) (cwV 0 hts gX18_onVector_X18_slip rfl rfl rfl (by decide +kernel) ⟨Nat.le_of_ble_eq_true rfl, Nat.le_of_ble_eq_true rfl⟩) ⟨fun a U g mk q => by obtain ⟨q0, q1, qP, qK, qD, qN⟩ := q; exact ⟨q0, q1, qP, va_K.moved (u := U) (U := U.calling g mk a) (Vm.Alike.refl U.vm) qK, qD, qN.same rfl⟩, va_recv hK hP (ci := 18) (q0 := h0) rfl (Wd_ob kg_112 sg_112 (by decide)), fun U hU hW => ⟨rfl, by rw [hU], by rw [hU]; exact hP, va_K.moved hW.alike hK, hD.weaken (fun _ _ _ _ => trivial), hN.warm hW⟩⟩ rfl rfl hl.1 rfl (lv_room (Nat.le_of_ble_eq_true rfl)) dX18_onVector_27 ⟨Nat.le_of_ble_eq_true rfl, Nat.le_of_ble_eq_true rfl⟩) hS (fun q _ h => hFc q h) hFc (fun u t H_142 locs ht hvm hw hB hz1 hk1 hS2 => ?_)
      obtain ⟨hP1, -, hD1⟩ := hB
      rw [ht] at hP1
      replace hD := hD1.weaken (fun _ _ _ h => hFc _ h)
      replace hP := hP1
      replace hS := hS2
      clear hP1 hD1 hS2 hFc hfc hz1 hk1 hvm ht
      exact B30 (z_141) ls H_142 locs ⟨lv_sub hl [0, 2] rfl, hP, hD, hS⟩ hf

theorem md_X18_coin_1 : (.fieldLink RX18 300 "ResourceLedgerModel" "askedBalances" "[J" : Cond) ∈ wsX18_coin := List.mem_of_getElem? (i := 1) rfl
theorem iwd_X18_coin_X18 : ∀ w ∈ wsX180, w ∈ wsX18_coin := fun _ h => List.mem_cons_of_mem _ (List.mem_append_left _ (List.mem_append_right _ h))
theorem md_X18_coin_2 : (.fieldLink RX18 40 "ResourceLedgerModel" "trees" "LResourceLedgerModel$Trees;" : Cond) ∈ wsX18_coin := List.mem_of_getElem? (i := 2) rfl
theorem iwd_X18_coin_X15 : ∀ w ∈ wsX150, w ∈ wsX18_coin := fun _ h => List.mem_cons_of_mem _ (List.mem_append_right _ h)
theorem md_X18_coin_4 : (.constantLong RX18 425 (2) : Cond) ∈ wsX18_coin := List.mem_of_getElem? (i := 4) rfl
theorem md_X18_coin_3 : (.fieldLink RX18 296 "ResourceLedgerModel" "askedThere" "[Z" : Cond) ∈ wsX18_coin := List.mem_of_getElem? (i := 3) rfl
set_option maxHeartbeats 4000000 in
set_option maxRecDepth 100000 in
theorem de_X18_coin (l : Launch) (dC : Nat → ClassId) (dI : Nat → Nat → Nat) (cy : Nat → ClassId) (a : Nat → Nat) (sh : Nat → Nat × Nat) (n sz : Nat) (F : Nat) (z : St) (h0 : Nat) (x0 : Int32) {z8 : St} {r8 : Unit} (hf : fn_X18_coin F sh n z h0 x0 = some (z8, r8)) : Met l yX18_coin wsX18_coin ({ frames := 52, cells := 0, slots := 0, locals := 1201 }) (va_Pc [.ref (a h0), .int x0] (fun U => U.heap.size = sz ∧ va_P (dC, dI) vwCl (Wd cy a sh n z) U.heap ∧ va_K (dC, dI) vwCl (TYS cy) U ∧ va_D (fun _ => True) (Wd cy a sh n z) ∧ NK U)) (va_Qv (fun u : Unit => True) (fun u t => va_P (dC, dI) vwCl (Wd cy a sh n z8) t.heap ∧ va_K (dC, dI) vwCl (TYS cy) t ∧ va_D (va_A (Wd cy a sh n z) sz) (Wd cy a sh n z8)) (va_A (Wd cy a sh n z) sz)) 0 0 (va_A (Wd cy a sh n z) sz) := by
  refine Met.ofW (cc := cX18_coin) (maxL := 7) (ret := none) (by decide) rfl ?_
  intro p e s m args below meth c s₁ B hml hv
  obtain ⟨rfl, hsz, hP, hK, hD0, hN⟩ := hv
  have hx := B.exec
  have hb := B.bytes
  have hr := B.returns
  have hts := atoms_spec (ws := wsX18_coin) B.pre
  have hown : s.vm.findClass RX18 = some m.cls := findClass_of_methodNamed B.named
  have hlocks := B.notSynchronized
  subst hsz
  have hD := hD0.self (sz := s.heap.size)
  clear hD0
  generalize hAe : va_A (Wd cy a sh n z) s.heap.size = A at hD ⊢
  have hA : ∀ q : Nat, s.heap.size ≤ q → A q := fun q h => by rw [← hAe]; exact Or.inr h
  clear hAe
  have hS : va_S A s.heap s.heap [] := va_S.rf
  have hl := lv_entry ([.ref (a h0), .int x0]) (n := 7) (Nat.le_of_ble_eq_true rfl)
  rw [lg_entry_eq]
  generalize (lg_sl ([.ref (a h0), .int x0]) ++ List.replicate (7 - (lg_sl ([.ref (a h0), .int x0])).length) Slot.unset).toArray = ls at hl ⊢
  replace hl : lv_has ls 7 [(0, .ref (a h0)), (1, .int x0)] := hl
  unfold fn_X18_coin at hf
  refine de_start hS hP (fun H locs hS hP => ?_)
  refine lv_iload_n hx hb dX18_coin_0 rfl (lv_at hl 1 rfl) ?_
  refine lv_if_ne (tgt := 56) hx hb dX18_coin_1 (by decide) (fun c_1 => ?_) (fun c_1 => ?_)
  · skip
    rw [if_neg c_1] at hf
    refine lv_iload_n hx hb dX18_coin_56 rfl (lv_at hl 1 rfl) ?_
    refine lv_iconst (v := 1) hx hb dX18_coin_57 (by decide) ?_
    refine lv_icmp_ne (tgt := 154) hx hb dX18_coin_58 (by decide) (fun c_2 => ?_) (fun c_2 => ?_)
    · skip
      rw [if_neg c_2] at hf
      refine lv_iload_n hx hb dX18_coin_154 rfl (lv_at hl 1 rfl) ?_
      refine lv_iconst (v := 2) hx hb dX18_coin_155 (by decide) ?_
      refine lv_icmp_ne (tgt := 199) hx hb dX18_coin_156 (by decide) (fun c_3 => ?_) (fun c_3 => ?_)
      · skip
        rw [if_neg c_3] at hf
        refine lv_iload_n hx hb dX18_coin_199 rfl (lv_at hl 1 rfl) ?_
        refine lv_iconst (v := 3) hx hb dX18_coin_200 (by decide) ?_
        refine lv_icmp_ne (tgt := 268) hx hb dX18_coin_201 (by decide) (fun c_4 => ?_) (fun c_4 => ?_)
        · skip
          rw [if_neg c_4] at hf
          refine lv_iload_n hx hb dX18_coin_268 rfl (lv_at hl 1 rfl) ?_
          refine lv_iconst (v := 4) hx hb dX18_coin_269 (by decide) ?_
          refine lv_icmp_ne (tgt := 349) hx hb dX18_coin_270 (by decide) (fun c_5 => ?_) (fun c_5 => ?_)
          · skip
            rw [if_neg c_5] at hf
            refine lv_aload_n hx hb dX18_coin_349 rfl (lv_at hl 0 rfl) ?_
            refine lv_iconst (v := 5) hx hb dX18_coin_350 (by decide) ?_
            obtain ⟨g_8, hf⟩ := grd_some hf
            obtain ⟨kg_8, sg_8⟩ := okO_at g_8
            obtain ⟨z_6, r_7, hfc, hf⟩ := cal_some hf
            have hFc := de_free hD hS hA
            refine va_calli (va_runV (As := [.int 5]) (rest := []) ⟨hx, hb, hml, hown, hts⟩ (de_X18_take l dC dI cy a sh n H.size F z h0 5 hfc) (cwV 1 hts gX18_coin_X18_take rfl rfl rfl (by decide +kernel) ⟨Nat.le_of_ble_eq_true rfl, Nat.le_of_ble_eq_true rfl⟩) ⟨fun a U g mk q => by obtain ⟨q0, q1, qP, qK, qD, qN⟩ := q; exact ⟨q0, q1, qP, va_K.moved (u := U) (U := U.calling g mk a) (Vm.Alike.refl U.vm) qK, qD, qN.same rfl⟩, va_recv hK hP (ci := 18) (q0 := h0) rfl (Wd_ob kg_8 sg_8 (by decide)), fun U hU hW => ⟨rfl, by rw [hU], by rw [hU]; exact hP, va_K.moved hW.alike hK, hD.weaken (fun _ _ _ _ => trivial), hN.warm hW⟩⟩ rfl rfl hl.1 rfl (lv_room (Nat.le_of_ble_eq_true rfl)) dX18_coin_351 ⟨Nat.le_of_ble_eq_true rfl, Nat.le_of_ble_eq_true rfl⟩) hS (fun q _ h => hFc q h) hFc (fun rr u t H_9 locs ht hvm hw hB hz1 hk1 hS2 => ?_)
            rw [hw]
            clear hw
            obtain ⟨hP1, -, hD1⟩ := hB
            rw [ht] at hP1
            replace hD := hD1.weaken (fun _ _ _ h => hFc _ h)
            replace hP := hP1
            replace hS := hS2
            clear hP1 hD1 hS2 hFc hfc hz1 hk1 hvm ht
            refine lv_istore_n (lv' := [(2, .int r_7), (0, .ref (a h0)), (1, .int x0)]) hx hb dX18_coin_354 rfl hl (by decide) rfl (fun ls hl2 => ?_)
            replace hl := hl2
            clear hl2
            refine lv_aload_n hx hb dX18_coin_355 rfl (lv_at hl 1 rfl) ?_
            obtain ⟨z_10, r_11, hfc, hf⟩ := cal_some hf
            have hFc := de_free hD hS hA
            refine va_calli (va_runV (As := []) (rest := []) ⟨hx, hb, hml, hown, hts⟩ (de_X18_goesOn l dC dI cy a sh n H_9.size F z_6 h0 hfc) (cwV 0 hts gX18_coin_X18_goesOn rfl rfl rfl (by decide +kernel) ⟨Nat.le_of_ble_eq_true rfl, Nat.le_of_ble_eq_true rfl⟩) ⟨fun a U g mk q => by obtain ⟨q0, q1, qP, qK, qD, qN⟩ := q; exact ⟨q0, q1, qP, va_K.moved (u := U) (U := U.calling g mk a) (Vm.Alike.refl U.vm) qK, qD, qN.same rfl⟩, va_recv hK hP (ci := 18) (q0 := h0) rfl (Wd_ob kg_8 sg_8 (by decide)), fun U hU hW => ⟨rfl, by rw [hU], by rw [hU]; exact hP, va_K.moved hW.alike hK, hD.weaken (fun _ _ _ _ => trivial), hN.warm hW⟩⟩ rfl rfl hl.1 rfl (lv_room (Nat.le_of_ble_eq_true rfl)) dX18_coin_356 ⟨Nat.le_of_ble_eq_true rfl, Nat.le_of_ble_eq_true rfl⟩) hS (fun q _ h => hFc q h) hFc (fun rr u t H_12 locs ht hvm hw hB hz1 hk1 hS2 => ?_)
            rw [hw]
            clear hw
            obtain ⟨hP1, -, hD1⟩ := hB
            rw [ht] at hP1
            replace hD := hD1.weaken (fun _ _ _ h => hFc _ h)
            replace hP := hP1
            replace hS := hS2
            clear hP1 hD1 hS2 hFc hfc hz1 hk1 hvm ht
            refine de_cut (h := 381) (fun (x : St × Int32) => [.int x.2]) (fun x ls H locs => lv_has ls 7 [(0, .ref (a h0))] ∧ va_P (dC, dI) vwCl (Wd cy a sh n x.1) H ∧ va_D A (Wd cy a sh n x.1) ∧ va_S A s.heap H locs) (fun x => fn_X18_coin_B381 F sh n h0 x.1 x.2) (z8, r8) ?_ (fun B381 => ?_)
            · intro x ls H locs hI hf
              obtain ⟨z_14, p_13⟩ := x
              obtain ⟨hl2, hP2, hD2, hS2⟩ := hI
              replace hl : lv_has ls 7 [(0, .ref (a h0))] := hl2
              replace hP := hP2
              replace hD := hD2
              replace hS := hS2
              clear hl2 hP2 hD2 hS2
              replace hf := fn_X18_coin_B381_s hf
              refine W.eq (g2 := F0 m 381 ls [.int p_13]) rfl ?_
              refine lv_istore_n (lv' := [(3, .int p_13), (0, .ref (a h0))]) hx hb dX18_coin_381 rfl hl (by decide) rfl (fun ls hl2 => ?_)
              replace hl := hl2
              clear hl2
              refine lv_iload_n hx hb dX18_coin_382 rfl (lv_at hl 0 rfl) ?_
              refine lv_if_lt (tgt := 406) hx hb dX18_coin_383 (by decide) (fun c_15 => ?_) (fun c_15 => ?_)
              · skip
                rw [if_pos c_15] at hf
                obtain ⟨h8, h9⟩ := ret_some hf
                rw [h8]
                exact W.vret hx hb hr (fun t ht hW => ⟨⟨(), rfl, trivial, by rw [ht]; exact hP, va_K.moved hW.alike hK, hD⟩, hS.F ht⟩) hS.2.2 dX18_coin_406
              · skip
                rw [if_neg c_15] at hf
                refine lv_aload_n hx hb dX18_coin_386 rfl (lv_at hl 1 rfl) ?_
                refine lv_iconst (v := 5) hx hb dX18_coin_387 (by decide) ?_
                obtain ⟨z_16, r_17, hfc, hf⟩ := cal_some hf
                have hFc := de_free hD hS hA
                refine va_calli (va_runV (As := [.int 5]) (rest := []) ⟨hx, hb, hml, hown, hts⟩ (de_X18_spend l dC dI cy a sh n H.size F z_14 h0 5 hfc) (cwV 1 hts gX18_coin_X18_spend rfl rfl rfl (by decide +kernel) ⟨Nat.le_of_ble_eq_true rfl, Nat.le_of_ble_eq_true rfl⟩) ⟨fun a U g mk q => by obtain ⟨q0, q1, qP, qK, qD, qN⟩ := q; exact ⟨q0, q1, qP, va_K.moved (u := U) (U := U.calling g mk a) (Vm.Alike.refl U.vm) qK, qD, qN.same rfl⟩, va_recv hK hP (ci := 18) (q0 := h0) rfl (Wd_ob kg_8 sg_8 (by decide)), fun U hU hW => ⟨rfl, by rw [hU], by rw [hU]; exact hP, va_K.moved hW.alike hK, hD.weaken (fun _ _ _ _ => trivial), hN.warm hW⟩⟩ rfl rfl hl.1 rfl (lv_room (Nat.le_of_ble_eq_true rfl)) dX18_coin_388 ⟨Nat.le_of_ble_eq_true rfl, Nat.le_of_ble_eq_true rfl⟩) hS (fun q _ h => hFc q h) hFc (fun rr u t H_18 locs ht hvm hw hB hz1 hk1 hS2 => ?_)
                rw [hw]
                clear hw
                obtain ⟨hP1, -, hD1⟩ := hB
                rw [ht] at hP1
                replace hD := hD1.weaken (fun _ _ _ h => hFc _ h)
                replace hP := hP1
                replace hS := hS2
                clear hP1 hD1 hS2 hFc hfc hz1 hk1 hvm ht
                refine lv_if_eq (tgt := 406) hx hb dX18_coin_391 (by decide) (fun c_19 => ?_) (fun c_19 => ?_)
                · skip
                  rw [if_pos c_19] at hf
                  obtain ⟨h8, h9⟩ := ret_some hf
                  rw [h8]
                  exact W.vret hx hb hr (fun t ht hW => ⟨⟨(), rfl, trivial, by rw [ht]; exact hP, va_K.moved hW.alike hK, hD⟩, hS.F ht⟩) hS.2.2 dX18_coin_406
                · skip
                  rw [if_neg c_19] at hf
                  refine lv_aload_n hx hb dX18_coin_394 rfl (lv_at hl 1 rfl) ?_
                  refine lv_iconst (v := 3) hx hb dX18_coin_395 (by decide) ?_
                  refine lv_lconst (v := 0) hx hb dX18_coin_396 (by decide) ?_
                  refine lv_aload_n hx hb dX18_coin_397 rfl (lv_at hl 1 rfl) ?_
                  obtain ⟨k_20, ek_20, hf⟩ := lnk_some hf
                  refine va_get (D := (dC, dI)) (ci := 18) (v := .ref (a k_20)) (C := RX18) (T := TX18) (N := 78) hx hb hts iwd_X18_coin_X18 hown hK hP h0 (Wd_ob kg_8 sg_8 (by decide)) rfl 33 (by decide) (hts _ md_X18_coin_1) (fun _ h9 => h9) (fl_q rfl ek_20) dX18_coin_398 ?_
                  refine lv_iload_n hx hb dX18_coin_401 rfl (lv_at hl 0 rfl) ?_
                  obtain ⟨g_21, hf⟩ := grd_some hf
                  obtain ⟨kg_21, sg_21, ig_21⟩ := okA_at g_21
                  refine va_lald hx hb hK hP k_20 2 (Wd_al kg_21 sg_21) rfl ig_21 dX18_coin_402 ?_
                  obtain ⟨z_22, _u, hfc, hf⟩ := cal_some hf
                  have hFc := de_free hD hS hA
                  refine va_callv (va_runV (As := [.int 3, .long 0, .long (z_16.2.1 k_20 p_13.toNatClampNeg)]) (rest := []) ⟨hx, hb, hml, hown, hts⟩ (de_X18_make l dC dI cy a sh n H_18.size F z_16 h0 3 0 (z_16.2.1 k_20 p_13.toNatClampNeg) hfc) (cwV 3 hts gX18_coin_X18_make rfl rfl rfl (by decide +kernel) ⟨Nat.le_of_ble_eq_true rfl, Nat.le_of_ble_eq_true rfl⟩) ⟨fun a U g mk q => by obtain ⟨q0, q1, qP, qK, qD, qN⟩ := q; exact ⟨q0, q1, qP, va_K.moved (u := U) (U := U.calling g mk a) (Vm.Alike.refl U.vm) qK, qD, qN.same rfl⟩, va_recv hK hP (ci := 18) (q0 := h0) rfl (Wd_ob kg_8 sg_8 (by decide)), fun U hU hW => ⟨rfl, by rw [hU], by rw [hU]; exact hP, va_K.moved hW.alike hK, hD.weaken (fun _ _ _ _ => trivial), hN.warm hW⟩⟩ rfl rfl hl.1 rfl (lv_room (Nat.le_of_ble_eq_true rfl)) dX18_coin_403 ⟨Nat.le_of_ble_eq_true rfl, Nat.le_of_ble_eq_true rfl⟩) hS (fun q _ h => hFc q h) hFc (fun u t H_23 locs ht hvm hw hB hz1 hk1 hS2 => ?_)
                  obtain ⟨hP1, -, hD1⟩ := hB
                  rw [ht] at hP1
                  replace hD := hD1.weaken (fun _ _ _ h => hFc _ h)
                  replace hP := hP1
                  replace hS := hS2
                  clear hP1 hD1 hS2 hFc hfc hz1 hk1 hvm ht
                  obtain ⟨h8, h9⟩ := ret_some hf
                  rw [h8]
                  exact W.vret hx hb hr (fun t ht hW => ⟨⟨(), rfl, trivial, by rw [ht]; exact hP, va_K.moved hW.alike hK, hD⟩, hS.F ht⟩) hS.2.2 dX18_coin_406
            refine lv_if_eq (tgt := 380) hx hb dX18_coin_359 (by decide) (fun c_24 => ?_) (fun c_24 => ?_)
            · skip
              rw [if_pos c_24] at hf
              refine lv_iconst (v := (-1)) hx hb dX18_coin_380 (by decide) ?_
              exact B381 (z_10, (-1)) ls H_12 locs ⟨lv_sub hl [1] rfl, hP, hD, hS⟩ hf
            · skip
              rw [if_neg c_24] at hf
              refine lv_aload_n hx hb dX18_coin_362 rfl (lv_at hl 1 rfl) ?_
              refine lv_iconst (v := 1) hx hb dX18_coin_363 (by decide) ?_
              refine lv_aload_n hx hb dX18_coin_364 rfl (lv_at hl 1 rfl) ?_
              obtain ⟨k_25, ek_25, hf⟩ := lnk_some hf
              refine va_get (D := (dC, dI)) (ci := 18) (v := .ref (a k_25)) (C := RX18) (T := TX18) (N := 78) hx hb hts iwd_X18_coin_X18 hown hK hP h0 (Wd_ob kg_8 sg_8 (by decide)) rfl 15 (by decide) (hts _ md_X18_coin_2) (fun _ h9 => h9) (fl_q rfl ek_25) dX18_coin_365 ?_
              obtain ⟨g_26, hf⟩ := grd_some hf
              obtain ⟨kg_26, sg_26⟩ := okO_at g_26
              obtain ⟨k_27, ek_27, hf⟩ := lnk_some hf
              refine va_getN (D := (dC, dI)) (ci := 15) (v := .ref (a k_27)) (C := RX15) (T := TX15) (N := 6) hx hb hts iwd_X18_coin_X15 hown hK hP k_25 (Wd_ob kg_26 sg_26 (by decide)) rfl 2 (by decide) (va_Nw.use rfl (NK_f_X18_77 hN)) (fun _ h9 => h9) (fl_q rfl ek_27) dX18_coin_368 ?_
              refine lv_iload_n hx hb dX18_coin_371 rfl (lv_at hl 0 rfl) ?_
              obtain ⟨g_28, hf⟩ := grd_some hf
              obtain ⟨kg_28, sg_28, ig_28⟩ := okA_at g_28
              refine va_lald hx hb hK hP k_27 2 (Wd_al kg_28 sg_28) rfl ig_28 dX18_coin_372 ?_
              refine lv_iconst (v := 0) hx hb dX18_coin_373 (by decide) ?_
              obtain ⟨z_29, r_30, hfc, hf⟩ := cal_some hf
              have hFc := de_free hD hS hA
              refine va_calli (va_runV (As := [.int 1, .long (z_10.2.1 k_27 r_7.toNatClampNeg), .int 0]) (rest := []) ⟨hx, hb, hml, hown, hts⟩ (de_X18_ask l dC dI cy a sh n H_12.size F z_10 h0 1 (z_10.2.1 k_27 r_7.toNatClampNeg) 0 hfc) (cwV 3 hts gX18_coin_X18_ask rfl rfl rfl (by decide +kernel) ⟨Nat.le_of_ble_eq_true rfl, Nat.le_of_ble_eq_true rfl⟩) ⟨fun a U g mk q => by obtain ⟨q0, q1, qP, qK, qD, qN⟩ := q; exact ⟨q0, q1, qP, va_K.moved (u := U) (U := U.calling g mk a) (Vm.Alike.refl U.vm) qK, qD, qN.same rfl⟩, va_recv hK hP (ci := 18) (q0 := h0) rfl (Wd_ob kg_8 sg_8 (by decide)), fun U hU hW => ⟨rfl, by rw [hU], by rw [hU]; exact hP, va_K.moved hW.alike hK, hD.weaken (fun _ _ _ _ => trivial), hN.warm hW⟩⟩ rfl rfl hl.1 rfl (lv_room (Nat.le_of_ble_eq_true rfl)) dX18_coin_374 ⟨Nat.le_of_ble_eq_true rfl, Nat.le_of_ble_eq_true rfl⟩) hS (fun q _ h => hFc q h) hFc (fun rr u t H_31 locs ht hvm hw hB hz1 hk1 hS2 => ?_)
              rw [hw]
              clear hw
              obtain ⟨hP1, -, hD1⟩ := hB
              rw [ht] at hP1
              replace hD := hD1.weaken (fun _ _ _ h => hFc _ h)
              replace hP := hP1
              replace hS := hS2
              clear hP1 hD1 hS2 hFc hfc hz1 hk1 hvm ht
              refine lv_goto (tgt := 381) hx hb dX18_coin_377 (by decide) ?_
              exact B381 (z_29, r_30) ls H_31 locs ⟨lv_sub hl [1] rfl, hP, hD, hS⟩ hf
          · skip
            rw [if_pos c_5] at hf
            refine lv_aload_n hx hb dX18_coin_273 rfl (lv_at hl 0 rfl) ?_
            obtain ⟨g_34, hf⟩ := grd_some hf
            obtain ⟨kg_34, sg_34⟩ := okO_at g_34
            obtain ⟨z_32, r_33, hfc, hf⟩ := cal_some hf
            have hFc := de_free hD hS hA
            refine va_calll (va_runV (As := []) (rest := []) ⟨hx, hb, hml, hown, hts⟩ (de_X18_takeLong l dC dI cy a sh n H.size F z h0 hfc) (cwV 0 hts gX18_coin_X18_takeLong rfl rfl rfl (by decide +kernel) ⟨Nat.le_of_ble_eq_true rfl, Nat.le_of_ble_eq_true rfl⟩) ⟨fun a U g mk q => by obtain ⟨q0, q1, qP, qK, qD, qN⟩ := q; exact ⟨q0, q1, qP, va_K.moved (u := U) (U := U.calling g mk a) (Vm.Alike.refl U.vm) qK, qD, qN.same rfl⟩, va_recv hK hP (ci := 18) (q0 := h0) rfl (Wd_ob kg_34 sg_34 (by decide)), fun U hU hW => ⟨rfl, by rw [hU], by rw [hU]; exact hP, va_K.moved hW.alike hK, hD.weaken (fun _ _ _ _ => trivial), hN.warm hW⟩⟩ rfl rfl hl.1 rfl (lv_room (Nat.le_of_ble_eq_true rfl)) dX18_coin_274 ⟨Nat.le_of_ble_eq_true rfl, Nat.le_of_ble_eq_true rfl⟩) hS (fun q _ h => hFc q h) hFc (fun rr u t H_35 locs ht hvm hw hB hz1 hk1 hS2 => ?_)
            rw [hw]
            clear hw
            obtain ⟨hP1, -, hD1⟩ := hB
            rw [ht] at hP1
            replace hD := hD1.weaken (fun _ _ _ h => hFc _ h)
            replace hP := hP1
            replace hS := hS2
            clear hP1 hD1 hS2 hFc hfc hz1 hk1 hvm ht
            refine lv_lstore_n (lv' := [(2, .long r_33), (0, .ref (a h0)), (1, .int x0)]) hx hb dX18_coin_277 rfl hl (by decide) rfl (fun ls hl2 => ?_)
            replace hl := hl2
            clear hl2
            refine lv_aload_n hx hb dX18_coin_278 rfl (lv_at hl 1 rfl) ?_
            refine lv_bipush (v := 6) hx hb dX18_coin_279 (by decide) ?_
            obtain ⟨z_36, r_37, hfc, hf⟩ := cal_some hf
            have hFc := de_free hD hS hA
            refine va_calli (va_runV (As := [.int 6]) (rest := []) ⟨hx, hb, hml, hown, hts⟩ (de_X18_take l dC dI cy a sh n H_35.size F z_32 h0 6 hfc) (cwV 1 hts gX18_coin_X18_take rfl rfl rfl (by decide +kernel) ⟨Nat.le_of_ble_eq_true rfl, Nat.le_of_ble_eq_true rfl⟩) ⟨fun a U g mk q => by obtain ⟨q0, q1, qP, qK, qD, qN⟩ := q; exact ⟨q0, q1, qP, va_K.moved (u := U) (U := U.calling g mk a) (Vm.Alike.refl U.vm) qK, qD, qN.same rfl⟩, va_recv hK hP (ci := 18) (q0 := h0) rfl (Wd_ob kg_34 sg_34 (by decide)), fun U hU hW => ⟨rfl, by rw [hU], by rw [hU]; exact hP, va_K.moved hW.alike hK, hD.weaken (fun _ _ _ _ => trivial), hN.warm hW⟩⟩ rfl rfl hl.1 rfl (lv_room (Nat.le_of_ble_eq_true rfl)) dX18_coin_281 ⟨Nat.le_of_ble_eq_true rfl, Nat.le_of_ble_eq_true rfl⟩) hS (fun q _ h => hFc q h) hFc (fun rr u t H_38 locs ht hvm hw hB hz1 hk1 hS2 => ?_)
            rw [hw]
            clear hw
            obtain ⟨hP1, -, hD1⟩ := hB
            rw [ht] at hP1
            replace hD := hD1.weaken (fun _ _ _ h => hFc _ h)
            replace hP := hP1
            replace hS := hS2
            clear hP1 hD1 hS2 hFc hfc hz1 hk1 hvm ht
            refine lv_istore (lv' := [(4, .int r_37), (2, .long r_33), (0, .ref (a h0)), (1, .int x0)]) hx hb dX18_coin_284 hl (by decide) rfl (fun ls hl2 => ?_)
            replace hl := hl2
            clear hl2
            refine lv_aload_n hx hb dX18_coin_286 rfl (lv_at hl 2 rfl) ?_
            refine lv_iconst (v := 5) hx hb dX18_coin_287 (by decide) ?_
            obtain ⟨z_39, r_40, hfc, hf⟩ := cal_some hf
            have hFc := de_free hD hS hA
            refine va_calli (va_runV (As := [.int 5]) (rest := []) ⟨hx, hb, hml, hown, hts⟩ (de_X18_spend l dC dI cy a sh n H_38.size F z_36 h0 5 hfc) (cwV 1 hts gX18_coin_X18_spend rfl rfl rfl (by decide +kernel) ⟨Nat.le_of_ble_eq_true rfl, Nat.le_of_ble_eq_true rfl⟩) ⟨fun a U g mk q => by obtain ⟨q0, q1, qP, qK, qD, qN⟩ := q; exact ⟨q0, q1, qP, va_K.moved (u := U) (U := U.calling g mk a) (Vm.Alike.refl U.vm) qK, qD, qN.same rfl⟩, va_recv hK hP (ci := 18) (q0 := h0) rfl (Wd_ob kg_34 sg_34 (by decide)), fun U hU hW => ⟨rfl, by rw [hU], by rw [hU]; exact hP, va_K.moved hW.alike hK, hD.weaken (fun _ _ _ _ => trivial), hN.warm hW⟩⟩ rfl rfl hl.1 rfl (lv_room (Nat.le_of_ble_eq_true rfl)) dX18_coin_288 ⟨Nat.le_of_ble_eq_true rfl, Nat.le_of_ble_eq_true rfl⟩) hS (fun q _ h => hFc q h) hFc (fun rr u t H_41 locs ht hvm hw hB hz1 hk1 hS2 => ?_)
            rw [hw]
            clear hw
            obtain ⟨hP1, -, hD1⟩ := hB
            rw [ht] at hP1
            replace hD := hD1.weaken (fun _ _ _ h => hFc _ h)
            replace hP := hP1
            replace hS := hS2
            clear hP1 hD1 hS2 hFc hfc hz1 hk1 hvm ht
            refine lv_if_ne (tgt := 295) hx hb dX18_coin_291 (by decide) (fun c_42 => ?_) (fun c_42 => ?_)
            · skip
              rw [if_neg c_42] at hf
              refine lv_aload_n hx hb dX18_coin_295 rfl (lv_at hl 2 rfl) ?_
              obtain ⟨k_43, ek_43, hf⟩ := lnk_some hf
              refine va_get (D := (dC, dI)) (ci := 18) (v := .ref (a k_43)) (C := RX18) (T := TX18) (N := 78) hx hb hts iwd_X18_coin_X18 hown hK hP h0 (Wd_ob kg_34 sg_34 (by decide)) rfl 15 (by decide) (hts _ md_X18_coin_2) (fun _ h9 => h9) (fl_q rfl ek_43) dX18_coin_296 ?_
              obtain ⟨g_44, hf⟩ := grd_some hf
              obtain ⟨kg_44, sg_44⟩ := okO_at g_44
              obtain ⟨k_45, ek_45, hf⟩ := lnk_some hf
              refine va_getN (D := (dC, dI)) (ci := 15) (v := .ref (a k_45)) (C := RX15) (T := TX15) (N := 6) hx hb hts iwd_X18_coin_X15 hown hK hP k_43 (Wd_ob kg_44 sg_44 (by decide)) rfl 2 (by decide) (va_Nw.use rfl (NK_f_X18_77 hN)) (fun _ h9 => h9) (fl_q rfl ek_45) dX18_coin_299 ?_
              refine lv_aload_n hx hb dX18_coin_302 rfl (lv_at hl 2 rfl) ?_
              obtain ⟨k_46, ek_46, hf⟩ := lnk_some hf
              refine va_get (D := (dC, dI)) (ci := 18) (v := .ref (a k_46)) (C := RX18) (T := TX18) (N := 78) hx hb hts iwd_X18_coin_X18 hown hK hP h0 (Wd_ob kg_34 sg_34 (by decide)) rfl 15 (by decide) (hts _ md_X18_coin_2) (fun _ h9 => h9) (fl_q rfl ek_46) dX18_coin_303 ?_
              obtain ⟨g_47, hf⟩ := grd_some hf
              obtain ⟨kg_47, sg_47⟩ := okO_at g_47
              obtain ⟨k_48, ek_48, hf⟩ := lnk_some hf
              refine va_getN (D := (dC, dI)) (ci := 15) (v := .ref (a k_48)) (C := RX15) (T := TX15) (N := 6) hx hb hts iwd_X18_coin_X15 hown hK hP k_46 (Wd_ob kg_47 sg_47 (by decide)) rfl 3 (by decide) (va_Nw.use rfl (NK_f_X18_84 hN)) (fun _ h9 => h9) (fl_q rfl ek_48) dX18_coin_306 ?_
              refine lv_iload hx hb dX18_coin_309 (lv_at hl 0 rfl) ?_
              obtain ⟨g_49, hf⟩ := grd_some hf
              obtain ⟨kg_49, sg_49, ig_49⟩ := okA_at g_49
              refine va_iald hx hb hK hP k_48 1 (Wd_ai kg_49 sg_49) rfl ig_49 dX18_coin_311 ?_
              obtain ⟨g_50, hf⟩ := grd_some hf
              obtain ⟨kg_50, sg_50, ig_50⟩ := okA_at g_50
              refine va_lald hx hb hK hP k_45 2 (Wd_al kg_50 sg_50) rfl ig_50 dX18_coin_312 ?_
              refine lv_topl (fun v_51 ev_51 => ?_)
              replace hf := lt_at ev_51 hf
              clear ev_51
              refine lv_lstore (lv' := [(5, .long v_51), (4, .int r_37), (2, .long r_33), (0, .ref (a h0)), (1, .int x0)]) hx hb dX18_coin_313 hl (by decide) rfl (fun ls hl2 => ?_)
              replace hl := hl2
              clear hl2
              refine lv_lload hx hb dX18_coin_315 (lv_at hl 0 rfl) ?_
              refine lv_lload_n hx hb dX18_coin_317 rfl (lv_at hl 2 rfl) ?_
              obtain ⟨z_52, r_53, hfc, hf⟩ := cal_some hf
              have hFc := de_free hD hS hA
              refine va_calli (va_runS (As := [.long v_51, .long r_33]) (rest := []) ⟨hx, hb, hml, hown, hts⟩ (de_X18_isBelow l dC dI cy a sh n H_41.size F z_39 v_51 r_33 hfc) (va_cwS 2 hts gX18_coin_X18_isBelow rfl rfl rfl (by decide +kernel) ⟨Nat.le_of_ble_eq_true rfl, Nat.le_of_ble_eq_true rfl⟩) ⟨fun a U g mk q => by obtain ⟨q0, q1, qP, qK, qD, qN⟩ := q; exact ⟨q0, q1, qP, va_K.moved (u := U) (U := U.calling g mk a) (Vm.Alike.refl U.vm) qK, qD, qN.same rfl⟩, fun U hU hW => ⟨rfl, by rw [hU], by rw [hU]; exact hP, va_K.moved hW.alike hK, hD.weaken (fun _ _ _ _ => trivial), hN.warm hW⟩⟩ rfl rfl hl.1 rfl (lv_room (Nat.le_of_ble_eq_true rfl)) dX18_coin_318 ⟨Nat.le_of_ble_eq_true rfl, Nat.le_of_ble_eq_true rfl⟩) hS (fun q _ h => hFc q h) hFc (fun rr u t H_54 locs ht hvm hw hB hz1 hk1 hS2 => ?_)
              rw [hw]
              clear hw
              obtain ⟨hP1, -, hD1⟩ := hB
              rw [ht] at hP1
              replace hD := hD1.weaken (fun _ _ _ h => hFc _ h)
              replace hP := hP1
              replace hS := hS2
              clear hP1 hD1 hS2 hFc hfc hz1 hk1 hvm ht
              refine lv_if_eq (tgt := 333) hx hb dX18_coin_321 (by decide) (fun c_55 => ?_) (fun c_55 => ?_)
              · skip
                rw [if_pos c_55] at hf
                refine lv_aload_n hx hb dX18_coin_333 rfl (lv_at hl 3 rfl) ?_
                refine lv_lload hx hb dX18_coin_334 (lv_at hl 0 rfl) ?_
                refine lv_lload_n hx hb dX18_coin_336 rfl (lv_at hl 2 rfl) ?_
                refine lv_lsub hx hb dX18_coin_337 ?_
                obtain ⟨z_56, _u, hfc, hf⟩ := cal_some hf
                have hFc := de_free hD hS hA
                refine va_callv (va_runV (As := [.long (v_51 - r_33)]) (rest := []) ⟨hx, hb, hml, hown, hts⟩ (de_X18_makeCoin l dC dI cy a sh n H_54.size F z_52 h0 (v_51 - r_33) hfc) (cwV 1 hts gX18_coin_X18_makeCoin rfl rfl rfl (by decide +kernel) ⟨Nat.le_of_ble_eq_true rfl, Nat.le_of_ble_eq_true rfl⟩) ⟨fun a U g mk q => by obtain ⟨q0, q1, qP, qK, qD, qN⟩ := q; exact ⟨q0, q1, qP, va_K.moved (u := U) (U := U.calling g mk a) (Vm.Alike.refl U.vm) qK, qD, qN.same rfl⟩, va_recv hK hP (ci := 18) (q0 := h0) rfl (Wd_ob kg_34 sg_34 (by decide)), fun U hU hW => ⟨rfl, by rw [hU], by rw [hU]; exact hP, va_K.moved hW.alike hK, hD.weaken (fun _ _ _ _ => trivial), hN.warm hW⟩⟩ rfl rfl hl.1 rfl (lv_room (Nat.le_of_ble_eq_true rfl)) dX18_coin_338 ⟨Nat.le_of_ble_eq_true rfl, Nat.le_of_ble_eq_true rfl⟩) hS (fun q _ h => hFc q h) hFc (fun u t H_57 locs ht hvm hw hB hz1 hk1 hS2 => ?_)
                obtain ⟨hP1, -, hD1⟩ := hB
                rw [ht] at hP1
                replace hD := hD1.weaken (fun _ _ _ h => hFc _ h)
                replace hP := hP1
                replace hS := hS2
                clear hP1 hD1 hS2 hFc hfc hz1 hk1 hvm ht
                refine lv_aload_n hx hb dX18_coin_341 rfl (lv_at hl 3 rfl) ?_
                refine lv_lload_n hx hb dX18_coin_342 rfl (lv_at hl 2 rfl) ?_
                obtain ⟨z_58, _u, hfc, hf⟩ := cal_some hf
                have hFc := de_free hD hS hA
                refine va_callv (va_runV (As := [.long r_33]) (rest := []) ⟨hx, hb, hml, hown, hts⟩ (de_X18_makeCoin l dC dI cy a sh n H_57.size F z_56 h0 r_33 hfc) (cwV 1 hts gX18_coin_X18_makeCoin rfl rfl rfl (by decide +kernel) ⟨Nat.le_of_ble_eq_true rfl, Nat.le_of_ble_eq_true rfl⟩) ⟨fun a U g mk q => by obtain ⟨q0, q1, qP, qK, qD, qN⟩ := q; exact ⟨q0, q1, qP, va_K.moved (u := U) (U := U.calling g mk a) (Vm.Alike.refl U.vm) qK, qD, qN.same rfl⟩, va_recv hK hP (ci := 18) (q0 := h0) rfl (Wd_ob kg_34 sg_34 (by decide)), fun U hU hW => ⟨rfl, by rw [hU], by rw [hU]; exact hP, va_K.moved hW.alike hK, hD.weaken (fun _ _ _ _ => trivial), hN.warm hW⟩⟩ rfl rfl hl.1 rfl (lv_room (Nat.le_of_ble_eq_true rfl)) dX18_coin_343 ⟨Nat.le_of_ble_eq_true rfl, Nat.le_of_ble_eq_true rfl⟩) hS (fun q _ h => hFc q h) hFc (fun u t H_59 locs ht hvm hw hB hz1 hk1 hS2 => ?_)
                obtain ⟨hP1, -, hD1⟩ := hB
                rw [ht] at hP1
                replace hD := hD1.weaken (fun _ _ _ h => hFc _ h)
                replace hP := hP1
                replace hS := hS2
                clear hP1 hD1 hS2 hFc hfc hz1 hk1 hvm ht
                refine lv_goto (tgt := 406) hx hb dX18_coin_346 (by decide) ?_
                obtain ⟨h8, h9⟩ := ret_some hf
                rw [h8]
                exact W.vret hx hb hr (fun t ht hW => ⟨⟨(), rfl, trivial, by rw [ht]; exact hP, va_K.moved hW.alike hK, hD⟩, hS.F ht⟩) hS.2.2 dX18_coin_406
              · skip
                rw [if_neg c_55] at hf
                refine lv_aload_n hx hb dX18_coin_324 rfl (lv_at hl 3 rfl) ?_
                refine lv_iconst (v := 1) hx hb dX18_coin_325 (by decide) ?_
                refine lv_ldc2 hx hb hown (hts _ md_X18_coin_4) dX18_coin_326 ?_
                obtain ⟨z_60, _u, hfc, hf⟩ := cal_some hf
                have hFc := de_free hD hS hA
                refine va_callv (va_runV (As := [.int 1, .long 2]) (rest := []) ⟨hx, hb, hml, hown, hts⟩ (de_X18_end l dC dI cy a sh n H_54.size F z_52 h0 1 2 hfc) (cwV 2 hts gX18_coin_X18_end rfl rfl rfl (by decide +kernel) ⟨Nat.le_of_ble_eq_true rfl, Nat.le_of_ble_eq_true rfl⟩) ⟨fun a U g mk q => by obtain ⟨q0, q1, qP, qK, qD, qN⟩ := q; exact ⟨q0, q1, qP, va_K.moved (u := U) (U := U.calling g mk a) (Vm.Alike.refl U.vm) qK, qD, qN.same rfl⟩, va_recv hK hP (ci := 18) (q0 := h0) rfl (Wd_ob kg_34 sg_34 (by decide)), fun U hU hW => ⟨rfl, by rw [hU], by rw [hU]; exact hP, va_K.moved hW.alike hK, hD.weaken (fun _ _ _ _ => trivial), hN.warm hW⟩⟩ rfl rfl hl.1 rfl (lv_room (Nat.le_of_ble_eq_true rfl)) dX18_coin_329 ⟨Nat.le_of_ble_eq_true rfl, Nat.le_of_ble_eq_true rfl⟩) hS (fun q _ h => hFc q h) hFc (fun u t H_61 locs ht hvm hw hB hz1 hk1 hS2 => ?_)
                obtain ⟨hP1, -, hD1⟩ := hB
                rw [ht] at hP1
                replace hD := hD1.weaken (fun _ _ _ h => hFc _ h)
                replace hP := hP1
                replace hS := hS2
                clear hP1 hD1 hS2 hFc hfc hz1 hk1 hvm ht
                obtain ⟨h8, h9⟩ := ret_some hf
                rw [h8]
                exact W.vret hx hb hr (fun t ht hW => ⟨⟨(), rfl, trivial, by rw [ht]; exact hP, va_K.moved hW.alike hK, hD⟩, hS.F ht⟩) hS.2.2 dX18_coin_332
            · skip
              rw [if_pos c_42] at hf
              obtain ⟨h8, h9⟩ := ret_some hf
              rw [h8]
              exact W.vret hx hb hr (fun t ht hW => ⟨⟨(), rfl, trivial, by rw [ht]; exact hP, va_K.moved hW.alike hK, hD⟩, hS.F ht⟩) hS.2.2 dX18_coin_294
        · skip
          rw [if_pos c_4] at hf
          refine lv_aload_n hx hb dX18_coin_204 rfl (lv_at hl 0 rfl) ?_
          refine lv_bipush (v := 6) hx hb dX18_coin_205 (by decide) ?_
          obtain ⟨g_64, hf⟩ := grd_some hf
          obtain ⟨kg_64, sg_64⟩ := okO_at g_64
          obtain ⟨z_62, r_63, hfc, hf⟩ := cal_some hf
          have hFc := de_free hD hS hA
          refine va_calli (va_runV (As := [.int 6]) (rest := []) ⟨hx, hb, hml, hown, hts⟩ (de_X18_take l dC dI cy a sh n H.size F z h0 6 hfc) (cwV 1 hts gX18_coin_X18_take rfl rfl rfl (by decide +kernel) ⟨Nat.le_of_ble_eq_true rfl, Nat.le_of_ble_eq_true rfl⟩) ⟨fun a U g mk q => by obtain ⟨q0, q1, qP, qK, qD, qN⟩ := q; exact ⟨q0, q1, qP, va_K.moved (u := U) (U := U.calling g mk a) (Vm.Alike.refl U.vm) qK, qD, qN.same rfl⟩, va_recv hK hP (ci := 18) (q0 := h0) rfl (Wd_ob kg_64 sg_64 (by decide)), fun U hU hW => ⟨rfl, by rw [hU], by rw [hU]; exact hP, va_K.moved hW.alike hK, hD.weaken (fun _ _ _ _ => trivial), hN.warm hW⟩⟩ rfl rfl hl.1 rfl (lv_room (Nat.le_of_ble_eq_true rfl)) dX18_coin_207 ⟨Nat.le_of_ble_eq_true rfl, Nat.le_of_ble_eq_true rfl⟩) hS (fun q _ h => hFc q h) hFc (fun rr u t H_65 locs ht hvm hw hB hz1 hk1 hS2 => ?_)
          rw [hw]
          clear hw
          obtain ⟨hP1, -, hD1⟩ := hB
          rw [ht] at hP1
          replace hD := hD1.weaken (fun _ _ _ h => hFc _ h)
          replace hP := hP1
          replace hS := hS2
          clear hP1 hD1 hS2 hFc hfc hz1 hk1 hvm ht
          refine lv_istore_n (lv' := [(2, .int r_63), (0, .ref (a h0)), (1, .int x0)]) hx hb dX18_coin_210 rfl hl (by decide) rfl (fun ls hl2 => ?_)
          replace hl := hl2
          clear hl2
          refine lv_aload_n hx hb dX18_coin_211 rfl (lv_at hl 1 rfl) ?_
          refine lv_bipush (v := 6) hx hb dX18_coin_212 (by decide) ?_
          obtain ⟨z_66, r_67, hfc, hf⟩ := cal_some hf
          have hFc := de_free hD hS hA
          refine va_calli (va_runV (As := [.int 6]) (rest := []) ⟨hx, hb, hml, hown, hts⟩ (de_X18_take l dC dI cy a sh n H_65.size F z_62 h0 6 hfc) (cwV 1 hts gX18_coin_X18_take rfl rfl rfl (by decide +kernel) ⟨Nat.le_of_ble_eq_true rfl, Nat.le_of_ble_eq_true rfl⟩) ⟨fun a U g mk q => by obtain ⟨q0, q1, qP, qK, qD, qN⟩ := q; exact ⟨q0, q1, qP, va_K.moved (u := U) (U := U.calling g mk a) (Vm.Alike.refl U.vm) qK, qD, qN.same rfl⟩, va_recv hK hP (ci := 18) (q0 := h0) rfl (Wd_ob kg_64 sg_64 (by decide)), fun U hU hW => ⟨rfl, by rw [hU], by rw [hU]; exact hP, va_K.moved hW.alike hK, hD.weaken (fun _ _ _ _ => trivial), hN.warm hW⟩⟩ rfl rfl hl.1 rfl (lv_room (Nat.le_of_ble_eq_true rfl)) dX18_coin_214 ⟨Nat.le_of_ble_eq_true rfl, Nat.le_of_ble_eq_true rfl⟩) hS (fun q _ h => hFc q h) hFc (fun rr u t H_68 locs ht hvm hw hB hz1 hk1 hS2 => ?_)
          rw [hw]
          clear hw
          obtain ⟨hP1, -, hD1⟩ := hB
          rw [ht] at hP1
          replace hD := hD1.weaken (fun _ _ _ h => hFc _ h)
          replace hP := hP1
          replace hS := hS2
          clear hP1 hD1 hS2 hFc hfc hz1 hk1 hvm ht
          refine lv_istore_n (lv' := [(3, .int r_67), (2, .int r_63), (0, .ref (a h0)), (1, .int x0)]) hx hb dX18_coin_217 rfl hl (by decide) rfl (fun ls hl2 => ?_)
          replace hl := hl2
          clear hl2
          refine lv_aload_n hx hb dX18_coin_218 rfl (lv_at hl 2 rfl) ?_
          refine lv_iconst (v := 5) hx hb dX18_coin_219 (by decide) ?_
          obtain ⟨z_69, r_70, hfc, hf⟩ := cal_some hf
          have hFc := de_free hD hS hA
          refine va_calli (va_runV (As := [.int 5]) (rest := []) ⟨hx, hb, hml, hown, hts⟩ (de_X18_spend l dC dI cy a sh n H_68.size F z_66 h0 5 hfc) (cwV 1 hts gX18_coin_X18_spend rfl rfl rfl (by decide +kernel) ⟨Nat.le_of_ble_eq_true rfl, Nat.le_of_ble_eq_true rfl⟩) ⟨fun a U g mk q => by obtain ⟨q0, q1, qP, qK, qD, qN⟩ := q; exact ⟨q0, q1, qP, va_K.moved (u := U) (U := U.calling g mk a) (Vm.Alike.refl U.vm) qK, qD, qN.same rfl⟩, va_recv hK hP (ci := 18) (q0 := h0) rfl (Wd_ob kg_64 sg_64 (by decide)), fun U hU hW => ⟨rfl, by rw [hU], by rw [hU]; exact hP, va_K.moved hW.alike hK, hD.weaken (fun _ _ _ _ => trivial), hN.warm hW⟩⟩ rfl rfl hl.1 rfl (lv_room (Nat.le_of_ble_eq_true rfl)) dX18_coin_220 ⟨Nat.le_of_ble_eq_true rfl, Nat.le_of_ble_eq_true rfl⟩) hS (fun q _ h => hFc q h) hFc (fun rr u t H_71 locs ht hvm hw hB hz1 hk1 hS2 => ?_)
          rw [hw]
          clear hw
          obtain ⟨hP1, -, hD1⟩ := hB
          rw [ht] at hP1
          replace hD := hD1.weaken (fun _ _ _ h => hFc _ h)
          replace hP := hP1
          replace hS := hS2
          clear hP1 hD1 hS2 hFc hfc hz1 hk1 hvm ht
          refine lv_if_eq (tgt := 265) hx hb dX18_coin_223 (by decide) (fun c_72 => ?_) (fun c_72 => ?_)
          · skip
            rw [if_pos c_72] at hf
            refine lv_goto (tgt := 406) hx hb dX18_coin_265 (by decide) ?_
            obtain ⟨h8, h9⟩ := ret_some hf
            rw [h8]
            exact W.vret hx hb hr (fun t ht hW => ⟨⟨(), rfl, trivial, by rw [ht]; exact hP, va_K.moved hW.alike hK, hD⟩, hS.F ht⟩) hS.2.2 dX18_coin_406
          · skip
            rw [if_neg c_72] at hf
            refine lv_aload_n hx hb dX18_coin_226 rfl (lv_at hl 2 rfl) ?_
            refine lv_aload_n hx hb dX18_coin_227 rfl (lv_at hl 2 rfl) ?_
            obtain ⟨k_73, ek_73, hf⟩ := lnk_some hf
            refine va_get (D := (dC, dI)) (ci := 18) (v := .ref (a k_73)) (C := RX18) (T := TX18) (N := 78) hx hb hts iwd_X18_coin_X18 hown hK hP h0 (Wd_ob kg_64 sg_64 (by decide)) rfl 15 (by decide) (hts _ md_X18_coin_2) (fun _ h9 => h9) (fl_q rfl ek_73) dX18_coin_228 ?_
            obtain ⟨g_74, hf⟩ := grd_some hf
            obtain ⟨kg_74, sg_74⟩ := okO_at g_74
            obtain ⟨k_75, ek_75, hf⟩ := lnk_some hf
            refine va_getN (D := (dC, dI)) (ci := 15) (v := .ref (a k_75)) (C := RX15) (T := TX15) (N := 6) hx hb hts iwd_X18_coin_X15 hown hK hP k_73 (Wd_ob kg_74 sg_74 (by decide)) rfl 2 (by decide) (va_Nw.use rfl (NK_f_X18_77 hN)) (fun _ h9 => h9) (fl_q rfl ek_75) dX18_coin_231 ?_
            refine lv_aload_n hx hb dX18_coin_234 rfl (lv_at hl 2 rfl) ?_
            obtain ⟨k_76, ek_76, hf⟩ := lnk_some hf
            refine va_get (D := (dC, dI)) (ci := 18) (v := .ref (a k_76)) (C := RX18) (T := TX18) (N := 78) hx hb hts iwd_X18_coin_X18 hown hK hP h0 (Wd_ob kg_64 sg_64 (by decide)) rfl 15 (by decide) (hts _ md_X18_coin_2) (fun _ h9 => h9) (fl_q rfl ek_76) dX18_coin_235 ?_
            obtain ⟨g_77, hf⟩ := grd_some hf
            obtain ⟨kg_77, sg_77⟩ := okO_at g_77
            obtain ⟨k_78, ek_78, hf⟩ := lnk_some hf
            refine va_getN (D := (dC, dI)) (ci := 15) (v := .ref (a k_78)) (C := RX15) (T := TX15) (N := 6) hx hb hts iwd_X18_coin_X15 hown hK hP k_76 (Wd_ob kg_77 sg_77 (by decide)) rfl 3 (by decide) (va_Nw.use rfl (NK_f_X18_84 hN)) (fun _ h9 => h9) (fl_q rfl ek_78) dX18_coin_238 ?_
            refine lv_iload_n hx hb dX18_coin_241 rfl (lv_at hl 0 rfl) ?_
            obtain ⟨g_79, hf⟩ := grd_some hf
            obtain ⟨kg_79, sg_79, ig_79⟩ := okA_at g_79
            refine va_iald hx hb hK hP k_78 1 (Wd_ai kg_79 sg_79) rfl ig_79 dX18_coin_242 ?_
            obtain ⟨g_80, hf⟩ := grd_some hf
            obtain ⟨kg_80, sg_80, ig_80⟩ := okA_at g_80
            refine va_lald hx hb hK hP k_75 2 (Wd_al kg_80 sg_80) rfl ig_80 dX18_coin_243 ?_
            refine lv_aload_n hx hb dX18_coin_244 rfl (lv_at hl 2 rfl) ?_
            obtain ⟨k_81, ek_81, hf⟩ := lnk_some hf
            refine va_get (D := (dC, dI)) (ci := 18) (v := .ref (a k_81)) (C := RX18) (T := TX18) (N := 78) hx hb hts iwd_X18_coin_X18 hown hK hP h0 (Wd_ob kg_64 sg_64 (by decide)) rfl 15 (by decide) (hts _ md_X18_coin_2) (fun _ h9 => h9) (fl_q rfl ek_81) dX18_coin_245 ?_
            obtain ⟨g_82, hf⟩ := grd_some hf
            obtain ⟨kg_82, sg_82⟩ := okO_at g_82
            obtain ⟨k_83, ek_83, hf⟩ := lnk_some hf
            refine va_getN (D := (dC, dI)) (ci := 15) (v := .ref (a k_83)) (C := RX15) (T := TX15) (N := 6) hx hb hts iwd_X18_coin_X15 hown hK hP k_81 (Wd_ob kg_82 sg_82 (by decide)) rfl 2 (by decide) (va_Nw.use rfl (NK_f_X18_77 hN)) (fun _ h9 => h9) (fl_q rfl ek_83) dX18_coin_248 ?_
            refine lv_aload_n hx hb dX18_coin_251 rfl (lv_at hl 2 rfl) ?_
            obtain ⟨k_84, ek_84, hf⟩ := lnk_some hf
            refine va_get (D := (dC, dI)) (ci := 18) (v := .ref (a k_84)) (C := RX18) (T := TX18) (N := 78) hx hb hts iwd_X18_coin_X18 hown hK hP h0 (Wd_ob kg_64 sg_64 (by decide)) rfl 15 (by decide) (hts _ md_X18_coin_2) (fun _ h9 => h9) (fl_q rfl ek_84) dX18_coin_252 ?_
            obtain ⟨g_85, hf⟩ := grd_some hf
            obtain ⟨kg_85, sg_85⟩ := okO_at g_85
            obtain ⟨k_86, ek_86, hf⟩ := lnk_some hf
            refine va_getN (D := (dC, dI)) (ci := 15) (v := .ref (a k_86)) (C := RX15) (T := TX15) (N := 6) hx hb hts iwd_X18_coin_X15 hown hK hP k_84 (Wd_ob kg_85 sg_85 (by decide)) rfl 3 (by decide) (va_Nw.use rfl (NK_f_X18_84 hN)) (fun _ h9 => h9) (fl_q rfl ek_86) dX18_coin_255 ?_
            refine lv_iload_n hx hb dX18_coin_258 rfl (lv_at hl 1 rfl) ?_
            obtain ⟨g_87, hf⟩ := grd_some hf
            obtain ⟨kg_87, sg_87, ig_87⟩ := okA_at g_87
            refine va_iald hx hb hK hP k_86 1 (Wd_ai kg_87 sg_87) rfl ig_87 dX18_coin_259 ?_
            obtain ⟨g_88, hf⟩ := grd_some hf
            obtain ⟨kg_88, sg_88, ig_88⟩ := okA_at g_88
            refine va_lald hx hb hK hP k_83 2 (Wd_al kg_88 sg_88) rfl ig_88 dX18_coin_260 ?_
            refine lv_ladd hx hb dX18_coin_261 ?_
            obtain ⟨z_89, _u, hfc, hf⟩ := cal_some hf
            have hFc := de_free hD hS hA
            refine va_callv (va_runV (As := [.long ((z_69.2.1 k_75 (z_69.1 k_78 r_67.toNatClampNeg).toNatClampNeg) + (z_69.2.1 k_83 (z_69.1 k_86 r_63.toNatClampNeg).toNatClampNeg))]) (rest := []) ⟨hx, hb, hml, hown, hts⟩ (de_X18_makeCoin l dC dI cy a sh n H_71.size F z_69 h0 ((z_69.2.1 k_75 (z_69.1 k_78 r_67.toNatClampNeg).toNatClampNeg) + (z_69.2.1 k_83 (z_69.1 k_86 r_63.toNatClampNeg).toNatClampNeg)) hfc) (cwV 1 hts gX18_coin_X18_makeCoin rfl rfl rfl (by decide +kernel) ⟨Nat.le_of_ble_eq_true rfl, Nat.le_of_ble_eq_true rfl⟩) ⟨fun a U g mk q => by obtain ⟨q0, q1, qP, qK, qD, qN⟩ := q; exact ⟨q0, q1, qP, va_K.moved (u := U) (U := U.calling g mk a) (Vm.Alike.refl U.vm) qK, qD, qN.same rfl⟩, va_recv hK hP (ci := 18) (q0 := h0) rfl (Wd_ob kg_64 sg_64 (by decide)), fun U hU hW => ⟨rfl, by rw [hU], by rw [hU]; exact hP, va_K.moved hW.alike hK, hD.weaken (fun _ _ _ _ => trivial), hN.warm hW⟩⟩ rfl rfl hl.1 rfl (lv_room (Nat.le_of_ble_eq_true rfl)) dX18_coin_262 ⟨Nat.le_of_ble_eq_true rfl, Nat.le_of_ble_eq_true rfl⟩) hS (fun q _ h => hFc q h) hFc (fun u t H_90 locs ht hvm hw hB hz1 hk1 hS2 => ?_)
            obtain ⟨hP1, -, hD1⟩ := hB
            rw [ht] at hP1
            replace hD := hD1.weaken (fun _ _ _ h => hFc _ h)
            replace hP := hP1
            replace hS := hS2
            clear hP1 hD1 hS2 hFc hfc hz1 hk1 hvm ht
            refine lv_goto (tgt := 406) hx hb dX18_coin_265 (by decide) ?_
            obtain ⟨h8, h9⟩ := ret_some hf
            rw [h8]
            exact W.vret hx hb hr (fun t ht hW => ⟨⟨(), rfl, trivial, by rw [ht]; exact hP, va_K.moved hW.alike hK, hD⟩, hS.F ht⟩) hS.2.2 dX18_coin_406
      · skip
        rw [if_pos c_3] at hf
        refine lv_aload_n hx hb dX18_coin_159 rfl (lv_at hl 0 rfl) ?_
        refine lv_iconst (v := 1) hx hb dX18_coin_160 (by decide) ?_
        obtain ⟨g_93, hf⟩ := grd_some hf
        obtain ⟨kg_93, sg_93⟩ := okO_at g_93
        obtain ⟨z_91, r_92, hfc, hf⟩ := cal_some hf
        have hFc := de_free hD hS hA
        refine va_calli (va_runV (As := [.int 1]) (rest := []) ⟨hx, hb, hml, hown, hts⟩ (de_X18_takeAny l dC dI cy a sh n H.size F z h0 1 hfc) (cwV 1 hts gX18_coin_X18_takeAny rfl rfl rfl (by decide +kernel) ⟨Nat.le_of_ble_eq_true rfl, Nat.le_of_ble_eq_true rfl⟩) ⟨fun a U g mk q => by obtain ⟨q0, q1, qP, qK, qD, qN⟩ := q; exact ⟨q0, q1, qP, va_K.moved (u := U) (U := U.calling g mk a) (Vm.Alike.refl U.vm) qK, qD, qN.same rfl⟩, va_recv hK hP (ci := 18) (q0 := h0) rfl (Wd_ob kg_93 sg_93 (by decide)), fun U hU hW => ⟨rfl, by rw [hU], by rw [hU]; exact hP, va_K.moved hW.alike hK, hD.weaken (fun _ _ _ _ => trivial), hN.warm hW⟩⟩ rfl rfl hl.1 rfl (lv_room (Nat.le_of_ble_eq_true rfl)) dX18_coin_161 ⟨Nat.le_of_ble_eq_true rfl, Nat.le_of_ble_eq_true rfl⟩) hS (fun q _ h => hFc q h) hFc (fun rr u t H_94 locs ht hvm hw hB hz1 hk1 hS2 => ?_)
        rw [hw]
        clear hw
        obtain ⟨hP1, -, hD1⟩ := hB
        rw [ht] at hP1
        replace hD := hD1.weaken (fun _ _ _ h => hFc _ h)
        replace hP := hP1
        replace hS := hS2
        clear hP1 hD1 hS2 hFc hfc hz1 hk1 hvm ht
        refine lv_istore_n (lv' := [(2, .int r_92), (0, .ref (a h0)), (1, .int x0)]) hx hb dX18_coin_164 rfl hl (by decide) rfl (fun ls hl2 => ?_)
        replace hl := hl2
        clear hl2
        refine lv_aload_n hx hb dX18_coin_165 rfl (lv_at hl 1 rfl) ?_
        refine lv_iconst (v := 5) hx hb dX18_coin_166 (by decide) ?_
        obtain ⟨z_95, r_96, hfc, hf⟩ := cal_some hf
        have hFc := de_free hD hS hA
        refine va_calli (va_runV (As := [.int 5]) (rest := []) ⟨hx, hb, hml, hown, hts⟩ (de_X18_spend l dC dI cy a sh n H_94.size F z_91 h0 5 hfc) (cwV 1 hts gX18_coin_X18_spend rfl rfl rfl (by decide +kernel) ⟨Nat.le_of_ble_eq_true rfl, Nat.le_of_ble_eq_true rfl⟩) ⟨fun a U g mk q => by obtain ⟨q0, q1, qP, qK, qD, qN⟩ := q; exact ⟨q0, q1, qP, va_K.moved (u := U) (U := U.calling g mk a) (Vm.Alike.refl U.vm) qK, qD, qN.same rfl⟩, va_recv hK hP (ci := 18) (q0 := h0) rfl (Wd_ob kg_93 sg_93 (by decide)), fun U hU hW => ⟨rfl, by rw [hU], by rw [hU]; exact hP, va_K.moved hW.alike hK, hD.weaken (fun _ _ _ _ => trivial), hN.warm hW⟩⟩ rfl rfl hl.1 rfl (lv_room (Nat.le_of_ble_eq_true rfl)) dX18_coin_167 ⟨Nat.le_of_ble_eq_true rfl, Nat.le_of_ble_eq_true rfl⟩) hS (fun q _ h => hFc q h) hFc (fun rr u t H_97 locs ht hvm hw hB hz1 hk1 hS2 => ?_)
        rw [hw]
        clear hw
        obtain ⟨hP1, -, hD1⟩ := hB
        rw [ht] at hP1
        replace hD := hD1.weaken (fun _ _ _ h => hFc _ h)
        replace hP := hP1
        replace hS := hS2
        clear hP1 hD1 hS2 hFc hfc hz1 hk1 hvm ht
        refine lv_if_eq (tgt := 196) hx hb dX18_coin_170 (by decide) (fun c_98 => ?_) (fun c_98 => ?_)
        · skip
          rw [if_pos c_98] at hf
          refine lv_goto (tgt := 406) hx hb dX18_coin_196 (by decide) ?_
          obtain ⟨h8, h9⟩ := ret_some hf
          rw [h8]
          exact W.vret hx hb hr (fun t ht hW => ⟨⟨(), rfl, trivial, by rw [ht]; exact hP, va_K.moved hW.alike hK, hD⟩, hS.F ht⟩) hS.2.2 dX18_coin_406
        · skip
          rw [if_neg c_98] at hf
          refine lv_aload_n hx hb dX18_coin_173 rfl (lv_at hl 1 rfl) ?_
          refine lv_iconst (v := 3) hx hb dX18_coin_174 (by decide) ?_
          refine lv_lconst (v := 0) hx hb dX18_coin_175 (by decide) ?_
          refine lv_aload_n hx hb dX18_coin_176 rfl (lv_at hl 1 rfl) ?_
          obtain ⟨k_99, ek_99, hf⟩ := lnk_some hf
          refine va_get (D := (dC, dI)) (ci := 18) (v := .ref (a k_99)) (C := RX18) (T := TX18) (N := 78) hx hb hts iwd_X18_coin_X18 hown hK hP h0 (Wd_ob kg_93 sg_93 (by decide)) rfl 15 (by decide) (hts _ md_X18_coin_2) (fun _ h9 => h9) (fl_q rfl ek_99) dX18_coin_177 ?_
          obtain ⟨g_100, hf⟩ := grd_some hf
          obtain ⟨kg_100, sg_100⟩ := okO_at g_100
          obtain ⟨k_101, ek_101, hf⟩ := lnk_some hf
          refine va_getN (D := (dC, dI)) (ci := 15) (v := .ref (a k_101)) (C := RX15) (T := TX15) (N := 6) hx hb hts iwd_X18_coin_X15 hown hK hP k_99 (Wd_ob kg_100 sg_100 (by decide)) rfl 2 (by decide) (va_Nw.use rfl (NK_f_X18_77 hN)) (fun _ h9 => h9) (fl_q rfl ek_101) dX18_coin_180 ?_
          refine lv_aload_n hx hb dX18_coin_183 rfl (lv_at hl 1 rfl) ?_
          obtain ⟨k_102, ek_102, hf⟩ := lnk_some hf
          refine va_get (D := (dC, dI)) (ci := 18) (v := .ref (a k_102)) (C := RX18) (T := TX18) (N := 78) hx hb hts iwd_X18_coin_X18 hown hK hP h0 (Wd_ob kg_93 sg_93 (by decide)) rfl 15 (by decide) (hts _ md_X18_coin_2) (fun _ h9 => h9) (fl_q rfl ek_102) dX18_coin_184 ?_
          obtain ⟨g_103, hf⟩ := grd_some hf
          obtain ⟨kg_103, sg_103⟩ := okO_at g_103
          obtain ⟨k_104, ek_104, hf⟩ := lnk_some hf
          refine va_getN (D := (dC, dI)) (ci := 15) (v := .ref (a k_104)) (C := RX15) (T := TX15) (N := 6) hx hb hts iwd_X18_coin_X15 hown hK hP k_102 (Wd_ob kg_103 sg_103 (by decide)) rfl 3 (by decide) (va_Nw.use rfl (NK_f_X18_84 hN)) (fun _ h9 => h9) (fl_q rfl ek_104) dX18_coin_187 ?_
          refine lv_iload_n hx hb dX18_coin_190 rfl (lv_at hl 0 rfl) ?_
          obtain ⟨g_105, hf⟩ := grd_some hf
          obtain ⟨kg_105, sg_105, ig_105⟩ := okA_at g_105
          refine va_iald hx hb hK hP k_104 1 (Wd_ai kg_105 sg_105) rfl ig_105 dX18_coin_191 ?_
          obtain ⟨g_106, hf⟩ := grd_some hf
          obtain ⟨kg_106, sg_106, ig_106⟩ := okA_at g_106
          refine va_lald hx hb hK hP k_101 2 (Wd_al kg_106 sg_106) rfl ig_106 dX18_coin_192 ?_
          obtain ⟨z_107, _u, hfc, hf⟩ := cal_some hf
          have hFc := de_free hD hS hA
          refine va_callv (va_runV (As := [.int 3, .long 0, .long (z_95.2.1 k_101 (z_95.1 k_104 r_92.toNatClampNeg).toNatClampNeg)]) (rest := []) ⟨hx, hb, hml, hown, hts⟩ (de_X18_make l dC dI cy a sh n H_97.size F z_95 h0 3 0 (z_95.2.1 k_101 (z_95.1 k_104 r_92.toNatClampNeg).toNatClampNeg) hfc) (cwV 3 hts gX18_coin_X18_make rfl rfl rfl (by decide +kernel) ⟨Nat.le_of_ble_eq_true rfl, Nat.le_of_ble_eq_true rfl⟩) ⟨fun a U g mk q => by obtain ⟨q0, q1, qP, qK, qD, qN⟩ := q; exact ⟨q0, q1, qP, va_K.moved (u := U) (U := U.calling g mk a) (Vm.Alike.refl U.vm) qK, qD, qN.same rfl⟩, va_recv hK hP (ci := 18) (q0 := h0) rfl (Wd_ob kg_93 sg_93 (by decide)), fun U hU hW => ⟨rfl, by rw [hU], by rw [hU]; exact hP, va_K.moved hW.alike hK, hD.weaken (fun _ _ _ _ => trivial), hN.warm hW⟩⟩ rfl rfl hl.1 rfl (lv_room (Nat.le_of_ble_eq_true rfl)) dX18_coin_193 ⟨Nat.le_of_ble_eq_true rfl, Nat.le_of_ble_eq_true rfl⟩) hS (fun q _ h => hFc q h) hFc (fun u t H_108 locs ht hvm hw hB hz1 hk1 hS2 => ?_)
          obtain ⟨hP1, -, hD1⟩ := hB
          rw [ht] at hP1
          replace hD := hD1.weaken (fun _ _ _ h => hFc _ h)
          replace hP := hP1
          replace hS := hS2
          clear hP1 hD1 hS2 hFc hfc hz1 hk1 hvm ht
          refine lv_goto (tgt := 406) hx hb dX18_coin_196 (by decide) ?_
          obtain ⟨h8, h9⟩ := ret_some hf
          rw [h8]
          exact W.vret hx hb hr (fun t ht hW => ⟨⟨(), rfl, trivial, by rw [ht]; exact hP, va_K.moved hW.alike hK, hD⟩, hS.F ht⟩) hS.2.2 dX18_coin_406
    · skip
      rw [if_pos c_2] at hf
      refine lv_aload_n hx hb dX18_coin_61 rfl (lv_at hl 0 rfl) ?_
      refine lv_bipush (v := 6) hx hb dX18_coin_62 (by decide) ?_
      obtain ⟨g_111, hf⟩ := grd_some hf
      obtain ⟨kg_111, sg_111⟩ := okO_at g_111
      obtain ⟨z_109, r_110, hfc, hf⟩ := cal_some hf
      have hFc := de_free hD hS hA
      refine va_calli (va_runV (As := [.int 6]) (rest := []) ⟨hx, hb, hml, hown, hts⟩ (de_X18_take l dC dI cy a sh n H.size F z h0 6 hfc) (cwV 1 hts gX18_coin_X18_take rfl rfl rfl (by decide +kernel) ⟨Nat.le_of_ble_eq_true rfl, Nat.le_of_ble_eq_true rfl⟩) ⟨fun a U g mk q => by obtain ⟨q0, q1, qP, qK, qD, qN⟩ := q; exact ⟨q0, q1, qP, va_K.moved (u := U) (U := U.calling g mk a) (Vm.Alike.refl U.vm) qK, qD, qN.same rfl⟩, va_recv hK hP (ci := 18) (q0 := h0) rfl (Wd_ob kg_111 sg_111 (by decide)), fun U hU hW => ⟨rfl, by rw [hU], by rw [hU]; exact hP, va_K.moved hW.alike hK, hD.weaken (fun _ _ _ _ => trivial), hN.warm hW⟩⟩ rfl rfl hl.1 rfl (lv_room (Nat.le_of_ble_eq_true rfl)) dX18_coin_64 ⟨Nat.le_of_ble_eq_true rfl, Nat.le_of_ble_eq_true rfl⟩) hS (fun q _ h => hFc q h) hFc (fun rr u t H_112 locs ht hvm hw hB hz1 hk1 hS2 => ?_)
      rw [hw]
      clear hw
      obtain ⟨hP1, -, hD1⟩ := hB
      rw [ht] at hP1
      replace hD := hD1.weaken (fun _ _ _ h => hFc _ h)
      replace hP := hP1
      replace hS := hS2
      clear hP1 hD1 hS2 hFc hfc hz1 hk1 hvm ht
      refine lv_istore_n (lv' := [(2, .int r_110), (0, .ref (a h0)), (1, .int x0)]) hx hb dX18_coin_67 rfl hl (by decide) rfl (fun ls hl2 => ?_)
      replace hl := hl2
      clear hl2
      refine lv_aload_n hx hb dX18_coin_68 rfl (lv_at hl 1 rfl) ?_
      refine lv_iconst (v := 5) hx hb dX18_coin_69 (by decide) ?_
      obtain ⟨z_113, r_114, hfc, hf⟩ := cal_some hf
      have hFc := de_free hD hS hA
      refine va_calli (va_runV (As := [.int 5]) (rest := []) ⟨hx, hb, hml, hown, hts⟩ (de_X18_take l dC dI cy a sh n H_112.size F z_109 h0 5 hfc) (cwV 1 hts gX18_coin_X18_take rfl rfl rfl (by decide +kernel) ⟨Nat.le_of_ble_eq_true rfl, Nat.le_of_ble_eq_true rfl⟩) ⟨fun a U g mk q => by obtain ⟨q0, q1, qP, qK, qD, qN⟩ := q; exact ⟨q0, q1, qP, va_K.moved (u := U) (U := U.calling g mk a) (Vm.Alike.refl U.vm) qK, qD, qN.same rfl⟩, va_recv hK hP (ci := 18) (q0 := h0) rfl (Wd_ob kg_111 sg_111 (by decide)), fun U hU hW => ⟨rfl, by rw [hU], by rw [hU]; exact hP, va_K.moved hW.alike hK, hD.weaken (fun _ _ _ _ => trivial), hN.warm hW⟩⟩ rfl rfl hl.1 rfl (lv_room (Nat.le_of_ble_eq_true rfl)) dX18_coin_70 ⟨Nat.le_of_ble_eq_true rfl, Nat.le_of_ble_eq_true rfl⟩) hS (fun q _ h => hFc q h) hFc (fun rr u t H_115 locs ht hvm hw hB hz1 hk1 hS2 => ?_)
      rw [hw]
      clear hw
      obtain ⟨hP1, -, hD1⟩ := hB
      rw [ht] at hP1
      replace hD := hD1.weaken (fun _ _ _ h => hFc _ h)
      replace hP := hP1
      replace hS := hS2
      clear hP1 hD1 hS2 hFc hfc hz1 hk1 hvm ht
      refine lv_istore_n (lv' := [(3, .int r_114), (2, .int r_110), (0, .ref (a h0)), (1, .int x0)]) hx hb dX18_coin_73 rfl hl (by decide) rfl (fun ls hl2 => ?_)
      replace hl := hl2
      clear hl2
      refine lv_aload_n hx hb dX18_coin_74 rfl (lv_at hl 2 rfl) ?_
      obtain ⟨z_116, r_117, hfc, hf⟩ := cal_some hf
      have hFc := de_free hD hS hA
      refine va_calli (va_runV (As := []) (rest := []) ⟨hx, hb, hml, hown, hts⟩ (de_X18_goesOn l dC dI cy a sh n H_115.size F z_113 h0 hfc) (cwV 0 hts gX18_coin_X18_goesOn rfl rfl rfl (by decide +kernel) ⟨Nat.le_of_ble_eq_true rfl, Nat.le_of_ble_eq_true rfl⟩) ⟨fun a U g mk q => by obtain ⟨q0, q1, qP, qK, qD, qN⟩ := q; exact ⟨q0, q1, qP, va_K.moved (u := U) (U := U.calling g mk a) (Vm.Alike.refl U.vm) qK, qD, qN.same rfl⟩, va_recv hK hP (ci := 18) (q0 := h0) rfl (Wd_ob kg_111 sg_111 (by decide)), fun U hU hW => ⟨rfl, by rw [hU], by rw [hU]; exact hP, va_K.moved hW.alike hK, hD.weaken (fun _ _ _ _ => trivial), hN.warm hW⟩⟩ rfl rfl hl.1 rfl (lv_room (Nat.le_of_ble_eq_true rfl)) dX18_coin_75 ⟨Nat.le_of_ble_eq_true rfl, Nat.le_of_ble_eq_true rfl⟩) hS (fun q _ h => hFc q h) hFc (fun rr u t H_118 locs ht hvm hw hB hz1 hk1 hS2 => ?_)
      rw [hw]
      clear hw
      obtain ⟨hP1, -, hD1⟩ := hB
      rw [ht] at hP1
      replace hD := hD1.weaken (fun _ _ _ h => hFc _ h)
      replace hP := hP1
      replace hS := hS2
      clear hP1 hD1 hS2 hFc hfc hz1 hk1 hvm ht
      refine de_cut (h := 100) (fun (x : St × Int32) => [.int x.2]) (fun x ls H locs => lv_has ls 7 [(2, .int r_110), (0, .ref (a h0))] ∧ va_P (dC, dI) vwCl (Wd cy a sh n x.1) H ∧ va_D A (Wd cy a sh n x.1) ∧ va_S A s.heap H locs) (fun x => fn_X18_coin_B100 F sh n h0 r_110 x.1 x.2) (z8, r8) ?_ (fun B100 => ?_)
      · intro x ls H locs hI hf
        obtain ⟨z_120, p_119⟩ := x
        obtain ⟨hl2, hP2, hD2, hS2⟩ := hI
        replace hl : lv_has ls 7 [(2, .int r_110), (0, .ref (a h0))] := hl2
        replace hP := hP2
        replace hD := hD2
        replace hS := hS2
        clear hl2 hP2 hD2 hS2
        replace hf := fn_X18_coin_B100_s hf
        refine W.eq (g2 := F0 m 100 ls [.int p_119]) rfl ?_
        refine lv_istore (lv' := [(4, .int p_119), (2, .int r_110), (0, .ref (a h0))]) hx hb dX18_coin_100 hl (by decide) rfl (fun ls hl2 => ?_)
        replace hl := hl2
        clear hl2
        refine lv_iload hx hb dX18_coin_102 (lv_at hl 0 rfl) ?_
        refine lv_if_lt (tgt := 115) hx hb dX18_coin_104 (by decide) (fun c_121 => ?_) (fun c_121 => ?_)
        · skip
          rw [if_pos c_121] at hf
          obtain ⟨h8, h9⟩ := ret_some hf
          rw [h8]
          exact W.vret hx hb hr (fun t ht hW => ⟨⟨(), rfl, trivial, by rw [ht]; exact hP, va_K.moved hW.alike hK, hD⟩, hS.F ht⟩) hS.2.2 dX18_coin_115
        · skip
          rw [if_neg c_121] at hf
          refine lv_aload_n hx hb dX18_coin_107 rfl (lv_at hl 2 rfl) ?_
          refine lv_iconst (v := 5) hx hb dX18_coin_108 (by decide) ?_
          obtain ⟨z_122, r_123, hfc, hf⟩ := cal_some hf
          have hFc := de_free hD hS hA
          refine va_calli (va_runV (As := [.int 5]) (rest := []) ⟨hx, hb, hml, hown, hts⟩ (de_X18_spend l dC dI cy a sh n H.size F z_120 h0 5 hfc) (cwV 1 hts gX18_coin_X18_spend rfl rfl rfl (by decide +kernel) ⟨Nat.le_of_ble_eq_true rfl, Nat.le_of_ble_eq_true rfl⟩) ⟨fun a U g mk q => by obtain ⟨q0, q1, qP, qK, qD, qN⟩ := q; exact ⟨q0, q1, qP, va_K.moved (u := U) (U := U.calling g mk a) (Vm.Alike.refl U.vm) qK, qD, qN.same rfl⟩, va_recv hK hP (ci := 18) (q0 := h0) rfl (Wd_ob kg_111 sg_111 (by decide)), fun U hU hW => ⟨rfl, by rw [hU], by rw [hU]; exact hP, va_K.moved hW.alike hK, hD.weaken (fun _ _ _ _ => trivial), hN.warm hW⟩⟩ rfl rfl hl.1 rfl (lv_room (Nat.le_of_ble_eq_true rfl)) dX18_coin_109 ⟨Nat.le_of_ble_eq_true rfl, Nat.le_of_ble_eq_true rfl⟩) hS (fun q _ h => hFc q h) hFc (fun rr u t H_124 locs ht hvm hw hB hz1 hk1 hS2 => ?_)
          rw [hw]
          clear hw
          obtain ⟨hP1, -, hD1⟩ := hB
          rw [ht] at hP1
          replace hD := hD1.weaken (fun _ _ _ h => hFc _ h)
          replace hP := hP1
          replace hS := hS2
          clear hP1 hD1 hS2 hFc hfc hz1 hk1 hvm ht
          refine lv_if_ne (tgt := 116) hx hb dX18_coin_112 (by decide) (fun c_125 => ?_) (fun c_125 => ?_)
          · skip
            rw [if_neg c_125] at hf
            refine lv_aload_n hx hb dX18_coin_116 rfl (lv_at hl 2 rfl) ?_
            obtain ⟨k_126, ek_126, hf⟩ := lnk_some hf
            refine va_get (D := (dC, dI)) (ci := 18) (v := .ref (a k_126)) (C := RX18) (T := TX18) (N := 78) hx hb hts iwd_X18_coin_X18 hown hK hP h0 (Wd_ob kg_111 sg_111 (by decide)) rfl 33 (by decide) (hts _ md_X18_coin_1) (fun _ h9 => h9) (fl_q rfl ek_126) dX18_coin_117 ?_
            refine lv_iload hx hb dX18_coin_120 (lv_at hl 0 rfl) ?_
            refine lv_dup2_11 hx hb dX18_coin_122 rfl rfl ?_
            obtain ⟨g_127, hf⟩ := grd_some hf
            obtain ⟨kg_127, sg_127, ig_127⟩ := okA_at g_127
            refine va_lald hx hb hK hP k_126 2 (Wd_al kg_127 sg_127) rfl ig_127 dX18_coin_123 ?_
            refine lv_aload_n hx hb dX18_coin_124 rfl (lv_at hl 2 rfl) ?_
            obtain ⟨k_128, ek_128, hf⟩ := lnk_some hf
            refine va_get (D := (dC, dI)) (ci := 18) (v := .ref (a k_128)) (C := RX18) (T := TX18) (N := 78) hx hb hts iwd_X18_coin_X18 hown hK hP h0 (Wd_ob kg_111 sg_111 (by decide)) rfl 15 (by decide) (hts _ md_X18_coin_2) (fun _ h9 => h9) (fl_q rfl ek_128) dX18_coin_125 ?_
            obtain ⟨g_129, hf⟩ := grd_some hf
            obtain ⟨kg_129, sg_129⟩ := okO_at g_129
            obtain ⟨k_130, ek_130, hf⟩ := lnk_some hf
            refine va_getN (D := (dC, dI)) (ci := 15) (v := .ref (a k_130)) (C := RX15) (T := TX15) (N := 6) hx hb hts iwd_X18_coin_X15 hown hK hP k_128 (Wd_ob kg_129 sg_129 (by decide)) rfl 2 (by decide) (va_Nw.use rfl (NK_f_X18_77 hN)) (fun _ h9 => h9) (fl_q rfl ek_130) dX18_coin_128 ?_
            refine lv_aload_n hx hb dX18_coin_131 rfl (lv_at hl 2 rfl) ?_
            obtain ⟨k_131, ek_131, hf⟩ := lnk_some hf
            refine va_get (D := (dC, dI)) (ci := 18) (v := .ref (a k_131)) (C := RX18) (T := TX18) (N := 78) hx hb hts iwd_X18_coin_X18 hown hK hP h0 (Wd_ob kg_111 sg_111 (by decide)) rfl 15 (by decide) (hts _ md_X18_coin_2) (fun _ h9 => h9) (fl_q rfl ek_131) dX18_coin_132 ?_
            obtain ⟨g_132, hf⟩ := grd_some hf
            obtain ⟨kg_132, sg_132⟩ := okO_at g_132
            obtain ⟨k_133, ek_133, hf⟩ := lnk_some hf
            refine va_getN (D := (dC, dI)) (ci := 15) (v := .ref (a k_133)) (C := RX15) (T := TX15) (N := 6) hx hb hts iwd_X18_coin_X15 hown hK hP k_131 (Wd_ob kg_132 sg_132 (by decide)) rfl 3 (by decide) (va_Nw.use rfl (NK_f_X18_84 hN)) (fun _ h9 => h9) (fl_q rfl ek_133) dX18_coin_135 ?_
            refine lv_iload_n hx hb dX18_coin_138 rfl (lv_at hl 1 rfl) ?_
            obtain ⟨g_134, hf⟩ := grd_some hf
            obtain ⟨kg_134, sg_134, ig_134⟩ := okA_at g_134
            refine va_iald hx hb hK hP k_133 1 (Wd_ai kg_134 sg_134) rfl ig_134 dX18_coin_139 ?_
            obtain ⟨g_135, hf⟩ := grd_some hf
            obtain ⟨kg_135, sg_135, ig_135⟩ := okA_at g_135
            refine va_lald hx hb hK hP k_130 2 (Wd_al kg_135 sg_135) rfl ig_135 dX18_coin_140 ?_
            refine lv_ladd hx hb dX18_coin_141 ?_
            obtain ⟨g_136, hf⟩ := grd_some hf
            obtain ⟨kg_136, sg_136, ig_136⟩ := okA_at g_136
            refine va_last hx hb hK hP hD hS k_126 2 (Wd_al kg_136 sg_136) rfl ig_136 dX18_coin_142 (fun H_137 locs hP2 hD2 hS2 => ?_)
            rw [Wd_tl sg_136] at hP2 hD2
            obtain ⟨z_138, ez_138⟩ : ∃ w, w = sl z_122 k_126 p_119.toNatClampNeg ((z_122.2.1 k_126 p_119.toNatClampNeg) + (z_122.2.1 k_130 (z_122.1 k_133 r_110.toNatClampNeg).toNatClampNeg)) := ⟨_, rfl⟩
            rw [← ez_138] at hP2 hD2
            replace hf := lt_at ez_138 hf
            clear ez_138
            replace hP := hP2
            replace hD := hD2
            replace hS := hS2
            clear hP2 hD2 hS2
            refine lv_aload_n hx hb dX18_coin_143 rfl (lv_at hl 2 rfl) ?_
            obtain ⟨k_139, ek_139, hf⟩ := lnk_some hf
            refine va_get (D := (dC, dI)) (ci := 18) (v := .ref (a k_139)) (C := RX18) (T := TX18) (N := 78) hx hb hts iwd_X18_coin_X18 hown hK hP h0 (Wd_ob kg_111 sg_111 (by decide)) rfl 35 (by decide) (hts _ md_X18_coin_3) (fun _ h9 => h9) (fl_q rfl ek_139) dX18_coin_144 ?_
            refine lv_iload hx hb dX18_coin_147 (lv_at hl 0 rfl) ?_
            refine lv_iconst (v := 1) hx hb dX18_coin_149 (by decide) ?_
            obtain ⟨g_140, hf⟩ := grd_some hf
            obtain ⟨kg_140, sg_140, ig_140⟩ := okA_at g_140
            refine va_zast hx hb hK hP hD hS k_139 3 (Wd_az kg_140 sg_140) rfl ig_140 dX18_coin_150 (fun H_141 locs hP2 hD2 hS2 => ?_)
            rw [Wd_tz sg_140] at hP2 hD2
            obtain ⟨z_142, ez_142⟩ : ∃ w, w = si z_138 k_139 p_119.toNatClampNeg (vp_nar .boolean 1) := ⟨_, rfl⟩
            rw [← ez_142] at hP2 hD2
            replace hf := lt_at ez_142 hf
            clear ez_142
            replace hP := hP2
            replace hD := hD2
            replace hS := hS2
            clear hP2 hD2 hS2
            refine lv_goto (tgt := 406) hx hb dX18_coin_151 (by decide) ?_
            obtain ⟨h8, h9⟩ := ret_some hf
            rw [h8]
            exact W.vret hx hb hr (fun t ht hW => ⟨⟨(), rfl, trivial, by rw [ht]; exact hP, va_K.moved hW.alike hK, hD⟩, hS.F ht⟩) hS.2.2 dX18_coin_406
          · skip
            rw [if_pos c_125] at hf
            obtain ⟨h8, h9⟩ := ret_some hf
            rw [h8]
            exact W.vret hx hb hr (fun t ht hW => ⟨⟨(), rfl, trivial, by rw [ht]; exact hP, va_K.moved hW.alike hK, hD⟩, hS.F ht⟩) hS.2.2 dX18_coin_115
      refine lv_if_eq (tgt := 99) hx hb dX18_coin_78 (by decide) (fun c_143 => ?_) (fun c_143 => ?_)
      · skip
        rw [if_pos c_143] at hf
        refine lv_iconst (v := (-1)) hx hb dX18_coin_99 (by decide) ?_
        exact B100 (z_116, (-1)) ls H_118 locs ⟨lv_sub hl [1, 2] rfl, hP, hD, hS⟩ hf
      · skip
        rw [if_neg c_143] at hf
        refine lv_aload_n hx hb dX18_coin_81 rfl (lv_at hl 2 rfl) ?_
        refine lv_iconst (v := 1) hx hb dX18_coin_82 (by decide) ?_
        refine lv_aload_n hx hb dX18_coin_83 rfl (lv_at hl 2 rfl) ?_
        obtain ⟨k_144, ek_144, hf⟩ := lnk_some hf
        refine va_get (D := (dC, dI)) (ci := 18) (v := .ref (a k_144)) (C := RX18) (T := TX18) (N := 78) hx hb hts iwd_X18_coin_X18 hown hK hP h0 (Wd_ob kg_111 sg_111 (by decide)) rfl 15 (by decide) (hts _ md_X18_coin_2) (fun _ h9 => h9) (fl_q rfl ek_144) dX18_coin_84 ?_
        obtain ⟨g_145, hf⟩ := grd_some hf
        obtain ⟨kg_145, sg_145⟩ := okO_at g_145
        obtain ⟨k_146, ek_146, hf⟩ := lnk_some hf
        refine va_getN (D := (dC, dI)) (ci := 15) (v := .ref (a k_146)) (C := RX15) (T := TX15) (N := 6) hx hb hts iwd_X18_coin_X15 hown hK hP k_144 (Wd_ob kg_145 sg_145 (by decide)) rfl 2 (by decide) (va_Nw.use rfl (NK_f_X18_77 hN)) (fun _ h9 => h9) (fl_q rfl ek_146) dX18_coin_87 ?_
        refine lv_iload_n hx hb dX18_coin_90 rfl (lv_at hl 0 rfl) ?_
        obtain ⟨g_147, hf⟩ := grd_some hf
        obtain ⟨kg_147, sg_147, ig_147⟩ := okA_at g_147
        refine va_lald hx hb hK hP k_146 2 (Wd_al kg_147 sg_147) rfl ig_147 dX18_coin_91 ?_
        refine lv_iconst (v := 0) hx hb dX18_coin_92 (by decide) ?_
        obtain ⟨z_148, r_149, hfc, hf⟩ := cal_some hf
        have hFc := de_free hD hS hA
        refine va_calli (va_runV (As := [.int 1, .long (z_116.2.1 k_146 r_114.toNatClampNeg), .int 0]) (rest := []) ⟨hx, hb, hml, hown, hts⟩ (de_X18_ask l dC dI cy a sh n H_118.size F z_116 h0 1 (z_116.2.1 k_146 r_114.toNatClampNeg) 0 hfc) (cwV 3 hts gX18_coin_X18_ask rfl rfl rfl (by decide +kernel) ⟨Nat.le_of_ble_eq_true rfl, Nat.le_of_ble_eq_true rfl⟩) ⟨fun a U g mk q => by obtain ⟨q0, q1, qP, qK, qD, qN⟩ := q; exact ⟨q0, q1, qP, va_K.moved (u := U) (U := U.calling g mk a) (Vm.Alike.refl U.vm) qK, qD, qN.same rfl⟩, va_recv hK hP (ci := 18) (q0 := h0) rfl (Wd_ob kg_111 sg_111 (by decide)), fun U hU hW => ⟨rfl, by rw [hU], by rw [hU]; exact hP, va_K.moved hW.alike hK, hD.weaken (fun _ _ _ _ => trivial), hN.warm hW⟩⟩ rfl rfl hl.1 rfl (lv_room (Nat.le_of_ble_eq_true rfl)) dX18_coin_93 ⟨Nat.le_of_ble_eq_true rfl, Nat.le_of_ble_eq_true rfl⟩) hS (fun q _ h => hFc q h) hFc (fun rr u t H_150 locs ht hvm hw hB hz1 hk1 hS2 => ?_)
        rw [hw]
        clear hw
        obtain ⟨hP1, -, hD1⟩ := hB
        rw [ht] at hP1
        replace hD := hD1.weaken (fun _ _ _ h => hFc _ h)
        replace hP := hP1
        replace hS := hS2
        clear hP1 hD1 hS2 hFc hfc hz1 hk1 hvm ht
        refine lv_goto (tgt := 100) hx hb dX18_coin_96 (by decide) ?_
        exact B100 (z_148, r_149) ls H_150 locs ⟨lv_sub hl [1, 2] rfl, hP, hD, hS⟩ hf
  · skip
    rw [if_pos c_1] at hf
    refine lv_aload_n hx hb dX18_coin_4 rfl (lv_at hl 0 rfl) ?_
    obtain ⟨g_153, hf⟩ := grd_some hf
    obtain ⟨kg_153, sg_153⟩ := okO_at g_153
    obtain ⟨z_151, r_152, hfc, hf⟩ := cal_some hf
    have hFc := de_free hD hS hA
    refine va_calll (va_runV (As := []) (rest := []) ⟨hx, hb, hml, hown, hts⟩ (de_X18_takeLong l dC dI cy a sh n H.size F z h0 hfc) (cwV 0 hts gX18_coin_X18_takeLong rfl rfl rfl (by decide +kernel) ⟨Nat.le_of_ble_eq_true rfl, Nat.le_of_ble_eq_true rfl⟩) ⟨fun a U g mk q => by obtain ⟨q0, q1, qP, qK, qD, qN⟩ := q; exact ⟨q0, q1, qP, va_K.moved (u := U) (U := U.calling g mk a) (Vm.Alike.refl U.vm) qK, qD, qN.same rfl⟩, va_recv hK hP (ci := 18) (q0 := h0) rfl (Wd_ob kg_153 sg_153 (by decide)), fun U hU hW => ⟨rfl, by rw [hU], by rw [hU]; exact hP, va_K.moved hW.alike hK, hD.weaken (fun _ _ _ _ => trivial), hN.warm hW⟩⟩ rfl rfl hl.1 rfl (lv_room (Nat.le_of_ble_eq_true rfl)) dX18_coin_5 ⟨Nat.le_of_ble_eq_true rfl, Nat.le_of_ble_eq_true rfl⟩) hS (fun q _ h => hFc q h) hFc (fun rr u t H_154 locs ht hvm hw hB hz1 hk1 hS2 => ?_)
    rw [hw]
    clear hw
    obtain ⟨hP1, -, hD1⟩ := hB
    rw [ht] at hP1
    replace hD := hD1.weaken (fun _ _ _ h => hFc _ h)
    replace hP := hP1
    replace hS := hS2
    clear hP1 hD1 hS2 hFc hfc hz1 hk1 hvm ht
    refine lv_lstore_n (lv' := [(2, .long r_152), (0, .ref (a h0)), (1, .int x0)]) hx hb dX18_coin_8 rfl hl (by decide) rfl (fun ls hl2 => ?_)
    replace hl := hl2
    clear hl2
    refine lv_aload_n hx hb dX18_coin_9 rfl (lv_at hl 1 rfl) ?_
    refine lv_iconst (v := 5) hx hb dX18_coin_10 (by decide) ?_
    obtain ⟨z_155, r_156, hfc, hf⟩ := cal_some hf
    have hFc := de_free hD hS hA
    refine va_calli (va_runV (As := [.int 5]) (rest := []) ⟨hx, hb, hml, hown, hts⟩ (de_X18_spend l dC dI cy a sh n H_154.size F z_151 h0 5 hfc) (cwV 1 hts gX18_coin_X18_spend rfl rfl rfl (by decide +kernel) ⟨Nat.le_of_ble_eq_true rfl, Nat.le_of_ble_eq_true rfl⟩) ⟨fun a U g mk q => by obtain ⟨q0, q1, qP, qK, qD, qN⟩ := q; exact ⟨q0, q1, qP, va_K.moved (u := U) (U := U.calling g mk a) (Vm.Alike.refl U.vm) qK, qD, qN.same rfl⟩, va_recv hK hP (ci := 18) (q0 := h0) rfl (Wd_ob kg_153 sg_153 (by decide)), fun U hU hW => ⟨rfl, by rw [hU], by rw [hU]; exact hP, va_K.moved hW.alike hK, hD.weaken (fun _ _ _ _ => trivial), hN.warm hW⟩⟩ rfl rfl hl.1 rfl (lv_room (Nat.le_of_ble_eq_true rfl)) dX18_coin_11 ⟨Nat.le_of_ble_eq_true rfl, Nat.le_of_ble_eq_true rfl⟩) hS (fun q _ h => hFc q h) hFc (fun rr u t H_157 locs ht hvm hw hB hz1 hk1 hS2 => ?_)
    rw [hw]
    clear hw
    obtain ⟨hP1, -, hD1⟩ := hB
    rw [ht] at hP1
    replace hD := hD1.weaken (fun _ _ _ h => hFc _ h)
    replace hP := hP1
    replace hS := hS2
    clear hP1 hD1 hS2 hFc hfc hz1 hk1 hvm ht
    refine lv_if_ne (tgt := 18) hx hb dX18_coin_14 (by decide) (fun c_158 => ?_) (fun c_158 => ?_)
    · skip
      rw [if_neg c_158] at hf
      refine lv_aload_n hx hb dX18_coin_18 rfl (lv_at hl 1 rfl) ?_
      obtain ⟨k_159, ek_159, hf⟩ := lnk_some hf
      refine va_get (D := (dC, dI)) (ci := 18) (v := .ref (a k_159)) (C := RX18) (T := TX18) (N := 78) hx hb hts iwd_X18_coin_X18 hown hK hP h0 (Wd_ob kg_153 sg_153 (by decide)) rfl 33 (by decide) (hts _ md_X18_coin_1) (fun _ h9 => h9) (fl_q rfl ek_159) dX18_coin_19 ?_
      refine lv_iconst (v := 0) hx hb dX18_coin_22 (by decide) ?_
      obtain ⟨g_160, hf⟩ := grd_some hf
      obtain ⟨kg_160, sg_160, ig_160⟩ := okA_at g_160
      refine va_lald hx hb hK hP k_159 2 (Wd_al kg_160 sg_160) rfl ig_160 dX18_coin_23 ?_
      refine lv_lload_n hx hb dX18_coin_24 rfl (lv_at hl 0 rfl) ?_
      obtain ⟨z_161, r_162, hfc, hf⟩ := cal_some hf
      have hFc := de_free hD hS hA
      refine va_calli (va_runS (As := [.long (z_155.2.1 k_159 (0 : Int32).toNatClampNeg), .long r_152]) (rest := []) ⟨hx, hb, hml, hown, hts⟩ (de_X18_isBelow l dC dI cy a sh n H_157.size F z_155 (z_155.2.1 k_159 (0 : Int32).toNatClampNeg) r_152 hfc) (va_cwS 2 hts gX18_coin_X18_isBelow rfl rfl rfl (by decide +kernel) ⟨Nat.le_of_ble_eq_true rfl, Nat.le_of_ble_eq_true rfl⟩) ⟨fun a U g mk q => by obtain ⟨q0, q1, qP, qK, qD, qN⟩ := q; exact ⟨q0, q1, qP, va_K.moved (u := U) (U := U.calling g mk a) (Vm.Alike.refl U.vm) qK, qD, qN.same rfl⟩, fun U hU hW => ⟨rfl, by rw [hU], by rw [hU]; exact hP, va_K.moved hW.alike hK, hD.weaken (fun _ _ _ _ => trivial), hN.warm hW⟩⟩ rfl rfl hl.1 rfl (lv_room (Nat.le_of_ble_eq_true rfl)) dX18_coin_25 ⟨Nat.le_of_ble_eq_true rfl, Nat.le_of_ble_eq_true rfl⟩) hS (fun q _ h => hFc q h) hFc (fun rr u t H_163 locs ht hvm hw hB hz1 hk1 hS2 => ?_)
      rw [hw]
      clear hw
      obtain ⟨hP1, -, hD1⟩ := hB
      rw [ht] at hP1
      replace hD := hD1.weaken (fun _ _ _ h => hFc _ h)
      replace hP := hP1
      replace hS := hS2
      clear hP1 hD1 hS2 hFc hfc hz1 hk1 hvm ht
      refine lv_if_eq (tgt := 38) hx hb dX18_coin_28 (by decide) (fun c_164 => ?_) (fun c_164 => ?_)
      · skip
        rw [if_pos c_164] at hf
        refine lv_aload_n hx hb dX18_coin_38 rfl (lv_at hl 1 rfl) ?_
        obtain ⟨k_165, ek_165, hf⟩ := lnk_some hf
        refine va_get (D := (dC, dI)) (ci := 18) (v := .ref (a k_165)) (C := RX18) (T := TX18) (N := 78) hx hb hts iwd_X18_coin_X18 hown hK hP h0 (Wd_ob kg_153 sg_153 (by decide)) rfl 33 (by decide) (hts _ md_X18_coin_1) (fun _ h9 => h9) (fl_q rfl ek_165) dX18_coin_39 ?_
        refine lv_iconst (v := 0) hx hb dX18_coin_42 (by decide) ?_
        refine lv_dup2_11 hx hb dX18_coin_43 rfl rfl ?_
        obtain ⟨g_166, hf⟩ := grd_some hf
        obtain ⟨kg_166, sg_166, ig_166⟩ := okA_at g_166
        refine va_lald hx hb hK hP k_165 2 (Wd_al kg_166 sg_166) rfl ig_166 dX18_coin_44 ?_
        refine lv_lload_n hx hb dX18_coin_45 rfl (lv_at hl 0 rfl) ?_
        refine lv_lsub hx hb dX18_coin_46 ?_
        obtain ⟨g_167, hf⟩ := grd_some hf
        obtain ⟨kg_167, sg_167, ig_167⟩ := okA_at g_167
        refine va_last hx hb hK hP hD hS k_165 2 (Wd_al kg_167 sg_167) rfl ig_167 dX18_coin_47 (fun H_168 locs hP2 hD2 hS2 => ?_)
        rw [Wd_tl sg_167] at hP2 hD2
        obtain ⟨z_169, ez_169⟩ : ∃ w, w = sl z_161 k_165 (0 : Int32).toNatClampNeg ((z_161.2.1 k_165 (0 : Int32).toNatClampNeg) - r_152) := ⟨_, rfl⟩
        rw [← ez_169] at hP2 hD2
        replace hf := lt_at ez_169 hf
        clear ez_169
        replace hP := hP2
        replace hD := hD2
        replace hS := hS2
        clear hP2 hD2 hS2
        refine lv_aload_n hx hb dX18_coin_48 rfl (lv_at hl 1 rfl) ?_
        refine lv_lload_n hx hb dX18_coin_49 rfl (lv_at hl 0 rfl) ?_
        obtain ⟨z_170, _u, hfc, hf⟩ := cal_some hf
        have hFc := de_free hD hS hA
        refine va_callv (va_runV (As := [.long r_152]) (rest := []) ⟨hx, hb, hml, hown, hts⟩ (de_X18_makeCoin l dC dI cy a sh n H_168.size F z_169 h0 r_152 hfc) (cwV 1 hts gX18_coin_X18_makeCoin rfl rfl rfl (by decide +kernel) ⟨Nat.le_of_ble_eq_true rfl, Nat.le_of_ble_eq_true rfl⟩) ⟨fun a U g mk q => by obtain ⟨q0, q1, qP, qK, qD, qN⟩ := q; exact ⟨q0, q1, qP, va_K.moved (u := U) (U := U.calling g mk a) (Vm.Alike.refl U.vm) qK, qD, qN.same rfl⟩, va_recv hK hP (ci := 18) (q0 := h0) rfl (Wd_ob kg_153 sg_153 (by decide)), fun U hU hW => ⟨rfl, by rw [hU], by rw [hU]; exact hP, va_K.moved hW.alike hK, hD.weaken (fun _ _ _ _ => trivial), hN.warm hW⟩⟩ rfl rfl hl.1 rfl (lv_room (Nat.le_of_ble_eq_true rfl)) dX18_coin_50 ⟨Nat.le_of_ble_eq_true rfl, Nat.le_of_ble_eq_true rfl⟩) hS (fun q _ h => hFc q h) hFc (fun u t H_171 locs ht hvm hw hB hz1 hk1 hS2 => ?_)
        obtain ⟨hP1, -, hD1⟩ := hB
        rw [ht] at hP1
        replace hD := hD1.weaken (fun _ _ _ h => hFc _ h)
        replace hP := hP1
        replace hS := hS2
        clear hP1 hD1 hS2 hFc hfc hz1 hk1 hvm ht
        refine lv_goto (tgt := 406) hx hb dX18_coin_53 (by decide) ?_
        obtain ⟨h8, h9⟩ := ret_some hf
        rw [h8]
        exact W.vret hx hb hr (fun t ht hW => ⟨⟨(), rfl, trivial, by rw [ht]; exact hP, va_K.moved hW.alike hK, hD⟩, hS.F ht⟩) hS.2.2 dX18_coin_406
      · skip
        rw [if_neg c_164] at hf
        refine lv_aload_n hx hb dX18_coin_31 rfl (lv_at hl 1 rfl) ?_
        refine lv_iconst (v := 1) hx hb dX18_coin_32 (by decide) ?_
        refine lv_lconst (v := 1) hx hb dX18_coin_33 (by decide) ?_
        obtain ⟨z_172, _u, hfc, hf⟩ := cal_some hf
        have hFc := de_free hD hS hA
        refine va_callv (va_runV (As := [.int 1, .long 1]) (rest := []) ⟨hx, hb, hml, hown, hts⟩ (de_X18_end l dC dI cy a sh n H_163.size F z_161 h0 1 1 hfc) (cwV 2 hts gX18_coin_X18_end rfl rfl rfl (by decide +kernel) ⟨Nat.le_of_ble_eq_true rfl, Nat.le_of_ble_eq_true rfl⟩) ⟨fun a U g mk q => by obtain ⟨q0, q1, qP, qK, qD, qN⟩ := q; exact ⟨q0, q1, qP, va_K.moved (u := U) (U := U.calling g mk a) (Vm.Alike.refl U.vm) qK, qD, qN.same rfl⟩, va_recv hK hP (ci := 18) (q0 := h0) rfl (Wd_ob kg_153 sg_153 (by decide)), fun U hU hW => ⟨rfl, by rw [hU], by rw [hU]; exact hP, va_K.moved hW.alike hK, hD.weaken (fun _ _ _ _ => trivial), hN.warm hW⟩⟩ rfl rfl hl.1 rfl (lv_room (Nat.le_of_ble_eq_true rfl)) dX18_coin_34 ⟨Nat.le_of_ble_eq_true rfl, Nat.le_of_ble_eq_true rfl⟩) hS (fun q _ h => hFc q h) hFc (fun u t H_173 locs ht hvm hw hB hz1 hk1 hS2 => ?_)
        obtain ⟨hP1, -, hD1⟩ := hB
        rw [ht] at hP1
        replace hD := hD1.weaken (fun _ _ _ h => hFc _ h)
        replace hP := hP1
        replace hS := hS2
        clear hP1 hD1 hS2 hFc hfc hz1 hk1 hvm ht
        obtain ⟨h8, h9⟩ := ret_some hf
        rw [h8]
        exact W.vret hx hb hr (fun t ht hW => ⟨⟨(), rfl, trivial, by rw [ht]; exact hP, va_K.moved hW.alike hK, hD⟩, hS.F ht⟩) hS.2.2 dX18_coin_37
    · skip
      rw [if_pos c_158] at hf
      obtain ⟨h8, h9⟩ := ret_some hf
      rw [h8]
      exact W.vret hx hb hr (fun t ht hW => ⟨⟨(), rfl, trivial, by rw [ht]; exact hP, va_K.moved hW.alike hK, hD⟩, hS.F ht⟩) hS.2.2 dX18_coin_17

theorem md_X18_manyThere_1 : (.fieldLink RX18 17 "ResourceLedgerModel" "units" "[LResourceLedgerModel$Unit;" : Cond) ∈ wsX18_manyThere := List.mem_of_getElem? (i := 1) rfl
theorem iwd_X18_manyThere_X18 : ∀ w ∈ wsX180, w ∈ wsX18_manyThere := fun _ h => List.mem_cons_of_mem _ (List.mem_append_left _ (List.mem_append_right _ h))
set_option maxHeartbeats 4000000 in
set_option maxRecDepth 100000 in
theorem de_X18_manyThere (l : Launch) (dC : Nat → ClassId) (dI : Nat → Nat → Nat) (cy : Nat → ClassId) (a : Nat → Nat) (sh : Nat → Nat × Nat) (n sz : Nat) (F : Nat) (z : St) (h0 : Nat) (x0 : Int32) (x1 : Int32) (x2 : Int32) {z8 : St} {r8 : Int32} (hf : fn_X18_manyThere F sh n z h0 x0 x1 x2 = some (z8, r8)) : Met l yX18_manyThere wsX18_manyThere ({ frames := 6, cells := 0, slots := 0, locals := 136 }) (va_Pc [.ref (a h0), .int x0, .int x1, .int x2] (fun U => U.heap.size = sz ∧ va_P (dC, dI) vwCl (Wd cy a sh n z) U.heap ∧ va_K (dC, dI) vwCl (TYS cy) U ∧ va_D (fun _ => True) (Wd cy a sh n z) ∧ NK U)) (va_Qi (fun (r9 : Int32) (u : Unit) => r9 = r8) (fun u t => va_P (dC, dI) vwCl (Wd cy a sh n z8) t.heap ∧ va_K (dC, dI) vwCl (TYS cy) t ∧ va_D (va_A (Wd cy a sh n z) sz) (Wd cy a sh n z8)) (va_A (Wd cy a sh n z) sz)) 0 0 (va_A (Wd cy a sh n z) sz) := by
  refine Met.ofW (cc := cX18_manyThere) (maxL := 4) (ret := (some .int)) (by decide) rfl ?_
  intro p e s m args below meth c s₁ B hml hv
  obtain ⟨rfl, hsz, hP, hK, hD0, hN⟩ := hv
  have hx := B.exec
  have hb := B.bytes
  have hr := B.returns
  have hts := atoms_spec (ws := wsX18_manyThere) B.pre
  have hown : s.vm.findClass RX18 = some m.cls := findClass_of_methodNamed B.named
  have hlocks := B.notSynchronized
  subst hsz
  have hD := hD0.self (sz := s.heap.size)
  clear hD0
  generalize hAe : va_A (Wd cy a sh n z) s.heap.size = A at hD ⊢
  have hA : ∀ q : Nat, s.heap.size ≤ q → A q := fun q h => by rw [← hAe]; exact Or.inr h
  clear hAe
  have hS : va_S A s.heap s.heap [] := va_S.rf
  have hl := lv_entry ([.ref (a h0), .int x0, .int x1, .int x2]) (n := 4) (Nat.le_of_ble_eq_true rfl)
  rw [lg_entry_eq]
  generalize (lg_sl ([.ref (a h0), .int x0, .int x1, .int x2]) ++ List.replicate (4 - (lg_sl ([.ref (a h0), .int x0, .int x1, .int x2])).length) Slot.unset).toArray = ls at hl ⊢
  replace hl : lv_has ls 4 [(0, .ref (a h0)), (1, .int x0), (2, .int x1), (3, .int x2)] := hl
  unfold fn_X18_manyThere at hf
  refine de_start hS hP (fun H locs hS hP => ?_)
  refine lv_iload_n hx hb dX18_manyThere_0 rfl (lv_at hl 1 rfl) ?_
  refine lv_if_ne (tgt := 12) hx hb dX18_manyThere_1 (by decide) (fun c_1 => ?_) (fun c_1 => ?_)
  · skip
    rw [if_neg c_1] at hf
    refine lv_aload_n hx hb dX18_manyThere_12 rfl (lv_at hl 0 rfl) ?_
    obtain ⟨g_2, hf⟩ := grd_some hf
    obtain ⟨kg_2, sg_2⟩ := okO_at g_2
    obtain ⟨k_3, ek_3, hf⟩ := lnk_some hf
    refine va_get (D := (dC, dI)) (ci := 18) (v := .ref (a k_3)) (C := RX18) (T := TX18) (N := 78) hx hb hts iwd_X18_manyThere_X18 hown hK hP h0 (Wd_ob kg_2 sg_2 (by decide)) rfl 4 (by decide) (hts _ md_X18_manyThere_1) (fun _ h9 => h9) (fl_q rfl ek_3) dX18_manyThere_13 ?_
    refine lv_aload_n hx hb dX18_manyThere_16 rfl (lv_at hl 0 rfl) ?_
    refine lv_iload_n hx hb dX18_manyThere_17 rfl (lv_at hl 1 rfl) ?_
    obtain ⟨z_4, r_5, hfc, hf⟩ := cal_some hf
    have hFc := de_free hD hS hA
    refine va_calli (va_runV (As := [.int x0]) (rest := [.ref (a k_3)]) ⟨hx, hb, hml, hown, hts⟩ (de_X18_findModule l dC dI cy a sh n H.size F z h0 x0 hfc) (cwV 1 hts gX18_manyThere_X18_findModule rfl rfl rfl (by decide +kernel) ⟨Nat.le_of_ble_eq_true rfl, Nat.le_of_ble_eq_true rfl⟩) ⟨fun a U g mk q => by obtain ⟨q0, q1, qP, qK, qD, qN⟩ := q; exact ⟨q0, q1, qP, va_K.moved (u := U) (U := U.calling g mk a) (Vm.Alike.refl U.vm) qK, qD, qN.same rfl⟩, va_recv hK hP (ci := 18) (q0 := h0) rfl (Wd_ob kg_2 sg_2 (by decide)), fun U hU hW => ⟨rfl, by rw [hU], by rw [hU]; exact hP, va_K.moved hW.alike hK, hD.weaken (fun _ _ _ _ => trivial), hN.warm hW⟩⟩ rfl rfl hl.1 rfl (lv_room (Nat.le_of_ble_eq_true rfl)) dX18_manyThere_18 ⟨Nat.le_of_ble_eq_true rfl, Nat.le_of_ble_eq_true rfl⟩) hS (fun q _ h => hFc q h) hFc (fun rr u t H_6 locs ht hvm hw hB hz1 hk1 hS2 => ?_)
    rw [hw]
    clear hw
    obtain ⟨hP1, -, hD1⟩ := hB
    rw [ht] at hP1
    replace hD := hD1.weaken (fun _ _ _ h => hFc _ h)
    replace hP := hP1
    replace hS := hS2
    clear hP1 hD1 hS2 hFc hfc hz1 hk1 hvm ht
    obtain ⟨g_7, hf⟩ := grd_some hf
    obtain ⟨kg_7, sg_7, ig_7⟩ := okA_at g_7
    obtain ⟨k_8, ek_8, hf⟩ := lnk_some hf
    refine va_aldq (C := RX16) hx hb hK hP k_3 6 (Wd_aq kg_7 sg_7 (by decide)) rfl ig_7 dX18_manyThere_21 ?_
    refine W.eq (g2 := F0 m 22 ls [.ref (a k_8)]) (by rw [ek_8]; rfl) ?_
    refine lv_iload_n hx hb dX18_manyThere_22 rfl (lv_at hl 2 rfl) ?_
    refine lv_iload_n hx hb dX18_manyThere_23 rfl (lv_at hl 3 rfl) ?_
    obtain ⟨g_11, hf⟩ := grd_some hf
    obtain ⟨kg_11, sg_11⟩ := okO_at g_11
    obtain ⟨z_9, r_10, hfc, hf⟩ := cal_some hf
    have hFc := de_free hD hS hA
    refine va_calli (va_runV (As := [.int x1, .int x2]) (rest := []) ⟨hx, hb, hml, hown, hts⟩ (de_X16_many l dC dI cy a sh n H_6.size F z_4 k_8 x1 x2 hfc) (cwV 2 hts gX18_manyThere_X16_many rfl rfl rfl (by decide +kernel) ⟨Nat.le_of_ble_eq_true rfl, Nat.le_of_ble_eq_true rfl⟩) ⟨fun a U g mk q => by obtain ⟨q0, q1, qP, qK, qD, qN⟩ := q; exact ⟨q0, q1, qP, va_K.moved (u := U) (U := U.calling g mk a) (Vm.Alike.refl U.vm) qK, qD, qN.same rfl⟩, va_recv hK hP (ci := 16) (q0 := k_8) rfl (Wd_ob kg_11 sg_11 (by decide)), fun U hU hW => ⟨rfl, by rw [hU], by rw [hU]; exact hP, va_K.moved hW.alike hK, hD.weaken (fun _ _ _ _ => trivial), hN.warm hW⟩⟩ rfl rfl hl.1 rfl (lv_room (Nat.le_of_ble_eq_true rfl)) dX18_manyThere_24 ⟨Nat.le_of_ble_eq_true rfl, Nat.le_of_ble_eq_true rfl⟩) hS (fun q _ h => hFc q h) hFc (fun rr u t H_12 locs ht hvm hw hB hz1 hk1 hS2 => ?_)
    rw [hw]
    clear hw
    obtain ⟨hP1, -, hD1⟩ := hB
    rw [ht] at hP1
    replace hD := hD1.weaken (fun _ _ _ h => hFc _ h)
    replace hP := hP1
    replace hS := hS2
    clear hP1 hD1 hS2 hFc hfc hz1 hk1 hvm ht
    obtain ⟨h8, h9⟩ := ret_some hf
    rw [h8, h9]
    exact W.iret (v := r_10) hx hb hr (fun t ht hW => ⟨⟨r_10, (), rfl, rfl, by rw [ht]; exact hP, va_K.moved hW.alike hK, hD⟩, hS.F ht⟩) hS.2.2 dX18_manyThere_27
  · skip
    rw [if_pos c_1] at hf
    refine lv_iload_n hx hb dX18_manyThere_4 rfl (lv_at hl 2 rfl) ?_
    refine lv_iload_n hx hb dX18_manyThere_5 rfl (lv_at hl 3 rfl) ?_
    obtain ⟨z_13, r_14, hfc, hf⟩ := cal_some hf
    have hFc := de_free hD hS hA
    refine va_calli (va_runS (As := [.int x1, .int x2]) (rest := []) ⟨hx, hb, hml, hown, hts⟩ (de_X18_coinMany l dC dI cy a sh n H.size F z x1 x2 hfc) (va_cwS 2 hts gX18_manyThere_X18_coinMany rfl rfl rfl (by decide +kernel) ⟨Nat.le_of_ble_eq_true rfl, Nat.le_of_ble_eq_true rfl⟩) ⟨fun a U g mk q => by obtain ⟨q0, q1, qP, qK, qD, qN⟩ := q; exact ⟨q0, q1, qP, va_K.moved (u := U) (U := U.calling g mk a) (Vm.Alike.refl U.vm) qK, qD, qN.same rfl⟩, fun U hU hW => ⟨rfl, by rw [hU], by rw [hU]; exact hP, va_K.moved hW.alike hK, hD.weaken (fun _ _ _ _ => trivial), hN.warm hW⟩⟩ rfl rfl hl.1 rfl (lv_room (Nat.le_of_ble_eq_true rfl)) dX18_manyThere_6 ⟨Nat.le_of_ble_eq_true rfl, Nat.le_of_ble_eq_true rfl⟩) hS (fun q _ h => hFc q h) hFc (fun rr u t H_15 locs ht hvm hw hB hz1 hk1 hS2 => ?_)
    rw [hw]
    clear hw
    obtain ⟨hP1, -, hD1⟩ := hB
    rw [ht] at hP1
    replace hD := hD1.weaken (fun _ _ _ h => hFc _ h)
    replace hP := hP1
    replace hS := hS2
    clear hP1 hD1 hS2 hFc hfc hz1 hk1 hvm ht
    refine lv_goto (tgt := 27) hx hb dX18_manyThere_9 (by decide) ?_
    obtain ⟨h8, h9⟩ := ret_some hf
    rw [h8, h9]
    exact W.iret (v := r_14) hx hb hr (fun t ht hW => ⟨⟨r_14, (), rfl, rfl, by rw [ht]; exact hP, va_K.moved hW.alike hK, hD⟩, hS.F ht⟩) hS.2.2 dX18_manyThere_27

theorem md_X18_typeThere_1 : (.fieldLink RX18 17 "ResourceLedgerModel" "units" "[LResourceLedgerModel$Unit;" : Cond) ∈ wsX18_typeThere := List.mem_of_getElem? (i := 1) rfl
theorem iwd_X18_typeThere_X18 : ∀ w ∈ wsX180, w ∈ wsX18_typeThere := fun _ h => List.mem_cons_of_mem _ (List.mem_append_left _ (List.mem_append_right _ h))
set_option maxHeartbeats 4000000 in
set_option maxRecDepth 100000 in
theorem de_X18_typeThere (l : Launch) (dC : Nat → ClassId) (dI : Nat → Nat → Nat) (cy : Nat → ClassId) (a : Nat → Nat) (sh : Nat → Nat × Nat) (n sz : Nat) (F : Nat) (z : St) (h0 : Nat) (x0 : Int32) (x1 : Int32) (x2 : Int32) (x3 : Int32) {z8 : St} {r8 : Int64} (hf : fn_X18_typeThere F sh n z h0 x0 x1 x2 x3 = some (z8, r8)) : Met l yX18_typeThere wsX18_typeThere ({ frames := 6, cells := 0, slots := 0, locals := 139 }) (va_Pc [.ref (a h0), .int x0, .int x1, .int x2, .int x3] (fun U => U.heap.size = sz ∧ va_P (dC, dI) vwCl (Wd cy a sh n z) U.heap ∧ va_K (dC, dI) vwCl (TYS cy) U ∧ va_D (fun _ => True) (Wd cy a sh n z) ∧ NK U)) (va_Ql (fun (r9 : Int64) (u : Unit) => r9 = r8) (fun u t => va_P (dC, dI) vwCl (Wd cy a sh n z8) t.heap ∧ va_K (dC, dI) vwCl (TYS cy) t ∧ va_D (va_A (Wd cy a sh n z) sz) (Wd cy a sh n z8)) (va_A (Wd cy a sh n z) sz)) 0 0 (va_A (Wd cy a sh n z) sz) := by
  refine Met.ofW (cc := cX18_typeThere) (maxL := 5) (ret := (some .long)) (by decide) rfl ?_
  intro p e s m args below meth c s₁ B hml hv
  obtain ⟨rfl, hsz, hP, hK, hD0, hN⟩ := hv
  have hx := B.exec
  have hb := B.bytes
  have hr := B.returns
  have hts := atoms_spec (ws := wsX18_typeThere) B.pre
  have hown : s.vm.findClass RX18 = some m.cls := findClass_of_methodNamed B.named
  have hlocks := B.notSynchronized
  subst hsz
  have hD := hD0.self (sz := s.heap.size)
  clear hD0
  generalize hAe : va_A (Wd cy a sh n z) s.heap.size = A at hD ⊢
  have hA : ∀ q : Nat, s.heap.size ≤ q → A q := fun q h => by rw [← hAe]; exact Or.inr h
  clear hAe
  have hS : va_S A s.heap s.heap [] := va_S.rf
  have hl := lv_entry ([.ref (a h0), .int x0, .int x1, .int x2, .int x3]) (n := 5) (Nat.le_of_ble_eq_true rfl)
  rw [lg_entry_eq]
  generalize (lg_sl ([.ref (a h0), .int x0, .int x1, .int x2, .int x3]) ++ List.replicate (5 - (lg_sl ([.ref (a h0), .int x0, .int x1, .int x2, .int x3])).length) Slot.unset).toArray = ls at hl ⊢
  replace hl : lv_has ls 5 [(0, .ref (a h0)), (1, .int x0), (2, .int x1), (3, .int x2), (4, .int x3)] := hl
  unfold fn_X18_typeThere at hf
  refine de_start hS hP (fun H locs hS hP => ?_)
  refine lv_iload_n hx hb dX18_typeThere_0 rfl (lv_at hl 1 rfl) ?_
  refine lv_if_ne (tgt := 14) hx hb dX18_typeThere_1 (by decide) (fun c_1 => ?_) (fun c_1 => ?_)
  · skip
    rw [if_neg c_1] at hf
    refine lv_aload_n hx hb dX18_typeThere_14 rfl (lv_at hl 0 rfl) ?_
    obtain ⟨g_2, hf⟩ := grd_some hf
    obtain ⟨kg_2, sg_2⟩ := okO_at g_2
    obtain ⟨k_3, ek_3, hf⟩ := lnk_some hf
    refine va_get (D := (dC, dI)) (ci := 18) (v := .ref (a k_3)) (C := RX18) (T := TX18) (N := 78) hx hb hts iwd_X18_typeThere_X18 hown hK hP h0 (Wd_ob kg_2 sg_2 (by decide)) rfl 4 (by decide) (hts _ md_X18_typeThere_1) (fun _ h9 => h9) (fl_q rfl ek_3) dX18_typeThere_15 ?_
    refine lv_aload_n hx hb dX18_typeThere_18 rfl (lv_at hl 0 rfl) ?_
    refine lv_iload_n hx hb dX18_typeThere_19 rfl (lv_at hl 1 rfl) ?_
    obtain ⟨z_4, r_5, hfc, hf⟩ := cal_some hf
    have hFc := de_free hD hS hA
    refine va_calli (va_runV (As := [.int x0]) (rest := [.ref (a k_3)]) ⟨hx, hb, hml, hown, hts⟩ (de_X18_findModule l dC dI cy a sh n H.size F z h0 x0 hfc) (cwV 1 hts gX18_typeThere_X18_findModule rfl rfl rfl (by decide +kernel) ⟨Nat.le_of_ble_eq_true rfl, Nat.le_of_ble_eq_true rfl⟩) ⟨fun a U g mk q => by obtain ⟨q0, q1, qP, qK, qD, qN⟩ := q; exact ⟨q0, q1, qP, va_K.moved (u := U) (U := U.calling g mk a) (Vm.Alike.refl U.vm) qK, qD, qN.same rfl⟩, va_recv hK hP (ci := 18) (q0 := h0) rfl (Wd_ob kg_2 sg_2 (by decide)), fun U hU hW => ⟨rfl, by rw [hU], by rw [hU]; exact hP, va_K.moved hW.alike hK, hD.weaken (fun _ _ _ _ => trivial), hN.warm hW⟩⟩ rfl rfl hl.1 rfl (lv_room (Nat.le_of_ble_eq_true rfl)) dX18_typeThere_20 ⟨Nat.le_of_ble_eq_true rfl, Nat.le_of_ble_eq_true rfl⟩) hS (fun q _ h => hFc q h) hFc (fun rr u t H_6 locs ht hvm hw hB hz1 hk1 hS2 => ?_)
    rw [hw]
    clear hw
    obtain ⟨hP1, -, hD1⟩ := hB
    rw [ht] at hP1
    replace hD := hD1.weaken (fun _ _ _ h => hFc _ h)
    replace hP := hP1
    replace hS := hS2
    clear hP1 hD1 hS2 hFc hfc hz1 hk1 hvm ht
    obtain ⟨g_7, hf⟩ := grd_some hf
    obtain ⟨kg_7, sg_7, ig_7⟩ := okA_at g_7
    obtain ⟨k_8, ek_8, hf⟩ := lnk_some hf
    refine va_aldq (C := RX16) hx hb hK hP k_3 6 (Wd_aq kg_7 sg_7 (by decide)) rfl ig_7 dX18_typeThere_23 ?_
    refine W.eq (g2 := F0 m 24 ls [.ref (a k_8)]) (by rw [ek_8]; rfl) ?_
    refine lv_iload_n hx hb dX18_typeThere_24 rfl (lv_at hl 2 rfl) ?_
    refine lv_iload_n hx hb dX18_typeThere_25 rfl (lv_at hl 3 rfl) ?_
    refine lv_iload hx hb dX18_typeThere_26 (lv_at hl 4 rfl) ?_
    obtain ⟨g_11, hf⟩ := grd_some hf
    obtain ⟨kg_11, sg_11⟩ := okO_at g_11
    obtain ⟨z_9, r_10, hfc, hf⟩ := cal_some hf
    have hFc := de_free hD hS hA
    refine va_calll (va_runV (As := [.int x1, .int x2, .int x3]) (rest := []) ⟨hx, hb, hml, hown, hts⟩ (de_X16_listed l dC dI cy a sh n H_6.size F z_4 k_8 x1 x2 x3 hfc) (cwV 3 hts gX18_typeThere_X16_listed rfl rfl rfl (by decide +kernel) ⟨Nat.le_of_ble_eq_true rfl, Nat.le_of_ble_eq_true rfl⟩) ⟨fun a U g mk q => by obtain ⟨q0, q1, qP, qK, qD, qN⟩ := q; exact ⟨q0, q1, qP, va_K.moved (u := U) (U := U.calling g mk a) (Vm.Alike.refl U.vm) qK, qD, qN.same rfl⟩, va_recv hK hP (ci := 16) (q0 := k_8) rfl (Wd_ob kg_11 sg_11 (by decide)), fun U hU hW => ⟨rfl, by rw [hU], by rw [hU]; exact hP, va_K.moved hW.alike hK, hD.weaken (fun _ _ _ _ => trivial), hN.warm hW⟩⟩ rfl rfl hl.1 rfl (lv_room (Nat.le_of_ble_eq_true rfl)) dX18_typeThere_28 ⟨Nat.le_of_ble_eq_true rfl, Nat.le_of_ble_eq_true rfl⟩) hS (fun q _ h => hFc q h) hFc (fun rr u t H_12 locs ht hvm hw hB hz1 hk1 hS2 => ?_)
    rw [hw]
    clear hw
    obtain ⟨hP1, -, hD1⟩ := hB
    rw [ht] at hP1
    replace hD := hD1.weaken (fun _ _ _ h => hFc _ h)
    replace hP := hP1
    replace hS := hS2
    clear hP1 hD1 hS2 hFc hfc hz1 hk1 hvm ht
    obtain ⟨h8, h9⟩ := ret_some hf
    rw [h8, h9]
    exact W.lret (v := r_10) hx hb hr (fun t ht hW => ⟨⟨r_10, (), rfl, rfl, by rw [ht]; exact hP, va_K.moved hW.alike hK, hD⟩, hS.F ht⟩) hS.2.2 dX18_typeThere_31
  · skip
    rw [if_pos c_1] at hf
    refine lv_iload_n hx hb dX18_typeThere_4 rfl (lv_at hl 2 rfl) ?_
    refine lv_iload_n hx hb dX18_typeThere_5 rfl (lv_at hl 3 rfl) ?_
    refine lv_iload hx hb dX18_typeThere_6 (lv_at hl 4 rfl) ?_
    obtain ⟨z_13, r_14, hfc, hf⟩ := cal_some hf
    have hFc := de_free hD hS hA
    refine va_calll (va_runS (As := [.int x1, .int x2, .int x3]) (rest := []) ⟨hx, hb, hml, hown, hts⟩ (de_X18_coinType l dC dI cy a sh n H.size F z x1 x2 x3 hfc) (va_cwS 3 hts gX18_typeThere_X18_coinType rfl rfl rfl (by decide +kernel) ⟨Nat.le_of_ble_eq_true rfl, Nat.le_of_ble_eq_true rfl⟩) ⟨fun a U g mk q => by obtain ⟨q0, q1, qP, qK, qD, qN⟩ := q; exact ⟨q0, q1, qP, va_K.moved (u := U) (U := U.calling g mk a) (Vm.Alike.refl U.vm) qK, qD, qN.same rfl⟩, fun U hU hW => ⟨rfl, by rw [hU], by rw [hU]; exact hP, va_K.moved hW.alike hK, hD.weaken (fun _ _ _ _ => trivial), hN.warm hW⟩⟩ rfl rfl hl.1 rfl (lv_room (Nat.le_of_ble_eq_true rfl)) dX18_typeThere_8 ⟨Nat.le_of_ble_eq_true rfl, Nat.le_of_ble_eq_true rfl⟩) hS (fun q _ h => hFc q h) hFc (fun rr u t H_15 locs ht hvm hw hB hz1 hk1 hS2 => ?_)
    rw [hw]
    clear hw
    obtain ⟨hP1, -, hD1⟩ := hB
    rw [ht] at hP1
    replace hD := hD1.weaken (fun _ _ _ h => hFc _ h)
    replace hP := hP1
    replace hS := hS2
    clear hP1 hD1 hS2 hFc hfc hz1 hk1 hvm ht
    refine lv_goto (tgt := 31) hx hb dX18_typeThere_11 (by decide) ?_
    obtain ⟨h8, h9⟩ := ret_some hf
    rw [h8, h9]
    exact W.lret (v := r_14) hx hb hr (fun t ht hW => ⟨⟨r_14, (), rfl, rfl, by rw [ht]; exact hP, va_K.moved hW.alike hK, hD⟩, hS.F ht⟩) hS.2.2 dX18_typeThere_31

theorem md_X18_giveBack_1 : (.fieldLink RX18 369 "ResourceLedgerModel" "unit" "LResourceLedgerModel$Unit;" : Cond) ∈ wsX18_giveBack := List.mem_of_getElem? (i := 1) rfl
theorem iwd_X18_giveBack_X18 : ∀ w ∈ wsX180, w ∈ wsX18_giveBack := fun _ h => List.mem_cons_of_mem _ (List.mem_append_left _ (List.mem_append_right _ h))
theorem md_X18_giveBack_2 : (.fieldLink RX18 444 "ResourceLedgerModel" "frameFunctions" "[I" : Cond) ∈ wsX18_giveBack := List.mem_of_getElem? (i := 2) rfl
theorem md_X18_giveBack_3 : (.fieldLink RX18 328 "ResourceLedgerModel" "frames" "I" : Cond) ∈ wsX18_giveBack := List.mem_of_getElem? (i := 3) rfl
theorem md_X18_giveBack_4 : (.fieldLink RX18 312 "ResourceLedgerModel" "height" "I" : Cond) ∈ wsX18_giveBack := List.mem_of_getElem? (i := 4) rfl
theorem md_X18_giveBack_5 : (.fieldLink RX18 325 "ResourceLedgerModel" "bases" "[I" : Cond) ∈ wsX18_giveBack := List.mem_of_getElem? (i := 5) rfl
set_option maxHeartbeats 4000000 in
set_option maxRecDepth 100000 in
theorem de_X18_giveBack (l : Launch) (dC : Nat → ClassId) (dI : Nat → Nat → Nat) (cy : Nat → ClassId) (a : Nat → Nat) (sh : Nat → Nat × Nat) (n sz : Nat) (F : Nat) (z : St) (h0 : Nat) {z8 : St} {r8 : Unit} (hf : fn_X18_giveBack F sh n z h0 = some (z8, r8)) : Met l yX18_giveBack wsX18_giveBack ({ frames := 6, cells := 0, slots := 0, locals := 136 }) (va_Pc [.ref (a h0)] (fun U => U.heap.size = sz ∧ va_P (dC, dI) vwCl (Wd cy a sh n z) U.heap ∧ va_K (dC, dI) vwCl (TYS cy) U ∧ va_D (fun _ => True) (Wd cy a sh n z) ∧ NK U)) (va_Qv (fun u : Unit => True) (fun u t => va_P (dC, dI) vwCl (Wd cy a sh n z8) t.heap ∧ va_K (dC, dI) vwCl (TYS cy) t ∧ va_D (va_A (Wd cy a sh n z) sz) (Wd cy a sh n z8)) (va_A (Wd cy a sh n z) sz)) 0 0 (va_A (Wd cy a sh n z) sz) := by
  refine Met.ofW (cc := cX18_giveBack) (maxL := 2) (ret := none) (by decide) rfl ?_
  intro p e s m args below meth c s₁ B hml hv
  obtain ⟨rfl, hsz, hP, hK, hD0, hN⟩ := hv
  have hx := B.exec
  have hb := B.bytes
  have hr := B.returns
  have hts := atoms_spec (ws := wsX18_giveBack) B.pre
  have hown : s.vm.findClass RX18 = some m.cls := findClass_of_methodNamed B.named
  have hlocks := B.notSynchronized
  subst hsz
  have hD := hD0.self (sz := s.heap.size)
  clear hD0
  generalize hAe : va_A (Wd cy a sh n z) s.heap.size = A at hD ⊢
  have hA : ∀ q : Nat, s.heap.size ≤ q → A q := fun q h => by rw [← hAe]; exact Or.inr h
  clear hAe
  have hS : va_S A s.heap s.heap [] := va_S.rf
  have hl := lv_entry ([.ref (a h0)]) (n := 2) (Nat.le_of_ble_eq_true rfl)
  rw [lg_entry_eq]
  generalize (lg_sl ([.ref (a h0)]) ++ List.replicate (2 - (lg_sl ([.ref (a h0)])).length) Slot.unset).toArray = ls at hl ⊢
  replace hl : lv_has ls 2 [(0, .ref (a h0))] := hl
  unfold fn_X18_giveBack at hf
  refine de_start hS hP (fun H locs hS hP => ?_)
  refine lv_aload_n hx hb dX18_giveBack_0 rfl (lv_at hl 0 rfl) ?_
  obtain ⟨g_1, hf⟩ := grd_some hf
  obtain ⟨kg_1, sg_1⟩ := okO_at g_1
  obtain ⟨k_2, ek_2, hf⟩ := lnk_some hf
  refine va_get (D := (dC, dI)) (ci := 18) (v := .ref (a k_2)) (C := RX18) (T := TX18) (N := 78) hx hb hts iwd_X18_giveBack_X18 hown hK hP h0 (Wd_ob kg_1 sg_1 (by decide)) rfl 48 (by decide) (hts _ md_X18_giveBack_1) (fun _ h9 => h9) (fl_q rfl ek_2) dX18_giveBack_1 ?_
  refine lv_aload_n hx hb dX18_giveBack_4 rfl (lv_at hl 0 rfl) ?_
  obtain ⟨k_3, ek_3, hf⟩ := lnk_some hf
  refine va_get (D := (dC, dI)) (ci := 18) (v := .ref (a k_3)) (C := RX18) (T := TX18) (N := 78) hx hb hts iwd_X18_giveBack_X18 hown hK hP h0 (Wd_ob kg_1 sg_1 (by decide)) rfl 38 (by decide) (hts _ md_X18_giveBack_2) (fun _ h9 => h9) (fl_q rfl ek_3) dX18_giveBack_5 ?_
  refine lv_aload_n hx hb dX18_giveBack_8 rfl (lv_at hl 0 rfl) ?_
  refine va_get (D := (dC, dI)) (ci := 18) (v := .int (z.1 h0 36)) (C := RX18) (T := TX18) (N := 78) hx hb hts iwd_X18_giveBack_X18 hown hK hP h0 (Wd_ob kg_1 sg_1 (by decide)) rfl 36 (by decide) (hts _ md_X18_giveBack_3) (fun _ h9 => h9) (fl_at (t := 0) rfl) dX18_giveBack_9 ?_
  refine lv_iconst (v := 1) hx hb dX18_giveBack_12 (by decide) ?_
  refine lv_isub hx hb dX18_giveBack_13 ?_
  obtain ⟨g_4, hf⟩ := grd_some hf
  obtain ⟨kg_4, sg_4, ig_4⟩ := okA_at g_4
  refine va_iald hx hb hK hP k_3 1 (Wd_ai kg_4 sg_4) rfl ig_4 dX18_giveBack_14 ?_
  refine lv_iconst (v := 1) hx hb dX18_giveBack_15 (by decide) ?_
  obtain ⟨g_7, hf⟩ := grd_some hf
  obtain ⟨kg_7, sg_7⟩ := okO_at g_7
  obtain ⟨z_5, r_6, hfc, hf⟩ := cal_some hf
  have hFc := de_free hD hS hA
  refine va_calli (va_runV (As := [.int (z.1 k_3 ((z.1 h0 36) - 1).toNatClampNeg), .int 1]) (rest := []) ⟨hx, hb, hml, hown, hts⟩ (de_X16_many l dC dI cy a sh n H.size F z k_2 (z.1 k_3 ((z.1 h0 36) - 1).toNatClampNeg) 1 hfc) (cwV 2 hts gX18_giveBack_X16_many rfl rfl rfl (by decide +kernel) ⟨Nat.le_of_ble_eq_true rfl, Nat.le_of_ble_eq_true rfl⟩) ⟨fun a U g mk q => by obtain ⟨q0, q1, qP, qK, qD, qN⟩ := q; exact ⟨q0, q1, qP, va_K.moved (u := U) (U := U.calling g mk a) (Vm.Alike.refl U.vm) qK, qD, qN.same rfl⟩, va_recv hK hP (ci := 16) (q0 := k_2) rfl (Wd_ob kg_7 sg_7 (by decide)), fun U hU hW => ⟨rfl, by rw [hU], by rw [hU]; exact hP, va_K.moved hW.alike hK, hD.weaken (fun _ _ _ _ => trivial), hN.warm hW⟩⟩ rfl rfl hl.1 rfl (lv_room (Nat.le_of_ble_eq_true rfl)) dX18_giveBack_16 ⟨Nat.le_of_ble_eq_true rfl, Nat.le_of_ble_eq_true rfl⟩) hS (fun q _ h => hFc q h) hFc (fun rr u t H_8 locs ht hvm hw hB hz1 hk1 hS2 => ?_)
  rw [hw]
  clear hw
  obtain ⟨hP1, -, hD1⟩ := hB
  rw [ht] at hP1
  replace hD := hD1.weaken (fun _ _ _ h => hFc _ h)
  replace hP := hP1
  replace hS := hS2
  clear hP1 hD1 hS2 hFc hfc hz1 hk1 hvm ht
  refine lv_istore_n (lv' := [(1, .int r_6), (0, .ref (a h0))]) hx hb dX18_giveBack_19 rfl hl (by decide) rfl (fun ls hl2 => ?_)
  replace hl := hl2
  clear hl2
  refine lv_aload_n hx hb dX18_giveBack_20 rfl (lv_at hl 1 rfl) ?_
  refine va_get (D := (dC, dI)) (ci := 18) (v := .int (z_5.1 h0 45)) (C := RX18) (T := TX18) (N := 78) hx hb hts iwd_X18_giveBack_X18 hown hK hP h0 (Wd_ob kg_1 sg_1 (by decide)) rfl 45 (by decide) (hts _ md_X18_giveBack_4) (fun _ h9 => h9) (fl_at (t := 0) rfl) dX18_giveBack_21 ?_
  refine lv_aload_n hx hb dX18_giveBack_24 rfl (lv_at hl 1 rfl) ?_
  obtain ⟨k_9, ek_9, hf⟩ := lnk_some hf
  refine va_get (D := (dC, dI)) (ci := 18) (v := .ref (a k_9)) (C := RX18) (T := TX18) (N := 78) hx hb hts iwd_X18_giveBack_X18 hown hK hP h0 (Wd_ob kg_1 sg_1 (by decide)) rfl 40 (by decide) (hts _ md_X18_giveBack_5) (fun _ h9 => h9) (fl_q rfl ek_9) dX18_giveBack_25 ?_
  refine lv_aload_n hx hb dX18_giveBack_28 rfl (lv_at hl 1 rfl) ?_
  refine va_get (D := (dC, dI)) (ci := 18) (v := .int (z_5.1 h0 36)) (C := RX18) (T := TX18) (N := 78) hx hb hts iwd_X18_giveBack_X18 hown hK hP h0 (Wd_ob kg_1 sg_1 (by decide)) rfl 36 (by decide) (hts _ md_X18_giveBack_3) (fun _ h9 => h9) (fl_at (t := 0) rfl) dX18_giveBack_29 ?_
  refine lv_iconst (v := 1) hx hb dX18_giveBack_32 (by decide) ?_
  refine lv_isub hx hb dX18_giveBack_33 ?_
  obtain ⟨g_10, hf⟩ := grd_some hf
  obtain ⟨kg_10, sg_10, ig_10⟩ := okA_at g_10
  refine va_iald hx hb hK hP k_9 1 (Wd_ai kg_10 sg_10) rfl ig_10 dX18_giveBack_34 ?_
  refine lv_isub hx hb dX18_giveBack_35 ?_
  refine lv_iload_n hx hb dX18_giveBack_36 rfl (lv_at hl 0 rfl) ?_
  refine de_cut (h := 44) (fun (x : St) => []) (fun x ls H locs => lv_has ls 2 [(0, .ref (a h0))] ∧ va_P (dC, dI) vwCl (Wd cy a sh n x) H ∧ va_D A (Wd cy a sh n x) ∧ va_S A s.heap H locs) (fun x => fn_X18_giveBack_B44 F sh n h0 x) (z8, r8) ?_ (fun B44 => ?_)
  · intro x ls H locs hI hf
    obtain ⟨z_11, ez⟩ : ∃ w, w = x := ⟨_, rfl⟩
    subst ez
    obtain ⟨hl2, hP2, hD2, hS2⟩ := hI
    replace hl : lv_has ls 2 [(0, .ref (a h0))] := hl2
    replace hP := hP2
    replace hD := hD2
    replace hS := hS2
    clear hl2 hP2 hD2 hS2
    replace hf := fn_X18_giveBack_B44_s hf
    refine W.eq (g2 := F0 m 44 ls []) rfl ?_
    refine lv_aload_n hx hb dX18_giveBack_44 rfl (lv_at hl 0 rfl) ?_
    refine lv_dup hx hb dX18_giveBack_45 rfl ?_
    refine va_get (D := (dC, dI)) (ci := 18) (v := .int (z_11.1 h0 36)) (C := RX18) (T := TX18) (N := 78) hx hb hts iwd_X18_giveBack_X18 hown hK hP h0 (Wd_ob kg_1 sg_1 (by decide)) rfl 36 (by decide) (hts _ md_X18_giveBack_3) (fun _ h9 => h9) (fl_at (t := 0) rfl) dX18_giveBack_46 ?_
    refine lv_iconst (v := 1) hx hb dX18_giveBack_49 (by decide) ?_
    refine lv_isub hx hb dX18_giveBack_50 ?_
    refine va_put (D := (dC, dI)) (ci := 18) (v := .int ((z_11.1 h0 36) - 1)) (ty := .int) (C := RX18) (T := TX18) (N := 78) hx hb hts iwd_X18_giveBack_X18 tyX18 tyX18_ok nmX18 hown hK hP hD hS h0 (Wd_ob kg_1 sg_1 (by decide)) rfl 36 (by decide) (hts _ md_X18_giveBack_3) (fun _ h9 => h9) rfl (by decide +kernel) rfl rfl (by rw [fl_len]; decide) dX18_giveBack_51 (fun H_12 locs hP2 hD2 hS2 => ?_)
    rw [Wd_si sg_1 (by decide) rfl] at hP2 hD2
    obtain ⟨z_13, ez_13⟩ : ∃ w, w = si z_11 h0 36 ((z_11.1 h0 36) - 1) := ⟨_, rfl⟩
    rw [← ez_13] at hP2 hD2
    replace hf := lt_at ez_13 hf
    clear ez_13
    replace hP := hP2
    replace hD := hD2
    replace hS := hS2
    clear hP2 hD2 hS2
    refine lv_aload_n hx hb dX18_giveBack_54 rfl (lv_at hl 0 rfl) ?_
    refine va_get (D := (dC, dI)) (ci := 18) (v := .int (z_13.1 h0 36)) (C := RX18) (T := TX18) (N := 78) hx hb hts iwd_X18_giveBack_X18 hown hK hP h0 (Wd_ob kg_1 sg_1 (by decide)) rfl 36 (by decide) (hts _ md_X18_giveBack_3) (fun _ h9 => h9) (fl_at (t := 0) rfl) dX18_giveBack_55 ?_
    refine lv_if_ne (tgt := 67) hx hb dX18_giveBack_58 (by decide) (fun c_14 => ?_) (fun c_14 => ?_)
    · skip
      rw [if_neg c_14] at hf
      obtain ⟨h8, h9⟩ := ret_some hf
      rw [h8]
      exact W.vret hx hb hr (fun t ht hW => ⟨⟨(), rfl, trivial, by rw [ht]; exact hP, va_K.moved hW.alike hK, hD⟩, hS.F ht⟩) hS.2.2 dX18_giveBack_67
    · skip
      rw [if_pos c_14] at hf
      refine lv_aload_n hx hb dX18_giveBack_61 rfl (lv_at hl 0 rfl) ?_
      refine lv_iconst (v := 0) hx hb dX18_giveBack_62 (by decide) ?_
      refine lv_lconst (v := 0) hx hb dX18_giveBack_63 (by decide) ?_
      obtain ⟨z_15, _u, hfc, hf⟩ := cal_some hf
      have hFc := de_free hD hS hA
      refine va_callv (va_runV (As := [.int 0, .long 0]) (rest := []) ⟨hx, hb, hml, hown, hts⟩ (de_X18_end l dC dI cy a sh n H_12.size F z_13 h0 0 0 hfc) (cwV 2 hts gX18_giveBack_X18_end rfl rfl rfl (by decide +kernel) ⟨Nat.le_of_ble_eq_true rfl, Nat.le_of_ble_eq_true rfl⟩) ⟨fun a U g mk q => by obtain ⟨q0, q1, qP, qK, qD, qN⟩ := q; exact ⟨q0, q1, qP, va_K.moved (u := U) (U := U.calling g mk a) (Vm.Alike.refl U.vm) qK, qD, qN.same rfl⟩, va_recv hK hP (ci := 18) (q0 := h0) rfl (Wd_ob kg_1 sg_1 (by decide)), fun U hU hW => ⟨rfl, by rw [hU], by rw [hU]; exact hP, va_K.moved hW.alike hK, hD.weaken (fun _ _ _ _ => trivial), hN.warm hW⟩⟩ rfl rfl hl.1 rfl (lv_room (Nat.le_of_ble_eq_true rfl)) dX18_giveBack_64 ⟨Nat.le_of_ble_eq_true rfl, Nat.le_of_ble_eq_true rfl⟩) hS (fun q _ h => hFc q h) hFc (fun u t H_16 locs ht hvm hw hB hz1 hk1 hS2 => ?_)
      obtain ⟨hP1, -, hD1⟩ := hB
      rw [ht] at hP1
      replace hD := hD1.weaken (fun _ _ _ h => hFc _ h)
      replace hP := hP1
      replace hS := hS2
      clear hP1 hD1 hS2 hFc hfc hz1 hk1 hvm ht
      obtain ⟨h8, h9⟩ := ret_some hf
      rw [h8]
      exact W.vret hx hb hr (fun t ht hW => ⟨⟨(), rfl, trivial, by rw [ht]; exact hP, va_K.moved hW.alike hK, hD⟩, hS.F ht⟩) hS.2.2 dX18_giveBack_67
  refine lv_icmp_eq (tgt := 44) hx hb dX18_giveBack_37 (by decide) (fun c_17 => ?_) (fun c_17 => ?_)
  · skip
    rw [if_pos c_17] at hf
    exact B44 (z_5) ls H_8 locs ⟨lv_sub hl [1] rfl, hP, hD, hS⟩ hf
  · skip
    rw [if_neg c_17] at hf
    refine lv_aload_n hx hb dX18_giveBack_40 rfl (lv_at hl 1 rfl) ?_
    obtain ⟨z_18, _u, hfc, hf⟩ := cal_some hf
    have hFc := de_free hD hS hA
    refine va_callv (va_runV (As := []) (rest := []) ⟨hx, hb, hml, hown, hts⟩ (de_X18_slip l dC dI cy a sh n H_8.size F z_5 h0 hfc) (cwV 0 hts gX18_giveBack_X18_slip rfl rfl rfl (by decide +kernel) ⟨Nat.le_of_ble_eq_true rfl, Nat.le_of_ble_eq_true rfl⟩) ⟨fun a U g mk q => by obtain ⟨q0, q1, qP, qK, qD, qN⟩ := q; exact ⟨q0, q1, qP, va_K.moved (u := U) (U := U.calling g mk a) (Vm.Alike.refl U.vm) qK, qD, qN.same rfl⟩, va_recv hK hP (ci := 18) (q0 := h0) rfl (Wd_ob kg_1 sg_1 (by decide)), fun U hU hW => ⟨rfl, by rw [hU], by rw [hU]; exact hP, va_K.moved hW.alike hK, hD.weaken (fun _ _ _ _ => trivial), hN.warm hW⟩⟩ rfl rfl hl.1 rfl (lv_room (Nat.le_of_ble_eq_true rfl)) dX18_giveBack_41 ⟨Nat.le_of_ble_eq_true rfl, Nat.le_of_ble_eq_true rfl⟩) hS (fun q _ h => hFc q h) hFc (fun u t H_19 locs ht hvm hw hB hz1 hk1 hS2 => ?_)
    obtain ⟨hP1, -, hD1⟩ := hB
    rw [ht] at hP1
    replace hD := hD1.weaken (fun _ _ _ h => hFc _ h)
    replace hP := hP1
    replace hS := hS2
    clear hP1 hD1 hS2 hFc hfc hz1 hk1 hvm ht
    exact B44 (z_18) ls H_19 locs ⟨lv_sub hl [1] rfl, hP, hD, hS⟩ hf

theorem md_X9_rebuild_1 : (.fieldLink RX9 48 "ResourceLedger$Tree" "stale" "Z" : Cond) ∈ wsX9_rebuild := List.mem_of_getElem? (i := 1) rfl
theorem iwd_X9_rebuild_X9 : ∀ w ∈ wsX90, w ∈ wsX9_rebuild := fun _ h => List.mem_cons_of_mem _ (List.mem_append_left _ (List.mem_append_left _ (List.mem_append_left _ (List.mem_append_right _ h))))
theorem md_X9_rebuild_2 : (.fieldLink RX9 52 "ResourceLedger$Tree" "count" "I" : Cond) ∈ wsX9_rebuild := List.mem_of_getElem? (i := 2) rfl
theorem md_X9_rebuild_3 : (.fieldLink RX9 69 "ResourceLedger$Tree" "waitingCount" "I" : Cond) ∈ wsX9_rebuild := List.mem_of_getElem? (i := 3) rfl
theorem md_X9_rebuild_4 : (.fieldLink RX9 9 "ResourceLedger$Tree" "top" "[J" : Cond) ∈ wsX9_rebuild := List.mem_of_getElem? (i := 4) rfl
theorem md_X9_rebuild_5 : (.fieldLink RX9 42 "ResourceLedger$Tree" "waiting" "[J" : Cond) ∈ wsX9_rebuild := List.mem_of_getElem? (i := 5) rfl
set_option maxHeartbeats 4000000 in
set_option maxRecDepth 100000 in
theorem de_X9_rebuild (l : Launch) (dC : Nat → ClassId) (dI : Nat → Nat → Nat) (cy : Nat → ClassId) (a : Nat → Nat) (sh : Nat → Nat × Nat) (n sz : Nat) (F : Nat) (sk : Nat → Nat) (z : St) (h0 : Nat) (x0 : Nat) {z8 : St} {r8 : Unit} (hf : fn_X9_rebuild F sh n z h0 x0 = some (z8, r8)) : Met l yX9_rebuild wsX9_rebuild ({ frames := 6, cells := 0, slots := 0, locals := 150 }) (va_Pc [.ref (a h0), .ref (a x0)] (fun U => U.heap.size = sz ∧ va_P (dC, dI) vwCl (Wd cy a sh n z) U.heap ∧ va_K (dC, dI) vwCl (TYS cy) U ∧ va_D (fun _ => True) (Wd cy a sh n z) ∧ NK U ∧ SKs sk (a CBK) (va_A (Wd cy a sh n z) sz) U U.heap)) (va_Qv (fun u : Unit => True) (fun u t => va_P (dC, dI) vwCl (Wd cy a sh n z8) t.heap ∧ va_K (dC, dI) vwCl (TYS cy) t ∧ va_D (va_A (Wd cy a sh n z) sz) (Wd cy a sh n z8)) (va_A (Wd cy a sh n z) sz)) 0 0 (va_A (Wd cy a sh n z) sz) := by
  refine Met.ofW (cc := cX9_rebuild) (maxL := 3) (ret := none) (by decide) rfl ?_
  intro p e s m args below meth c s₁ B hml hv
  obtain ⟨rfl, hsz, hP, hK, hD0, hN, hSK⟩ := hv
  have hx := B.exec
  have hb := B.bytes
  have hr := B.returns
  have hts := atoms_spec (ws := wsX9_rebuild) B.pre
  have hown : s.vm.findClass RX9 = some m.cls := findClass_of_methodNamed B.named
  have hlocks := B.notSynchronized
  subst hsz
  have hD := hD0.self (sz := s.heap.size)
  clear hD0
  generalize hAe : va_A (Wd cy a sh n z) s.heap.size = A at hD hSK ⊢
  have hA : ∀ q : Nat, s.heap.size ≤ q → A q := fun q h => by rw [← hAe]; exact Or.inr h
  clear hAe
  have hS : va_S A s.heap s.heap [] := va_S.rf
  have hl := lv_entry ([.ref (a h0), .ref (a x0)]) (n := 3) (Nat.le_of_ble_eq_true rfl)
  rw [lg_entry_eq]
  generalize (lg_sl ([.ref (a h0), .ref (a x0)]) ++ List.replicate (3 - (lg_sl ([.ref (a h0), .ref (a x0)])).length) Slot.unset).toArray = ls at hl ⊢
  replace hl : lv_has ls 3 [(0, .ref (a h0)), (1, .ref (a x0))] := hl
  unfold fn_X9_rebuild at hf
  refine de_start hS hP (fun H locs hS hP => ?_)
  refine lv_aload_n hx hb dX9_rebuild_0 rfl (lv_at hl 0 rfl) ?_
  refine lv_iconst (v := 0) hx hb dX9_rebuild_1 (by decide) ?_
  obtain ⟨g_1, hf⟩ := grd_some hf
  obtain ⟨kg_1, sg_1⟩ := okO_at g_1
  refine va_put (D := (dC, dI)) (ci := 9) (v := .int 0) (ty := .boolean) (C := RX9) (T := TX9) (N := 13) hx hb hts iwd_X9_rebuild_X9 tyX9 tyX9_ok nmX9 hown hK hP hD hS h0 (Wd_ob kg_1 sg_1 (by decide)) rfl 1 (by decide) (hts _ md_X9_rebuild_1) (fun _ h9 => h9) rfl (by decide +kernel) rfl rfl (by rw [fl_len]; decide) dX9_rebuild_2 (fun H_2 locs hP2 hD2 hS2 => ?_)
  rw [Wd_si sg_1 (by decide) rfl] at hP2 hD2
  obtain ⟨z_3, ez_3⟩ : ∃ w, w = si z h0 1 0 := ⟨_, rfl⟩
  rw [← ez_3] at hP2 hD2
  replace hf := lt_at ez_3 hf
  clear ez_3
  replace hP := hP2
  replace hD := hD2
  replace hS := hS2
  clear hP2 hD2 hS2
  refine lv_aload_n hx hb dX9_rebuild_5 rfl (lv_at hl 0 rfl) ?_
  refine lv_iconst (v := 0) hx hb dX9_rebuild_6 (by decide) ?_
  refine va_put (D := (dC, dI)) (ci := 9) (v := .int 0) (ty := .int) (C := RX9) (T := TX9) (N := 13) hx hb hts iwd_X9_rebuild_X9 tyX9 tyX9_ok nmX9 hown hK hP hD hS h0 (Wd_ob kg_1 sg_1 (by decide)) rfl 7 (by decide) (hts _ md_X9_rebuild_2) (fun _ h9 => h9) rfl (by decide +kernel) rfl rfl (by rw [fl_len]; decide) dX9_rebuild_7 (fun H_4 locs hP2 hD2 hS2 => ?_)
  rw [Wd_si sg_1 (by decide) rfl] at hP2 hD2
  obtain ⟨z_5, ez_5⟩ : ∃ w, w = si z_3 h0 7 0 := ⟨_, rfl⟩
  rw [← ez_5] at hP2 hD2
  replace hf := lt_at ez_5 hf
  clear ez_5
  replace hP := hP2
  replace hD := hD2
  replace hS := hS2
  clear hP2 hD2 hS2
  refine lv_aload_n hx hb dX9_rebuild_10 rfl (lv_at hl 0 rfl) ?_
  refine lv_aload_n hx hb dX9_rebuild_11 rfl (lv_at hl 1 rfl) ?_
  obtain ⟨z_6, _u, hfc, hf⟩ := cal_some hf
  have hFc := de_free hD hS hA
  refine va_callv (va_runV (As := [.ref (a x0)]) (rest := []) ⟨hx, hb, hml, hown, hts⟩ (de_X9_gatherAccounts l dC dI cy a sh n H_4.size F sk z_5 h0 x0 hfc) (cwV 1 hts gX9_rebuild_X9_gatherAccounts rfl rfl rfl (by decide +kernel) ⟨Nat.le_of_ble_eq_true rfl, Nat.le_of_ble_eq_true rfl⟩) ⟨fun a U g mk q => by obtain ⟨q0, q1, qP, qK, qD, qN, qS⟩ := q; exact ⟨q0, q1, qP, va_K.moved (u := U) (U := U.calling g mk a) (Vm.Alike.refl U.vm) qK, qD, qN.same rfl, SKs.moved (u := U) (U := U.calling g mk a) (Vm.Alike.refl U.vm) qS⟩, va_recv hK hP (ci := 9) (q0 := h0) rfl (Wd_ob kg_1 sg_1 (by decide)), fun U hU hW => ⟨rfl, by rw [hU], by rw [hU]; exact hP, va_K.moved hW.alike hK, hD.weaken (fun _ _ _ _ => trivial), hN.warm hW, by rw [hU]; exact ((hSK.kept hS.2.1).narrow hFc).moved hW.alike⟩⟩ rfl rfl hl.1 rfl (lv_room (Nat.le_of_ble_eq_true rfl)) dX9_rebuild_12 ⟨Nat.le_of_ble_eq_true rfl, Nat.le_of_ble_eq_true rfl⟩) hS (fun q _ h => hFc q h) hFc (fun u t H_7 locs ht hvm hw hB hz1 hk1 hS2 => ?_)
  obtain ⟨hP1, -, hD1⟩ := hB
  rw [ht] at hP1
  replace hD := hD1.weaken (fun _ _ _ h => hFc _ h)
  replace hP := hP1
  replace hS := hS2
  clear hP1 hD1 hS2 hFc hfc hz1 hk1 hvm ht
  refine lv_aload_n hx hb dX9_rebuild_15 rfl (lv_at hl 0 rfl) ?_
  refine lv_aload_n hx hb dX9_rebuild_16 rfl (lv_at hl 1 rfl) ?_
  obtain ⟨z_8, _u, hfc, hf⟩ := cal_some hf
  have hFc := de_free hD hS hA
  refine va_callv (va_runV (As := [.ref (a x0)]) (rest := []) ⟨hx, hb, hml, hown, hts⟩ (de_X9_gatherModules l dC dI cy a sh n H_7.size F sk z_6 h0 x0 hfc) (cwV 1 hts gX9_rebuild_X9_gatherModules rfl rfl rfl (by decide +kernel) ⟨Nat.le_of_ble_eq_true rfl, Nat.le_of_ble_eq_true rfl⟩) ⟨fun a U g mk q => by obtain ⟨q0, q1, qP, qK, qD, qN, qS⟩ := q; exact ⟨q0, q1, qP, va_K.moved (u := U) (U := U.calling g mk a) (Vm.Alike.refl U.vm) qK, qD, qN.same rfl, SKs.moved (u := U) (U := U.calling g mk a) (Vm.Alike.refl U.vm) qS⟩, va_recv hK hP (ci := 9) (q0 := h0) rfl (Wd_ob kg_1 sg_1 (by decide)), fun U hU hW => ⟨rfl, by rw [hU], by rw [hU]; exact hP, va_K.moved hW.alike hK, hD.weaken (fun _ _ _ _ => trivial), hN.warm hW, by rw [hU]; exact ((hSK.kept hS.2.1).narrow hFc).moved hW.alike⟩⟩ rfl rfl hl.1 rfl (lv_room (Nat.le_of_ble_eq_true rfl)) dX9_rebuild_17 ⟨Nat.le_of_ble_eq_true rfl, Nat.le_of_ble_eq_true rfl⟩) hS (fun q _ h => hFc q h) hFc (fun u t H_9 locs ht hvm hw hB hz1 hk1 hS2 => ?_)
  obtain ⟨hP1, -, hD1⟩ := hB
  rw [ht] at hP1
  replace hD := hD1.weaken (fun _ _ _ h => hFc _ h)
  replace hP := hP1
  replace hS := hS2
  clear hP1 hD1 hS2 hFc hfc hz1 hk1 hvm ht
  refine lv_aload_n hx hb dX9_rebuild_20 rfl (lv_at hl 0 rfl) ?_
  refine lv_aload_n hx hb dX9_rebuild_21 rfl (lv_at hl 1 rfl) ?_
  obtain ⟨z_10, _u, hfc, hf⟩ := cal_some hf
  have hFc := de_free hD hS hA
  refine va_callv (va_runV (As := [.ref (a x0)]) (rest := []) ⟨hx, hb, hml, hown, hts⟩ (de_X9_gatherResources l dC dI cy a sh n H_9.size F sk z_8 h0 x0 hfc) (cwV 1 hts gX9_rebuild_X9_gatherResources rfl rfl rfl (by decide +kernel) ⟨Nat.le_of_ble_eq_true rfl, Nat.le_of_ble_eq_true rfl⟩) ⟨fun a U g mk q => by obtain ⟨q0, q1, qP, qK, qD, qN, qS⟩ := q; exact ⟨q0, q1, qP, va_K.moved (u := U) (U := U.calling g mk a) (Vm.Alike.refl U.vm) qK, qD, qN.same rfl, SKs.moved (u := U) (U := U.calling g mk a) (Vm.Alike.refl U.vm) qS⟩, va_recv hK hP (ci := 9) (q0 := h0) rfl (Wd_ob kg_1 sg_1 (by decide)), fun U hU hW => ⟨rfl, by rw [hU], by rw [hU]; exact hP, va_K.moved hW.alike hK, hD.weaken (fun _ _ _ _ => trivial), hN.warm hW, by rw [hU]; exact ((hSK.kept hS.2.1).narrow hFc).moved hW.alike⟩⟩ rfl rfl hl.1 rfl (lv_room (Nat.le_of_ble_eq_true rfl)) dX9_rebuild_22 ⟨Nat.le_of_ble_eq_true rfl, Nat.le_of_ble_eq_true rfl⟩) hS (fun q _ h => hFc q h) hFc (fun u t H_11 locs ht hvm hw hB hz1 hk1 hS2 => ?_)
  obtain ⟨hP1, -, hD1⟩ := hB
  rw [ht] at hP1
  replace hD := hD1.weaken (fun _ _ _ h => hFc _ h)
  replace hP := hP1
  replace hS := hS2
  clear hP1 hD1 hS2 hFc hfc hz1 hk1 hvm ht
  refine lv_aload_n hx hb dX9_rebuild_25 rfl (lv_at hl 0 rfl) ?_
  obtain ⟨z_12, _u, hfc, hf⟩ := cal_some hf
  have hFc := de_free hD hS hA
  refine va_callv (va_runV (As := []) (rest := []) ⟨hx, hb, hml, hown, hts⟩ (de_X9_leaveOutDoubles l dC dI cy a sh n H_11.size F z_10 h0 hfc) (cwV 0 hts gX9_rebuild_X9_leaveOutDoubles rfl rfl rfl (by decide +kernel) ⟨Nat.le_of_ble_eq_true rfl, Nat.le_of_ble_eq_true rfl⟩) ⟨fun a U g mk q => by obtain ⟨q0, q1, qP, qK, qD, qN⟩ := q; exact ⟨q0, q1, qP, va_K.moved (u := U) (U := U.calling g mk a) (Vm.Alike.refl U.vm) qK, qD, qN.same rfl⟩, va_recv hK hP (ci := 9) (q0 := h0) rfl (Wd_ob kg_1 sg_1 (by decide)), fun U hU hW => ⟨rfl, by rw [hU], by rw [hU]; exact hP, va_K.moved hW.alike hK, hD.weaken (fun _ _ _ _ => trivial), hN.warm hW⟩⟩ rfl rfl hl.1 rfl (lv_room (Nat.le_of_ble_eq_true rfl)) dX9_rebuild_26 ⟨Nat.le_of_ble_eq_true rfl, Nat.le_of_ble_eq_true rfl⟩) hS (fun q _ h => hFc q h) hFc (fun u t H_13 locs ht hvm hw hB hz1 hk1 hS2 => ?_)
  obtain ⟨hP1, -, hD1⟩ := hB
  rw [ht] at hP1
  replace hD := hD1.weaken (fun _ _ _ h => hFc _ h)
  replace hP := hP1
  replace hS := hS2
  clear hP1 hD1 hS2 hFc hfc hz1 hk1 hvm ht
  refine lv_aload_n hx hb dX9_rebuild_29 rfl (lv_at hl 0 rfl) ?_
  refine lv_iconst (v := 0) hx hb dX9_rebuild_30 (by decide) ?_
  refine va_put (D := (dC, dI)) (ci := 9) (v := .int 0) (ty := .int) (C := RX9) (T := TX9) (N := 13) hx hb hts iwd_X9_rebuild_X9 tyX9 tyX9_ok nmX9 hown hK hP hD hS h0 (Wd_ob kg_1 sg_1 (by decide)) rfl 12 (by decide) (hts _ md_X9_rebuild_3) (fun _ h9 => h9) rfl (by decide +kernel) rfl rfl (by rw [fl_len]; decide) dX9_rebuild_31 (fun H_14 locs hP2 hD2 hS2 => ?_)
  rw [Wd_si sg_1 (by decide) rfl] at hP2 hD2
  obtain ⟨z_15, ez_15⟩ : ∃ w, w = si z_12 h0 12 0 := ⟨_, rfl⟩
  rw [← ez_15] at hP2 hD2
  replace hf := lt_at ez_15 hf
  clear ez_15
  replace hP := hP2
  replace hD := hD2
  replace hS := hS2
  clear hP2 hD2 hS2
  refine lv_iconst (v := 0) hx hb dX9_rebuild_34 (by decide) ?_
  refine lv_istore_n (lv' := [(2, .int 0), (0, .ref (a h0)), (1, .ref (a x0))]) hx hb dX9_rebuild_35 rfl hl (by decide) rfl (fun ls hl2 => ?_)
  replace hl := hl2
  clear hl2
  have hl0 : lv_has ls 3 [(2, .int 0), (0, .ref (a h0))] := lv_sub hl [0, 1] rfl
  refine de_loop (h := 36) (fun (x : St × Int32) ls H locs => lv_has ls 3 [(2, .int x.2), (0, .ref (a h0))] ∧ va_P (dC, dI) vwCl (Wd cy a sh n x.1) H ∧ va_D A (Wd cy a sh n x.1) ∧ va_S A s.heap H locs) (fun f x => fn_X9_rebuild_L36 F sh n h0 f x.1 x.2) (z8, r8) ?_ (fun _ => rfl) F (z_15, 0) ls H_14 locs ⟨hl0, hP, hD, hS⟩ hf
  intro f_18 x ls H locs ih36 hI hf
  obtain ⟨z_17, p_16⟩ := x
  obtain ⟨hl2, hP2, hD2, hS2⟩ := hI
  replace hl : lv_has ls 3 [(2, .int p_16), (0, .ref (a h0))] := hl2
  replace hP := hP2
  replace hD := hD2
  replace hS := hS2
  clear hl2 hP2 hD2 hS2 hl0
  replace hf := fn_X9_rebuild_L36_s hf
  refine lv_iload_n hx hb dX9_rebuild_36 rfl (lv_at hl 0 rfl) ?_
  refine lv_aload_n hx hb dX9_rebuild_37 rfl (lv_at hl 1 rfl) ?_
  refine va_get (D := (dC, dI)) (ci := 9) (v := .int (z_17.1 h0 7)) (C := RX9) (T := TX9) (N := 13) hx hb hts iwd_X9_rebuild_X9 hown hK hP h0 (Wd_ob kg_1 sg_1 (by decide)) rfl 7 (by decide) (hts _ md_X9_rebuild_2) (fun _ h9 => h9) (fl_at (t := 0) rfl) dX9_rebuild_38 ?_
  refine lv_icmp_ge (tgt := 55) hx hb dX9_rebuild_41 (by decide) (fun c_19 => ?_) (fun c_19 => ?_)
  · skip
    rw [if_pos c_19] at hf
    refine lv_iconst (v := 0) hx hb dX9_rebuild_55 (by decide) ?_
    refine lv_istore_n (lv' := [(2, .int 0), (0, .ref (a h0))]) hx hb dX9_rebuild_56 rfl hl (by decide) rfl (fun ls hl2 => ?_)
    replace hl := hl2
    clear hl2
    have hl0 : lv_has ls 3 [(2, .int 0), (0, .ref (a h0))] := lv_sub hl [0, 1] rfl
    refine de_loop (h := 57) (fun (x : St × Int32) ls H locs => lv_has ls 3 [(2, .int x.2), (0, .ref (a h0))] ∧ va_P (dC, dI) vwCl (Wd cy a sh n x.1) H ∧ va_D A (Wd cy a sh n x.1) ∧ va_S A s.heap H locs) (fun f x => fn_X9_rebuild_L57 F sh n h0 f x.1 x.2) (z8, r8) ?_ (fun _ => rfl) F (z_17, 0) ls H locs ⟨hl0, hP, hD, hS⟩ hf
    intro f_22 x ls H locs ih57 hI hf
    obtain ⟨z_21, p_20⟩ := x
    obtain ⟨hl2, hP2, hD2, hS2⟩ := hI
    replace hl : lv_has ls 3 [(2, .int p_20), (0, .ref (a h0))] := hl2
    replace hP := hP2
    replace hD := hD2
    replace hS := hS2
    clear hl2 hP2 hD2 hS2 hl0
    replace hf := fn_X9_rebuild_L57_s hf
    refine lv_iload_n hx hb dX9_rebuild_57 rfl (lv_at hl 0 rfl) ?_
    refine lv_iconst (v := 4) hx hb dX9_rebuild_58 (by decide) ?_
    refine lv_icmp_ge (tgt := 91) hx hb dX9_rebuild_59 (by decide) (fun c_23 => ?_) (fun c_23 => ?_)
    · skip
      rw [if_pos c_23] at hf
      obtain ⟨h8, h9⟩ := ret_some hf
      rw [h8]
      exact W.vret hx hb hr (fun t ht hW => ⟨⟨(), rfl, trivial, by rw [ht]; exact hP, va_K.moved hW.alike hK, hD⟩, hS.F ht⟩) hS.2.2 dX9_rebuild_91
    · skip
      rw [if_neg c_23] at hf
      refine lv_aload_n hx hb dX9_rebuild_62 rfl (lv_at hl 1 rfl) ?_
      obtain ⟨k_24, ek_24, hf⟩ := lnk_some hf
      refine va_get (D := (dC, dI)) (ci := 9) (v := .ref (a k_24)) (C := RX9) (T := TX9) (N := 13) hx hb hts iwd_X9_rebuild_X9 hown hK hP h0 (Wd_ob kg_1 sg_1 (by decide)) rfl 0 (by decide) (hts _ md_X9_rebuild_4) (fun _ h9 => h9) (fl_q rfl ek_24) dX9_rebuild_63 ?_
      refine lv_iload_n hx hb dX9_rebuild_66 rfl (lv_at hl 0 rfl) ?_
      refine lv_aload_n hx hb dX9_rebuild_67 rfl (lv_at hl 1 rfl) ?_
      refine va_get (D := (dC, dI)) (ci := 9) (v := .int (z_21.1 h0 7)) (C := RX9) (T := TX9) (N := 13) hx hb hts iwd_X9_rebuild_X9 hown hK hP h0 (Wd_ob kg_1 sg_1 (by decide)) rfl 7 (by decide) (hts _ md_X9_rebuild_2) (fun _ h9 => h9) (fl_at (t := 0) rfl) dX9_rebuild_68 ?_
      refine de_cut (h := 84) (fun (x : St × Int64) => [.long x.2, .int p_20, .ref (a k_24)]) (fun x ls H locs => lv_has ls 3 [(2, .int p_20), (0, .ref (a h0))] ∧ va_P (dC, dI) vwCl (Wd cy a sh n x.1) H ∧ va_D A (Wd cy a sh n x.1) ∧ va_S A s.heap H locs) (fun x => fn_X9_rebuild_B84 F sh n k_24 p_20 (fun z9 q2 => fn_X9_rebuild_L57 F sh n h0 f_22 z9 q2) x.1 x.2) (z8, r8) ?_ (fun B84 => ?_)
      · intro x ls H locs hI hf
        obtain ⟨z_26, p_25⟩ := x
        obtain ⟨hl2, hP2, hD2, hS2⟩ := hI
        replace hl : lv_has ls 3 [(2, .int p_20), (0, .ref (a h0))] := hl2
        replace hP := hP2
        replace hD := hD2
        replace hS := hS2
        clear hl2 hP2 hD2 hS2
        replace hf := fn_X9_rebuild_B84_s hf
        refine W.eq (g2 := F0 m 84 ls [.long p_25, .int p_20, .ref (a k_24)]) rfl ?_
        obtain ⟨g_27, hf⟩ := grd_some hf
        obtain ⟨kg_27, sg_27, ig_27⟩ := okA_at g_27
        refine va_last hx hb hK hP hD hS k_24 2 (Wd_al kg_27 sg_27) rfl ig_27 dX9_rebuild_84 (fun H_28 locs hP2 hD2 hS2 => ?_)
        rw [Wd_tl sg_27] at hP2 hD2
        obtain ⟨z_29, ez_29⟩ : ∃ w, w = sl z_26 k_24 p_20.toNatClampNeg p_25 := ⟨_, rfl⟩
        rw [← ez_29] at hP2 hD2
        replace hf := lt_at ez_29 hf
        clear ez_29
        replace hP := hP2
        replace hD := hD2
        replace hS := hS2
        clear hP2 hD2 hS2
        refine lv_iinc (v := (p_20 + 1)) (lv' := [(2, .int (p_20 + 1)), (0, .ref (a h0))]) hx hb dX9_rebuild_85 hl (k := 0) rfl rfl (by decide) rfl (fun ls hl2 => ?_)
        replace hl := hl2
        clear hl2
        refine lv_goto (tgt := 57) hx hb dX9_rebuild_88 (by decide) ?_
        exact ih57 (z_29, (p_20 + 1)) ls H_28 locs ⟨lv_sub hl [0, 1] rfl, hP, hD, hS⟩ hf
      refine lv_if_ne (tgt := 78) hx hb dX9_rebuild_71 (by decide) (fun c_30 => ?_) (fun c_30 => ?_)
      · skip
        rw [if_neg c_30] at hf
        refine lv_aload_n hx hb dX9_rebuild_78 rfl (lv_at hl 1 rfl) ?_
        obtain ⟨k_31, ek_31, hf⟩ := lnk_some hf
        refine va_get (D := (dC, dI)) (ci := 9) (v := .ref (a k_31)) (C := RX9) (T := TX9) (N := 13) hx hb hts iwd_X9_rebuild_X9 hown hK hP h0 (Wd_ob kg_1 sg_1 (by decide)) rfl 10 (by decide) (hts _ md_X9_rebuild_5) (fun _ h9 => h9) (fl_q rfl ek_31) dX9_rebuild_79 ?_
        refine lv_iload_n hx hb dX9_rebuild_82 rfl (lv_at hl 0 rfl) ?_
        obtain ⟨g_32, hf⟩ := grd_some hf
        obtain ⟨kg_32, sg_32, ig_32⟩ := okA_at g_32
        refine va_lald hx hb hK hP k_31 2 (Wd_al kg_32 sg_32) rfl ig_32 dX9_rebuild_83 ?_
        exact B84 (z_21, (z_21.2.1 k_31 p_20.toNatClampNeg)) ls H locs ⟨lv_sub hl [0, 1] rfl, hP, hD, hS⟩ hf
      · skip
        rw [if_pos c_30] at hf
        refine lv_lconst (v := 0) hx hb dX9_rebuild_74 (by decide) ?_
        refine lv_goto (tgt := 84) hx hb dX9_rebuild_75 (by decide) ?_
        exact B84 (z_21, 0) ls H locs ⟨lv_sub hl [0, 1] rfl, hP, hD, hS⟩ hf
  · skip
    rw [if_neg c_19] at hf
    refine lv_aload_n hx hb dX9_rebuild_44 rfl (lv_at hl 1 rfl) ?_
    refine lv_iload_n hx hb dX9_rebuild_45 rfl (lv_at hl 0 rfl) ?_
    obtain ⟨z_33, _u, hfc, hf⟩ := cal_some hf
    have hFc := de_free hD hS hA
    refine va_callv (va_runV (As := [.int p_16]) (rest := []) ⟨hx, hb, hml, hown, hts⟩ (de_X9_climb l dC dI cy a sh n H.size F sk z_17 h0 p_16 hfc) (cwV 1 hts gX9_rebuild_X9_climb rfl rfl rfl (by decide +kernel) ⟨Nat.le_of_ble_eq_true rfl, Nat.le_of_ble_eq_true rfl⟩) ⟨fun a U g mk q => by obtain ⟨q0, q1, qP, qK, qD, qN, qS⟩ := q; exact ⟨q0, q1, qP, va_K.moved (u := U) (U := U.calling g mk a) (Vm.Alike.refl U.vm) qK, qD, qN.same rfl, SKs.moved (u := U) (U := U.calling g mk a) (Vm.Alike.refl U.vm) qS⟩, va_recv hK hP (ci := 9) (q0 := h0) rfl (Wd_ob kg_1 sg_1 (by decide)), fun U hU hW => ⟨rfl, by rw [hU], by rw [hU]; exact hP, va_K.moved hW.alike hK, hD.weaken (fun _ _ _ _ => trivial), hN.warm hW, by rw [hU]; exact ((hSK.kept hS.2.1).narrow hFc).moved hW.alike⟩⟩ rfl rfl hl.1 rfl (lv_room (Nat.le_of_ble_eq_true rfl)) dX9_rebuild_46 ⟨Nat.le_of_ble_eq_true rfl, Nat.le_of_ble_eq_true rfl⟩) hS (fun q _ h => hFc q h) hFc (fun u t H_34 locs ht hvm hw hB hz1 hk1 hS2 => ?_)
    obtain ⟨hP1, -, hD1⟩ := hB
    rw [ht] at hP1
    replace hD := hD1.weaken (fun _ _ _ h => hFc _ h)
    replace hP := hP1
    replace hS := hS2
    clear hP1 hD1 hS2 hFc hfc hz1 hk1 hvm ht
    refine lv_iinc (v := (p_16 + 1)) (lv' := [(2, .int (p_16 + 1)), (0, .ref (a h0))]) hx hb dX9_rebuild_49 hl (k := 0) rfl rfl (by decide) rfl (fun ls hl2 => ?_)
    replace hl := hl2
    clear hl2
    refine lv_goto (tgt := 36) hx hb dX9_rebuild_52 (by decide) ?_
    exact ih36 (z_33, (p_16 + 1)) ls H_34 locs ⟨lv_sub hl [0, 1] rfl, hP, hD, hS⟩ hf

theorem md_X18_enterCall_1 : (.fieldLink RX18 441 "ResourceLedgerModel" "frameUnits" "[I" : Cond) ∈ wsX18_enterCall := List.mem_of_getElem? (i := 1) rfl
theorem iwd_X18_enterCall_X18 : ∀ w ∈ wsX180, w ∈ wsX18_enterCall := fun _ h => List.mem_cons_of_mem _ (List.mem_append_left _ (List.mem_append_left _ (List.mem_append_right _ h)))
theorem md_X18_enterCall_2 : (.fieldLink RX18 328 "ResourceLedgerModel" "frames" "I" : Cond) ∈ wsX18_enterCall := List.mem_of_getElem? (i := 2) rfl
theorem md_X18_enterCall_3 : (.fieldLink RX18 369 "ResourceLedgerModel" "unit" "LResourceLedgerModel$Unit;" : Cond) ∈ wsX18_enterCall := List.mem_of_getElem? (i := 3) rfl
theorem md_X18_enterCall_4 : (.fieldLink RX18 312 "ResourceLedgerModel" "height" "I" : Cond) ∈ wsX18_enterCall := List.mem_of_getElem? (i := 4) rfl
theorem md_X18_enterCall_5 : (.fieldLink RX18 325 "ResourceLedgerModel" "bases" "[I" : Cond) ∈ wsX18_enterCall := List.mem_of_getElem? (i := 5) rfl
theorem iwd_X18_enterCall_X16 : ∀ w ∈ wsX160, w ∈ wsX18_enterCall := fun _ h => List.mem_cons_of_mem _ (List.mem_append_left _ (List.mem_append_right _ h))
theorem md_X18_enterCall_6 : (.constantLong RX18 283 (4) : Cond) ∈ wsX18_enterCall := List.mem_of_getElem? (i := 6) rfl
set_option maxHeartbeats 4000000 in
set_option maxRecDepth 100000 in
theorem de_X18_enterCall (l : Launch) (dC : Nat → ClassId) (dI : Nat → Nat → Nat) (cy : Nat → ClassId) (a : Nat → Nat) (sh : Nat → Nat × Nat) (n sz : Nat) (F : Nat) (z : St) (h0 : Nat) (x0 : Int32) {z8 : St} {r8 : Unit} (hf : fn_X18_enterCall F sh n z h0 x0 = some (z8, r8)) : Met l yX18_enterCall wsX18_enterCall ({ frames := 53, cells := 0, slots := 0, locals := 1227 }) (va_Pc [.ref (a h0), .int x0] (fun U => U.heap.size = sz ∧ va_P (dC, dI) vwCl (Wd cy a sh n z) U.heap ∧ va_K (dC, dI) vwCl (TYS cy) U ∧ va_D (fun _ => True) (Wd cy a sh n z) ∧ NK U)) (va_Qv (fun u : Unit => True) (fun u t => va_P (dC, dI) vwCl (Wd cy a sh n z8) t.heap ∧ va_K (dC, dI) vwCl (TYS cy) t ∧ va_D (va_A (Wd cy a sh n z) sz) (Wd cy a sh n z8)) (va_A (Wd cy a sh n z) sz)) 0 0 (va_A (Wd cy a sh n z) sz) := by
  refine Met.ofW (cc := cX18_enterCall) (maxL := 6) (ret := none) (by decide) rfl ?_
  intro p e s m args below meth c s₁ B hml hv
  obtain ⟨rfl, hsz, hP, hK, hD0, hN⟩ := hv
  have hx := B.exec
  have hb := B.bytes
  have hr := B.returns
  have hts := atoms_spec (ws := wsX18_enterCall) B.pre
  have hown : s.vm.findClass RX18 = some m.cls := findClass_of_methodNamed B.named
  have hlocks := B.notSynchronized
  subst hsz
  have hD := hD0.self (sz := s.heap.size)
  clear hD0
  generalize hAe : va_A (Wd cy a sh n z) s.heap.size = A at hD ⊢
  have hA : ∀ q : Nat, s.heap.size ≤ q → A q := fun q h => by rw [← hAe]; exact Or.inr h
  clear hAe
  have hS : va_S A s.heap s.heap [] := va_S.rf
  have hl := lv_entry ([.ref (a h0), .int x0]) (n := 6) (Nat.le_of_ble_eq_true rfl)
  rw [lg_entry_eq]
  generalize (lg_sl ([.ref (a h0), .int x0]) ++ List.replicate (6 - (lg_sl ([.ref (a h0), .int x0])).length) Slot.unset).toArray = ls at hl ⊢
  replace hl : lv_has ls 6 [(0, .ref (a h0)), (1, .int x0)] := hl
  unfold fn_X18_enterCall at hf
  refine de_start hS hP (fun H locs hS hP => ?_)
  refine lv_aload_n hx hb dX18_enterCall_0 rfl (lv_at hl 0 rfl) ?_
  obtain ⟨g_1, hf⟩ := grd_some hf
  obtain ⟨kg_1, sg_1⟩ := okO_at g_1
  obtain ⟨k_2, ek_2, hf⟩ := lnk_some hf
  refine va_get (D := (dC, dI)) (ci := 18) (v := .ref (a k_2)) (C := RX18) (T := TX18) (N := 78) hx hb hts iwd_X18_enterCall_X18 hown hK hP h0 (Wd_ob kg_1 sg_1 (by decide)) rfl 37 (by decide) (hts _ md_X18_enterCall_1) (fun _ h9 => h9) (fl_q rfl ek_2) dX18_enterCall_1 ?_
  refine lv_aload_n hx hb dX18_enterCall_4 rfl (lv_at hl 0 rfl) ?_
  refine va_get (D := (dC, dI)) (ci := 18) (v := .int (z.1 h0 36)) (C := RX18) (T := TX18) (N := 78) hx hb hts iwd_X18_enterCall_X18 hown hK hP h0 (Wd_ob kg_1 sg_1 (by decide)) rfl 36 (by decide) (hts _ md_X18_enterCall_2) (fun _ h9 => h9) (fl_at (t := 0) rfl) dX18_enterCall_5 ?_
  refine lv_iconst (v := 1) hx hb dX18_enterCall_8 (by decide) ?_
  refine lv_isub hx hb dX18_enterCall_9 ?_
  obtain ⟨g_3, hf⟩ := grd_some hf
  obtain ⟨kg_3, sg_3, ig_3⟩ := okA_at g_3
  refine va_iald hx hb hK hP k_2 1 (Wd_ai kg_3 sg_3) rfl ig_3 dX18_enterCall_10 ?_
  refine lv_topi (fun v_4 ev_4 => ?_)
  replace hf := lt_at ev_4 hf
  clear ev_4
  refine lv_istore_n (lv' := [(2, .int v_4), (0, .ref (a h0)), (1, .int x0)]) hx hb dX18_enterCall_11 rfl hl (by decide) rfl (fun ls hl2 => ?_)
  replace hl := hl2
  clear hl2
  refine lv_iload_n hx hb dX18_enterCall_12 rfl (lv_at hl 2 rfl) ?_
  refine lv_istore_n (lv' := [(3, .int x0), (2, .int v_4), (0, .ref (a h0)), (1, .int x0)]) hx hb dX18_enterCall_13 rfl hl (by decide) rfl (fun ls hl2 => ?_)
  replace hl := hl2
  clear hl2
  refine lv_aload_n hx hb dX18_enterCall_14 rfl (lv_at hl 2 rfl) ?_
  obtain ⟨k_5, ek_5, hf⟩ := lnk_some hf
  refine va_get (D := (dC, dI)) (ci := 18) (v := .ref (a k_5)) (C := RX18) (T := TX18) (N := 78) hx hb hts iwd_X18_enterCall_X18 hown hK hP h0 (Wd_ob kg_1 sg_1 (by decide)) rfl 48 (by decide) (hts _ md_X18_enterCall_3) (fun _ h9 => h9) (fl_q rfl ek_5) dX18_enterCall_15 ?_
  refine lv_iload_n hx hb dX18_enterCall_18 rfl (lv_at hl 3 rfl) ?_
  refine lv_iconst (v := 0) hx hb dX18_enterCall_19 (by decide) ?_
  obtain ⟨g_8, hf⟩ := grd_some hf
  obtain ⟨kg_8, sg_8⟩ := okO_at g_8
  obtain ⟨z_6, r_7, hfc, hf⟩ := cal_some hf
  have hFc := de_free hD hS hA
  refine va_calli (va_runV (As := [.int x0, .int 0]) (rest := []) ⟨hx, hb, hml, hown, hts⟩ (de_X16_many l dC dI cy a sh n H.size F z k_5 x0 0 hfc) (cwV 2 hts gX18_enterCall_X16_many rfl rfl rfl (by decide +kernel) ⟨Nat.le_of_ble_eq_true rfl, Nat.le_of_ble_eq_true rfl⟩) ⟨fun a U g mk q => by obtain ⟨q0, q1, qP, qK, qD, qN⟩ := q; exact ⟨q0, q1, qP, va_K.moved (u := U) (U := U.calling g mk a) (Vm.Alike.refl U.vm) qK, qD, qN.same rfl⟩, va_recv hK hP (ci := 16) (q0 := k_5) rfl (Wd_ob kg_8 sg_8 (by decide)), fun U hU hW => ⟨rfl, by rw [hU], by rw [hU]; exact hP, va_K.moved hW.alike hK, hD.weaken (fun _ _ _ _ => trivial), hN.warm hW⟩⟩ rfl rfl hl.1 rfl (lv_room (Nat.le_of_ble_eq_true rfl)) dX18_enterCall_20 ⟨Nat.le_of_ble_eq_true rfl, Nat.le_of_ble_eq_true rfl⟩) hS (fun q _ h => hFc q h) hFc (fun rr u t H_9 locs ht hvm hw hB hz1 hk1 hS2 => ?_)
  rw [hw]
  clear hw
  obtain ⟨hP1, -, hD1⟩ := hB
  rw [ht] at hP1
  replace hD := hD1.weaken (fun _ _ _ h => hFc _ h)
  replace hP := hP1
  replace hS := hS2
  clear hP1 hD1 hS2 hFc hfc hz1 hk1 hvm ht
  refine lv_istore (lv' := [(4, .int r_7), (3, .int x0), (2, .int v_4), (0, .ref (a h0)), (1, .int x0)]) hx hb dX18_enterCall_23 hl (by decide) rfl (fun ls hl2 => ?_)
  replace hl := hl2
  clear hl2
  refine lv_aload_n hx hb dX18_enterCall_25 rfl (lv_at hl 3 rfl) ?_
  refine va_get (D := (dC, dI)) (ci := 18) (v := .int (z_6.1 h0 45)) (C := RX18) (T := TX18) (N := 78) hx hb hts iwd_X18_enterCall_X18 hown hK hP h0 (Wd_ob kg_1 sg_1 (by decide)) rfl 45 (by decide) (hts _ md_X18_enterCall_4) (fun _ h9 => h9) (fl_at (t := 0) rfl) dX18_enterCall_26 ?_
  refine lv_aload_n hx hb dX18_enterCall_29 rfl (lv_at hl 3 rfl) ?_
  obtain ⟨k_10, ek_10, hf⟩ := lnk_some hf
  refine va_get (D := (dC, dI)) (ci := 18) (v := .ref (a k_10)) (C := RX18) (T := TX18) (N := 78) hx hb hts iwd_X18_enterCall_X18 hown hK hP h0 (Wd_ob kg_1 sg_1 (by decide)) rfl 40 (by decide) (hts _ md_X18_enterCall_5) (fun _ h9 => h9) (fl_q rfl ek_10) dX18_enterCall_30 ?_
  refine lv_aload_n hx hb dX18_enterCall_33 rfl (lv_at hl 3 rfl) ?_
  refine va_get (D := (dC, dI)) (ci := 18) (v := .int (z_6.1 h0 36)) (C := RX18) (T := TX18) (N := 78) hx hb hts iwd_X18_enterCall_X18 hown hK hP h0 (Wd_ob kg_1 sg_1 (by decide)) rfl 36 (by decide) (hts _ md_X18_enterCall_2) (fun _ h9 => h9) (fl_at (t := 0) rfl) dX18_enterCall_34 ?_
  refine lv_iconst (v := 1) hx hb dX18_enterCall_37 (by decide) ?_
  refine lv_isub hx hb dX18_enterCall_38 ?_
  obtain ⟨g_11, hf⟩ := grd_some hf
  obtain ⟨kg_11, sg_11, ig_11⟩ := okA_at g_11
  refine va_iald hx hb hK hP k_10 1 (Wd_ai kg_11 sg_11) rfl ig_11 dX18_enterCall_39 ?_
  refine lv_isub hx hb dX18_enterCall_40 ?_
  refine lv_iload hx hb dX18_enterCall_41 (lv_at hl 0 rfl) ?_
  refine de_cut (h := 50) (fun (x : St) => []) (fun x ls H locs => lv_has ls 6 [(4, .int r_7), (3, .int x0), (2, .int v_4), (0, .ref (a h0)), (1, .int x0)] ∧ va_P (dC, dI) vwCl (Wd cy a sh n x) H ∧ va_D A (Wd cy a sh n x) ∧ va_S A s.heap H locs) (fun x => fn_X18_enterCall_B50 F sh n h0 x0 r_7 v_4 x) (z8, r8) ?_ (fun B50 => ?_)
  · intro x ls H locs hI hf
    obtain ⟨z_12, ez⟩ : ∃ w, w = x := ⟨_, rfl⟩
    subst ez
    obtain ⟨hl2, hP2, hD2, hS2⟩ := hI
    replace hl : lv_has ls 6 [(4, .int r_7), (3, .int x0), (2, .int v_4), (0, .ref (a h0)), (1, .int x0)] := hl2
    replace hP := hP2
    replace hD := hD2
    replace hS := hS2
    clear hl2 hP2 hD2 hS2
    replace hf := fn_X18_enterCall_B50_s hf
    refine W.eq (g2 := F0 m 50 ls []) rfl ?_
    refine lv_iload_n hx hb dX18_enterCall_50 rfl (lv_at hl 4 rfl) ?_
    refine lv_aload_n hx hb dX18_enterCall_51 rfl (lv_at hl 3 rfl) ?_
    obtain ⟨k_13, ek_13, hf⟩ := lnk_some hf
    refine va_get (D := (dC, dI)) (ci := 18) (v := .ref (a k_13)) (C := RX18) (T := TX18) (N := 78) hx hb hts iwd_X18_enterCall_X18 hown hK hP h0 (Wd_ob kg_1 sg_1 (by decide)) rfl 48 (by decide) (hts _ md_X18_enterCall_3) (fun _ h9 => h9) (fl_q rfl ek_13) dX18_enterCall_52 ?_
    obtain ⟨g_14, hf⟩ := grd_some hf
    obtain ⟨kg_14, sg_14⟩ := okO_at g_14
    refine va_getN (D := (dC, dI)) (ci := 16) (v := .int (z_12.1 k_13 9)) (C := RX16) (T := TX16) (N := 18) hx hb hts iwd_X18_enterCall_X16 hown hK hP k_13 (Wd_ob kg_14 sg_14 (by decide)) rfl 9 (by decide) (va_Nw.use rfl (NK_f_X18_112 hN)) (fun _ h9 => h9) (fl_at (t := 0) rfl) dX18_enterCall_55 ?_
    refine de_cut (h := 111) (fun (x : St × Int32 × Int32) => []) (fun x ls H locs => lv_has ls 6 [(2, .int x.2.1), (3, .int x.2.2), (4, .int r_7), (0, .ref (a h0))] ∧ va_P (dC, dI) vwCl (Wd cy a sh n x.1) H ∧ va_D A (Wd cy a sh n x.1) ∧ va_S A s.heap H locs) (fun x => fn_X18_enterCall_B111 F sh n h0 r_7 x.1 x.2.1 x.2.2) (z8, r8) ?_ (fun B111 => ?_)
    · intro x ls H locs hI hf
      obtain ⟨z_17, p_15, p_16⟩ := x
      obtain ⟨hl2, hP2, hD2, hS2⟩ := hI
      replace hl : lv_has ls 6 [(2, .int p_15), (3, .int p_16), (4, .int r_7), (0, .ref (a h0))] := hl2
      replace hP := hP2
      replace hD := hD2
      replace hS := hS2
      clear hl2 hP2 hD2 hS2
      replace hf := fn_X18_enterCall_B111_s hf
      refine W.eq (g2 := F0 m 111 ls []) rfl ?_
      refine lv_aload_n hx hb dX18_enterCall_111 rfl (lv_at hl 3 rfl) ?_
      refine va_get (D := (dC, dI)) (ci := 18) (v := .int (z_17.1 h0 36)) (C := RX18) (T := TX18) (N := 78) hx hb hts iwd_X18_enterCall_X18 hown hK hP h0 (Wd_ob kg_1 sg_1 (by decide)) rfl 36 (by decide) (hts _ md_X18_enterCall_2) (fun _ h9 => h9) (fl_at (t := 0) rfl) dX18_enterCall_112 ?_
      refine lv_bipush (v := 32) hx hb dX18_enterCall_115 (by decide) ?_
      refine de_cut (h := 128) (fun (x : St) => []) (fun x ls H locs => lv_has ls 6 [(2, .int p_15), (3, .int p_16), (4, .int r_7), (0, .ref (a h0))] ∧ va_P (dC, dI) vwCl (Wd cy a sh n x) H ∧ va_D A (Wd cy a sh n x) ∧ va_S A s.heap H locs) (fun x => fn_X18_enterCall_B128 F sh n h0 p_15 p_16 r_7 x) (z8, r8) ?_ (fun B128 => ?_)
      · intro x ls H locs hI hf
        obtain ⟨z_18, ez⟩ : ∃ w, w = x := ⟨_, rfl⟩
        subst ez
        obtain ⟨hl2, hP2, hD2, hS2⟩ := hI
        replace hl : lv_has ls 6 [(2, .int p_15), (3, .int p_16), (4, .int r_7), (0, .ref (a h0))] := hl2
        replace hP := hP2
        replace hD := hD2
        replace hS := hS2
        clear hl2 hP2 hD2 hS2
        replace hf := fn_X18_enterCall_B128_s hf
        refine W.eq (g2 := F0 m 128 ls []) rfl ?_
        refine lv_aload_n hx hb dX18_enterCall_128 rfl (lv_at hl 3 rfl) ?_
        refine lv_iconst (v := 5) hx hb dX18_enterCall_129 (by decide) ?_
        obtain ⟨z_19, r_20, hfc, hf⟩ := cal_some hf
        have hFc := de_free hD hS hA
        refine va_calli (va_runV (As := [.int 5]) (rest := []) ⟨hx, hb, hml, hown, hts⟩ (de_X18_spend l dC dI cy a sh n H.size F z_18 h0 5 hfc) (cwV 1 hts gX18_enterCall_X18_spend rfl rfl rfl (by decide +kernel) ⟨Nat.le_of_ble_eq_true rfl, Nat.le_of_ble_eq_true rfl⟩) ⟨fun a U g mk q => by obtain ⟨q0, q1, qP, qK, qD, qN⟩ := q; exact ⟨q0, q1, qP, va_K.moved (u := U) (U := U.calling g mk a) (Vm.Alike.refl U.vm) qK, qD, qN.same rfl⟩, va_recv hK hP (ci := 18) (q0 := h0) rfl (Wd_ob kg_1 sg_1 (by decide)), fun U hU hW => ⟨rfl, by rw [hU], by rw [hU]; exact hP, va_K.moved hW.alike hK, hD.weaken (fun _ _ _ _ => trivial), hN.warm hW⟩⟩ rfl rfl hl.1 rfl (lv_room (Nat.le_of_ble_eq_true rfl)) dX18_enterCall_130 ⟨Nat.le_of_ble_eq_true rfl, Nat.le_of_ble_eq_true rfl⟩) hS (fun q _ h => hFc q h) hFc (fun rr u t H_21 locs ht hvm hw hB hz1 hk1 hS2 => ?_)
        rw [hw]
        clear hw
        obtain ⟨hP1, -, hD1⟩ := hB
        rw [ht] at hP1
        replace hD := hD1.weaken (fun _ _ _ h => hFc _ h)
        replace hP := hP1
        replace hS := hS2
        clear hP1 hD1 hS2 hFc hfc hz1 hk1 hvm ht
        refine lv_if_eq (tgt := 144) hx hb dX18_enterCall_133 (by decide) (fun c_22 => ?_) (fun c_22 => ?_)
        · skip
          rw [if_pos c_22] at hf
          obtain ⟨h8, h9⟩ := ret_some hf
          rw [h8]
          exact W.vret hx hb hr (fun t ht hW => ⟨⟨(), rfl, trivial, by rw [ht]; exact hP, va_K.moved hW.alike hK, hD⟩, hS.F ht⟩) hS.2.2 dX18_enterCall_144
        · skip
          rw [if_neg c_22] at hf
          refine lv_aload_n hx hb dX18_enterCall_136 rfl (lv_at hl 3 rfl) ?_
          refine lv_iload_n hx hb dX18_enterCall_137 rfl (lv_at hl 0 rfl) ?_
          refine lv_iload_n hx hb dX18_enterCall_138 rfl (lv_at hl 1 rfl) ?_
          refine lv_iload hx hb dX18_enterCall_139 (lv_at hl 2 rfl) ?_
          obtain ⟨z_23, _u, hfc, hf⟩ := cal_some hf
          have hFc := de_free hD hS hA
          refine va_callv (va_runV (As := [.int p_15, .int p_16, .int r_7]) (rest := []) ⟨hx, hb, hml, hown, hts⟩ (de_X18_enter l dC dI cy a sh n H_21.size F z_19 h0 p_15 p_16 r_7 hfc) (cwV 3 hts gX18_enterCall_X18_enter rfl rfl rfl (by decide +kernel) ⟨Nat.le_of_ble_eq_true rfl, Nat.le_of_ble_eq_true rfl⟩) ⟨fun a U g mk q => by obtain ⟨q0, q1, qP, qK, qD, qN⟩ := q; exact ⟨q0, q1, qP, va_K.moved (u := U) (U := U.calling g mk a) (Vm.Alike.refl U.vm) qK, qD, qN.same rfl⟩, va_recv hK hP (ci := 18) (q0 := h0) rfl (Wd_ob kg_1 sg_1 (by decide)), fun U hU hW => ⟨rfl, by rw [hU], by rw [hU]; exact hP, va_K.moved hW.alike hK, hD.weaken (fun _ _ _ _ => trivial), hN.warm hW⟩⟩ rfl rfl hl.1 rfl (lv_room (Nat.le_of_ble_eq_true rfl)) dX18_enterCall_141 ⟨Nat.le_of_ble_eq_true rfl, Nat.le_of_ble_eq_true rfl⟩) hS (fun q _ h => hFc q h) hFc (fun u t H_24 locs ht hvm hw hB hz1 hk1 hS2 => ?_)
          obtain ⟨hP1, -, hD1⟩ := hB
          rw [ht] at hP1
          replace hD := hD1.weaken (fun _ _ _ h => hFc _ h)
          replace hP := hP1
          replace hS := hS2
          clear hP1 hD1 hS2 hFc hfc hz1 hk1 hvm ht
          obtain ⟨h8, h9⟩ := ret_some hf
          rw [h8]
          exact W.vret hx hb hr (fun t ht hW => ⟨⟨(), rfl, trivial, by rw [ht]; exact hP, va_K.moved hW.alike hK, hD⟩, hS.F ht⟩) hS.2.2 dX18_enterCall_144
      refine lv_icmp_ne (tgt := 128) hx hb dX18_enterCall_117 (by decide) (fun c_25 => ?_) (fun c_25 => ?_)
      · skip
        rw [if_neg c_25] at hf
        exact B128 (z_17) ls H locs ⟨lv_sub hl [0, 1, 2, 3] rfl, hP, hD, hS⟩ hf
      · skip
        rw [if_pos c_25] at hf
        refine lv_aload_n hx hb dX18_enterCall_120 rfl (lv_at hl 3 rfl) ?_
        refine lv_iconst (v := 2) hx hb dX18_enterCall_121 (by decide) ?_
        refine lv_ldc2 hx hb hown (hts _ md_X18_enterCall_6) dX18_enterCall_122 ?_
        obtain ⟨z_26, _u, hfc, hf⟩ := cal_some hf
        have hFc := de_free hD hS hA
        refine va_callv (va_runV (As := [.int 2, .long 4]) (rest := []) ⟨hx, hb, hml, hown, hts⟩ (de_X18_end l dC dI cy a sh n H.size F z_17 h0 2 4 hfc) (cwV 2 hts gX18_enterCall_X18_end rfl rfl rfl (by decide +kernel) ⟨Nat.le_of_ble_eq_true rfl, Nat.le_of_ble_eq_true rfl⟩) ⟨fun a U g mk q => by obtain ⟨q0, q1, qP, qK, qD, qN⟩ := q; exact ⟨q0, q1, qP, va_K.moved (u := U) (U := U.calling g mk a) (Vm.Alike.refl U.vm) qK, qD, qN.same rfl⟩, va_recv hK hP (ci := 18) (q0 := h0) rfl (Wd_ob kg_1 sg_1 (by decide)), fun U hU hW => ⟨rfl, by rw [hU], by rw [hU]; exact hP, va_K.moved hW.alike hK, hD.weaken (fun _ _ _ _ => trivial), hN.warm hW⟩⟩ rfl rfl hl.1 rfl (lv_room (Nat.le_of_ble_eq_true rfl)) dX18_enterCall_125 ⟨Nat.le_of_ble_eq_true rfl, Nat.le_of_ble_eq_true rfl⟩) hS (fun q _ h => hFc q h) hFc (fun u t H_27 locs ht hvm hw hB hz1 hk1 hS2 => ?_)
        obtain ⟨hP1, -, hD1⟩ := hB
        rw [ht] at hP1
        replace hD := hD1.weaken (fun _ _ _ h => hFc _ h)
        replace hP := hP1
        replace hS := hS2
        clear hP1 hD1 hS2 hFc hfc hz1 hk1 hvm ht
        exact B128 (z_26) ls H_27 locs ⟨lv_sub hl [0, 1, 2, 3] rfl, hP, hD, hS⟩ hf
    refine lv_icmp_lt (tgt := 111) hx hb dX18_enterCall_58 (by decide) (fun c_28 => ?_) (fun c_28 => ?_)
    · skip
      rw [if_pos c_28] at hf
      exact B111 (z_12, v_4, x0) ls H locs ⟨lv_sub hl [2, 1, 0, 3] rfl, hP, hD, hS⟩ hf
    · skip
      rw [if_neg c_28] at hf
      refine lv_aload_n hx hb dX18_enterCall_61 rfl (lv_at hl 3 rfl) ?_
      obtain ⟨k_29, ek_29, hf⟩ := lnk_some hf
      refine va_get (D := (dC, dI)) (ci := 18) (v := .ref (a k_29)) (C := RX18) (T := TX18) (N := 78) hx hb hts iwd_X18_enterCall_X18 hown hK hP h0 (Wd_ob kg_1 sg_1 (by decide)) rfl 48 (by decide) (hts _ md_X18_enterCall_3) (fun _ h9 => h9) (fl_q rfl ek_29) dX18_enterCall_62 ?_
      refine lv_iload_n hx hb dX18_enterCall_65 rfl (lv_at hl 4 rfl) ?_
      obtain ⟨g_32, hf⟩ := grd_some hf
      obtain ⟨kg_32, sg_32⟩ := okO_at g_32
      obtain ⟨z_30, r_31, hfc, hf⟩ := cal_some hf
      have hFc := de_free hD hS hA
      refine va_calli (va_runV (As := [.int x0]) (rest := []) ⟨hx, hb, hml, hown, hts⟩ (de_X16_foreignNumber l dC dI cy a sh n H.size F z_12 k_29 x0 hfc) (cwV 1 hts gX18_enterCall_X16_foreignNumber rfl rfl rfl (by decide +kernel) ⟨Nat.le_of_ble_eq_true rfl, Nat.le_of_ble_eq_true rfl⟩) ⟨fun a U g mk q => by obtain ⟨q0, q1, qP, qK, qD, qN⟩ := q; exact ⟨q0, q1, qP, va_K.moved (u := U) (U := U.calling g mk a) (Vm.Alike.refl U.vm) qK, qD, qN.same rfl⟩, va_recv hK hP (ci := 16) (q0 := k_29) rfl (Wd_ob kg_32 sg_32 (by decide)), fun U hU hW => ⟨rfl, by rw [hU], by rw [hU]; exact hP, va_K.moved hW.alike hK, hD.weaken (fun _ _ _ _ => trivial), hN.warm hW⟩⟩ rfl rfl hl.1 rfl (lv_room (Nat.le_of_ble_eq_true rfl)) dX18_enterCall_66 ⟨Nat.le_of_ble_eq_true rfl, Nat.le_of_ble_eq_true rfl⟩) hS (fun q _ h => hFc q h) hFc (fun rr u t H_33 locs ht hvm hw hB hz1 hk1 hS2 => ?_)
      rw [hw]
      clear hw
      obtain ⟨hP1, -, hD1⟩ := hB
      rw [ht] at hP1
      replace hD := hD1.weaken (fun _ _ _ h => hFc _ h)
      replace hP := hP1
      replace hS := hS2
      clear hP1 hD1 hS2 hFc hfc hz1 hk1 hvm ht
      refine lv_istore_n (lv' := [(3, .int r_31), (4, .int r_7), (2, .int v_4), (0, .ref (a h0)), (1, .int x0)]) hx hb dX18_enterCall_69 rfl hl (by decide) rfl (fun ls hl2 => ?_)
      replace hl := hl2
      clear hl2
      refine lv_aload_n hx hb dX18_enterCall_70 rfl (lv_at hl 3 rfl) ?_
      obtain ⟨k_34, ek_34, hf⟩ := lnk_some hf
      refine va_get (D := (dC, dI)) (ci := 18) (v := .ref (a k_34)) (C := RX18) (T := TX18) (N := 78) hx hb hts iwd_X18_enterCall_X18 hown hK hP h0 (Wd_ob kg_1 sg_1 (by decide)) rfl 48 (by decide) (hts _ md_X18_enterCall_3) (fun _ h9 => h9) (fl_q rfl ek_34) dX18_enterCall_71 ?_
      refine lv_iload_n hx hb dX18_enterCall_74 rfl (lv_at hl 4 rfl) ?_
      obtain ⟨g_37, hf⟩ := grd_some hf
      obtain ⟨kg_37, sg_37⟩ := okO_at g_37
      obtain ⟨z_35, r_36, hfc, hf⟩ := cal_some hf
      have hFc := de_free hD hS hA
      refine va_calli (va_runV (As := [.int x0]) (rest := []) ⟨hx, hb, hml, hown, hts⟩ (de_X16_foreignModule l dC dI cy a sh n H_33.size F z_30 k_34 x0 hfc) (cwV 1 hts gX18_enterCall_X16_foreignModule rfl rfl rfl (by decide +kernel) ⟨Nat.le_of_ble_eq_true rfl, Nat.le_of_ble_eq_true rfl⟩) ⟨fun a U g mk q => by obtain ⟨q0, q1, qP, qK, qD, qN⟩ := q; exact ⟨q0, q1, qP, va_K.moved (u := U) (U := U.calling g mk a) (Vm.Alike.refl U.vm) qK, qD, qN.same rfl⟩, va_recv hK hP (ci := 16) (q0 := k_34) rfl (Wd_ob kg_37 sg_37 (by decide)), fun U hU hW => ⟨rfl, by rw [hU], by rw [hU]; exact hP, va_K.moved hW.alike hK, hD.weaken (fun _ _ _ _ => trivial), hN.warm hW⟩⟩ rfl rfl hl.1 rfl (lv_room (Nat.le_of_ble_eq_true rfl)) dX18_enterCall_75 ⟨Nat.le_of_ble_eq_true rfl, Nat.le_of_ble_eq_true rfl⟩) hS (fun q _ h => hFc q h) hFc (fun rr u t H_38 locs ht hvm hw hB hz1 hk1 hS2 => ?_)
      rw [hw]
      clear hw
      obtain ⟨hP1, -, hD1⟩ := hB
      rw [ht] at hP1
      replace hD := hD1.weaken (fun _ _ _ h => hFc _ h)
      replace hP := hP1
      replace hS := hS2
      clear hP1 hD1 hS2 hFc hfc hz1 hk1 hvm ht
      refine lv_istore (lv' := [(5, .int r_36), (3, .int r_31), (4, .int r_7), (2, .int v_4), (0, .ref (a h0)), (1, .int x0)]) hx hb dX18_enterCall_78 hl (by decide) rfl (fun ls hl2 => ?_)
      replace hl := hl2
      clear hl2
      refine lv_iload hx hb dX18_enterCall_80 (lv_at hl 0 rfl) ?_
      refine lv_if_ne (tgt := 91) hx hb dX18_enterCall_82 (by decide) (fun c_39 => ?_) (fun c_39 => ?_)
      · skip
        rw [if_neg c_39] at hf
        refine lv_aload_n hx hb dX18_enterCall_91 rfl (lv_at hl 4 rfl) ?_
        refine lv_iconst (v := 2) hx hb dX18_enterCall_92 (by decide) ?_
        refine lv_iload hx hb dX18_enterCall_93 (lv_at hl 0 rfl) ?_
        refine lv_i2l (v := (r_36 : Int32).toInt64) hx hb dX18_enterCall_95 rfl ?_
        refine lv_iconst (v := 0) hx hb dX18_enterCall_96 (by decide) ?_
        obtain ⟨z_40, r_41, hfc, hf⟩ := cal_some hf
        have hFc := de_free hD hS hA
        refine va_calli (va_runV (As := [.int 2, .long ((r_36 : Int32).toInt64), .int 0]) (rest := []) ⟨hx, hb, hml, hown, hts⟩ (de_X18_ask l dC dI cy a sh n H_38.size F z_35 h0 2 ((r_36 : Int32).toInt64) 0 hfc) (cwV 3 hts gX18_enterCall_X18_ask rfl rfl rfl (by decide +kernel) ⟨Nat.le_of_ble_eq_true rfl, Nat.le_of_ble_eq_true rfl⟩) ⟨fun a U g mk q => by obtain ⟨q0, q1, qP, qK, qD, qN⟩ := q; exact ⟨q0, q1, qP, va_K.moved (u := U) (U := U.calling g mk a) (Vm.Alike.refl U.vm) qK, qD, qN.same rfl⟩, va_recv hK hP (ci := 18) (q0 := h0) rfl (Wd_ob kg_1 sg_1 (by decide)), fun U hU hW => ⟨rfl, by rw [hU], by rw [hU]; exact hP, va_K.moved hW.alike hK, hD.weaken (fun _ _ _ _ => trivial), hN.warm hW⟩⟩ rfl rfl hl.1 rfl (lv_room (Nat.le_of_ble_eq_true rfl)) dX18_enterCall_97 ⟨Nat.le_of_ble_eq_true rfl, Nat.le_of_ble_eq_true rfl⟩) hS (fun q _ h => hFc q h) hFc (fun rr u t H_42 locs ht hvm hw hB hz1 hk1 hS2 => ?_)
        rw [hw]
        clear hw
        obtain ⟨hP1, -, hD1⟩ := hB
        rw [ht] at hP1
        replace hD := hD1.weaken (fun _ _ _ h => hFc _ h)
        replace hP := hP1
        replace hS := hS2
        clear hP1 hD1 hS2 hFc hfc hz1 hk1 hvm ht
        refine lv_if_ge (tgt := 104) hx hb dX18_enterCall_100 (by decide) (fun c_43 => ?_) (fun c_43 => ?_)
        · skip
          rw [if_pos c_43] at hf
          refine lv_aload_n hx hb dX18_enterCall_104 rfl (lv_at hl 4 rfl) ?_
          refine lv_iload hx hb dX18_enterCall_105 (lv_at hl 0 rfl) ?_
          obtain ⟨z_44, r_45, hfc, hf⟩ := cal_some hf
          have hFc := de_free hD hS hA
          refine va_calli (va_runV (As := [.int r_36]) (rest := []) ⟨hx, hb, hml, hown, hts⟩ (de_X18_findModule l dC dI cy a sh n H_42.size F z_40 h0 r_36 hfc) (cwV 1 hts gX18_enterCall_X18_findModule rfl rfl rfl (by decide +kernel) ⟨Nat.le_of_ble_eq_true rfl, Nat.le_of_ble_eq_true rfl⟩) ⟨fun a U g mk q => by obtain ⟨q0, q1, qP, qK, qD, qN⟩ := q; exact ⟨q0, q1, qP, va_K.moved (u := U) (U := U.calling g mk a) (Vm.Alike.refl U.vm) qK, qD, qN.same rfl⟩, va_recv hK hP (ci := 18) (q0 := h0) rfl (Wd_ob kg_1 sg_1 (by decide)), fun U hU hW => ⟨rfl, by rw [hU], by rw [hU]; exact hP, va_K.moved hW.alike hK, hD.weaken (fun _ _ _ _ => trivial), hN.warm hW⟩⟩ rfl rfl hl.1 rfl (lv_room (Nat.le_of_ble_eq_true rfl)) dX18_enterCall_107 ⟨Nat.le_of_ble_eq_true rfl, Nat.le_of_ble_eq_true rfl⟩) hS (fun q _ h => hFc q h) hFc (fun rr u t H_46 locs ht hvm hw hB hz1 hk1 hS2 => ?_)
          rw [hw]
          clear hw
          obtain ⟨hP1, -, hD1⟩ := hB
          rw [ht] at hP1
          replace hD := hD1.weaken (fun _ _ _ h => hFc _ h)
          replace hP := hP1
          replace hS := hS2
          clear hP1 hD1 hS2 hFc hfc hz1 hk1 hvm ht
          refine lv_istore_n (lv' := [(2, .int r_45), (5, .int r_36), (3, .int r_31), (4, .int r_7), (0, .ref (a h0)), (1, .int x0)]) hx hb dX18_enterCall_110 rfl hl (by decide) rfl (fun ls hl2 => ?_)
          replace hl := hl2
          clear hl2
          exact B111 (z_44, r_45, r_31) ls H_46 locs ⟨lv_sub hl [0, 2, 3, 4] rfl, hP, hD, hS⟩ hf
        · skip
          rw [if_neg c_43] at hf
          obtain ⟨h8, h9⟩ := ret_some hf
          rw [h8]
          exact W.vret hx hb hr (fun t ht hW => ⟨⟨(), rfl, trivial, by rw [ht]; exact hP, va_K.moved hW.alike hK, hD⟩, hS.F ht⟩) hS.2.2 dX18_enterCall_103
      · skip
        rw [if_pos c_39] at hf
        refine lv_aload_n hx hb dX18_enterCall_85 rfl (lv_at hl 4 rfl) ?_
        refine lv_iload_n hx hb dX18_enterCall_86 rfl (lv_at hl 1 rfl) ?_
        obtain ⟨z_47, _u, hfc, hf⟩ := cal_some hf
        have hFc := de_free hD hS hA
        refine va_callv (va_runV (As := [.int r_31]) (rest := []) ⟨hx, hb, hml, hown, hts⟩ (de_X18_coin l dC dI cy a sh n H_38.size F z_35 h0 r_31 hfc) (cwV 1 hts gX18_enterCall_X18_coin rfl rfl rfl (by decide +kernel) ⟨Nat.le_of_ble_eq_true rfl, Nat.le_of_ble_eq_true rfl⟩) ⟨fun a U g mk q => by obtain ⟨q0, q1, qP, qK, qD, qN⟩ := q; exact ⟨q0, q1, qP, va_K.moved (u := U) (U := U.calling g mk a) (Vm.Alike.refl U.vm) qK, qD, qN.same rfl⟩, va_recv hK hP (ci := 18) (q0 := h0) rfl (Wd_ob kg_1 sg_1 (by decide)), fun U hU hW => ⟨rfl, by rw [hU], by rw [hU]; exact hP, va_K.moved hW.alike hK, hD.weaken (fun _ _ _ _ => trivial), hN.warm hW⟩⟩ rfl rfl hl.1 rfl (lv_room (Nat.le_of_ble_eq_true rfl)) dX18_enterCall_87 ⟨Nat.le_of_ble_eq_true rfl, Nat.le_of_ble_eq_true rfl⟩) hS (fun q _ h => hFc q h) hFc (fun u t H_48 locs ht hvm hw hB hz1 hk1 hS2 => ?_)
        obtain ⟨hP1, -, hD1⟩ := hB
        rw [ht] at hP1
        replace hD := hD1.weaken (fun _ _ _ h => hFc _ h)
        replace hP := hP1
        replace hS := hS2
        clear hP1 hD1 hS2 hFc hfc hz1 hk1 hvm ht
        obtain ⟨h8, h9⟩ := ret_some hf
        rw [h8]
        exact W.vret hx hb hr (fun t ht hW => ⟨⟨(), rfl, trivial, by rw [ht]; exact hP, va_K.moved hW.alike hK, hD⟩, hS.F ht⟩) hS.2.2 dX18_enterCall_90
  refine lv_icmp_ge (tgt := 50) hx hb dX18_enterCall_43 (by decide) (fun c_49 => ?_) (fun c_49 => ?_)
  · skip
    rw [if_pos c_49] at hf
    exact B50 (z_6) ls H_9 locs ⟨lv_sub hl [0, 1, 2, 3, 4] rfl, hP, hD, hS⟩ hf
  · skip
    rw [if_neg c_49] at hf
    refine lv_aload_n hx hb dX18_enterCall_46 rfl (lv_at hl 3 rfl) ?_
    obtain ⟨z_50, _u, hfc, hf⟩ := cal_some hf
    have hFc := de_free hD hS hA
    refine va_callv (va_runV (As := []) (rest := []) ⟨hx, hb, hml, hown, hts⟩ (de_X18_slip l dC dI cy a sh n H_9.size F z_6 h0 hfc) (cwV 0 hts gX18_enterCall_X18_slip rfl rfl rfl (by decide +kernel) ⟨Nat.le_of_ble_eq_true rfl, Nat.le_of_ble_eq_true rfl⟩) ⟨fun a U g mk q => by obtain ⟨q0, q1, qP, qK, qD, qN⟩ := q; exact ⟨q0, q1, qP, va_K.moved (u := U) (U := U.calling g mk a) (Vm.Alike.refl U.vm) qK, qD, qN.same rfl⟩, va_recv hK hP (ci := 18) (q0 := h0) rfl (Wd_ob kg_1 sg_1 (by decide)), fun U hU hW => ⟨rfl, by rw [hU], by rw [hU]; exact hP, va_K.moved hW.alike hK, hD.weaken (fun _ _ _ _ => trivial), hN.warm hW⟩⟩ rfl rfl hl.1 rfl (lv_room (Nat.le_of_ble_eq_true rfl)) dX18_enterCall_47 ⟨Nat.le_of_ble_eq_true rfl, Nat.le_of_ble_eq_true rfl⟩) hS (fun q _ h => hFc q h) hFc (fun u t H_51 locs ht hvm hw hB hz1 hk1 hS2 => ?_)
    obtain ⟨hP1, -, hD1⟩ := hB
    rw [ht] at hP1
    replace hD := hD1.weaken (fun _ _ _ h => hFc _ h)
    replace hP := hP1
    replace hS := hS2
    clear hP1 hD1 hS2 hFc hfc hz1 hk1 hvm ht
    exact B50 (z_50) ls H_51 locs ⟨lv_sub hl [0, 1, 2, 3, 4] rfl, hP, hD, hS⟩ hf

theorem md_X13_giveBack_1 : (.fieldLink RX13 92 "ResourceLedgerModel$Looker" "height" "I" : Cond) ∈ wsX13_giveBack := List.mem_of_getElem? (i := 1) rfl
theorem iwd_X13_giveBack_X13 : ∀ w ∈ wsX130, w ∈ wsX13_giveBack := fun _ h => List.mem_cons_of_mem _ (List.mem_append_left _ (List.mem_append_right _ h))
theorem md_X13_giveBack_2 : (.fieldLink RX13 72 "ResourceLedgerModel$Looker" "unit" "LResourceLedgerModel$Unit;" : Cond) ∈ wsX13_giveBack := List.mem_of_getElem? (i := 2) rfl
theorem md_X13_giveBack_3 : (.fieldLink RX13 176 "ResourceLedgerModel$Looker" "now" "I" : Cond) ∈ wsX13_giveBack := List.mem_of_getElem? (i := 3) rfl
theorem md_X13_giveBack_8 : (.fieldLink RX13 136 "ResourceLedgerModel$Looker" "locals" "I" : Cond) ∈ wsX13_giveBack := List.mem_of_getElem? (i := 8) rfl
theorem md_X13_giveBack_5 : (.fieldLink RX13 48 "ResourceLedgerModel$Looker" "fault" "I" : Cond) ∈ wsX13_giveBack := List.mem_of_getElem? (i := 5) rfl
theorem md_X13_giveBack_9 : (.fieldLink RX13 39 "ResourceLedgerModel$Looker" "there" "[Z" : Cond) ∈ wsX13_giveBack := List.mem_of_getElem? (i := 9) rfl
theorem md_X13_giveBack_10 : (.fieldLink RX13 7 "ResourceLedgerModel$Looker" "localTypes" "[J" : Cond) ∈ wsX13_giveBack := List.mem_of_getElem? (i := 10) rfl
theorem md_X13_giveBack_6 : (.fieldLink RX13 33 "ResourceLedgerModel$Looker" "origins" "[J" : Cond) ∈ wsX13_giveBack := List.mem_of_getElem? (i := 6) rfl
theorem md_X13_giveBack_7 : (.constantLong RX13 192 (-280375465082881) : Cond) ∈ wsX13_giveBack := List.mem_of_getElem? (i := 7) rfl
theorem md_X13_giveBack_4 : (.fieldLink RX13 30 "ResourceLedgerModel$Looker" "types" "[J" : Cond) ∈ wsX13_giveBack := List.mem_of_getElem? (i := 4) rfl
set_option maxHeartbeats 4000000 in
set_option maxRecDepth 100000 in
theorem de_X13_giveBack (l : Launch) (dC : Nat → ClassId) (dI : Nat → Nat → Nat) (cy : Nat → ClassId) (a : Nat → Nat) (sh : Nat → Nat × Nat) (n sz : Nat) (F : Nat) (z : St) (h0 : Nat) {z8 : St} {r8 : Unit} (hf : fn_X13_giveBack F sh n z h0 = some (z8, r8)) : Met l yX13_giveBack wsX13_giveBack ({ frames := 6, cells := 0, slots := 0, locals := 139 }) (va_Pc [.ref (a h0)] (fun U => U.heap.size = sz ∧ va_P (dC, dI) vwCl (Wd cy a sh n z) U.heap ∧ va_K (dC, dI) vwCl (TYS cy) U ∧ va_D (fun _ => True) (Wd cy a sh n z) ∧ NK U)) (va_Qv (fun u : Unit => True) (fun u t => va_P (dC, dI) vwCl (Wd cy a sh n z8) t.heap ∧ va_K (dC, dI) vwCl (TYS cy) t ∧ va_D (va_A (Wd cy a sh n z) sz) (Wd cy a sh n z8)) (va_A (Wd cy a sh n z) sz)) 0 0 (va_A (Wd cy a sh n z) sz) := by
  refine Met.ofW (cc := cX13_giveBack) (maxL := 3) (ret := none) (by decide) rfl ?_
  intro p e s m args below meth c s₁ B hml hv
  obtain ⟨rfl, hsz, hP, hK, hD0, hN⟩ := hv
  have hx := B.exec
  have hb := B.bytes
  have hr := B.returns
  have hts := atoms_spec (ws := wsX13_giveBack) B.pre
  have hown : s.vm.findClass RX13 = some m.cls := findClass_of_methodNamed B.named
  have hlocks := B.notSynchronized
  subst hsz
  have hD := hD0.self (sz := s.heap.size)
  clear hD0
  generalize hAe : va_A (Wd cy a sh n z) s.heap.size = A at hD ⊢
  have hA : ∀ q : Nat, s.heap.size ≤ q → A q := fun q h => by rw [← hAe]; exact Or.inr h
  clear hAe
  have hS : va_S A s.heap s.heap [] := va_S.rf
  have hl := lv_entry ([.ref (a h0)]) (n := 3) (Nat.le_of_ble_eq_true rfl)
  rw [lg_entry_eq]
  generalize (lg_sl ([.ref (a h0)]) ++ List.replicate (3 - (lg_sl ([.ref (a h0)])).length) Slot.unset).toArray = ls at hl ⊢
  replace hl : lv_has ls 3 [(0, .ref (a h0))] := hl
  unfold fn_X13_giveBack at hf
  refine de_start hS hP (fun H locs hS hP => ?_)
  refine lv_aload_n hx hb dX13_giveBack_0 rfl (lv_at hl 0 rfl) ?_
  obtain ⟨g_1, hf⟩ := grd_some hf
  obtain ⟨kg_1, sg_1⟩ := okO_at g_1
  refine va_get (D := (dC, dI)) (ci := 13) (v := .int (z.1 h0 14)) (C := RX13) (T := TX13) (N := 22) hx hb hts iwd_X13_giveBack_X13 hown hK hP h0 (Wd_ob kg_1 sg_1 (by decide)) rfl 14 (by decide) (hts _ md_X13_giveBack_1) (fun _ h9 => h9) (fl_at (t := 0) rfl) dX13_giveBack_1 ?_
  refine lv_aload_n hx hb dX13_giveBack_4 rfl (lv_at hl 0 rfl) ?_
  obtain ⟨k_2, ek_2, hf⟩ := lnk_some hf
  refine va_get (D := (dC, dI)) (ci := 13) (v := .ref (a k_2)) (C := RX13) (T := TX13) (N := 22) hx hb hts iwd_X13_giveBack_X13 hown hK hP h0 (Wd_ob kg_1 sg_1 (by decide)) rfl 0 (by decide) (hts _ md_X13_giveBack_2) (fun _ h9 => h9) (fl_q rfl ek_2) dX13_giveBack_5 ?_
  refine lv_aload_n hx hb dX13_giveBack_8 rfl (lv_at hl 0 rfl) ?_
  refine va_get (D := (dC, dI)) (ci := 13) (v := .int (z.1 h0 1)) (C := RX13) (T := TX13) (N := 22) hx hb hts iwd_X13_giveBack_X13 hown hK hP h0 (Wd_ob kg_1 sg_1 (by decide)) rfl 1 (by decide) (hts _ md_X13_giveBack_3) (fun _ h9 => h9) (fl_at (t := 0) rfl) dX13_giveBack_9 ?_
  refine lv_iconst (v := 1) hx hb dX13_giveBack_12 (by decide) ?_
  obtain ⟨g_5, hf⟩ := grd_some hf
  obtain ⟨kg_5, sg_5⟩ := okO_at g_5
  obtain ⟨z_3, r_4, hfc, hf⟩ := cal_some hf
  have hFc := de_free hD hS hA
  refine va_calli (va_runV (As := [.int (z.1 h0 1), .int 1]) (rest := [.int (z.1 h0 14)]) ⟨hx, hb, hml, hown, hts⟩ (de_X16_many l dC dI cy a sh n H.size F z k_2 (z.1 h0 1) 1 hfc) (cwV 2 hts gX13_giveBack_X16_many rfl rfl rfl (by decide +kernel) ⟨Nat.le_of_ble_eq_true rfl, Nat.le_of_ble_eq_true rfl⟩) ⟨fun a U g mk q => by obtain ⟨q0, q1, qP, qK, qD, qN⟩ := q; exact ⟨q0, q1, qP, va_K.moved (u := U) (U := U.calling g mk a) (Vm.Alike.refl U.vm) qK, qD, qN.same rfl⟩, va_recv hK hP (ci := 16) (q0 := k_2) rfl (Wd_ob kg_5 sg_5 (by decide)), fun U hU hW => ⟨rfl, by rw [hU], by rw [hU]; exact hP, va_K.moved hW.alike hK, hD.weaken (fun _ _ _ _ => trivial), hN.warm hW⟩⟩ rfl rfl hl.1 rfl (lv_room (Nat.le_of_ble_eq_true rfl)) dX13_giveBack_13 ⟨Nat.le_of_ble_eq_true rfl, Nat.le_of_ble_eq_true rfl⟩) hS (fun q _ h => hFc q h) hFc (fun rr u t H_6 locs ht hvm hw hB hz1 hk1 hS2 => ?_)
  rw [hw]
  clear hw
  obtain ⟨hP1, -, hD1⟩ := hB
  rw [ht] at hP1
  replace hD := hD1.weaken (fun _ _ _ h => hFc _ h)
  replace hP := hP1
  replace hS := hS2
  clear hP1 hD1 hS2 hFc hfc hz1 hk1 hvm ht
  refine de_cut (h := 24) (fun (x : St × Int32) => [.int x.2]) (fun x ls H locs => lv_has ls 3 [(0, .ref (a h0))] ∧ va_P (dC, dI) vwCl (Wd cy a sh n x.1) H ∧ va_D A (Wd cy a sh n x.1) ∧ va_S A s.heap H locs) (fun x => fn_X13_giveBack_B24 F sh n h0 x.1 x.2) (z8, r8) ?_ (fun B24 => ?_)
  · intro x ls H locs hI hf
    obtain ⟨z_8, p_7⟩ := x
    obtain ⟨hl2, hP2, hD2, hS2⟩ := hI
    replace hl : lv_has ls 3 [(0, .ref (a h0))] := hl2
    replace hP := hP2
    replace hD := hD2
    replace hS := hS2
    clear hl2 hP2 hD2 hS2
    replace hf := fn_X13_giveBack_B24_s hf
    refine W.eq (g2 := F0 m 24 ls [.int p_7]) rfl ?_
    refine lv_istore_n (lv' := [(1, .int p_7), (0, .ref (a h0))]) hx hb dX13_giveBack_24 rfl hl (by decide) rfl (fun ls hl2 => ?_)
    replace hl := hl2
    clear hl2
    refine lv_iconst (v := 0) hx hb dX13_giveBack_25 (by decide) ?_
    refine lv_istore_n (lv' := [(2, .int 0), (1, .int p_7), (0, .ref (a h0))]) hx hb dX13_giveBack_26 rfl hl (by decide) rfl (fun ls hl2 => ?_)
    replace hl := hl2
    clear hl2
    have hl0 : lv_has ls 3 [(2, .int 0), (1, .int p_7), (0, .ref (a h0))] := lv_sub hl [0, 1, 2] rfl
    refine de_loop (h := 27) (fun (x : St × Int32 × Int32) ls H locs => lv_has ls 3 [(2, .int x.2.2), (1, .int x.2.1), (0, .ref (a h0))] ∧ va_P (dC, dI) vwCl (Wd cy a sh n x.1) H ∧ va_D A (Wd cy a sh n x.1) ∧ va_S A s.heap H locs) (fun f x => fn_X13_giveBack_L27 F sh n h0 f x.1 x.2.1 x.2.2) (z8, r8) ?_ (fun _ => rfl) F (z_8, p_7, 0) ls H locs ⟨hl0, hP, hD, hS⟩ hf
    intro f_12 x ls H locs ih27 hI hf
    obtain ⟨z_11, p_9, p_10⟩ := x
    obtain ⟨hl2, hP2, hD2, hS2⟩ := hI
    replace hl : lv_has ls 3 [(2, .int p_10), (1, .int p_9), (0, .ref (a h0))] := hl2
    replace hP := hP2
    replace hD := hD2
    replace hS := hS2
    clear hl2 hP2 hD2 hS2 hl0
    replace hf := fn_X13_giveBack_L27_s hf
    refine lv_iload_n hx hb dX13_giveBack_27 rfl (lv_at hl 0 rfl) ?_
    refine lv_aload_n hx hb dX13_giveBack_28 rfl (lv_at hl 2 rfl) ?_
    refine va_get (D := (dC, dI)) (ci := 13) (v := .int (z_11.1 h0 14)) (C := RX13) (T := TX13) (N := 22) hx hb hts iwd_X13_giveBack_X13 hown hK hP h0 (Wd_ob kg_1 sg_1 (by decide)) rfl 14 (by decide) (hts _ md_X13_giveBack_1) (fun _ h9 => h9) (fl_at (t := 0) rfl) dX13_giveBack_29 ?_
    refine de_cut (h := 74) (fun (x : St × Int32) => []) (fun x ls H locs => lv_has ls 3 [(1, .int x.2), (0, .ref (a h0))] ∧ va_P (dC, dI) vwCl (Wd cy a sh n x.1) H ∧ va_D A (Wd cy a sh n x.1) ∧ va_S A s.heap H locs) (fun x => fn_X13_giveBack_B74 F sh n h0 x.1 x.2) (z8, r8) ?_ (fun B74 => ?_)
    · intro x ls H locs hI hf
      obtain ⟨z_14, p_13⟩ := x
      obtain ⟨hl2, hP2, hD2, hS2⟩ := hI
      replace hl : lv_has ls 3 [(1, .int p_13), (0, .ref (a h0))] := hl2
      replace hP := hP2
      replace hD := hD2
      replace hS := hS2
      clear hl2 hP2 hD2 hS2
      replace hf := fn_X13_giveBack_B74_s hf
      refine W.eq (g2 := F0 m 74 ls []) rfl ?_
      refine lv_aload_n hx hb dX13_giveBack_74 rfl (lv_at hl 1 rfl) ?_
      refine lv_iload_n hx hb dX13_giveBack_75 rfl (lv_at hl 0 rfl) ?_
      refine lv_bipush (v := 12) hx hb dX13_giveBack_76 (by decide) ?_
      obtain ⟨z_15, _u, hfc, hf⟩ := cal_some hf
      have hFc := de_free hD hS hA
      refine va_callv (va_runV (As := [.int p_13, .int 12]) (rest := []) ⟨hx, hb, hml, hown, hts⟩ (de_X13_need l dC dI cy a sh n H.size F z_14 h0 p_13 12 hfc) (cwV 2 hts gX13_giveBack_X13_need rfl rfl rfl (by decide +kernel) ⟨Nat.le_of_ble_eq_true rfl, Nat.le_of_ble_eq_true rfl⟩) ⟨fun a U g mk q => by obtain ⟨q0, q1, qP, qK, qD, qN⟩ := q; exact ⟨q0, q1, qP, va_K.moved (u := U) (U := U.calling g mk a) (Vm.Alike.refl U.vm) qK, qD, qN.same rfl⟩, va_recv hK hP (ci := 13) (q0 := h0) rfl (Wd_ob kg_1 sg_1 (by decide)), fun U hU hW => ⟨rfl, by rw [hU], by rw [hU]; exact hP, va_K.moved hW.alike hK, hD.weaken (fun _ _ _ _ => trivial), hN.warm hW⟩⟩ rfl rfl hl.1 rfl (lv_room (Nat.le_of_ble_eq_true rfl)) dX13_giveBack_78 ⟨Nat.le_of_ble_eq_true rfl, Nat.le_of_ble_eq_true rfl⟩) hS (fun q _ h => hFc q h) hFc (fun u t H_16 locs ht hvm hw hB hz1 hk1 hS2 => ?_)
      obtain ⟨hP1, -, hD1⟩ := hB
      rw [ht] at hP1
      replace hD := hD1.weaken (fun _ _ _ h => hFc _ h)
      replace hP := hP1
      replace hS := hS2
      clear hP1 hD1 hS2 hFc hfc hz1 hk1 hvm ht
      refine lv_iconst (v := 0) hx hb dX13_giveBack_81 (by decide) ?_
      refine lv_istore_n (lv' := [(2, .int 0), (1, .int p_13), (0, .ref (a h0))]) hx hb dX13_giveBack_82 rfl hl (by decide) rfl (fun ls hl2 => ?_)
      replace hl := hl2
      clear hl2
      have hl0 : lv_has ls 3 [(2, .int 0), (0, .ref (a h0))] := lv_sub hl [0, 2] rfl
      refine de_loop (h := 83) (fun (x : St × Int32) ls H locs => lv_has ls 3 [(2, .int x.2), (0, .ref (a h0))] ∧ va_P (dC, dI) vwCl (Wd cy a sh n x.1) H ∧ va_D A (Wd cy a sh n x.1) ∧ va_S A s.heap H locs) (fun f x => fn_X13_giveBack_L83 F sh n h0 f x.1 x.2) (z8, r8) ?_ (fun _ => rfl) F (z_15, 0) ls H_16 locs ⟨hl0, hP, hD, hS⟩ hf
      intro f_19 x ls H locs ih83 hI hf
      obtain ⟨z_18, p_17⟩ := x
      obtain ⟨hl2, hP2, hD2, hS2⟩ := hI
      replace hl : lv_has ls 3 [(2, .int p_17), (0, .ref (a h0))] := hl2
      replace hP := hP2
      replace hD := hD2
      replace hS := hS2
      clear hl2 hP2 hD2 hS2 hl0
      replace hf := fn_X13_giveBack_L83_s hf
      refine lv_iload_n hx hb dX13_giveBack_83 rfl (lv_at hl 0 rfl) ?_
      refine lv_aload_n hx hb dX13_giveBack_84 rfl (lv_at hl 1 rfl) ?_
      refine va_get (D := (dC, dI)) (ci := 13) (v := .int (z_18.1 h0 14)) (C := RX13) (T := TX13) (N := 22) hx hb hts iwd_X13_giveBack_X13 hown hK hP h0 (Wd_ob kg_1 sg_1 (by decide)) rfl 14 (by decide) (hts _ md_X13_giveBack_1) (fun _ h9 => h9) (fl_at (t := 0) rfl) dX13_giveBack_85 ?_
      refine de_cut (h := 130) (fun (x : St) => []) (fun x ls H locs => lv_has ls 3 [(0, .ref (a h0))] ∧ va_P (dC, dI) vwCl (Wd cy a sh n x) H ∧ va_D A (Wd cy a sh n x) ∧ va_S A s.heap H locs) (fun x => fn_X13_giveBack_B130 F sh n h0 x) (z8, r8) ?_ (fun B130 => ?_)
      · intro x ls H locs hI hf
        obtain ⟨z_20, ez⟩ : ∃ w, w = x := ⟨_, rfl⟩
        subst ez
        obtain ⟨hl2, hP2, hD2, hS2⟩ := hI
        replace hl : lv_has ls 3 [(0, .ref (a h0))] := hl2
        replace hP := hP2
        replace hD := hD2
        replace hS := hS2
        clear hl2 hP2 hD2 hS2
        replace hf := fn_X13_giveBack_B130_s hf
        refine W.eq (g2 := F0 m 130 ls []) rfl ?_
        refine lv_iconst (v := 0) hx hb dX13_giveBack_130 (by decide) ?_
        refine lv_istore_n (lv' := [(2, .int 0), (0, .ref (a h0))]) hx hb dX13_giveBack_131 rfl hl (by decide) rfl (fun ls hl2 => ?_)
        replace hl := hl2
        clear hl2
        have hl0 : lv_has ls 3 [(2, .int 0), (0, .ref (a h0))] := lv_sub hl [0, 1] rfl
        refine de_loop (h := 132) (fun (x : St × Int32) ls H locs => lv_has ls 3 [(2, .int x.2), (0, .ref (a h0))] ∧ va_P (dC, dI) vwCl (Wd cy a sh n x.1) H ∧ va_D A (Wd cy a sh n x.1) ∧ va_S A s.heap H locs) (fun f x => fn_X13_giveBack_L132 F sh n h0 f x.1 x.2) (z8, r8) ?_ (fun _ => rfl) F (z_20, 0) ls H locs ⟨hl0, hP, hD, hS⟩ hf
        intro f_23 x ls H locs ih132 hI hf
        obtain ⟨z_22, p_21⟩ := x
        obtain ⟨hl2, hP2, hD2, hS2⟩ := hI
        replace hl : lv_has ls 3 [(2, .int p_21), (0, .ref (a h0))] := hl2
        replace hP := hP2
        replace hD := hD2
        replace hS := hS2
        clear hl2 hP2 hD2 hS2 hl0
        replace hf := fn_X13_giveBack_L132_s hf
        refine lv_iload_n hx hb dX13_giveBack_132 rfl (lv_at hl 0 rfl) ?_
        refine lv_aload_n hx hb dX13_giveBack_133 rfl (lv_at hl 1 rfl) ?_
        refine va_get (D := (dC, dI)) (ci := 13) (v := .int (z_22.1 h0 2)) (C := RX13) (T := TX13) (N := 22) hx hb hts iwd_X13_giveBack_X13 hown hK hP h0 (Wd_ob kg_1 sg_1 (by decide)) rfl 2 (by decide) (hts _ md_X13_giveBack_8) (fun _ h9 => h9) (fl_at (t := 0) rfl) dX13_giveBack_134 ?_
        refine lv_icmp_ge (tgt := 187) hx hb dX13_giveBack_137 (by decide) (fun c_24 => ?_) (fun c_24 => ?_)
        · skip
          rw [if_pos c_24] at hf
          obtain ⟨h8, h9⟩ := ret_some hf
          rw [h8]
          exact W.vret hx hb hr (fun t ht hW => ⟨⟨(), rfl, trivial, by rw [ht]; exact hP, va_K.moved hW.alike hK, hD⟩, hS.F ht⟩) hS.2.2 dX13_giveBack_187
        · skip
          rw [if_neg c_24] at hf
          refine lv_aload_n hx hb dX13_giveBack_140 rfl (lv_at hl 1 rfl) ?_
          refine va_get (D := (dC, dI)) (ci := 13) (v := .int (z_22.1 h0 18)) (C := RX13) (T := TX13) (N := 22) hx hb hts iwd_X13_giveBack_X13 hown hK hP h0 (Wd_ob kg_1 sg_1 (by decide)) rfl 18 (by decide) (hts _ md_X13_giveBack_5) (fun _ h9 => h9) (fl_at (t := 0) rfl) dX13_giveBack_141 ?_
          refine lv_if_ne (tgt := 187) hx hb dX13_giveBack_144 (by decide) (fun c_25 => ?_) (fun c_25 => ?_)
          · skip
            rw [if_neg c_25] at hf
            obtain ⟨h8, h9⟩ := ret_some hf
            rw [h8]
            exact W.vret hx hb hr (fun t ht hW => ⟨⟨(), rfl, trivial, by rw [ht]; exact hP, va_K.moved hW.alike hK, hD⟩, hS.F ht⟩) hS.2.2 dX13_giveBack_187
          · skip
            rw [if_pos c_25] at hf
            refine lv_aload_n hx hb dX13_giveBack_147 rfl (lv_at hl 1 rfl) ?_
            refine lv_aload_n hx hb dX13_giveBack_148 rfl (lv_at hl 1 rfl) ?_
            obtain ⟨k_26, ek_26, hf⟩ := lnk_some hf
            refine va_get (D := (dC, dI)) (ci := 13) (v := .ref (a k_26)) (C := RX13) (T := TX13) (N := 22) hx hb hts iwd_X13_giveBack_X13 hown hK hP h0 (Wd_ob kg_1 sg_1 (by decide)) rfl 15 (by decide) (hts _ md_X13_giveBack_9) (fun _ h9 => h9) (fl_q rfl ek_26) dX13_giveBack_149 ?_
            refine lv_iload_n hx hb dX13_giveBack_152 rfl (lv_at hl 0 rfl) ?_
            obtain ⟨g_27, hf⟩ := grd_some hf
            obtain ⟨kg_27, sg_27, ig_27⟩ := okA_at g_27
            refine va_zald hx hb hK hP k_26 3 (Wd_az kg_27 sg_27) rfl ig_27 dX13_giveBack_153 ?_
            refine de_cut (h := 176) (fun (x : St × Int32) => [.int x.2, .ref (a h0)]) (fun x ls H locs => lv_has ls 3 [(2, .int p_21), (0, .ref (a h0))] ∧ va_P (dC, dI) vwCl (Wd cy a sh n x.1) H ∧ va_D A (Wd cy a sh n x.1) ∧ va_S A s.heap H locs) (fun x => fn_X13_giveBack_B176 F sh n h0 p_21 (fun z9 q2 => fn_X13_giveBack_L132 F sh n h0 f_23 z9 q2) x.1 x.2) (z8, r8) ?_ (fun B176 => ?_)
            · intro x ls H locs hI hf
              obtain ⟨z_29, p_28⟩ := x
              obtain ⟨hl2, hP2, hD2, hS2⟩ := hI
              replace hl : lv_has ls 3 [(2, .int p_21), (0, .ref (a h0))] := hl2
              replace hP := hP2
              replace hD := hD2
              replace hS := hS2
              clear hl2 hP2 hD2 hS2
              replace hf := fn_X13_giveBack_B176_s hf
              refine W.eq (g2 := F0 m 176 ls [.int p_28, .ref (a h0)]) rfl ?_
              refine lv_bipush (v := 13) hx hb dX13_giveBack_176 (by decide) ?_
              obtain ⟨z_30, _u, hfc, hf⟩ := cal_some hf
              have hFc := de_free hD hS hA
              refine va_callv (va_runV (As := [.int p_28, .int 13]) (rest := []) ⟨hx, hb, hml, hown, hts⟩ (de_X13_need l dC dI cy a sh n H.size F z_29 h0 p_28 13 hfc) (cwV 2 hts gX13_giveBack_X13_need rfl rfl rfl (by decide +kernel) ⟨Nat.le_of_ble_eq_true rfl, Nat.le_of_ble_eq_true rfl⟩) ⟨fun a U g mk q => by obtain ⟨q0, q1, qP, qK, qD, qN⟩ := q; exact ⟨q0, q1, qP, va_K.moved (u := U) (U := U.calling g mk a) (Vm.Alike.refl U.vm) qK, qD, qN.same rfl⟩, va_recv hK hP (ci := 13) (q0 := h0) rfl (Wd_ob kg_1 sg_1 (by decide)), fun U hU hW => ⟨rfl, by rw [hU], by rw [hU]; exact hP, va_K.moved hW.alike hK, hD.weaken (fun _ _ _ _ => trivial), hN.warm hW⟩⟩ rfl rfl hl.1 rfl (lv_room (Nat.le_of_ble_eq_true rfl)) dX13_giveBack_178 ⟨Nat.le_of_ble_eq_true rfl, Nat.le_of_ble_eq_true rfl⟩) hS (fun q _ h => hFc q h) hFc (fun u t H_31 locs ht hvm hw hB hz1 hk1 hS2 => ?_)
              obtain ⟨hP1, -, hD1⟩ := hB
              rw [ht] at hP1
              replace hD := hD1.weaken (fun _ _ _ h => hFc _ h)
              replace hP := hP1
              replace hS := hS2
              clear hP1 hD1 hS2 hFc hfc hz1 hk1 hvm ht
              refine lv_iinc (v := (p_21 + 1)) (lv' := [(2, .int (p_21 + 1)), (0, .ref (a h0))]) hx hb dX13_giveBack_181 hl (k := 0) rfl rfl (by decide) rfl (fun ls hl2 => ?_)
              replace hl := hl2
              clear hl2
              refine lv_goto (tgt := 132) hx hb dX13_giveBack_184 (by decide) ?_
              exact ih132 (z_30, (p_21 + 1)) ls H_31 locs ⟨lv_sub hl [0, 1] rfl, hP, hD, hS⟩ hf
            refine de_cut (h := 171) (fun (x : St) => [.ref (a h0)]) (fun x ls H locs => lv_has ls 3 [(2, .int p_21), (0, .ref (a h0))] ∧ va_P (dC, dI) vwCl (Wd cy a sh n x) H ∧ va_D A (Wd cy a sh n x) ∧ va_S A s.heap H locs) (fun x => fn_X13_giveBack_B171 F sh n h0 p_21 (fun z9 q2 => fn_X13_giveBack_L132 F sh n h0 f_23 z9 q2) x) (z8, r8) ?_ (fun B171 => ?_)
            · intro x ls H locs hI hf
              obtain ⟨z_32, ez⟩ : ∃ w, w = x := ⟨_, rfl⟩
              subst ez
              obtain ⟨hl2, hP2, hD2, hS2⟩ := hI
              replace hl : lv_has ls 3 [(2, .int p_21), (0, .ref (a h0))] := hl2
              replace hP := hP2
              replace hD := hD2
              replace hS := hS2
              clear hl2 hP2 hD2 hS2
              replace hf := fn_X13_giveBack_B171_s hf
              refine W.eq (g2 := F0 m 171 ls [.ref (a h0)]) rfl ?_
              refine lv_iconst (v := 1) hx hb dX13_giveBack_171 (by decide) ?_
              refine lv_goto (tgt := 176) hx hb dX13_giveBack_172 (by decide) ?_
              exact B176 (z_32, 1) ls H locs ⟨lv_sub hl [0, 1] rfl, hP, hD, hS⟩ hf
            refine lv_if_eq (tgt := 171) hx hb dX13_giveBack_154 (by decide) (fun c_33 => ?_) (fun c_33 => ?_)
            · skip
              rw [if_pos c_33] at hf
              exact B171 (z_22) ls H locs ⟨lv_sub hl [0, 1] rfl, hP, hD, hS⟩ hf
            · skip
              rw [if_neg c_33] at hf
              refine lv_aload_n hx hb dX13_giveBack_157 rfl (lv_at hl 1 rfl) ?_
              refine lv_aload_n hx hb dX13_giveBack_158 rfl (lv_at hl 1 rfl) ?_
              obtain ⟨k_34, ek_34, hf⟩ := lnk_some hf
              refine va_get (D := (dC, dI)) (ci := 13) (v := .ref (a k_34)) (C := RX13) (T := TX13) (N := 22) hx hb hts iwd_X13_giveBack_X13 hown hK hP h0 (Wd_ob kg_1 sg_1 (by decide)) rfl 3 (by decide) (hts _ md_X13_giveBack_10) (fun _ h9 => h9) (fl_q rfl ek_34) dX13_giveBack_159 ?_
              refine lv_iload_n hx hb dX13_giveBack_162 rfl (lv_at hl 0 rfl) ?_
              obtain ⟨g_35, hf⟩ := grd_some hf
              obtain ⟨kg_35, sg_35, ig_35⟩ := okA_at g_35
              refine va_lald hx hb hK hP k_34 2 (Wd_al kg_35 sg_35) rfl ig_35 dX13_giveBack_163 ?_
              refine lv_iconst (v := 2) hx hb dX13_giveBack_164 (by decide) ?_
              obtain ⟨z_36, r_37, hfc, hf⟩ := cal_some hf
              have hFc := de_free hD hS hA
              refine va_calli (va_runV (As := [.long (z_22.2.1 k_34 p_21.toNatClampNeg), .int 2]) (rest := [.ref (a h0)]) ⟨hx, hb, hml, hown, hts⟩ (de_X13_has l dC dI cy a sh n H.size F z_22 h0 (z_22.2.1 k_34 p_21.toNatClampNeg) 2 hfc) (cwV 2 hts gX13_giveBack_X13_has rfl rfl rfl (by decide +kernel) ⟨Nat.le_of_ble_eq_true rfl, Nat.le_of_ble_eq_true rfl⟩) ⟨fun a U g mk q => by obtain ⟨q0, q1, qP, qK, qD, qN⟩ := q; exact ⟨q0, q1, qP, va_K.moved (u := U) (U := U.calling g mk a) (Vm.Alike.refl U.vm) qK, qD, qN.same rfl⟩, va_recv hK hP (ci := 13) (q0 := h0) rfl (Wd_ob kg_1 sg_1 (by decide)), fun U hU hW => ⟨rfl, by rw [hU], by rw [hU]; exact hP, va_K.moved hW.alike hK, hD.weaken (fun _ _ _ _ => trivial), hN.warm hW⟩⟩ rfl rfl hl.1 rfl (lv_room (Nat.le_of_ble_eq_true rfl)) dX13_giveBack_165 ⟨Nat.le_of_ble_eq_true rfl, Nat.le_of_ble_eq_true rfl⟩) hS (fun q _ h => hFc q h) hFc (fun rr u t H_38 locs ht hvm hw hB hz1 hk1 hS2 => ?_)
              rw [hw]
              clear hw
              obtain ⟨hP1, -, hD1⟩ := hB
              rw [ht] at hP1
              replace hD := hD1.weaken (fun _ _ _ h => hFc _ h)
              replace hP := hP1
              replace hS := hS2
              clear hP1 hD1 hS2 hFc hfc hz1 hk1 hvm ht
              refine lv_if_eq (tgt := 175) hx hb dX13_giveBack_168 (by decide) (fun c_39 => ?_) (fun c_39 => ?_)
              · skip
                rw [if_pos c_39] at hf
                refine lv_iconst (v := 0) hx hb dX13_giveBack_175 (by decide) ?_
                exact B176 (z_36, 0) ls H_38 locs ⟨lv_sub hl [0, 1] rfl, hP, hD, hS⟩ hf
              · skip
                rw [if_neg c_39] at hf
                exact B171 (z_36) ls H_38 locs ⟨lv_sub hl [0, 1] rfl, hP, hD, hS⟩ hf
      refine lv_icmp_ge (tgt := 130) hx hb dX13_giveBack_88 (by decide) (fun c_40 => ?_) (fun c_40 => ?_)
      · skip
        rw [if_pos c_40] at hf
        exact B130 (z_18) ls H locs ⟨lv_sub hl [1] rfl, hP, hD, hS⟩ hf
      · skip
        rw [if_neg c_40] at hf
        refine lv_aload_n hx hb dX13_giveBack_91 rfl (lv_at hl 1 rfl) ?_
        refine va_get (D := (dC, dI)) (ci := 13) (v := .int (z_18.1 h0 18)) (C := RX13) (T := TX13) (N := 22) hx hb hts iwd_X13_giveBack_X13 hown hK hP h0 (Wd_ob kg_1 sg_1 (by decide)) rfl 18 (by decide) (hts _ md_X13_giveBack_5) (fun _ h9 => h9) (fl_at (t := 0) rfl) dX13_giveBack_92 ?_
        refine lv_if_ne (tgt := 130) hx hb dX13_giveBack_95 (by decide) (fun c_41 => ?_) (fun c_41 => ?_)
        · skip
          rw [if_neg c_41] at hf
          exact B130 (z_18) ls H locs ⟨lv_sub hl [1] rfl, hP, hD, hS⟩ hf
        · skip
          rw [if_pos c_41] at hf
          refine lv_aload_n hx hb dX13_giveBack_98 rfl (lv_at hl 1 rfl) ?_
          refine lv_aload_n hx hb dX13_giveBack_99 rfl (lv_at hl 1 rfl) ?_
          obtain ⟨k_42, ek_42, hf⟩ := lnk_some hf
          refine va_get (D := (dC, dI)) (ci := 13) (v := .ref (a k_42)) (C := RX13) (T := TX13) (N := 22) hx hb hts iwd_X13_giveBack_X13 hown hK hP h0 (Wd_ob kg_1 sg_1 (by decide)) rfl 12 (by decide) (hts _ md_X13_giveBack_6) (fun _ h9 => h9) (fl_q rfl ek_42) dX13_giveBack_100 ?_
          refine lv_iload_n hx hb dX13_giveBack_103 rfl (lv_at hl 0 rfl) ?_
          obtain ⟨g_43, hf⟩ := grd_some hf
          obtain ⟨kg_43, sg_43, ig_43⟩ := okA_at g_43
          refine va_lald hx hb hK hP k_42 2 (Wd_al kg_43 sg_43) rfl ig_43 dX13_giveBack_104 ?_
          refine lv_ldc2 hx hb hown (hts _ md_X13_giveBack_7) dX13_giveBack_105 ?_
          refine lv_land hx hb dX13_giveBack_108 ?_
          refine lv_lconst (v := 0) hx hb dX13_giveBack_109 (by decide) ?_
          refine W.lcmp hx hb dX13_giveBack_110 ?_
          refine de_cut (h := 119) (fun (x : St × Int32) => [.int x.2, .ref (a h0)]) (fun x ls H locs => lv_has ls 3 [(2, .int p_17), (0, .ref (a h0))] ∧ va_P (dC, dI) vwCl (Wd cy a sh n x.1) H ∧ va_D A (Wd cy a sh n x.1) ∧ va_S A s.heap H locs) (fun x => fn_X13_giveBack_B119 F sh n h0 p_17 (fun z9 q2 => fn_X13_giveBack_L83 F sh n h0 f_19 z9 q2) x.1 x.2) (z8, r8) ?_ (fun B119 => ?_)
          · intro x ls H locs hI hf
            obtain ⟨z_45, p_44⟩ := x
            obtain ⟨hl2, hP2, hD2, hS2⟩ := hI
            replace hl : lv_has ls 3 [(2, .int p_17), (0, .ref (a h0))] := hl2
            replace hP := hP2
            replace hD := hD2
            replace hS := hS2
            clear hl2 hP2 hD2 hS2
            replace hf := fn_X13_giveBack_B119_s hf
            refine W.eq (g2 := F0 m 119 ls [.int p_44, .ref (a h0)]) rfl ?_
            refine lv_bipush (v := 14) hx hb dX13_giveBack_119 (by decide) ?_
            obtain ⟨z_46, _u, hfc, hf⟩ := cal_some hf
            have hFc := de_free hD hS hA
            refine va_callv (va_runV (As := [.int p_44, .int 14]) (rest := []) ⟨hx, hb, hml, hown, hts⟩ (de_X13_need l dC dI cy a sh n H.size F z_45 h0 p_44 14 hfc) (cwV 2 hts gX13_giveBack_X13_need rfl rfl rfl (by decide +kernel) ⟨Nat.le_of_ble_eq_true rfl, Nat.le_of_ble_eq_true rfl⟩) ⟨fun a U g mk q => by obtain ⟨q0, q1, qP, qK, qD, qN⟩ := q; exact ⟨q0, q1, qP, va_K.moved (u := U) (U := U.calling g mk a) (Vm.Alike.refl U.vm) qK, qD, qN.same rfl⟩, va_recv hK hP (ci := 13) (q0 := h0) rfl (Wd_ob kg_1 sg_1 (by decide)), fun U hU hW => ⟨rfl, by rw [hU], by rw [hU]; exact hP, va_K.moved hW.alike hK, hD.weaken (fun _ _ _ _ => trivial), hN.warm hW⟩⟩ rfl rfl hl.1 rfl (lv_room (Nat.le_of_ble_eq_true rfl)) dX13_giveBack_121 ⟨Nat.le_of_ble_eq_true rfl, Nat.le_of_ble_eq_true rfl⟩) hS (fun q _ h => hFc q h) hFc (fun u t H_47 locs ht hvm hw hB hz1 hk1 hS2 => ?_)
            obtain ⟨hP1, -, hD1⟩ := hB
            rw [ht] at hP1
            replace hD := hD1.weaken (fun _ _ _ h => hFc _ h)
            replace hP := hP1
            replace hS := hS2
            clear hP1 hD1 hS2 hFc hfc hz1 hk1 hvm ht
            refine lv_iinc (v := (p_17 + 1)) (lv' := [(2, .int (p_17 + 1)), (0, .ref (a h0))]) hx hb dX13_giveBack_124 hl (k := 0) rfl rfl (by decide) rfl (fun ls hl2 => ?_)
            replace hl := hl2
            clear hl2
            refine lv_goto (tgt := 83) hx hb dX13_giveBack_127 (by decide) ?_
            exact ih83 (z_46, (p_17 + 1)) ls H_47 locs ⟨lv_sub hl [0, 1] rfl, hP, hD, hS⟩ hf
          refine lv_if_ne (tgt := 118) hx hb dX13_giveBack_111 (by decide) (fun c_48 => ?_) (fun c_48 => ?_)
          · skip
            rw [lg_cmp_eq] at c_48
            rw [if_neg c_48] at hf
            refine lv_iconst (v := 0) hx hb dX13_giveBack_118 (by decide) ?_
            exact B119 (z_18, 0) ls H locs ⟨lv_sub hl [0, 1] rfl, hP, hD, hS⟩ hf
          · skip
            rw [lg_cmp_eq] at c_48
            rw [if_pos c_48] at hf
            refine lv_iconst (v := 1) hx hb dX13_giveBack_114 (by decide) ?_
            refine lv_goto (tgt := 119) hx hb dX13_giveBack_115 (by decide) ?_
            exact B119 (z_18, 1) ls H locs ⟨lv_sub hl [0, 1] rfl, hP, hD, hS⟩ hf
    refine lv_icmp_ge (tgt := 74) hx hb dX13_giveBack_32 (by decide) (fun c_49 => ?_) (fun c_49 => ?_)
    · skip
      rw [if_pos c_49] at hf
      exact B74 (z_11, p_9) ls H locs ⟨lv_sub hl [1, 2] rfl, hP, hD, hS⟩ hf
    · skip
      rw [if_neg c_49] at hf
      refine lv_iload_n hx hb dX13_giveBack_35 rfl (lv_at hl 1 rfl) ?_
      refine lv_if_eq (tgt := 74) hx hb dX13_giveBack_36 (by decide) (fun c_50 => ?_) (fun c_50 => ?_)
      · skip
        rw [if_pos c_50] at hf
        exact B74 (z_11, p_9) ls H locs ⟨lv_sub hl [1, 2] rfl, hP, hD, hS⟩ hf
      · skip
        rw [if_neg c_50] at hf
        refine lv_aload_n hx hb dX13_giveBack_39 rfl (lv_at hl 2 rfl) ?_
        obtain ⟨k_51, ek_51, hf⟩ := lnk_some hf
        refine va_get (D := (dC, dI)) (ci := 13) (v := .ref (a k_51)) (C := RX13) (T := TX13) (N := 22) hx hb hts iwd_X13_giveBack_X13 hown hK hP h0 (Wd_ob kg_1 sg_1 (by decide)) rfl 11 (by decide) (hts _ md_X13_giveBack_4) (fun _ h9 => h9) (fl_q rfl ek_51) dX13_giveBack_40 ?_
        refine lv_iload_n hx hb dX13_giveBack_43 rfl (lv_at hl 0 rfl) ?_
        obtain ⟨g_52, hf⟩ := grd_some hf
        obtain ⟨kg_52, sg_52, ig_52⟩ := okA_at g_52
        refine va_lald hx hb hK hP k_51 2 (Wd_al kg_52 sg_52) rfl ig_52 dX13_giveBack_44 ?_
        refine lv_aload_n hx hb dX13_giveBack_45 rfl (lv_at hl 2 rfl) ?_
        obtain ⟨k_53, ek_53, hf⟩ := lnk_some hf
        refine va_get (D := (dC, dI)) (ci := 13) (v := .ref (a k_53)) (C := RX13) (T := TX13) (N := 22) hx hb hts iwd_X13_giveBack_X13 hown hK hP h0 (Wd_ob kg_1 sg_1 (by decide)) rfl 0 (by decide) (hts _ md_X13_giveBack_2) (fun _ h9 => h9) (fl_q rfl ek_53) dX13_giveBack_46 ?_
        refine lv_aload_n hx hb dX13_giveBack_49 rfl (lv_at hl 2 rfl) ?_
        refine va_get (D := (dC, dI)) (ci := 13) (v := .int (z_11.1 h0 1)) (C := RX13) (T := TX13) (N := 22) hx hb hts iwd_X13_giveBack_X13 hown hK hP h0 (Wd_ob kg_1 sg_1 (by decide)) rfl 1 (by decide) (hts _ md_X13_giveBack_3) (fun _ h9 => h9) (fl_at (t := 0) rfl) dX13_giveBack_50 ?_
        refine lv_iconst (v := 1) hx hb dX13_giveBack_53 (by decide) ?_
        refine lv_iload_n hx hb dX13_giveBack_54 rfl (lv_at hl 0 rfl) ?_
        obtain ⟨g_56, hf⟩ := grd_some hf
        obtain ⟨kg_56, sg_56⟩ := okO_at g_56
        obtain ⟨z_54, r_55, hfc, hf⟩ := cal_some hf
        have hFc := de_free hD hS hA
        refine va_calll (va_runV (As := [.int (z_11.1 h0 1), .int 1, .int p_10]) (rest := [.long (z_11.2.1 k_51 p_10.toNatClampNeg)]) ⟨hx, hb, hml, hown, hts⟩ (de_X16_listed l dC dI cy a sh n H.size F z_11 k_53 (z_11.1 h0 1) 1 p_10 hfc) (cwV 3 hts gX13_giveBack_X16_listed rfl rfl rfl (by decide +kernel) ⟨Nat.le_of_ble_eq_true rfl, Nat.le_of_ble_eq_true rfl⟩) ⟨fun a U g mk q => by obtain ⟨q0, q1, qP, qK, qD, qN⟩ := q; exact ⟨q0, q1, qP, va_K.moved (u := U) (U := U.calling g mk a) (Vm.Alike.refl U.vm) qK, qD, qN.same rfl⟩, va_recv hK hP (ci := 16) (q0 := k_53) rfl (Wd_ob kg_56 sg_56 (by decide)), fun U hU hW => ⟨rfl, by rw [hU], by rw [hU]; exact hP, va_K.moved hW.alike hK, hD.weaken (fun _ _ _ _ => trivial), hN.warm hW⟩⟩ rfl rfl hl.1 rfl (lv_room (Nat.le_of_ble_eq_true rfl)) dX13_giveBack_55 ⟨Nat.le_of_ble_eq_true rfl, Nat.le_of_ble_eq_true rfl⟩) hS (fun q _ h => hFc q h) hFc (fun rr u t H_57 locs ht hvm hw hB hz1 hk1 hS2 => ?_)
        rw [hw]
        clear hw
        obtain ⟨hP1, -, hD1⟩ := hB
        rw [ht] at hP1
        replace hD := hD1.weaken (fun _ _ _ h => hFc _ h)
        replace hP := hP1
        replace hS := hS2
        clear hP1 hD1 hS2 hFc hfc hz1 hk1 hvm ht
        refine W.lcmp hx hb dX13_giveBack_58 ?_
        refine de_cut (h := 67) (fun (x : St × Int32) => [.int x.2]) (fun x ls H locs => lv_has ls 3 [(2, .int p_10), (0, .ref (a h0))] ∧ va_P (dC, dI) vwCl (Wd cy a sh n x.1) H ∧ va_D A (Wd cy a sh n x.1) ∧ va_S A s.heap H locs) (fun x => fn_X13_giveBack_B67 F sh n p_10 (fun z9 q1 q2 => fn_X13_giveBack_L27 F sh n h0 f_12 z9 q1 q2) x.1 x.2) (z8, r8) ?_ (fun B67 => ?_)
        · intro x ls H locs hI hf
          obtain ⟨z_59, p_58⟩ := x
          obtain ⟨hl2, hP2, hD2, hS2⟩ := hI
          replace hl : lv_has ls 3 [(2, .int p_10), (0, .ref (a h0))] := hl2
          replace hP := hP2
          replace hD := hD2
          replace hS := hS2
          clear hl2 hP2 hD2 hS2
          replace hf := fn_X13_giveBack_B67_s hf
          refine W.eq (g2 := F0 m 67 ls [.int p_58]) rfl ?_
          refine lv_istore_n (lv' := [(1, .int p_58), (2, .int p_10), (0, .ref (a h0))]) hx hb dX13_giveBack_67 rfl hl (by decide) rfl (fun ls hl2 => ?_)
          replace hl := hl2
          clear hl2
          refine lv_iinc (v := (p_10 + 1)) (lv' := [(2, .int (p_10 + 1)), (1, .int p_58), (0, .ref (a h0))]) hx hb dX13_giveBack_68 hl (k := 1) rfl rfl (by decide) rfl (fun ls hl2 => ?_)
          replace hl := hl2
          clear hl2
          refine lv_goto (tgt := 27) hx hb dX13_giveBack_71 (by decide) ?_
          exact ih27 (z_59, p_58, (p_10 + 1)) ls H locs ⟨lv_sub hl [0, 1, 2] rfl, hP, hD, hS⟩ hf
        refine lv_if_ne (tgt := 66) hx hb dX13_giveBack_59 (by decide) (fun c_60 => ?_) (fun c_60 => ?_)
        · skip
          rw [lg_cmp_eq] at c_60
          rw [if_neg c_60] at hf
          refine lv_iconst (v := 0) hx hb dX13_giveBack_66 (by decide) ?_
          exact B67 (z_54, 0) ls H_57 locs ⟨lv_sub hl [0, 2] rfl, hP, hD, hS⟩ hf
        · skip
          rw [lg_cmp_eq] at c_60
          rw [if_pos c_60] at hf
          refine lv_iconst (v := 1) hx hb dX13_giveBack_62 (by decide) ?_
          refine lv_goto (tgt := 67) hx hb dX13_giveBack_63 (by decide) ?_
          exact B67 (z_54, 1) ls H_57 locs ⟨lv_sub hl [0, 2] rfl, hP, hD, hS⟩ hf
  refine lv_icmp_ne (tgt := 23) hx hb dX13_giveBack_16 (by decide) (fun c_61 => ?_) (fun c_61 => ?_)
  · skip
    rw [if_neg c_61] at hf
    refine lv_iconst (v := 0) hx hb dX13_giveBack_23 (by decide) ?_
    exact B24 (z_3, 0) ls H_6 locs ⟨lv_sub hl [0] rfl, hP, hD, hS⟩ hf
  · skip
    rw [if_pos c_61] at hf
    refine lv_iconst (v := 1) hx hb dX13_giveBack_19 (by decide) ?_
    refine lv_goto (tgt := 24) hx hb dX13_giveBack_20 (by decide) ?_
    exact B24 (z_3, 1) ls H_6 locs ⟨lv_sub hl [0] rfl, hP, hD, hS⟩ hf

theorem md_X11_takeModule_1 : (.fieldLink RX11 127 "ResourceLedger$Transaction" "bytes" "[B" : Cond) ∈ wsX11_takeModule := List.mem_of_getElem? (i := 1) rfl
theorem iwd_X11_takeModule_X8 : ∀ w ∈ wsX80, w ∈ wsX11_takeModule := fun _ h => List.mem_cons_of_mem _ (List.mem_append_left _ (List.mem_append_left _ (List.mem_append_left _ (List.mem_append_left _ (List.mem_append_left _ (List.mem_append_right _ h))))))
theorem md_X11_takeModule_2 : (.fieldLink RX11 185 "ResourceLedger$Transaction" "limit" "I" : Cond) ∈ wsX11_takeModule := List.mem_of_getElem? (i := 2) rfl
theorem md_X11_takeModule_4 : (.fieldLink RX11 22 "ResourceLedger" "state" "LResourceLedger$State;" : Cond) ∈ wsX11_takeModule := List.mem_of_getElem? (i := 4) rfl
theorem iwd_X11_takeModule_X11 : ∀ w ∈ wsX110, w ∈ wsX11_takeModule := fun _ h => List.mem_cons_of_mem _ (List.mem_append_left _ (List.mem_append_left _ (List.mem_append_left _ (List.mem_append_left _ (List.mem_append_right _ h)))))
theorem md_X11_takeModule_5 : (.fieldLink RX11 209 "ResourceLedger$State" "moduleCount" "I" : Cond) ∈ wsX11_takeModule := List.mem_of_getElem? (i := 5) rfl
theorem iwd_X11_takeModule_X7 : ∀ w ∈ wsX70, w ∈ wsX11_takeModule := fun _ h => List.mem_cons_of_mem _ (List.mem_append_left _ (List.mem_append_left _ (List.mem_append_left _ (List.mem_append_right _ h))))
theorem md_X11_takeModule_7 : (.fieldLink RX11 60 "ResourceLedger$State" "programs" "[LResourceLedger$Program;" : Cond) ∈ wsX11_takeModule := List.mem_of_getElem? (i := 7) rfl
theorem md_X11_takeModule_8 : (.fieldLink RX11 29 "ResourceLedger" "reader" "LResourceLedger$Reader;" : Cond) ∈ wsX11_takeModule := List.mem_of_getElem? (i := 8) rfl
theorem md_X11_takeModule_9 : (.fieldLink RX11 214 "ResourceLedger$Reader" "place" "I" : Cond) ∈ wsX11_takeModule := List.mem_of_getElem? (i := 9) rfl
theorem iwd_X11_takeModule_X6 : ∀ w ∈ wsX60, w ∈ wsX11_takeModule := fun _ h => List.mem_cons_of_mem _ (List.mem_append_left _ (List.mem_append_left _ (List.mem_append_right _ h)))
theorem md_X11_takeModule_10 : (.fieldLink RX11 217 "ResourceLedger$Transaction" "place" "I" : Cond) ∈ wsX11_takeModule := List.mem_of_getElem? (i := 10) rfl
theorem md_X11_takeModule_6 : (.constantLong RX11 212 (4) : Cond) ∈ wsX11_takeModule := List.mem_of_getElem? (i := 6) rfl
theorem md_X11_takeModule_11 : (.fieldLink RX11 36 "ResourceLedger" "looker" "LResourceLedger$Looker;" : Cond) ∈ wsX11_takeModule := List.mem_of_getElem? (i := 11) rfl
theorem md_X11_takeModule_12 : (.fieldLink RX11 225 "ResourceLedger$Looker" "place" "I" : Cond) ∈ wsX11_takeModule := List.mem_of_getElem? (i := 12) rfl
theorem iwd_X11_takeModule_X3 : ∀ w ∈ wsX30, w ∈ wsX11_takeModule := fun _ h => List.mem_cons_of_mem _ (List.mem_append_left _ (List.mem_append_right _ h))
theorem md_X11_takeModule_3 : (.constantLong RX11 207 (5) : Cond) ∈ wsX11_takeModule := List.mem_of_getElem? (i := 3) rfl
set_option maxHeartbeats 4000000 in
set_option maxRecDepth 100000 in
theorem de_X11_takeModule (l : Launch) (dC : Nat → ClassId) (dI : Nat → Nat → Nat) (cy : Nat → ClassId) (a : Nat → Nat) (sh : Nat → Nat × Nat) (n sz : Nat) (F : Nat) (sk : Nat → Nat) (z : St) (h0 : Nat) (x0 : Nat) {z8 : St} {r8 : Unit} (hf : fn_X11_takeModule F sh n z h0 x0 = some (z8, r8)) : Met l yX11_takeModule wsX11_takeModule ({ frames := 6, cells := 0, slots := 0, locals := 153 }) (va_Pc [.ref (a h0), .ref (a x0)] (fun U => U.heap.size = sz ∧ va_P (dC, dI) vwCl (Wd cy a sh n z) U.heap ∧ va_K (dC, dI) vwCl (TYS cy) U ∧ va_D (fun _ => True) (Wd cy a sh n z) ∧ NK U ∧ SKs sk (a CBK) (va_A (Wd cy a sh n z) sz) U U.heap)) (va_Qv (fun u : Unit => True) (fun u t => va_P (dC, dI) vwCl (Wd cy a sh n z8) t.heap ∧ va_K (dC, dI) vwCl (TYS cy) t ∧ va_D (va_A (Wd cy a sh n z) sz) (Wd cy a sh n z8)) (va_A (Wd cy a sh n z) sz)) 0 0 (va_A (Wd cy a sh n z) sz) := by
  refine Met.ofW (cc := cX11_takeModule) (maxL := 5) (ret := none) (by decide) rfl ?_
  intro p e s m args below meth c s₁ B hml hv
  obtain ⟨rfl, hsz, hP, hK, hD0, hN, hSK⟩ := hv
  have hx := B.exec
  have hb := B.bytes
  have hr := B.returns
  have hts := atoms_spec (ws := wsX11_takeModule) B.pre
  have hown : s.vm.findClass RX11 = some m.cls := findClass_of_methodNamed B.named
  have hlocks := B.notSynchronized
  subst hsz
  have hD := hD0.self (sz := s.heap.size)
  clear hD0
  generalize hAe : va_A (Wd cy a sh n z) s.heap.size = A at hD hSK ⊢
  have hA : ∀ q : Nat, s.heap.size ≤ q → A q := fun q h => by rw [← hAe]; exact Or.inr h
  clear hAe
  have hS : va_S A s.heap s.heap [] := va_S.rf
  have hl := lv_entry ([.ref (a h0), .ref (a x0)]) (n := 5) (Nat.le_of_ble_eq_true rfl)
  rw [lg_entry_eq]
  generalize (lg_sl ([.ref (a h0), .ref (a x0)]) ++ List.replicate (5 - (lg_sl ([.ref (a h0), .ref (a x0)])).length) Slot.unset).toArray = ls at hl ⊢
  replace hl : lv_has ls 5 [(0, .ref (a h0)), (1, .ref (a x0))] := hl
  unfold fn_X11_takeModule at hf
  refine de_start hS hP (fun H locs hS hP => ?_)
  refine lv_bipush (v := 10) hx hb dX11_takeModule_0 (by decide) ?_
  refine lv_aload_n hx hb dX11_takeModule_2 rfl (lv_at hl 1 rfl) ?_
  obtain ⟨g_1, hf⟩ := grd_some hf
  obtain ⟨kg_1, sg_1⟩ := okO_at g_1
  obtain ⟨k_2, ek_2, hf⟩ := lnk_some hf
  refine va_get (D := (dC, dI)) (ci := 8) (v := .ref (a k_2)) (C := RX8) (T := TX8) (N := 19) hx hb hts iwd_X11_takeModule_X8 hown hK hP x0 (Wd_ob kg_1 sg_1 (by decide)) rfl 6 (by decide) (hts _ md_X11_takeModule_1) (fun _ h9 => h9) (fl_q rfl ek_2) dX11_takeModule_3 ?_
  obtain ⟨g_3, hf⟩ := grd_some hf
  obtain ⟨kg_3, sg_3⟩ := okO_at g_3
  refine va_alen (v := Int32.ofNat (sh k_2).2) hx hb hK hP k_2 0 (Wd_ab kg_3 sg_3) rfl rfl dX11_takeModule_6 ?_
  refine lv_bipush (v := 15) hx hb dX11_takeModule_7 (by decide) ?_
  refine lv_iadd hx hb dX11_takeModule_9 ?_
  refine lv_bipush (v := 16) hx hb dX11_takeModule_10 (by decide) ?_
  refine lv_idiv hx hb dX11_takeModule_12 (by decide) ?_
  refine lv_iadd hx hb dX11_takeModule_13 ?_
  refine lv_topi (fun v_4 ev_4 => ?_)
  replace hf := lt_at ev_4 hf
  clear ev_4
  refine lv_istore_n (lv' := [(2, .int v_4), (0, .ref (a h0)), (1, .ref (a x0))]) hx hb dX11_takeModule_14 rfl hl (by decide) rfl (fun ls hl2 => ?_)
  replace hl := hl2
  clear hl2
  refine lv_iload_n hx hb dX11_takeModule_15 rfl (lv_at hl 0 rfl) ?_
  refine lv_aload_n hx hb dX11_takeModule_16 rfl (lv_at hl 2 rfl) ?_
  refine va_get (D := (dC, dI)) (ci := 8) (v := .int (z.1 x0 3)) (C := RX8) (T := TX8) (N := 19) hx hb hts iwd_X11_takeModule_X8 hown hK hP x0 (Wd_ob kg_1 sg_1 (by decide)) rfl 3 (by decide) (hts _ md_X11_takeModule_2) (fun _ h9 => h9) (fl_at (t := 0) rfl) dX11_takeModule_17 ?_
  refine lv_icmp_le (tgt := 36) hx hb dX11_takeModule_20 (by decide) (fun c_5 => ?_) (fun c_5 => ?_)
  · skip
    rw [if_pos c_5] at hf
    refine lv_aload_n hx hb dX11_takeModule_36 rfl (lv_at hl 1 rfl) ?_
    obtain ⟨g_6, hf⟩ := grd_some hf
    obtain ⟨kg_6, sg_6⟩ := okO_at g_6
    obtain ⟨k_7, ek_7, hf⟩ := lnk_some hf
    refine va_get (D := (dC, dI)) (ci := 11) (v := .ref (a k_7)) (C := RX11) (T := TX11) (N := 13) hx hb hts iwd_X11_takeModule_X11 hown hK hP h0 (Wd_ob kg_6 sg_6 (by decide)) rfl 6 (by decide) (hts _ md_X11_takeModule_4) (fun _ h9 => h9) (fl_q rfl ek_7) dX11_takeModule_37 ?_
    obtain ⟨g_8, hf⟩ := grd_some hf
    obtain ⟨kg_8, sg_8⟩ := okO_at g_8
    refine va_get (D := (dC, dI)) (ci := 7) (v := .int (z.1 k_7 5)) (C := RX7) (T := TX7) (N := 16) hx hb hts iwd_X11_takeModule_X7 hown hK hP k_7 (Wd_ob kg_8 sg_8 (by decide)) rfl 5 (by decide) (hts _ md_X11_takeModule_5) (fun _ h9 => h9) (fl_at (t := 0) rfl) dX11_takeModule_40 ?_
    refine lv_bipush (v := 8) hx hb dX11_takeModule_43 (by decide) ?_
    refine lv_icmp_lt (tgt := 58) hx hb dX11_takeModule_45 (by decide) (fun c_9 => ?_) (fun c_9 => ?_)
    · skip
      rw [if_pos c_9] at hf
      refine lv_aload_n hx hb dX11_takeModule_58 rfl (lv_at hl 1 rfl) ?_
      obtain ⟨k_10, ek_10, hf⟩ := lnk_some hf
      refine va_get (D := (dC, dI)) (ci := 11) (v := .ref (a k_10)) (C := RX11) (T := TX11) (N := 13) hx hb hts iwd_X11_takeModule_X11 hown hK hP h0 (Wd_ob kg_6 sg_6 (by decide)) rfl 6 (by decide) (hts _ md_X11_takeModule_4) (fun _ h9 => h9) (fl_q rfl ek_10) dX11_takeModule_59 ?_
      obtain ⟨g_11, hf⟩ := grd_some hf
      obtain ⟨kg_11, sg_11⟩ := okO_at g_11
      obtain ⟨k_12, ek_12, hf⟩ := lnk_some hf
      refine va_get (D := (dC, dI)) (ci := 7) (v := .ref (a k_12)) (C := RX7) (T := TX7) (N := 16) hx hb hts iwd_X11_takeModule_X7 hown hK hP k_10 (Wd_ob kg_11 sg_11 (by decide)) rfl 4 (by decide) (hts _ md_X11_takeModule_7) (fun _ h9 => h9) (fl_q rfl ek_12) dX11_takeModule_62 ?_
      refine lv_aload_n hx hb dX11_takeModule_65 rfl (lv_at hl 1 rfl) ?_
      obtain ⟨k_13, ek_13, hf⟩ := lnk_some hf
      refine va_get (D := (dC, dI)) (ci := 11) (v := .ref (a k_13)) (C := RX11) (T := TX11) (N := 13) hx hb hts iwd_X11_takeModule_X11 hown hK hP h0 (Wd_ob kg_6 sg_6 (by decide)) rfl 6 (by decide) (hts _ md_X11_takeModule_4) (fun _ h9 => h9) (fl_q rfl ek_13) dX11_takeModule_66 ?_
      obtain ⟨g_14, hf⟩ := grd_some hf
      obtain ⟨kg_14, sg_14⟩ := okO_at g_14
      refine va_get (D := (dC, dI)) (ci := 7) (v := .int (z.1 k_13 5)) (C := RX7) (T := TX7) (N := 16) hx hb hts iwd_X11_takeModule_X7 hown hK hP k_13 (Wd_ob kg_14 sg_14 (by decide)) rfl 5 (by decide) (hts _ md_X11_takeModule_5) (fun _ h9 => h9) (fl_at (t := 0) rfl) dX11_takeModule_69 ?_
      refine lv_iconst (v := 1) hx hb dX11_takeModule_72 (by decide) ?_
      refine lv_iadd hx hb dX11_takeModule_73 ?_
      obtain ⟨g_15, hf⟩ := grd_some hf
      obtain ⟨kg_15, sg_15, ig_15⟩ := okA_at g_15
      obtain ⟨k_16, ek_16, hf⟩ := lnk_some hf
      refine va_aldq (C := RX5) hx hb hK hP k_12 4 (Wd_aq kg_15 sg_15 (by decide)) rfl ig_15 dX11_takeModule_74 ?_
      refine W.eq (g2 := F0 m 75 ls [.ref (a k_16)]) (by rw [ek_16]; rfl) ?_
      refine lv_astore_n (lv' := [(3, .ref (a k_16)), (2, .int v_4), (0, .ref (a h0)), (1, .ref (a x0))]) hx hb dX11_takeModule_75 rfl hl (by decide) rfl (fun ls hl2 => ?_)
      replace hl := hl2
      clear hl2
      refine lv_aload_n hx hb dX11_takeModule_76 rfl (lv_at hl 0 rfl) ?_
      refine lv_aload_n hx hb dX11_takeModule_77 rfl (lv_at hl 3 rfl) ?_
      obtain ⟨k_17, ek_17, hf⟩ := lnk_some hf
      refine va_get (D := (dC, dI)) (ci := 8) (v := .ref (a k_17)) (C := RX8) (T := TX8) (N := 19) hx hb hts iwd_X11_takeModule_X8 hown hK hP x0 (Wd_ob kg_1 sg_1 (by decide)) rfl 6 (by decide) (hts _ md_X11_takeModule_1) (fun _ h9 => h9) (fl_q rfl ek_17) dX11_takeModule_78 ?_
      obtain ⟨g_19, hf⟩ := grd_some hf
      obtain ⟨kg_19, sg_19⟩ := okO_at g_19
      obtain ⟨z_18, _u, hfc, hf⟩ := cal_some hf
      have hFc := de_free hD hS hA
      refine va_callv (va_runV (As := [.ref (a k_17)]) (rest := []) ⟨hx, hb, hml, hown, hts⟩ (de_X5_lay l dC dI cy a sh n H.size F sk z k_16 k_17 hfc) (cwV 1 hts gX11_takeModule_X5_lay rfl rfl rfl (by decide +kernel) ⟨Nat.le_of_ble_eq_true rfl, Nat.le_of_ble_eq_true rfl⟩) ⟨fun a U g mk q => by obtain ⟨q0, q1, qP, qK, qD, qN, qS⟩ := q; exact ⟨q0, q1, qP, va_K.moved (u := U) (U := U.calling g mk a) (Vm.Alike.refl U.vm) qK, qD, qN.same rfl, SKs.moved (u := U) (U := U.calling g mk a) (Vm.Alike.refl U.vm) qS⟩, va_recv hK hP (ci := 5) (q0 := k_16) rfl (Wd_ob kg_19 sg_19 (by decide)), fun U hU hW => ⟨rfl, by rw [hU], by rw [hU]; exact hP, va_K.moved hW.alike hK, hD.weaken (fun _ _ _ _ => trivial), hN.warm hW, by rw [hU]; exact ((hSK.kept hS.2.1).narrow hFc).moved hW.alike⟩⟩ rfl rfl hl.1 rfl (lv_room (Nat.le_of_ble_eq_true rfl)) dX11_takeModule_81 ⟨Nat.le_of_ble_eq_true rfl, Nat.le_of_ble_eq_true rfl⟩) hS (fun q _ h => hFc q h) hFc (fun u t H_20 locs ht hvm hw hB hz1 hk1 hS2 => ?_)
      obtain ⟨hP1, -, hD1⟩ := hB
      rw [ht] at hP1
      replace hD := hD1.weaken (fun _ _ _ h => hFc _ h)
      replace hP := hP1
      replace hS := hS2
      clear hP1 hD1 hS2 hFc hfc hz1 hk1 hvm ht
      refine lv_aload_n hx hb dX11_takeModule_84 rfl (lv_at hl 2 rfl) ?_
      obtain ⟨k_21, ek_21, hf⟩ := lnk_some hf
      refine va_get (D := (dC, dI)) (ci := 11) (v := .ref (a k_21)) (C := RX11) (T := TX11) (N := 13) hx hb hts iwd_X11_takeModule_X11 hown hK hP h0 (Wd_ob kg_6 sg_6 (by decide)) rfl 7 (by decide) (hts _ md_X11_takeModule_8) (fun _ h9 => h9) (fl_q rfl ek_21) dX11_takeModule_85 ?_
      refine lv_aload_n hx hb dX11_takeModule_88 rfl (lv_at hl 0 rfl) ?_
      obtain ⟨g_24, hf⟩ := grd_some hf
      obtain ⟨kg_24, sg_24⟩ := okO_at g_24
      obtain ⟨z_22, r_23, hfc, hf⟩ := cal_some hf
      have hFc := de_free hD hS hA
      refine va_calli (va_runV (As := [.ref (a k_16)]) (rest := []) ⟨hx, hb, hml, hown, hts⟩ (de_X6_read l dC dI cy a sh n H_20.size F sk z_18 k_21 k_16 hfc) (cwV 1 hts gX11_takeModule_X6_read rfl rfl rfl (by decide +kernel) ⟨Nat.le_of_ble_eq_true rfl, Nat.le_of_ble_eq_true rfl⟩) ⟨fun a U g mk q => by obtain ⟨q0, q1, qP, qK, qD, qN, qS⟩ := q; exact ⟨q0, q1, qP, va_K.moved (u := U) (U := U.calling g mk a) (Vm.Alike.refl U.vm) qK, qD, qN.same rfl, SKs.moved (u := U) (U := U.calling g mk a) (Vm.Alike.refl U.vm) qS⟩, va_recv hK hP (ci := 6) (q0 := k_21) rfl (Wd_ob kg_24 sg_24 (by decide)), fun U hU hW => ⟨rfl, by rw [hU], by rw [hU]; exact hP, va_K.moved hW.alike hK, hD.weaken (fun _ _ _ _ => trivial), hN.warm hW, by rw [hU]; exact ((hSK.kept hS.2.1).narrow hFc).moved hW.alike⟩⟩ rfl rfl hl.1 rfl (lv_room (Nat.le_of_ble_eq_true rfl)) dX11_takeModule_89 ⟨Nat.le_of_ble_eq_true rfl, Nat.le_of_ble_eq_true rfl⟩) hS (fun q _ h => hFc q h) hFc (fun rr u t H_25 locs ht hvm hw hB hz1 hk1 hS2 => ?_)
      rw [hw]
      clear hw
      obtain ⟨hP1, -, hD1⟩ := hB
      rw [ht] at hP1
      replace hD := hD1.weaken (fun _ _ _ h => hFc _ h)
      replace hP := hP1
      replace hS := hS2
      clear hP1 hD1 hS2 hFc hfc hz1 hk1 hvm ht
      refine lv_istore (lv' := [(4, .int r_23), (3, .ref (a k_16)), (2, .int v_4), (0, .ref (a h0)), (1, .ref (a x0))]) hx hb dX11_takeModule_92 hl (by decide) rfl (fun ls hl2 => ?_)
      replace hl := hl2
      clear hl2
      refine lv_aload_n hx hb dX11_takeModule_94 rfl (lv_at hl 4 rfl) ?_
      refine lv_aload_n hx hb dX11_takeModule_95 rfl (lv_at hl 3 rfl) ?_
      obtain ⟨k_26, ek_26, hf⟩ := lnk_some hf
      refine va_get (D := (dC, dI)) (ci := 11) (v := .ref (a k_26)) (C := RX11) (T := TX11) (N := 13) hx hb hts iwd_X11_takeModule_X11 hown hK hP h0 (Wd_ob kg_6 sg_6 (by decide)) rfl 7 (by decide) (hts _ md_X11_takeModule_8) (fun _ h9 => h9) (fl_q rfl ek_26) dX11_takeModule_96 ?_
      obtain ⟨g_27, hf⟩ := grd_some hf
      obtain ⟨kg_27, sg_27⟩ := okO_at g_27
      refine va_get (D := (dC, dI)) (ci := 6) (v := .int (z_22.1 k_26 0)) (C := RX6) (T := TX6) (N := 9) hx hb hts iwd_X11_takeModule_X6 hown hK hP k_26 (Wd_ob kg_27 sg_27 (by decide)) rfl 0 (by decide) (hts _ md_X11_takeModule_9) (fun _ h9 => h9) (fl_at (t := 0) rfl) dX11_takeModule_99 ?_
      refine va_put (D := (dC, dI)) (ci := 8) (v := .int (z_22.1 k_26 0)) (ty := .int) (C := RX8) (T := TX8) (N := 19) hx hb hts iwd_X11_takeModule_X8 tyX8 tyX8_ok nmX8 hown hK hP hD hS x0 (Wd_ob kg_1 sg_1 (by decide)) rfl 14 (by decide) (hts _ md_X11_takeModule_10) (fun _ h9 => h9) rfl (by decide +kernel) rfl rfl (by rw [fl_len]; decide) dX11_takeModule_102 (fun H_28 locs hP2 hD2 hS2 => ?_)
      rw [Wd_si sg_1 (by decide) rfl] at hP2 hD2
      obtain ⟨z_29, ez_29⟩ : ∃ w, w = si z_22 x0 14 (z_22.1 k_26 0) := ⟨_, rfl⟩
      rw [← ez_29] at hP2 hD2
      replace hf := lt_at ez_29 hf
      clear ez_29
      replace hP := hP2
      replace hD := hD2
      replace hS := hS2
      clear hP2 hD2 hS2
      refine lv_iload hx hb dX11_takeModule_105 (lv_at hl 0 rfl) ?_
      refine de_cut (h := 118) (fun (x : St × Int32) => []) (fun x ls H locs => lv_has ls 5 [(4, .int x.2), (3, .ref (a k_16)), (2, .int v_4), (0, .ref (a h0)), (1, .ref (a x0))] ∧ va_P (dC, dI) vwCl (Wd cy a sh n x.1) H ∧ va_D A (Wd cy a sh n x.1) ∧ va_S A s.heap H locs) (fun x => fn_X11_takeModule_B118 F sh n h0 k_16 x0 v_4 x.1 x.2) (z8, r8) ?_ (fun B118 => ?_)
      · intro x ls H locs hI hf
        obtain ⟨z_31, p_30⟩ := x
        obtain ⟨hl2, hP2, hD2, hS2⟩ := hI
        replace hl : lv_has ls 5 [(4, .int p_30), (3, .ref (a k_16)), (2, .int v_4), (0, .ref (a h0)), (1, .ref (a x0))] := hl2
        replace hP := hP2
        replace hD := hD2
        replace hS := hS2
        clear hl2 hP2 hD2 hS2
        replace hf := fn_X11_takeModule_B118_s hf
        refine W.eq (g2 := F0 m 118 ls []) rfl ?_
        refine lv_iload hx hb dX11_takeModule_118 (lv_at hl 0 rfl) ?_
        refine de_cut (h := 144) (fun (x : St × Int32) => []) (fun x ls H locs => lv_has ls 5 [(4, .int x.2), (2, .int v_4), (0, .ref (a h0)), (1, .ref (a x0))] ∧ va_P (dC, dI) vwCl (Wd cy a sh n x.1) H ∧ va_D A (Wd cy a sh n x.1) ∧ va_S A s.heap H locs) (fun x => fn_X11_takeModule_B144 F sh n h0 x0 v_4 x.1 x.2) (z8, r8) ?_ (fun B144 => ?_)
        · intro x ls H locs hI hf
          obtain ⟨z_33, p_32⟩ := x
          obtain ⟨hl2, hP2, hD2, hS2⟩ := hI
          replace hl : lv_has ls 5 [(4, .int p_32), (2, .int v_4), (0, .ref (a h0)), (1, .ref (a x0))] := hl2
          replace hP := hP2
          replace hD := hD2
          replace hS := hS2
          clear hl2 hP2 hD2 hS2
          replace hf := fn_X11_takeModule_B144_s hf
          refine W.eq (g2 := F0 m 144 ls []) rfl ?_
          refine lv_iload hx hb dX11_takeModule_144 (lv_at hl 0 rfl) ?_
          refine lv_if_eq (tgt := 161) hx hb dX11_takeModule_146 (by decide) (fun c_34 => ?_) (fun c_34 => ?_)
          · skip
            rw [if_pos c_34] at hf
            refine lv_aload_n hx hb dX11_takeModule_161 rfl (lv_at hl 2 rfl) ?_
            obtain ⟨k_35, ek_35, hf⟩ := lnk_some hf
            refine va_get (D := (dC, dI)) (ci := 11) (v := .ref (a k_35)) (C := RX11) (T := TX11) (N := 13) hx hb hts iwd_X11_takeModule_X11 hown hK hP h0 (Wd_ob kg_6 sg_6 (by decide)) rfl 6 (by decide) (hts _ md_X11_takeModule_4) (fun _ h9 => h9) (fl_q rfl ek_35) dX11_takeModule_162 ?_
            obtain ⟨g_38, hf⟩ := grd_some hf
            obtain ⟨kg_38, sg_38⟩ := okO_at g_38
            obtain ⟨z_36, r_37, hfc, hf⟩ := cal_some hf
            have hFc := de_free hD hS hA
            refine va_calli (va_runV (As := []) (rest := []) ⟨hx, hb, hml, hown, hts⟩ (de_X7_placeCount l dC dI cy a sh n H.size F z_33 k_35 hfc) (cwV 0 hts gX11_takeModule_X7_placeCount rfl rfl rfl (by decide +kernel) ⟨Nat.le_of_ble_eq_true rfl, Nat.le_of_ble_eq_true rfl⟩) ⟨fun a U g mk q => by obtain ⟨q0, q1, qP, qK, qD, qN⟩ := q; exact ⟨q0, q1, qP, va_K.moved (u := U) (U := U.calling g mk a) (Vm.Alike.refl U.vm) qK, qD, qN.same rfl⟩, va_recv hK hP (ci := 7) (q0 := k_35) rfl (Wd_ob kg_38 sg_38 (by decide)), fun U hU hW => ⟨rfl, by rw [hU], by rw [hU]; exact hP, va_K.moved hW.alike hK, hD.weaken (fun _ _ _ _ => trivial), hN.warm hW⟩⟩ rfl rfl hl.1 rfl (lv_room (Nat.le_of_ble_eq_true rfl)) dX11_takeModule_165 ⟨Nat.le_of_ble_eq_true rfl, Nat.le_of_ble_eq_true rfl⟩) hS (fun q _ h => hFc q h) hFc (fun rr u t H_39 locs ht hvm hw hB hz1 hk1 hS2 => ?_)
            rw [hw]
            clear hw
            obtain ⟨hP1, -, hD1⟩ := hB
            rw [ht] at hP1
            replace hD := hD1.weaken (fun _ _ _ h => hFc _ h)
            replace hP := hP1
            replace hS := hS2
            clear hP1 hD1 hS2 hFc hfc hz1 hk1 hvm ht
            refine lv_sipush (v := 256) hx hb dX11_takeModule_168 (by decide) ?_
            refine lv_icmp_lt (tgt := 186) hx hb dX11_takeModule_171 (by decide) (fun c_40 => ?_) (fun c_40 => ?_)
            · skip
              rw [if_pos c_40] at hf
              refine lv_aload_n hx hb dX11_takeModule_186 rfl (lv_at hl 2 rfl) ?_
              obtain ⟨k_41, ek_41, hf⟩ := lnk_some hf
              refine va_get (D := (dC, dI)) (ci := 11) (v := .ref (a k_41)) (C := RX11) (T := TX11) (N := 13) hx hb hts iwd_X11_takeModule_X11 hown hK hP h0 (Wd_ob kg_6 sg_6 (by decide)) rfl 6 (by decide) (hts _ md_X11_takeModule_4) (fun _ h9 => h9) (fl_q rfl ek_41) dX11_takeModule_187 ?_
              refine lv_dup hx hb dX11_takeModule_190 rfl ?_
              obtain ⟨g_42, hf⟩ := grd_some hf
              obtain ⟨kg_42, sg_42⟩ := okO_at g_42
              refine va_get (D := (dC, dI)) (ci := 7) (v := .int (z_36.1 k_41 5)) (C := RX7) (T := TX7) (N := 16) hx hb hts iwd_X11_takeModule_X7 hown hK hP k_41 (Wd_ob kg_42 sg_42 (by decide)) rfl 5 (by decide) (hts _ md_X11_takeModule_5) (fun _ h9 => h9) (fl_at (t := 0) rfl) dX11_takeModule_191 ?_
              refine lv_iconst (v := 1) hx hb dX11_takeModule_194 (by decide) ?_
              refine lv_iadd hx hb dX11_takeModule_195 ?_
              refine va_put (D := (dC, dI)) (ci := 7) (v := .int ((z_36.1 k_41 5) + 1)) (ty := .int) (C := RX7) (T := TX7) (N := 16) hx hb hts iwd_X11_takeModule_X7 tyX7 tyX7_ok nmX7 hown hK hP hD hS k_41 (Wd_ob kg_42 sg_42 (by decide)) rfl 5 (by decide) (hts _ md_X11_takeModule_5) (fun _ h9 => h9) rfl (by decide +kernel) rfl rfl (by rw [fl_len]; decide) dX11_takeModule_196 (fun H_43 locs hP2 hD2 hS2 => ?_)
              rw [Wd_si sg_42 (by decide) rfl] at hP2 hD2
              obtain ⟨z_44, ez_44⟩ : ∃ w, w = si z_36 k_41 5 ((z_36.1 k_41 5) + 1) := ⟨_, rfl⟩
              rw [← ez_44] at hP2 hD2
              replace hf := lt_at ez_44 hf
              clear ez_44
              replace hP := hP2
              replace hD := hD2
              replace hS := hS2
              clear hP2 hD2 hS2
              refine lv_aload_n hx hb dX11_takeModule_199 rfl (lv_at hl 3 rfl) ?_
              refine lv_iconst (v := 0) hx hb dX11_takeModule_200 (by decide) ?_
              refine lv_lconst (v := 0) hx hb dX11_takeModule_201 (by decide) ?_
              refine lv_iload_n hx hb dX11_takeModule_202 rfl (lv_at hl 1 rfl) ?_
              obtain ⟨z_45, _u, hfc, hf⟩ := cal_some hf
              have hFc := de_free hD hS hA
              refine va_callv (va_runV (As := [.int 0, .long 0, .int v_4]) (rest := []) ⟨hx, hb, hml, hown, hts⟩ (de_X8_end l dC dI cy a sh n H_43.size F z_44 x0 0 0 v_4 hfc) (cwV 3 hts gX11_takeModule_X8_end rfl rfl rfl (by decide +kernel) ⟨Nat.le_of_ble_eq_true rfl, Nat.le_of_ble_eq_true rfl⟩) ⟨fun a U g mk q => by obtain ⟨q0, q1, qP, qK, qD, qN⟩ := q; exact ⟨q0, q1, qP, va_K.moved (u := U) (U := U.calling g mk a) (Vm.Alike.refl U.vm) qK, qD, qN.same rfl⟩, va_recv hK hP (ci := 8) (q0 := x0) rfl (Wd_ob kg_1 sg_1 (by decide)), fun U hU hW => ⟨rfl, by rw [hU], by rw [hU]; exact hP, va_K.moved hW.alike hK, hD.weaken (fun _ _ _ _ => trivial), hN.warm hW⟩⟩ rfl rfl hl.1 rfl (lv_room (Nat.le_of_ble_eq_true rfl)) dX11_takeModule_203 ⟨Nat.le_of_ble_eq_true rfl, Nat.le_of_ble_eq_true rfl⟩) hS (fun q _ h => hFc q h) hFc (fun u t H_46 locs ht hvm hw hB hz1 hk1 hS2 => ?_)
              obtain ⟨hP1, -, hD1⟩ := hB
              rw [ht] at hP1
              replace hD := hD1.weaken (fun _ _ _ h => hFc _ h)
              replace hP := hP1
              replace hS := hS2
              clear hP1 hD1 hS2 hFc hfc hz1 hk1 hvm ht
              obtain ⟨h8, h9⟩ := ret_some hf
              rw [h8]
              exact W.vret hx hb hr (fun t ht hW => ⟨⟨(), rfl, trivial, by rw [ht]; exact hP, va_K.moved hW.alike hK, hD⟩, hS.F ht⟩) hS.2.2 dX11_takeModule_206
            · skip
              rw [if_neg c_40] at hf
              refine lv_aload_n hx hb dX11_takeModule_174 rfl (lv_at hl 3 rfl) ?_
              refine lv_iconst (v := 2) hx hb dX11_takeModule_175 (by decide) ?_
              refine lv_ldc2 hx hb hown (hts _ md_X11_takeModule_6) dX11_takeModule_176 ?_
              refine lv_iload_n hx hb dX11_takeModule_179 rfl (lv_at hl 1 rfl) ?_
              obtain ⟨z_47, _u, hfc, hf⟩ := cal_some hf
              have hFc := de_free hD hS hA
              refine va_callv (va_runV (As := [.int 2, .long 4, .int v_4]) (rest := []) ⟨hx, hb, hml, hown, hts⟩ (de_X8_end l dC dI cy a sh n H_39.size F z_36 x0 2 4 v_4 hfc) (cwV 3 hts gX11_takeModule_X8_end rfl rfl rfl (by decide +kernel) ⟨Nat.le_of_ble_eq_true rfl, Nat.le_of_ble_eq_true rfl⟩) ⟨fun a U g mk q => by obtain ⟨q0, q1, qP, qK, qD, qN⟩ := q; exact ⟨q0, q1, qP, va_K.moved (u := U) (U := U.calling g mk a) (Vm.Alike.refl U.vm) qK, qD, qN.same rfl⟩, va_recv hK hP (ci := 8) (q0 := x0) rfl (Wd_ob kg_1 sg_1 (by decide)), fun U hU hW => ⟨rfl, by rw [hU], by rw [hU]; exact hP, va_K.moved hW.alike hK, hD.weaken (fun _ _ _ _ => trivial), hN.warm hW⟩⟩ rfl rfl hl.1 rfl (lv_room (Nat.le_of_ble_eq_true rfl)) dX11_takeModule_180 ⟨Nat.le_of_ble_eq_true rfl, Nat.le_of_ble_eq_true rfl⟩) hS (fun q _ h => hFc q h) hFc (fun u t H_48 locs ht hvm hw hB hz1 hk1 hS2 => ?_)
              obtain ⟨hP1, -, hD1⟩ := hB
              rw [ht] at hP1
              replace hD := hD1.weaken (fun _ _ _ h => hFc _ h)
              replace hP := hP1
              replace hS := hS2
              clear hP1 hD1 hS2 hFc hfc hz1 hk1 hvm ht
              refine lv_goto (tgt := 206) hx hb dX11_takeModule_183 (by decide) ?_
              obtain ⟨h8, h9⟩ := ret_some hf
              rw [h8]
              exact W.vret hx hb hr (fun t ht hW => ⟨⟨(), rfl, trivial, by rw [ht]; exact hP, va_K.moved hW.alike hK, hD⟩, hS.F ht⟩) hS.2.2 dX11_takeModule_206
          · skip
            rw [if_neg c_34] at hf
            refine lv_aload_n hx hb dX11_takeModule_149 rfl (lv_at hl 3 rfl) ?_
            refine lv_iconst (v := 4) hx hb dX11_takeModule_150 (by decide) ?_
            refine lv_iload hx hb dX11_takeModule_151 (lv_at hl 0 rfl) ?_
            refine lv_i2l (v := (p_32 : Int32).toInt64) hx hb dX11_takeModule_153 rfl ?_
            refine lv_iload_n hx hb dX11_takeModule_154 rfl (lv_at hl 1 rfl) ?_
            obtain ⟨z_49, _u, hfc, hf⟩ := cal_some hf
            have hFc := de_free hD hS hA
            refine va_callv (va_runV (As := [.int 4, .long ((p_32 : Int32).toInt64), .int v_4]) (rest := []) ⟨hx, hb, hml, hown, hts⟩ (de_X8_end l dC dI cy a sh n H.size F z_33 x0 4 ((p_32 : Int32).toInt64) v_4 hfc) (cwV 3 hts gX11_takeModule_X8_end rfl rfl rfl (by decide +kernel) ⟨Nat.le_of_ble_eq_true rfl, Nat.le_of_ble_eq_true rfl⟩) ⟨fun a U g mk q => by obtain ⟨q0, q1, qP, qK, qD, qN⟩ := q; exact ⟨q0, q1, qP, va_K.moved (u := U) (U := U.calling g mk a) (Vm.Alike.refl U.vm) qK, qD, qN.same rfl⟩, va_recv hK hP (ci := 8) (q0 := x0) rfl (Wd_ob kg_1 sg_1 (by decide)), fun U hU hW => ⟨rfl, by rw [hU], by rw [hU]; exact hP, va_K.moved hW.alike hK, hD.weaken (fun _ _ _ _ => trivial), hN.warm hW⟩⟩ rfl rfl hl.1 rfl (lv_room (Nat.le_of_ble_eq_true rfl)) dX11_takeModule_155 ⟨Nat.le_of_ble_eq_true rfl, Nat.le_of_ble_eq_true rfl⟩) hS (fun q _ h => hFc q h) hFc (fun u t H_50 locs ht hvm hw hB hz1 hk1 hS2 => ?_)
            obtain ⟨hP1, -, hD1⟩ := hB
            rw [ht] at hP1
            replace hD := hD1.weaken (fun _ _ _ h => hFc _ h)
            replace hP := hP1
            replace hS := hS2
            clear hP1 hD1 hS2 hFc hfc hz1 hk1 hvm ht
            refine lv_goto (tgt := 206) hx hb dX11_takeModule_158 (by decide) ?_
            obtain ⟨h8, h9⟩ := ret_some hf
            rw [h8]
            exact W.vret hx hb hr (fun t ht hW => ⟨⟨(), rfl, trivial, by rw [ht]; exact hP, va_K.moved hW.alike hK, hD⟩, hS.F ht⟩) hS.2.2 dX11_takeModule_206
        refine lv_if_ne (tgt := 144) hx hb dX11_takeModule_120 (by decide) (fun c_51 => ?_) (fun c_51 => ?_)
        · skip
          rw [if_neg c_51] at hf
          exact B144 (z_31, p_30) ls H locs ⟨lv_sub hl [0, 2, 3, 4] rfl, hP, hD, hS⟩ hf
        · skip
          rw [if_pos c_51] at hf
          refine lv_aload_n hx hb dX11_takeModule_123 rfl (lv_at hl 3 rfl) ?_
          obtain ⟨k_52, ek_52, hf⟩ := lnk_some hf
          refine va_get (D := (dC, dI)) (ci := 11) (v := .ref (a k_52)) (C := RX11) (T := TX11) (N := 13) hx hb hts iwd_X11_takeModule_X11 hown hK hP h0 (Wd_ob kg_6 sg_6 (by decide)) rfl 8 (by decide) (hts _ md_X11_takeModule_11) (fun _ h9 => h9) (fl_q rfl ek_52) dX11_takeModule_124 ?_
          refine lv_aload_n hx hb dX11_takeModule_127 rfl (lv_at hl 1 rfl) ?_
          obtain ⟨g_55, hf⟩ := grd_some hf
          obtain ⟨kg_55, sg_55⟩ := okO_at g_55
          obtain ⟨z_53, r_54, hfc, hf⟩ := cal_some hf
          have hFc := de_free hD hS hA
          refine va_calli (va_runV (As := [.ref (a k_16)]) (rest := []) ⟨hx, hb, hml, hown, hts⟩ (de_X3_look l dC dI cy a sh n H.size F sk z_31 k_52 k_16 hfc) (cwV 1 hts gX11_takeModule_X3_look rfl rfl rfl (by decide +kernel) ⟨Nat.le_of_ble_eq_true rfl, Nat.le_of_ble_eq_true rfl⟩) ⟨fun a U g mk q => by obtain ⟨q0, q1, qP, qK, qD, qN, qS⟩ := q; exact ⟨q0, q1, qP, va_K.moved (u := U) (U := U.calling g mk a) (Vm.Alike.refl U.vm) qK, qD, qN.same rfl, SKs.moved (u := U) (U := U.calling g mk a) (Vm.Alike.refl U.vm) qS⟩, va_recv hK hP (ci := 3) (q0 := k_52) rfl (Wd_ob kg_55 sg_55 (by decide)), fun U hU hW => ⟨rfl, by rw [hU], by rw [hU]; exact hP, va_K.moved hW.alike hK, hD.weaken (fun _ _ _ _ => trivial), hN.warm hW, by rw [hU]; exact ((hSK.kept hS.2.1).narrow hFc).moved hW.alike⟩⟩ rfl rfl hl.1 rfl (lv_room (Nat.le_of_ble_eq_true rfl)) dX11_takeModule_128 ⟨Nat.le_of_ble_eq_true rfl, Nat.le_of_ble_eq_true rfl⟩) hS (fun q _ h => hFc q h) hFc (fun rr u t H_56 locs ht hvm hw hB hz1 hk1 hS2 => ?_)
          rw [hw]
          clear hw
          obtain ⟨hP1, -, hD1⟩ := hB
          rw [ht] at hP1
          replace hD := hD1.weaken (fun _ _ _ h => hFc _ h)
          replace hP := hP1
          replace hS := hS2
          clear hP1 hD1 hS2 hFc hfc hz1 hk1 hvm ht
          refine lv_istore (lv' := [(4, .int r_54), (3, .ref (a k_16)), (2, .int v_4), (0, .ref (a h0)), (1, .ref (a x0))]) hx hb dX11_takeModule_131 hl (by decide) rfl (fun ls hl2 => ?_)
          replace hl := hl2
          clear hl2
          refine lv_aload_n hx hb dX11_takeModule_133 rfl (lv_at hl 4 rfl) ?_
          refine lv_aload_n hx hb dX11_takeModule_134 rfl (lv_at hl 3 rfl) ?_
          obtain ⟨k_57, ek_57, hf⟩ := lnk_some hf
          refine va_get (D := (dC, dI)) (ci := 11) (v := .ref (a k_57)) (C := RX11) (T := TX11) (N := 13) hx hb hts iwd_X11_takeModule_X11 hown hK hP h0 (Wd_ob kg_6 sg_6 (by decide)) rfl 8 (by decide) (hts _ md_X11_takeModule_11) (fun _ h9 => h9) (fl_q rfl ek_57) dX11_takeModule_135 ?_
          obtain ⟨g_58, hf⟩ := grd_some hf
          obtain ⟨kg_58, sg_58⟩ := okO_at g_58
          refine va_get (D := (dC, dI)) (ci := 3) (v := .int (z_53.1 k_57 0)) (C := RX3) (T := TX3) (N := 22) hx hb hts iwd_X11_takeModule_X3 hown hK hP k_57 (Wd_ob kg_58 sg_58 (by decide)) rfl 0 (by decide) (hts _ md_X11_takeModule_12) (fun _ h9 => h9) (fl_at (t := 0) rfl) dX11_takeModule_138 ?_
          refine va_put (D := (dC, dI)) (ci := 8) (v := .int (z_53.1 k_57 0)) (ty := .int) (C := RX8) (T := TX8) (N := 19) hx hb hts iwd_X11_takeModule_X8 tyX8 tyX8_ok nmX8 hown hK hP hD hS x0 (Wd_ob kg_1 sg_1 (by decide)) rfl 14 (by decide) (hts _ md_X11_takeModule_10) (fun _ h9 => h9) rfl (by decide +kernel) rfl rfl (by rw [fl_len]; decide) dX11_takeModule_141 (fun H_59 locs hP2 hD2 hS2 => ?_)
          rw [Wd_si sg_1 (by decide) rfl] at hP2 hD2
          obtain ⟨z_60, ez_60⟩ : ∃ w, w = si z_53 x0 14 (z_53.1 k_57 0) := ⟨_, rfl⟩
          rw [← ez_60] at hP2 hD2
          replace hf := lt_at ez_60 hf
          clear ez_60
          replace hP := hP2
          replace hD := hD2
          replace hS := hS2
          clear hP2 hD2 hS2
          exact B144 (z_60, r_54) ls H_59 locs ⟨lv_sub hl [0, 2, 3, 4] rfl, hP, hD, hS⟩ hf
      refine lv_if_ne (tgt := 118) hx hb dX11_takeModule_107 (by decide) (fun c_61 => ?_) (fun c_61 => ?_)
      · skip
        rw [if_neg c_61] at hf
        exact B118 (z_29, r_23) ls H_28 locs ⟨lv_sub hl [0, 1, 2, 3, 4] rfl, hP, hD, hS⟩ hf
      · skip
        rw [if_pos c_61] at hf
        refine lv_aload_n hx hb dX11_takeModule_110 rfl (lv_at hl 3 rfl) ?_
        refine lv_aload_n hx hb dX11_takeModule_111 rfl (lv_at hl 1 rfl) ?_
        refine lv_aload_n hx hb dX11_takeModule_112 rfl (lv_at hl 4 rfl) ?_
        obtain ⟨z_62, r_63, hfc, hf⟩ := cal_some hf
        have hFc := de_free hD hS hA
        refine va_calli (va_runV (As := [.ref (a k_16), .ref (a x0)]) (rest := []) ⟨hx, hb, hml, hown, hts⟩ (de_X11_misfitOf l dC dI cy a sh n H_28.size F z_29 h0 k_16 x0 hfc) (cwV 2 hts gX11_takeModule_X11_misfitOf rfl rfl rfl (by decide +kernel) ⟨Nat.le_of_ble_eq_true rfl, Nat.le_of_ble_eq_true rfl⟩) ⟨fun a U g mk q => by obtain ⟨q0, q1, qP, qK, qD, qN⟩ := q; exact ⟨q0, q1, qP, va_K.moved (u := U) (U := U.calling g mk a) (Vm.Alike.refl U.vm) qK, qD, qN.same rfl⟩, va_recv hK hP (ci := 11) (q0 := h0) rfl (Wd_ob kg_6 sg_6 (by decide)), fun U hU hW => ⟨rfl, by rw [hU], by rw [hU]; exact hP, va_K.moved hW.alike hK, hD.weaken (fun _ _ _ _ => trivial), hN.warm hW⟩⟩ rfl rfl hl.1 rfl (lv_room (Nat.le_of_ble_eq_true rfl)) dX11_takeModule_113 ⟨Nat.le_of_ble_eq_true rfl, Nat.le_of_ble_eq_true rfl⟩) hS (fun q _ h => hFc q h) hFc (fun rr u t H_64 locs ht hvm hw hB hz1 hk1 hS2 => ?_)
        rw [hw]
        clear hw
        obtain ⟨hP1, -, hD1⟩ := hB
        rw [ht] at hP1
        replace hD := hD1.weaken (fun _ _ _ h => hFc _ h)
        replace hP := hP1
        replace hS := hS2
        clear hP1 hD1 hS2 hFc hfc hz1 hk1 hvm ht
        refine lv_istore (lv' := [(4, .int r_63), (3, .ref (a k_16)), (2, .int v_4), (0, .ref (a h0)), (1, .ref (a x0))]) hx hb dX11_takeModule_116 hl (by decide) rfl (fun ls hl2 => ?_)
        replace hl := hl2
        clear hl2
        exact B118 (z_62, r_63) ls H_64 locs ⟨lv_sub hl [0, 1, 2, 3, 4] rfl, hP, hD, hS⟩ hf
    · skip
      rw [if_neg c_9] at hf
      refine lv_aload_n hx hb dX11_takeModule_48 rfl (lv_at hl 2 rfl) ?_
      refine lv_iconst (v := 2) hx hb dX11_takeModule_49 (by decide) ?_
      refine lv_ldc2 hx hb hown (hts _ md_X11_takeModule_6) dX11_takeModule_50 ?_
      refine lv_iload_n hx hb dX11_takeModule_53 rfl (lv_at hl 0 rfl) ?_
      obtain ⟨z_65, _u, hfc, hf⟩ := cal_some hf
      have hFc := de_free hD hS hA
      refine va_callv (va_runV (As := [.int 2, .long 4, .int v_4]) (rest := []) ⟨hx, hb, hml, hown, hts⟩ (de_X8_end l dC dI cy a sh n H.size F z x0 2 4 v_4 hfc) (cwV 3 hts gX11_takeModule_X8_end rfl rfl rfl (by decide +kernel) ⟨Nat.le_of_ble_eq_true rfl, Nat.le_of_ble_eq_true rfl⟩) ⟨fun a U g mk q => by obtain ⟨q0, q1, qP, qK, qD, qN⟩ := q; exact ⟨q0, q1, qP, va_K.moved (u := U) (U := U.calling g mk a) (Vm.Alike.refl U.vm) qK, qD, qN.same rfl⟩, va_recv hK hP (ci := 8) (q0 := x0) rfl (Wd_ob kg_1 sg_1 (by decide)), fun U hU hW => ⟨rfl, by rw [hU], by rw [hU]; exact hP, va_K.moved hW.alike hK, hD.weaken (fun _ _ _ _ => trivial), hN.warm hW⟩⟩ rfl rfl hl.1 rfl (lv_room (Nat.le_of_ble_eq_true rfl)) dX11_takeModule_54 ⟨Nat.le_of_ble_eq_true rfl, Nat.le_of_ble_eq_true rfl⟩) hS (fun q _ h => hFc q h) hFc (fun u t H_66 locs ht hvm hw hB hz1 hk1 hS2 => ?_)
      obtain ⟨hP1, -, hD1⟩ := hB
      rw [ht] at hP1
      replace hD := hD1.weaken (fun _ _ _ h => hFc _ h)
      replace hP := hP1
      replace hS := hS2
      clear hP1 hD1 hS2 hFc hfc hz1 hk1 hvm ht
      obtain ⟨h8, h9⟩ := ret_some hf
      rw [h8]
      exact W.vret hx hb hr (fun t ht hW => ⟨⟨(), rfl, trivial, by rw [ht]; exact hP, va_K.moved hW.alike hK, hD⟩, hS.F ht⟩) hS.2.2 dX11_takeModule_57
  · skip
    rw [if_neg c_5] at hf
    refine lv_aload_n hx hb dX11_takeModule_23 rfl (lv_at hl 2 rfl) ?_
    refine lv_iconst (v := 2) hx hb dX11_takeModule_24 (by decide) ?_
    refine lv_ldc2 hx hb hown (hts _ md_X11_takeModule_3) dX11_takeModule_25 ?_
    refine lv_aload_n hx hb dX11_takeModule_28 rfl (lv_at hl 2 rfl) ?_
    refine va_get (D := (dC, dI)) (ci := 8) (v := .int (z.1 x0 3)) (C := RX8) (T := TX8) (N := 19) hx hb hts iwd_X11_takeModule_X8 hown hK hP x0 (Wd_ob kg_1 sg_1 (by decide)) rfl 3 (by decide) (hts _ md_X11_takeModule_2) (fun _ h9 => h9) (fl_at (t := 0) rfl) dX11_takeModule_29 ?_
    obtain ⟨z_67, _u, hfc, hf⟩ := cal_some hf
    have hFc := de_free hD hS hA
    refine va_callv (va_runV (As := [.int 2, .long 5, .int (z.1 x0 3)]) (rest := []) ⟨hx, hb, hml, hown, hts⟩ (de_X8_end l dC dI cy a sh n H.size F z x0 2 5 (z.1 x0 3) hfc) (cwV 3 hts gX11_takeModule_X8_end rfl rfl rfl (by decide +kernel) ⟨Nat.le_of_ble_eq_true rfl, Nat.le_of_ble_eq_true rfl⟩) ⟨fun a U g mk q => by obtain ⟨q0, q1, qP, qK, qD, qN⟩ := q; exact ⟨q0, q1, qP, va_K.moved (u := U) (U := U.calling g mk a) (Vm.Alike.refl U.vm) qK, qD, qN.same rfl⟩, va_recv hK hP (ci := 8) (q0 := x0) rfl (Wd_ob kg_1 sg_1 (by decide)), fun U hU hW => ⟨rfl, by rw [hU], by rw [hU]; exact hP, va_K.moved hW.alike hK, hD.weaken (fun _ _ _ _ => trivial), hN.warm hW⟩⟩ rfl rfl hl.1 rfl (lv_room (Nat.le_of_ble_eq_true rfl)) dX11_takeModule_32 ⟨Nat.le_of_ble_eq_true rfl, Nat.le_of_ble_eq_true rfl⟩) hS (fun q _ h => hFc q h) hFc (fun u t H_68 locs ht hvm hw hB hz1 hk1 hS2 => ?_)
    obtain ⟨hP1, -, hD1⟩ := hB
    rw [ht] at hP1
    replace hD := hD1.weaken (fun _ _ _ h => hFc _ h)
    replace hP := hP1
    replace hS := hS2
    clear hP1 hD1 hS2 hFc hfc hz1 hk1 hvm ht
    obtain ⟨h8, h9⟩ := ret_some hf
    rw [h8]
    exact W.vret hx hb hr (fun t ht hW => ⟨⟨(), rfl, trivial, by rw [ht]; exact hP, va_K.moved hW.alike hK, hD⟩, hS.F ht⟩) hS.2.2 dX11_takeModule_35

theorem md_X18_refusal_1 : (.fieldLink RX18 553 "ResourceLedgerModel" "functionsCalled" "[I" : Cond) ∈ wsX18_refusal := List.mem_of_getElem? (i := 1) rfl
theorem iwd_X18_refusal_X18 : ∀ w ∈ wsX180, w ∈ wsX18_refusal := fun _ h => List.mem_cons_of_mem _ (List.mem_append_left _ (List.mem_append_right _ h))
theorem md_X18_refusal_3 : (.fieldLink RX18 17 "ResourceLedgerModel" "units" "[LResourceLedgerModel$Unit;" : Cond) ∈ wsX18_refusal := List.mem_of_getElem? (i := 3) rfl
theorem iwd_X18_refusal_X16 : ∀ w ∈ wsX160, w ∈ wsX18_refusal := fun _ h => List.mem_cons_of_mem _ (List.mem_append_right _ h)
theorem md_X18_refusal_4 : (.fieldLink RX18 556 "ResourceLedgerModel" "argumentCounts" "[I" : Cond) ∈ wsX18_refusal := List.mem_of_getElem? (i := 4) rfl
theorem md_X18_refusal_6 : (.constantLong RX18 122 (5) : Cond) ∈ wsX18_refusal := List.mem_of_getElem? (i := 6) rfl
theorem md_X18_refusal_5 : (.fieldLink RX18 559 "ResourceLedgerModel" "argumentTypes" "[B" : Cond) ∈ wsX18_refusal := List.mem_of_getElem? (i := 5) rfl
theorem md_X18_refusal_2 : (.fieldLink RX18 550 "ResourceLedgerModel" "modulesCalled" "[I" : Cond) ∈ wsX18_refusal := List.mem_of_getElem? (i := 2) rfl
set_option maxHeartbeats 4000000 in
set_option maxRecDepth 100000 in
theorem de_X18_refusal (l : Launch) (dC : Nat → ClassId) (dI : Nat → Nat → Nat) (cy : Nat → ClassId) (a : Nat → Nat) (sh : Nat → Nat × Nat) (n sz : Nat) (F : Nat) (z : St) (h0 : Nat) (x0 : Int32) (x1 : Int32) {z8 : St} {r8 : Int32} (hf : fn_X18_refusal F sh n z h0 x0 x1 = some (z8, r8)) : Met l yX18_refusal wsX18_refusal ({ frames := 6, cells := 0, slots := 0, locals := 139 }) (va_Pc [.ref (a h0), .int x0, .int x1] (fun U => U.heap.size = sz ∧ va_P (dC, dI) vwCl (Wd cy a sh n z) U.heap ∧ va_K (dC, dI) vwCl (TYS cy) U ∧ va_D (fun _ => True) (Wd cy a sh n z) ∧ NK U)) (va_Qi (fun (r9 : Int32) (u : Unit) => r9 = r8) (fun u t => va_P (dC, dI) vwCl (Wd cy a sh n z8) t.heap ∧ va_K (dC, dI) vwCl (TYS cy) t ∧ va_D (va_A (Wd cy a sh n z) sz) (Wd cy a sh n z8)) (va_A (Wd cy a sh n z) sz)) 0 0 (va_A (Wd cy a sh n z) sz) := by
  refine Met.ofW (cc := cX18_refusal) (maxL := 7) (ret := (some .int)) (by decide) rfl ?_
  intro p e s m args below meth c s₁ B hml hv
  obtain ⟨rfl, hsz, hP, hK, hD0, hN⟩ := hv
  have hx := B.exec
  have hb := B.bytes
  have hr := B.returns
  have hts := atoms_spec (ws := wsX18_refusal) B.pre
  have hown : s.vm.findClass RX18 = some m.cls := findClass_of_methodNamed B.named
  have hlocks := B.notSynchronized
  subst hsz
  have hD := hD0.self (sz := s.heap.size)
  clear hD0
  generalize hAe : va_A (Wd cy a sh n z) s.heap.size = A at hD ⊢
  have hA : ∀ q : Nat, s.heap.size ≤ q → A q := fun q h => by rw [← hAe]; exact Or.inr h
  clear hAe
  have hS : va_S A s.heap s.heap [] := va_S.rf
  have hl := lv_entry ([.ref (a h0), .int x0, .int x1]) (n := 7) (Nat.le_of_ble_eq_true rfl)
  rw [lg_entry_eq]
  generalize (lg_sl ([.ref (a h0), .int x0, .int x1]) ++ List.replicate (7 - (lg_sl ([.ref (a h0), .int x0, .int x1])).length) Slot.unset).toArray = ls at hl ⊢
  replace hl : lv_has ls 7 [(0, .ref (a h0)), (1, .int x0), (2, .int x1)] := hl
  unfold fn_X18_refusal at hf
  refine de_start hS hP (fun H locs hS hP => ?_)
  refine lv_aload_n hx hb dX18_refusal_0 rfl (lv_at hl 0 rfl) ?_
  obtain ⟨g_1, hf⟩ := grd_some hf
  obtain ⟨kg_1, sg_1⟩ := okO_at g_1
  obtain ⟨k_2, ek_2, hf⟩ := lnk_some hf
  refine va_get (D := (dC, dI)) (ci := 18) (v := .ref (a k_2)) (C := RX18) (T := TX18) (N := 78) hx hb hts iwd_X18_refusal_X18 hown hK hP h0 (Wd_ob kg_1 sg_1 (by decide)) rfl 59 (by decide) (hts _ md_X18_refusal_1) (fun _ h9 => h9) (fl_q rfl ek_2) dX18_refusal_1 ?_
  refine lv_iload_n hx hb dX18_refusal_4 rfl (lv_at hl 1 rfl) ?_
  obtain ⟨g_3, hf⟩ := grd_some hf
  obtain ⟨kg_3, sg_3, ig_3⟩ := okA_at g_3
  refine va_iald hx hb hK hP k_2 1 (Wd_ai kg_3 sg_3) rfl ig_3 dX18_refusal_5 ?_
  refine lv_topi (fun v_4 ev_4 => ?_)
  replace hf := lt_at ev_4 hf
  clear ev_4
  refine lv_istore_n (lv' := [(3, .int v_4), (0, .ref (a h0)), (1, .int x0), (2, .int x1)]) hx hb dX18_refusal_6 rfl hl (by decide) rfl (fun ls hl2 => ?_)
  replace hl := hl2
  clear hl2
  refine lv_iload_n hx hb dX18_refusal_7 rfl (lv_at hl 3 rfl) ?_
  refine lv_if_ne (tgt := 36) hx hb dX18_refusal_8 (by decide) (fun c_5 => ?_) (fun c_5 => ?_)
  · skip
    rw [if_neg c_5] at hf
    refine lv_aload_n hx hb dX18_refusal_36 rfl (lv_at hl 1 rfl) ?_
    obtain ⟨k_6, ek_6, hf⟩ := lnk_some hf
    refine va_get (D := (dC, dI)) (ci := 18) (v := .ref (a k_6)) (C := RX18) (T := TX18) (N := 78) hx hb hts iwd_X18_refusal_X18 hown hK hP h0 (Wd_ob kg_1 sg_1 (by decide)) rfl 4 (by decide) (hts _ md_X18_refusal_3) (fun _ h9 => h9) (fl_q rfl ek_6) dX18_refusal_37 ?_
    refine lv_iload_n hx hb dX18_refusal_40 rfl (lv_at hl 3 rfl) ?_
    obtain ⟨g_7, hf⟩ := grd_some hf
    obtain ⟨kg_7, sg_7, ig_7⟩ := okA_at g_7
    obtain ⟨k_8, ek_8, hf⟩ := lnk_some hf
    refine va_aldq (C := RX16) hx hb hK hP k_6 6 (Wd_aq kg_7 sg_7 (by decide)) rfl ig_7 dX18_refusal_41 ?_
    refine W.eq (g2 := F0 m 42 ls [.ref (a k_8)]) (by rw [ek_8]; rfl) ?_
    refine lv_astore (lv' := [(4, .ref (a k_8)), (3, .int v_4), (0, .ref (a h0)), (1, .int x0), (2, .int x1)]) hx hb dX18_refusal_42 hl (by decide) rfl (fun ls hl2 => ?_)
    replace hl := hl2
    clear hl2
    refine lv_iload_n hx hb dX18_refusal_44 rfl (lv_at hl 1 rfl) ?_
    refine lv_aload hx hb dX18_refusal_45 (lv_at hl 0 rfl) ?_
    obtain ⟨g_9, hf⟩ := grd_some hf
    obtain ⟨kg_9, sg_9⟩ := okO_at g_9
    refine va_getN (D := (dC, dI)) (ci := 16) (v := .int (z.1 k_8 9)) (C := RX16) (T := TX16) (N := 18) hx hb hts iwd_X18_refusal_X16 hown hK hP k_8 (Wd_ob kg_9 sg_9 (by decide)) rfl 9 (by decide) (va_Nw.use rfl (NK_f_X18_112 hN)) (fun _ h9 => h9) (fl_at (t := 0) rfl) dX18_refusal_47 ?_
    refine lv_icmp_lt (tgt := 55) hx hb dX18_refusal_50 (by decide) (fun c_10 => ?_) (fun c_10 => ?_)
    · skip
      rw [if_pos c_10] at hf
      refine lv_aload hx hb dX18_refusal_55 (lv_at hl 0 rfl) ?_
      refine lv_iload_n hx hb dX18_refusal_57 rfl (lv_at hl 1 rfl) ?_
      obtain ⟨z_11, r_12, hfc, hf⟩ := cal_some hf
      have hFc := de_free hD hS hA
      refine va_calli (va_runV (As := [.int v_4]) (rest := []) ⟨hx, hb, hml, hown, hts⟩ (de_X16_flags l dC dI cy a sh n H.size F z k_8 v_4 hfc) (cwV 1 hts gX18_refusal_X16_flags rfl rfl rfl (by decide +kernel) ⟨Nat.le_of_ble_eq_true rfl, Nat.le_of_ble_eq_true rfl⟩) ⟨fun a U g mk q => by obtain ⟨q0, q1, qP, qK, qD, qN⟩ := q; exact ⟨q0, q1, qP, va_K.moved (u := U) (U := U.calling g mk a) (Vm.Alike.refl U.vm) qK, qD, qN.same rfl⟩, va_recv hK hP (ci := 16) (q0 := k_8) rfl (Wd_ob kg_9 sg_9 (by decide)), fun U hU hW => ⟨rfl, by rw [hU], by rw [hU]; exact hP, va_K.moved hW.alike hK, hD.weaken (fun _ _ _ _ => trivial), hN.warm hW⟩⟩ rfl rfl hl.1 rfl (lv_room (Nat.le_of_ble_eq_true rfl)) dX18_refusal_58 ⟨Nat.le_of_ble_eq_true rfl, Nat.le_of_ble_eq_true rfl⟩) hS (fun q _ h => hFc q h) hFc (fun rr u t H_13 locs ht hvm hw hB hz1 hk1 hS2 => ?_)
      rw [hw]
      clear hw
      obtain ⟨hP1, -, hD1⟩ := hB
      rw [ht] at hP1
      replace hD := hD1.weaken (fun _ _ _ h => hFc _ h)
      replace hP := hP1
      replace hS := hS2
      clear hP1 hD1 hS2 hFc hfc hz1 hk1 hvm ht
      refine lv_iconst (v := 2) hx hb dX18_refusal_61 (by decide) ?_
      refine lv_iand hx hb dX18_refusal_62 ?_
      refine lv_if_ne (tgt := 69) hx hb dX18_refusal_63 (by decide) (fun c_14 => ?_) (fun c_14 => ?_)
      · skip
        rw [if_neg c_14] at hf
        refine lv_aload hx hb dX18_refusal_69 (lv_at hl 0 rfl) ?_
        refine lv_iload_n hx hb dX18_refusal_71 rfl (lv_at hl 1 rfl) ?_
        refine lv_iconst (v := 0) hx hb dX18_refusal_72 (by decide) ?_
        obtain ⟨z_15, r_16, hfc, hf⟩ := cal_some hf
        have hFc := de_free hD hS hA
        refine va_calli (va_runV (As := [.int v_4, .int 0]) (rest := []) ⟨hx, hb, hml, hown, hts⟩ (de_X16_many l dC dI cy a sh n H_13.size F z_11 k_8 v_4 0 hfc) (cwV 2 hts gX18_refusal_X16_many rfl rfl rfl (by decide +kernel) ⟨Nat.le_of_ble_eq_true rfl, Nat.le_of_ble_eq_true rfl⟩) ⟨fun a U g mk q => by obtain ⟨q0, q1, qP, qK, qD, qN⟩ := q; exact ⟨q0, q1, qP, va_K.moved (u := U) (U := U.calling g mk a) (Vm.Alike.refl U.vm) qK, qD, qN.same rfl⟩, va_recv hK hP (ci := 16) (q0 := k_8) rfl (Wd_ob kg_9 sg_9 (by decide)), fun U hU hW => ⟨rfl, by rw [hU], by rw [hU]; exact hP, va_K.moved hW.alike hK, hD.weaken (fun _ _ _ _ => trivial), hN.warm hW⟩⟩ rfl rfl hl.1 rfl (lv_room (Nat.le_of_ble_eq_true rfl)) dX18_refusal_73 ⟨Nat.le_of_ble_eq_true rfl, Nat.le_of_ble_eq_true rfl⟩) hS (fun q _ h => hFc q h) hFc (fun rr u t H_17 locs ht hvm hw hB hz1 hk1 hS2 => ?_)
        rw [hw]
        clear hw
        obtain ⟨hP1, -, hD1⟩ := hB
        rw [ht] at hP1
        replace hD := hD1.weaken (fun _ _ _ h => hFc _ h)
        replace hP := hP1
        replace hS := hS2
        clear hP1 hD1 hS2 hFc hfc hz1 hk1 hvm ht
        refine lv_aload_n hx hb dX18_refusal_76 rfl (lv_at hl 2 rfl) ?_
        obtain ⟨k_18, ek_18, hf⟩ := lnk_some hf
        refine va_get (D := (dC, dI)) (ci := 18) (v := .ref (a k_18)) (C := RX18) (T := TX18) (N := 78) hx hb hts iwd_X18_refusal_X18 hown hK hP h0 (Wd_ob kg_1 sg_1 (by decide)) rfl 60 (by decide) (hts _ md_X18_refusal_4) (fun _ h9 => h9) (fl_q rfl ek_18) dX18_refusal_77 ?_
        refine lv_iload_n hx hb dX18_refusal_80 rfl (lv_at hl 3 rfl) ?_
        obtain ⟨g_19, hf⟩ := grd_some hf
        obtain ⟨kg_19, sg_19, ig_19⟩ := okA_at g_19
        refine va_iald hx hb hK hP k_18 1 (Wd_ai kg_19 sg_19) rfl ig_19 dX18_refusal_81 ?_
        refine de_cut (h := 90) (fun (x : St × Int32) => [.int x.2]) (fun x ls H locs => lv_has ls 7 [(4, .ref (a k_8)), (3, .int v_4), (0, .ref (a h0)), (1, .int x0)] ∧ va_P (dC, dI) vwCl (Wd cy a sh n x.1) H ∧ va_D A (Wd cy a sh n x.1) ∧ va_S A s.heap H locs) (fun x => fn_X18_refusal_B90 F sh n h0 x0 k_8 v_4 x.1 x.2) (z8, r8) ?_ (fun B90 => ?_)
        · intro x ls H locs hI hf
          obtain ⟨z_21, p_20⟩ := x
          obtain ⟨hl2, hP2, hD2, hS2⟩ := hI
          replace hl : lv_has ls 7 [(4, .ref (a k_8)), (3, .int v_4), (0, .ref (a h0)), (1, .int x0)] := hl2
          replace hP := hP2
          replace hD := hD2
          replace hS := hS2
          clear hl2 hP2 hD2 hS2
          replace hf := fn_X18_refusal_B90_s hf
          refine W.eq (g2 := F0 m 90 ls [.int p_20]) rfl ?_
          refine lv_istore (lv' := [(5, .int p_20), (4, .ref (a k_8)), (3, .int v_4), (0, .ref (a h0)), (1, .int x0)]) hx hb dX18_refusal_90 hl (by decide) rfl (fun ls hl2 => ?_)
          replace hl := hl2
          clear hl2
          refine lv_iconst (v := 0) hx hb dX18_refusal_92 (by decide) ?_
          refine lv_istore (lv' := [(6, .int 0), (5, .int p_20), (4, .ref (a k_8)), (3, .int v_4), (0, .ref (a h0)), (1, .int x0)]) hx hb dX18_refusal_93 hl (by decide) rfl (fun ls hl2 => ?_)
          replace hl := hl2
          clear hl2
          have hl0 : lv_has ls 7 [(6, .int 0), (5, .int p_20), (4, .ref (a k_8)), (3, .int v_4), (0, .ref (a h0)), (1, .int x0)] := lv_sub hl [0, 1, 2, 3, 4, 5] rfl
          refine de_loop (h := 95) (fun (x : St × Int32 × Int32) ls H locs => lv_has ls 7 [(6, .int x.2.2), (5, .int x.2.1), (4, .ref (a k_8)), (3, .int v_4), (0, .ref (a h0)), (1, .int x0)] ∧ va_P (dC, dI) vwCl (Wd cy a sh n x.1) H ∧ va_D A (Wd cy a sh n x.1) ∧ va_S A s.heap H locs) (fun f x => fn_X18_refusal_L95 F sh n h0 x0 k_8 v_4 f x.1 x.2.1 x.2.2) (z8, r8) ?_ (fun _ => rfl) F (z_21, p_20, 0) ls H locs ⟨hl0, hP, hD, hS⟩ hf
          intro f_25 x ls H locs ih95 hI hf
          obtain ⟨z_24, p_22, p_23⟩ := x
          obtain ⟨hl2, hP2, hD2, hS2⟩ := hI
          replace hl : lv_has ls 7 [(6, .int p_23), (5, .int p_22), (4, .ref (a k_8)), (3, .int v_4), (0, .ref (a h0)), (1, .int x0)] := hl2
          replace hP := hP2
          replace hD := hD2
          replace hS := hS2
          clear hl2 hP2 hD2 hS2 hl0
          replace hf := fn_X18_refusal_L95_s hf
          refine lv_iload hx hb dX18_refusal_95 (lv_at hl 0 rfl) ?_
          refine lv_aload_n hx hb dX18_refusal_97 rfl (lv_at hl 4 rfl) ?_
          obtain ⟨k_26, ek_26, hf⟩ := lnk_some hf
          refine va_get (D := (dC, dI)) (ci := 18) (v := .ref (a k_26)) (C := RX18) (T := TX18) (N := 78) hx hb hts iwd_X18_refusal_X18 hown hK hP h0 (Wd_ob kg_1 sg_1 (by decide)) rfl 60 (by decide) (hts _ md_X18_refusal_4) (fun _ h9 => h9) (fl_q rfl ek_26) dX18_refusal_98 ?_
          refine lv_iload_n hx hb dX18_refusal_101 rfl (lv_at hl 5 rfl) ?_
          obtain ⟨g_27, hf⟩ := grd_some hf
          obtain ⟨kg_27, sg_27, ig_27⟩ := okA_at g_27
          refine va_iald hx hb hK hP k_26 1 (Wd_ai kg_27 sg_27) rfl ig_27 dX18_refusal_102 ?_
          refine de_cut (h := 150) (fun (x : St × Int32) => []) (fun x ls H locs => lv_has ls 7 [(5, .int x.2), (4, .ref (a k_8)), (3, .int v_4)] ∧ va_P (dC, dI) vwCl (Wd cy a sh n x.1) H ∧ va_D A (Wd cy a sh n x.1) ∧ va_S A s.heap H locs) (fun x => fn_X18_refusal_B150 F sh n k_8 v_4 x.1 x.2) (z8, r8) ?_ (fun B150 => ?_)
          · intro x ls H locs hI hf
            obtain ⟨z_29, p_28⟩ := x
            obtain ⟨hl2, hP2, hD2, hS2⟩ := hI
            replace hl : lv_has ls 7 [(5, .int p_28), (4, .ref (a k_8)), (3, .int v_4)] := hl2
            replace hP := hP2
            replace hD := hD2
            replace hS := hS2
            clear hl2 hP2 hD2 hS2
            replace hf := fn_X18_refusal_B150_s hf
            refine W.eq (g2 := F0 m 150 ls []) rfl ?_
            refine lv_iload hx hb dX18_refusal_150 (lv_at hl 0 rfl) ?_
            refine lv_if_ne (tgt := 158) hx hb dX18_refusal_152 (by decide) (fun c_30 => ?_) (fun c_30 => ?_)
            · skip
              rw [if_neg c_30] at hf
              refine lv_iconst (v := 0) hx hb dX18_refusal_158 (by decide) ?_
              refine lv_istore (lv' := [(6, .int 0), (5, .int p_28), (4, .ref (a k_8)), (3, .int v_4)]) hx hb dX18_refusal_159 hl (by decide) rfl (fun ls hl2 => ?_)
              replace hl := hl2
              clear hl2
              have hl0 : lv_has ls 7 [(6, .int 0), (4, .ref (a k_8)), (3, .int v_4)] := lv_sub hl [0, 2, 3] rfl
              refine de_loop (h := 161) (fun (x : St × Int32) ls H locs => lv_has ls 7 [(6, .int x.2), (4, .ref (a k_8)), (3, .int v_4)] ∧ va_P (dC, dI) vwCl (Wd cy a sh n x.1) H ∧ va_D A (Wd cy a sh n x.1) ∧ va_S A s.heap H locs) (fun f x => fn_X18_refusal_L161 F sh n k_8 v_4 f x.1 x.2) (z8, r8) ?_ (fun _ => rfl) F (z_29, 0) ls H locs ⟨hl0, hP, hD, hS⟩ hf
              intro f_33 x ls H locs ih161 hI hf
              obtain ⟨z_32, p_31⟩ := x
              obtain ⟨hl2, hP2, hD2, hS2⟩ := hI
              replace hl : lv_has ls 7 [(6, .int p_31), (4, .ref (a k_8)), (3, .int v_4)] := hl2
              replace hP := hP2
              replace hD := hD2
              replace hS := hS2
              clear hl2 hP2 hD2 hS2 hl0
              replace hf := fn_X18_refusal_L161_s hf
              refine lv_iload hx hb dX18_refusal_161 (lv_at hl 0 rfl) ?_
              refine lv_aload hx hb dX18_refusal_163 (lv_at hl 1 rfl) ?_
              refine lv_iload_n hx hb dX18_refusal_165 rfl (lv_at hl 2 rfl) ?_
              refine lv_iconst (v := 1) hx hb dX18_refusal_166 (by decide) ?_
              obtain ⟨z_34, r_35, hfc, hf⟩ := cal_some hf
              have hFc := de_free hD hS hA
              refine va_calli (va_runV (As := [.int v_4, .int 1]) (rest := [.int p_31]) ⟨hx, hb, hml, hown, hts⟩ (de_X16_many l dC dI cy a sh n H.size F z_32 k_8 v_4 1 hfc) (cwV 2 hts gX18_refusal_X16_many rfl rfl rfl (by decide +kernel) ⟨Nat.le_of_ble_eq_true rfl, Nat.le_of_ble_eq_true rfl⟩) ⟨fun a U g mk q => by obtain ⟨q0, q1, qP, qK, qD, qN⟩ := q; exact ⟨q0, q1, qP, va_K.moved (u := U) (U := U.calling g mk a) (Vm.Alike.refl U.vm) qK, qD, qN.same rfl⟩, va_recv hK hP (ci := 16) (q0 := k_8) rfl (Wd_ob kg_9 sg_9 (by decide)), fun U hU hW => ⟨rfl, by rw [hU], by rw [hU]; exact hP, va_K.moved hW.alike hK, hD.weaken (fun _ _ _ _ => trivial), hN.warm hW⟩⟩ rfl rfl hl.1 rfl (lv_room (Nat.le_of_ble_eq_true rfl)) dX18_refusal_167 ⟨Nat.le_of_ble_eq_true rfl, Nat.le_of_ble_eq_true rfl⟩) hS (fun q _ h => hFc q h) hFc (fun rr u t H_36 locs ht hvm hw hB hz1 hk1 hS2 => ?_)
              rw [hw]
              clear hw
              obtain ⟨hP1, -, hD1⟩ := hB
              rw [ht] at hP1
              replace hD := hD1.weaken (fun _ _ _ h => hFc _ h)
              replace hP := hP1
              replace hS := hS2
              clear hP1 hD1 hS2 hFc hfc hz1 hk1 hvm ht
              refine lv_icmp_ge (tgt := 198) hx hb dX18_refusal_170 (by decide) (fun c_37 => ?_) (fun c_37 => ?_)
              · skip
                rw [if_pos c_37] at hf
                refine lv_iconst (v := 0) hx hb dX18_refusal_198 (by decide) ?_
                obtain ⟨h8, h9⟩ := ret_some hf
                rw [h8, h9]
                exact W.iret (v := 0) hx hb hr (fun t ht hW => ⟨⟨0, (), rfl, rfl, by rw [ht]; exact hP, va_K.moved hW.alike hK, hD⟩, hS.F ht⟩) hS.2.2 dX18_refusal_199
              · skip
                rw [if_neg c_37] at hf
                refine lv_aload hx hb dX18_refusal_173 (lv_at hl 1 rfl) ?_
                refine lv_iload_n hx hb dX18_refusal_175 rfl (lv_at hl 2 rfl) ?_
                refine lv_iconst (v := 1) hx hb dX18_refusal_176 (by decide) ?_
                refine lv_iload hx hb dX18_refusal_177 (lv_at hl 0 rfl) ?_
                obtain ⟨z_38, r_39, hfc, hf⟩ := cal_some hf
                have hFc := de_free hD hS hA
                refine va_calll (va_runV (As := [.int v_4, .int 1, .int p_31]) (rest := []) ⟨hx, hb, hml, hown, hts⟩ (de_X16_listed l dC dI cy a sh n H_36.size F z_34 k_8 v_4 1 p_31 hfc) (cwV 3 hts gX18_refusal_X16_listed rfl rfl rfl (by decide +kernel) ⟨Nat.le_of_ble_eq_true rfl, Nat.le_of_ble_eq_true rfl⟩) ⟨fun a U g mk q => by obtain ⟨q0, q1, qP, qK, qD, qN⟩ := q; exact ⟨q0, q1, qP, va_K.moved (u := U) (U := U.calling g mk a) (Vm.Alike.refl U.vm) qK, qD, qN.same rfl⟩, va_recv hK hP (ci := 16) (q0 := k_8) rfl (Wd_ob kg_9 sg_9 (by decide)), fun U hU hW => ⟨rfl, by rw [hU], by rw [hU]; exact hP, va_K.moved hW.alike hK, hD.weaken (fun _ _ _ _ => trivial), hN.warm hW⟩⟩ rfl rfl hl.1 rfl (lv_room (Nat.le_of_ble_eq_true rfl)) dX18_refusal_179 ⟨Nat.le_of_ble_eq_true rfl, Nat.le_of_ble_eq_true rfl⟩) hS (fun q _ h => hFc q h) hFc (fun rr u t H_40 locs ht hvm hw hB hz1 hk1 hS2 => ?_)
                rw [hw]
                clear hw
                obtain ⟨hP1, -, hD1⟩ := hB
                rw [ht] at hP1
                replace hD := hD1.weaken (fun _ _ _ h => hFc _ h)
                replace hP := hP1
                replace hS := hS2
                clear hP1 hD1 hS2 hFc hfc hz1 hk1 hvm ht
                refine lv_ldc2 hx hb hown (hts _ md_X18_refusal_6) dX18_refusal_182 ?_
                refine W.lcmp hx hb dX18_refusal_185 ?_
                refine lv_if_le (tgt := 192) hx hb dX18_refusal_186 (by decide) (fun c_41 => ?_) (fun c_41 => ?_)
                · skip
                  rw [lg_cmp_le] at c_41
                  rw [if_pos c_41] at hf
                  refine lv_iinc (v := (p_31 + 1)) (lv' := [(6, .int (p_31 + 1)), (4, .ref (a k_8)), (3, .int v_4)]) hx hb dX18_refusal_192 hl (k := 0) rfl rfl (by decide) rfl (fun ls hl2 => ?_)
                  replace hl := hl2
                  clear hl2
                  refine lv_goto (tgt := 161) hx hb dX18_refusal_195 (by decide) ?_
                  exact ih161 (z_38, (p_31 + 1)) ls H_40 locs ⟨lv_sub hl [0, 1, 2] rfl, hP, hD, hS⟩ hf
                · skip
                  rw [lg_cmp_le] at c_41
                  rw [if_neg c_41] at hf
                  refine lv_bipush (v := 8) hx hb dX18_refusal_189 (by decide) ?_
                  obtain ⟨h8, h9⟩ := ret_some hf
                  rw [h8, h9]
                  exact W.iret (v := 8) hx hb hr (fun t ht hW => ⟨⟨8, (), rfl, rfl, by rw [ht]; exact hP, va_K.moved hW.alike hK, hD⟩, hS.F ht⟩) hS.2.2 dX18_refusal_191
            · skip
              rw [if_pos c_30] at hf
              refine lv_bipush (v := 7) hx hb dX18_refusal_155 (by decide) ?_
              obtain ⟨h8, h9⟩ := ret_some hf
              rw [h8, h9]
              exact W.iret (v := 7) hx hb hr (fun t ht hW => ⟨⟨7, (), rfl, rfl, by rw [ht]; exact hP, va_K.moved hW.alike hK, hD⟩, hS.F ht⟩) hS.2.2 dX18_refusal_157
          refine lv_icmp_ge (tgt := 150) hx hb dX18_refusal_103 (by decide) (fun c_42 => ?_) (fun c_42 => ?_)
          · skip
            rw [if_pos c_42] at hf
            exact B150 (z_24, p_22) ls H locs ⟨lv_sub hl [1, 2, 3] rfl, hP, hD, hS⟩ hf
          · skip
            rw [if_neg c_42] at hf
            refine lv_iload hx hb dX18_refusal_106 (lv_at hl 1 rfl) ?_
            refine lv_if_eq (tgt := 150) hx hb dX18_refusal_108 (by decide) (fun c_43 => ?_) (fun c_43 => ?_)
            · skip
              rw [if_pos c_43] at hf
              exact B150 (z_24, p_22) ls H locs ⟨lv_sub hl [1, 2, 3] rfl, hP, hD, hS⟩ hf
            · skip
              rw [if_neg c_43] at hf
              refine lv_aload hx hb dX18_refusal_111 (lv_at hl 2 rfl) ?_
              refine lv_iload_n hx hb dX18_refusal_113 rfl (lv_at hl 3 rfl) ?_
              refine lv_iconst (v := 0) hx hb dX18_refusal_114 (by decide) ?_
              refine lv_iload hx hb dX18_refusal_115 (lv_at hl 0 rfl) ?_
              obtain ⟨z_44, r_45, hfc, hf⟩ := cal_some hf
              have hFc := de_free hD hS hA
              refine va_calll (va_runV (As := [.int v_4, .int 0, .int p_23]) (rest := []) ⟨hx, hb, hml, hown, hts⟩ (de_X16_listed l dC dI cy a sh n H.size F z_24 k_8 v_4 0 p_23 hfc) (cwV 3 hts gX18_refusal_X16_listed rfl rfl rfl (by decide +kernel) ⟨Nat.le_of_ble_eq_true rfl, Nat.le_of_ble_eq_true rfl⟩) ⟨fun a U g mk q => by obtain ⟨q0, q1, qP, qK, qD, qN⟩ := q; exact ⟨q0, q1, qP, va_K.moved (u := U) (U := U.calling g mk a) (Vm.Alike.refl U.vm) qK, qD, qN.same rfl⟩, va_recv hK hP (ci := 16) (q0 := k_8) rfl (Wd_ob kg_9 sg_9 (by decide)), fun U hU hW => ⟨rfl, by rw [hU], by rw [hU]; exact hP, va_K.moved hW.alike hK, hD.weaken (fun _ _ _ _ => trivial), hN.warm hW⟩⟩ rfl rfl hl.1 rfl (lv_room (Nat.le_of_ble_eq_true rfl)) dX18_refusal_117 ⟨Nat.le_of_ble_eq_true rfl, Nat.le_of_ble_eq_true rfl⟩) hS (fun q _ h => hFc q h) hFc (fun rr u t H_46 locs ht hvm hw hB hz1 hk1 hS2 => ?_)
              rw [hw]
              clear hw
              obtain ⟨hP1, -, hD1⟩ := hB
              rw [ht] at hP1
              replace hD := hD1.weaken (fun _ _ _ h => hFc _ h)
              replace hP := hP1
              replace hS := hS2
              clear hP1 hD1 hS2 hFc hfc hz1 hk1 hvm ht
              refine lv_aload_n hx hb dX18_refusal_120 rfl (lv_at hl 4 rfl) ?_
              obtain ⟨k_47, ek_47, hf⟩ := lnk_some hf
              refine va_get (D := (dC, dI)) (ci := 18) (v := .ref (a k_47)) (C := RX18) (T := TX18) (N := 78) hx hb hts iwd_X18_refusal_X18 hown hK hP h0 (Wd_ob kg_1 sg_1 (by decide)) rfl 61 (by decide) (hts _ md_X18_refusal_5) (fun _ h9 => h9) (fl_q rfl ek_47) dX18_refusal_121 ?_
              refine lv_bipush (v := 8) hx hb dX18_refusal_124 (by decide) ?_
              refine lv_iload_n hx hb dX18_refusal_126 rfl (lv_at hl 5 rfl) ?_
              refine lv_imul hx hb dX18_refusal_127 ?_
              refine lv_iload hx hb dX18_refusal_128 (lv_at hl 0 rfl) ?_
              refine lv_iadd hx hb dX18_refusal_130 ?_
              obtain ⟨g_48, hf⟩ := grd_some hf
              obtain ⟨kg_48, sg_48, ig_48⟩ := okA_at g_48
              refine va_bald hx hb hK hP k_47 0 (Wd_ab kg_48 sg_48) rfl ig_48 dX18_refusal_131 ?_
              refine lv_i2l (v := ((z_44.1 k_47 ((8 * x0) + p_23).toNatClampNeg) : Int32).toInt64) hx hb dX18_refusal_132 rfl ?_
              refine W.lcmp hx hb dX18_refusal_133 ?_
              refine de_cut (h := 142) (fun (x : St × Int32) => [.int x.2]) (fun x ls H locs => lv_has ls 7 [(6, .int p_23), (4, .ref (a k_8)), (3, .int v_4), (0, .ref (a h0)), (1, .int x0)] ∧ va_P (dC, dI) vwCl (Wd cy a sh n x.1) H ∧ va_D A (Wd cy a sh n x.1) ∧ va_S A s.heap H locs) (fun x => fn_X18_refusal_B142 F sh n p_23 (fun z9 q5 q6 => fn_X18_refusal_L95 F sh n h0 x0 k_8 v_4 f_25 z9 q5 q6) x.1 x.2) (z8, r8) ?_ (fun B142 => ?_)
              · intro x ls H locs hI hf
                obtain ⟨z_50, p_49⟩ := x
                obtain ⟨hl2, hP2, hD2, hS2⟩ := hI
                replace hl : lv_has ls 7 [(6, .int p_23), (4, .ref (a k_8)), (3, .int v_4), (0, .ref (a h0)), (1, .int x0)] := hl2
                replace hP := hP2
                replace hD := hD2
                replace hS := hS2
                clear hl2 hP2 hD2 hS2
                replace hf := fn_X18_refusal_B142_s hf
                refine W.eq (g2 := F0 m 142 ls [.int p_49]) rfl ?_
                refine lv_istore (lv' := [(5, .int p_49), (6, .int p_23), (4, .ref (a k_8)), (3, .int v_4), (0, .ref (a h0)), (1, .int x0)]) hx hb dX18_refusal_142 hl (by decide) rfl (fun ls hl2 => ?_)
                replace hl := hl2
                clear hl2
                refine lv_iinc (v := (p_23 + 1)) (lv' := [(6, .int (p_23 + 1)), (5, .int p_49), (4, .ref (a k_8)), (3, .int v_4), (0, .ref (a h0)), (1, .int x0)]) hx hb dX18_refusal_144 hl (k := 1) rfl rfl (by decide) rfl (fun ls hl2 => ?_)
                replace hl := hl2
                clear hl2
                refine lv_goto (tgt := 95) hx hb dX18_refusal_147 (by decide) ?_
                exact ih95 (z_50, p_49, (p_23 + 1)) ls H locs ⟨lv_sub hl [0, 1, 2, 3, 4, 5] rfl, hP, hD, hS⟩ hf
              refine lv_if_ne (tgt := 141) hx hb dX18_refusal_134 (by decide) (fun c_51 => ?_) (fun c_51 => ?_)
              · skip
                rw [lg_cmp_eq] at c_51
                rw [if_neg c_51] at hf
                refine lv_iconst (v := 0) hx hb dX18_refusal_141 (by decide) ?_
                exact B142 (z_44, 0) ls H_46 locs ⟨lv_sub hl [0, 2, 3, 4, 5] rfl, hP, hD, hS⟩ hf
              · skip
                rw [lg_cmp_eq] at c_51
                rw [if_pos c_51] at hf
                refine lv_iconst (v := 1) hx hb dX18_refusal_137 (by decide) ?_
                refine lv_goto (tgt := 142) hx hb dX18_refusal_138 (by decide) ?_
                exact B142 (z_44, 1) ls H_46 locs ⟨lv_sub hl [0, 2, 3, 4, 5] rfl, hP, hD, hS⟩ hf
        refine lv_icmp_ne (tgt := 89) hx hb dX18_refusal_82 (by decide) (fun c_52 => ?_) (fun c_52 => ?_)
        · skip
          rw [if_neg c_52] at hf
          refine lv_iconst (v := 0) hx hb dX18_refusal_89 (by decide) ?_
          exact B90 (z_15, 0) ls H_17 locs ⟨lv_sub hl [0, 1, 2, 3] rfl, hP, hD, hS⟩ hf
        · skip
          rw [if_pos c_52] at hf
          refine lv_iconst (v := 1) hx hb dX18_refusal_85 (by decide) ?_
          refine lv_goto (tgt := 90) hx hb dX18_refusal_86 (by decide) ?_
          exact B90 (z_15, 1) ls H_17 locs ⟨lv_sub hl [0, 1, 2, 3] rfl, hP, hD, hS⟩ hf
      · skip
        rw [if_pos c_14] at hf
        refine lv_bipush (v := 6) hx hb dX18_refusal_66 (by decide) ?_
        obtain ⟨h8, h9⟩ := ret_some hf
        rw [h8, h9]
        exact W.iret (v := 6) hx hb hr (fun t ht hW => ⟨⟨6, (), rfl, rfl, by rw [ht]; exact hP, va_K.moved hW.alike hK, hD⟩, hS.F ht⟩) hS.2.2 dX18_refusal_68
    · skip
      rw [if_neg c_10] at hf
      refine lv_iconst (v := 5) hx hb dX18_refusal_53 (by decide) ?_
      obtain ⟨h8, h9⟩ := ret_some hf
      rw [h8, h9]
      exact W.iret (v := 5) hx hb hr (fun t ht hW => ⟨⟨5, (), rfl, rfl, by rw [ht]; exact hP, va_K.moved hW.alike hK, hD⟩, hS.F ht⟩) hS.2.2 dX18_refusal_54
  · skip
    rw [if_pos c_5] at hf
    refine lv_aload_n hx hb dX18_refusal_11 rfl (lv_at hl 1 rfl) ?_
    obtain ⟨k_53, ek_53, hf⟩ := lnk_some hf
    refine va_get (D := (dC, dI)) (ci := 18) (v := .ref (a k_53)) (C := RX18) (T := TX18) (N := 78) hx hb hts iwd_X18_refusal_X18 hown hK hP h0 (Wd_ob kg_1 sg_1 (by decide)) rfl 58 (by decide) (hts _ md_X18_refusal_2) (fun _ h9 => h9) (fl_q rfl ek_53) dX18_refusal_12 ?_
    refine lv_iload_n hx hb dX18_refusal_15 rfl (lv_at hl 2 rfl) ?_
    obtain ⟨g_54, hf⟩ := grd_some hf
    obtain ⟨kg_54, sg_54, ig_54⟩ := okA_at g_54
    refine va_iald hx hb hK hP k_53 1 (Wd_ai kg_54 sg_54) rfl ig_54 dX18_refusal_16 ?_
    refine lv_if_eq (tgt := 24) hx hb dX18_refusal_17 (by decide) (fun c_55 => ?_) (fun c_55 => ?_)
    · skip
      rw [if_pos c_55] at hf
      refine lv_iload_n hx hb dX18_refusal_24 rfl (lv_at hl 0 rfl) ?_
      refine lv_iconst (v := 5) hx hb dX18_refusal_25 (by decide) ?_
      refine lv_icmp_le (tgt := 33) hx hb dX18_refusal_26 (by decide) (fun c_56 => ?_) (fun c_56 => ?_)
      · skip
        rw [if_pos c_56] at hf
        refine lv_bipush (v := 6) hx hb dX18_refusal_33 (by decide) ?_
        obtain ⟨h8, h9⟩ := ret_some hf
        rw [h8, h9]
        exact W.iret (v := 6) hx hb hr (fun t ht hW => ⟨⟨6, (), rfl, rfl, by rw [ht]; exact hP, va_K.moved hW.alike hK, hD⟩, hS.F ht⟩) hS.2.2 dX18_refusal_35
      · skip
        rw [if_neg c_56] at hf
        refine lv_iconst (v := 5) hx hb dX18_refusal_29 (by decide) ?_
        refine lv_goto (tgt := 35) hx hb dX18_refusal_30 (by decide) ?_
        obtain ⟨h8, h9⟩ := ret_some hf
        rw [h8, h9]
        exact W.iret (v := 5) hx hb hr (fun t ht hW => ⟨⟨5, (), rfl, rfl, by rw [ht]; exact hP, va_K.moved hW.alike hK, hD⟩, hS.F ht⟩) hS.2.2 dX18_refusal_35
    · skip
      rw [if_neg c_55] at hf
      refine lv_iconst (v := 4) hx hb dX18_refusal_20 (by decide) ?_
      refine lv_goto (tgt := 35) hx hb dX18_refusal_21 (by decide) ?_
      obtain ⟨h8, h9⟩ := ret_some hf
      rw [h8, h9]
      exact W.iret (v := 4) hx hb hr (fun t ht hW => ⟨⟨4, (), rfl, rfl, by rw [ht]; exact hP, va_K.moved hW.alike hK, hD⟩, hS.F ht⟩) hS.2.2 dX18_refusal_35

