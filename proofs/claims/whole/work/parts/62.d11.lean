theorem md_X13_call_1 : (.fieldLink RX13 72 "ResourceLedgerModel$Looker" "unit" "LResourceLedgerModel$Unit;" : Cond) ∈ wsX13_call := List.mem_of_getElem? (i := 1) rfl
theorem iwd_X13_call_X13 : ∀ w ∈ wsX130, w ∈ wsX13_call := fun _ h => List.mem_cons_of_mem _ (List.mem_append_left _ (List.mem_append_right _ h))
theorem md_X13_call_2 : (.fieldLink RX13 92 "ResourceLedgerModel$Looker" "height" "I" : Cond) ∈ wsX13_call := List.mem_of_getElem? (i := 2) rfl
theorem md_X13_call_3 : (.fieldLink RX13 48 "ResourceLedgerModel$Looker" "fault" "I" : Cond) ∈ wsX13_call := List.mem_of_getElem? (i := 3) rfl
theorem md_X13_call_5 : (.fieldLink RX13 33 "ResourceLedgerModel$Looker" "origins" "[J" : Cond) ∈ wsX13_call := List.mem_of_getElem? (i := 5) rfl
theorem md_X13_call_6 : (.fieldLink RX13 30 "ResourceLedgerModel$Looker" "types" "[J" : Cond) ∈ wsX13_call := List.mem_of_getElem? (i := 6) rfl
theorem md_X13_call_4 : (.fieldLink RX13 176 "ResourceLedgerModel$Looker" "now" "I" : Cond) ∈ wsX13_call := List.mem_of_getElem? (i := 4) rfl
set_option maxHeartbeats 4000000 in
set_option maxRecDepth 100000 in
theorem de_X13_call (l : Launch) (dC : Nat → ClassId) (dI : Nat → Nat → Nat) (cy : Nat → ClassId) (a : Nat → Nat) (sh : Nat → Nat × Nat) (n sz : Nat) (F : Nat) (z : St) (h0 : Nat) (x0 : Int32) {z8 : St} {r8 : Unit} (hf : fn_X13_call F sh n z h0 x0 = some (z8, r8)) : Met l yX13_call wsX13_call ({ frames := 6, cells := 0, slots := 0, locals := 139 }) (va_Pc [.ref (a h0), .int x0] (fun U => U.heap.size = sz ∧ va_P (dC, dI) vwCl (Wd cy a sh n z) U.heap ∧ va_K (dC, dI) vwCl (TYS cy) U ∧ va_D (fun _ => True) (Wd cy a sh n z) ∧ NK U)) (va_Qv (fun u : Unit => True) (fun u t => va_P (dC, dI) vwCl (Wd cy a sh n z8) t.heap ∧ va_K (dC, dI) vwCl (TYS cy) t ∧ va_D (va_A (Wd cy a sh n z) sz) (Wd cy a sh n z8)) (va_A (Wd cy a sh n z) sz)) 0 0 (va_A (Wd cy a sh n z) sz) := by
  refine Met.ofW (cc := cX13_call) (maxL := 13) (ret := none) (by decide) rfl ?_
  intro p e s m args below meth c s₁ B hml hv
  obtain ⟨rfl, hsz, hP, hK, hD0, hN⟩ := hv
  have hx := B.exec
  have hb := B.bytes
  have hr := B.returns
  have hts := atoms_spec (ws := wsX13_call) B.pre
  have hown : s.vm.findClass RX13 = some m.cls := findClass_of_methodNamed B.named
  have hlocks := B.notSynchronized
  subst hsz
  have hD := hD0.self (sz := s.heap.size)
  clear hD0
  generalize hAe : va_A (Wd cy a sh n z) s.heap.size = A at hD ⊢
  have hA : ∀ q : Nat, s.heap.size ≤ q → A q := fun q h => by rw [← hAe]; exact Or.inr h
  clear hAe
  have hS : va_S A s.heap s.heap [] := va_S.rf
  have hl := lv_entry ([.ref (a h0), .int x0]) (n := 13) (Nat.le_of_ble_eq_true rfl)
  rw [lg_entry_eq]
  generalize (lg_sl ([.ref (a h0), .int x0]) ++ List.replicate (13 - (lg_sl ([.ref (a h0), .int x0])).length) Slot.unset).toArray = ls at hl ⊢
  replace hl : lv_has ls 13 [(0, .ref (a h0)), (1, .int x0)] := hl
  unfold fn_X13_call at hf
  refine de_start hS hP (fun H locs hS hP => ?_)
  refine lv_aload_n hx hb dX13_call_0 rfl (lv_at hl 0 rfl) ?_
  obtain ⟨g_1, hf⟩ := grd_some hf
  obtain ⟨kg_1, sg_1⟩ := okO_at g_1
  obtain ⟨k_2, ek_2, hf⟩ := lnk_some hf
  refine va_get (D := (dC, dI)) (ci := 13) (v := .ref (a k_2)) (C := RX13) (T := TX13) (N := 22) hx hb hts iwd_X13_call_X13 hown hK hP h0 (Wd_ob kg_1 sg_1 (by decide)) rfl 0 (by decide) (hts _ md_X13_call_1) (fun _ h9 => h9) (fl_q rfl ek_2) dX13_call_1 ?_
  refine lv_iload_n hx hb dX13_call_4 rfl (lv_at hl 1 rfl) ?_
  refine lv_iconst (v := 0) hx hb dX13_call_5 (by decide) ?_
  obtain ⟨g_5, hf⟩ := grd_some hf
  obtain ⟨kg_5, sg_5⟩ := okO_at g_5
  obtain ⟨z_3, r_4, hfc, hf⟩ := cal_some hf
  have hFc := de_free hD hS hA
  refine va_calli (va_runV (As := [.int x0, .int 0]) (rest := []) ⟨hx, hb, hml, hown, hts⟩ (de_X16_many l dC dI cy a sh n H.size F z k_2 x0 0 hfc) (cwV 2 hts gX13_call_X16_many rfl rfl rfl (by decide +kernel) ⟨Nat.le_of_ble_eq_true rfl, Nat.le_of_ble_eq_true rfl⟩) ⟨fun a U g mk q => by obtain ⟨q0, q1, qP, qK, qD, qN⟩ := q; exact ⟨q0, q1, qP, va_K.moved (u := U) (U := U.calling g mk a) (Vm.Alike.refl U.vm) qK, qD, qN.same rfl⟩, va_recv hK hP (ci := 16) (q0 := k_2) rfl (Wd_ob kg_5 sg_5 (by decide)), fun U hU hW => ⟨rfl, by rw [hU], by rw [hU]; exact hP, va_K.moved hW.alike hK, hD.weaken (fun _ _ _ _ => trivial), hN.warm hW⟩⟩ rfl rfl hl.1 rfl (lv_room (Nat.le_of_ble_eq_true rfl)) dX13_call_6 ⟨Nat.le_of_ble_eq_true rfl, Nat.le_of_ble_eq_true rfl⟩) hS (fun q _ h => hFc q h) hFc (fun rr u t H_6 locs ht hvm hw hB hz1 hk1 hS2 => ?_)
  rw [hw]
  clear hw
  obtain ⟨hP1, -, hD1⟩ := hB
  rw [ht] at hP1
  replace hD := hD1.weaken (fun _ _ _ h => hFc _ h)
  replace hP := hP1
  replace hS := hS2
  clear hP1 hD1 hS2 hFc hfc hz1 hk1 hvm ht
  refine lv_istore_n (lv' := [(2, .int r_4), (0, .ref (a h0)), (1, .int x0)]) hx hb dX13_call_9 rfl hl (by decide) rfl (fun ls hl2 => ?_)
  replace hl := hl2
  clear hl2
  refine lv_aload_n hx hb dX13_call_10 rfl (lv_at hl 1 rfl) ?_
  refine va_get (D := (dC, dI)) (ci := 13) (v := .int (z_3.1 h0 14)) (C := RX13) (T := TX13) (N := 22) hx hb hts iwd_X13_call_X13 hown hK hP h0 (Wd_ob kg_1 sg_1 (by decide)) rfl 14 (by decide) (hts _ md_X13_call_2) (fun _ h9 => h9) (fl_at (t := 0) rfl) dX13_call_11 ?_
  refine lv_iload_n hx hb dX13_call_14 rfl (lv_at hl 0 rfl) ?_
  refine lv_isub hx hb dX13_call_15 ?_
  refine lv_topi (fun v_7 ev_7 => ?_)
  replace hf := lt_at ev_7 hf
  clear ev_7
  refine lv_istore_n (lv' := [(3, .int v_7), (2, .int r_4), (0, .ref (a h0)), (1, .int x0)]) hx hb dX13_call_16 rfl hl (by decide) rfl (fun ls hl2 => ?_)
  replace hl := hl2
  clear hl2
  refine lv_iload_n hx hb dX13_call_17 rfl (lv_at hl 1 rfl) ?_
  refine lv_iconst (v := 1) hx hb dX13_call_18 (by decide) ?_
  refine lv_isub hx hb dX13_call_19 ?_
  refine lv_topi (fun v_8 ev_8 => ?_)
  replace hf := lt_at ev_8 hf
  clear ev_8
  refine lv_istore (lv' := [(4, .int v_8), (3, .int v_7), (2, .int r_4), (0, .ref (a h0)), (1, .int x0)]) hx hb dX13_call_20 hl (by decide) rfl (fun ls hl2 => ?_)
  replace hl := hl2
  clear hl2
  have hl0 : lv_has ls 13 [(4, .int v_8), (3, .int v_7), (2, .int r_4), (0, .ref (a h0)), (1, .int x0)] := lv_sub hl [0, 1, 2, 3, 4] rfl
  refine de_loop (h := 22) (fun (x : St × Int32) ls H locs => lv_has ls 13 [(4, .int x.2), (3, .int v_7), (2, .int r_4), (0, .ref (a h0)), (1, .int x0)] ∧ va_P (dC, dI) vwCl (Wd cy a sh n x.1) H ∧ va_D A (Wd cy a sh n x.1) ∧ va_S A s.heap H locs) (fun f x => fn_X13_call_L22 F sh n h0 x0 r_4 v_7 f x.1 x.2) (z8, r8) ?_ (fun _ => rfl) F (z_3, v_8) ls H_6 locs ⟨hl0, hP, hD, hS⟩ hf
  intro f_11 x ls H locs ih22 hI hf
  obtain ⟨z_10, p_9⟩ := x
  obtain ⟨hl2, hP2, hD2, hS2⟩ := hI
  replace hl : lv_has ls 13 [(4, .int p_9), (3, .int v_7), (2, .int r_4), (0, .ref (a h0)), (1, .int x0)] := hl2
  replace hP := hP2
  replace hD := hD2
  replace hS := hS2
  clear hl2 hP2 hD2 hS2 hl0
  replace hf := fn_X13_call_L22_s hf
  refine lv_iload hx hb dX13_call_22 (lv_at hl 0 rfl) ?_
  refine lv_if_lt (tgt := 48) hx hb dX13_call_24 (by decide) (fun c_12 => ?_) (fun c_12 => ?_)
  · skip
    rw [if_pos c_12] at hf
    refine lv_aload_n hx hb dX13_call_48 rfl (lv_at hl 3 rfl) ?_
    refine va_get (D := (dC, dI)) (ci := 13) (v := .int (z_10.1 h0 18)) (C := RX13) (T := TX13) (N := 22) hx hb hts iwd_X13_call_X13 hown hK hP h0 (Wd_ob kg_1 sg_1 (by decide)) rfl 18 (by decide) (hts _ md_X13_call_3) (fun _ h9 => h9) (fl_at (t := 0) rfl) dX13_call_49 ?_
    refine lv_if_eq (tgt := 56) hx hb dX13_call_52 (by decide) (fun c_13 => ?_) (fun c_13 => ?_)
    · skip
      rw [if_pos c_13] at hf
      refine lv_aload_n hx hb dX13_call_56 rfl (lv_at hl 3 rfl) ?_
      obtain ⟨k_14, ek_14, hf⟩ := lnk_some hf
      refine va_get (D := (dC, dI)) (ci := 13) (v := .ref (a k_14)) (C := RX13) (T := TX13) (N := 22) hx hb hts iwd_X13_call_X13 hown hK hP h0 (Wd_ob kg_1 sg_1 (by decide)) rfl 0 (by decide) (hts _ md_X13_call_1) (fun _ h9 => h9) (fl_q rfl ek_14) dX13_call_57 ?_
      refine lv_iload_n hx hb dX13_call_60 rfl (lv_at hl 4 rfl) ?_
      obtain ⟨g_17, hf⟩ := grd_some hf
      obtain ⟨kg_17, sg_17⟩ := okO_at g_17
      obtain ⟨z_15, r_16, hfc, hf⟩ := cal_some hf
      have hFc := de_free hD hS hA
      refine va_calli (va_runV (As := [.int x0]) (rest := []) ⟨hx, hb, hml, hown, hts⟩ (de_X16_flags l dC dI cy a sh n H.size F z_10 k_14 x0 hfc) (cwV 1 hts gX13_call_X16_flags rfl rfl rfl (by decide +kernel) ⟨Nat.le_of_ble_eq_true rfl, Nat.le_of_ble_eq_true rfl⟩) ⟨fun a U g mk q => by obtain ⟨q0, q1, qP, qK, qD, qN⟩ := q; exact ⟨q0, q1, qP, va_K.moved (u := U) (U := U.calling g mk a) (Vm.Alike.refl U.vm) qK, qD, qN.same rfl⟩, va_recv hK hP (ci := 16) (q0 := k_14) rfl (Wd_ob kg_17 sg_17 (by decide)), fun U hU hW => ⟨rfl, by rw [hU], by rw [hU]; exact hP, va_K.moved hW.alike hK, hD.weaken (fun _ _ _ _ => trivial), hN.warm hW⟩⟩ rfl rfl hl.1 rfl (lv_room (Nat.le_of_ble_eq_true rfl)) dX13_call_61 ⟨Nat.le_of_ble_eq_true rfl, Nat.le_of_ble_eq_true rfl⟩) hS (fun q _ h => hFc q h) hFc (fun rr u t H_18 locs ht hvm hw hB hz1 hk1 hS2 => ?_)
      rw [hw]
      clear hw
      obtain ⟨hP1, -, hD1⟩ := hB
      rw [ht] at hP1
      replace hD := hD1.weaken (fun _ _ _ h => hFc _ h)
      replace hP := hP1
      replace hS := hS2
      clear hP1 hD1 hS2 hFc hfc hz1 hk1 hvm ht
      refine lv_iconst (v := 4) hx hb dX13_call_64 (by decide) ?_
      refine lv_iand hx hb dX13_call_65 ?_
      refine de_cut (h := 74) (fun (x : St × Int32) => [.int x.2]) (fun x ls H locs => lv_has ls 13 [(3, .int v_7), (2, .int r_4), (0, .ref (a h0)), (1, .int x0)] ∧ va_P (dC, dI) vwCl (Wd cy a sh n x.1) H ∧ va_D A (Wd cy a sh n x.1) ∧ va_S A s.heap H locs) (fun x => fn_X13_call_B74 F sh n h0 r_4 x0 v_7 x.1 x.2) (z8, r8) ?_ (fun B74 => ?_)
      · intro x ls H locs hI hf
        obtain ⟨z_20, p_19⟩ := x
        obtain ⟨hl2, hP2, hD2, hS2⟩ := hI
        replace hl : lv_has ls 13 [(3, .int v_7), (2, .int r_4), (0, .ref (a h0)), (1, .int x0)] := hl2
        replace hP := hP2
        replace hD := hD2
        replace hS := hS2
        clear hl2 hP2 hD2 hS2
        replace hf := fn_X13_call_B74_s hf
        refine W.eq (g2 := F0 m 74 ls [.int p_19]) rfl ?_
        refine lv_istore (lv' := [(4, .int p_19), (3, .int v_7), (2, .int r_4), (0, .ref (a h0)), (1, .int x0)]) hx hb dX13_call_74 hl (by decide) rfl (fun ls hl2 => ?_)
        replace hl := hl2
        clear hl2
        refine lv_aload_n hx hb dX13_call_76 rfl (lv_at hl 3 rfl) ?_
        refine lv_iload hx hb dX13_call_77 (lv_at hl 0 rfl) ?_
        refine de_cut (h := 103) (fun (x : St × Int32) => [.int x.2, .ref (a h0)]) (fun x ls H locs => lv_has ls 13 [(4, .int p_19), (3, .int v_7), (2, .int r_4), (0, .ref (a h0)), (1, .int x0)] ∧ va_P (dC, dI) vwCl (Wd cy a sh n x.1) H ∧ va_D A (Wd cy a sh n x.1) ∧ va_S A s.heap H locs) (fun x => fn_X13_call_B103 F sh n h0 r_4 p_19 x0 v_7 x.1 x.2) (z8, r8) ?_ (fun B103 => ?_)
        · intro x ls H locs hI hf
          obtain ⟨z_22, p_21⟩ := x
          obtain ⟨hl2, hP2, hD2, hS2⟩ := hI
          replace hl : lv_has ls 13 [(4, .int p_19), (3, .int v_7), (2, .int r_4), (0, .ref (a h0)), (1, .int x0)] := hl2
          replace hP := hP2
          replace hD := hD2
          replace hS := hS2
          clear hl2 hP2 hD2 hS2
          replace hf := fn_X13_call_B103_s hf
          refine W.eq (g2 := F0 m 103 ls [.int p_21, .ref (a h0)]) rfl ?_
          refine lv_bipush (v := 15) hx hb dX13_call_103 (by decide) ?_
          obtain ⟨z_23, _u, hfc, hf⟩ := cal_some hf
          have hFc := de_free hD hS hA
          refine va_callv (va_runV (As := [.int p_21, .int 15]) (rest := []) ⟨hx, hb, hml, hown, hts⟩ (de_X13_need l dC dI cy a sh n H.size F z_22 h0 p_21 15 hfc) (cwV 2 hts gX13_call_X13_need rfl rfl rfl (by decide +kernel) ⟨Nat.le_of_ble_eq_true rfl, Nat.le_of_ble_eq_true rfl⟩) ⟨fun a U g mk q => by obtain ⟨q0, q1, qP, qK, qD, qN⟩ := q; exact ⟨q0, q1, qP, va_K.moved (u := U) (U := U.calling g mk a) (Vm.Alike.refl U.vm) qK, qD, qN.same rfl⟩, va_recv hK hP (ci := 13) (q0 := h0) rfl (Wd_ob kg_1 sg_1 (by decide)), fun U hU hW => ⟨rfl, by rw [hU], by rw [hU]; exact hP, va_K.moved hW.alike hK, hD.weaken (fun _ _ _ _ => trivial), hN.warm hW⟩⟩ rfl rfl hl.1 rfl (lv_room (Nat.le_of_ble_eq_true rfl)) dX13_call_105 ⟨Nat.le_of_ble_eq_true rfl, Nat.le_of_ble_eq_true rfl⟩) hS (fun q _ h => hFc q h) hFc (fun u t H_24 locs ht hvm hw hB hz1 hk1 hS2 => ?_)
          obtain ⟨hP1, -, hD1⟩ := hB
          rw [ht] at hP1
          replace hD := hD1.weaken (fun _ _ _ h => hFc _ h)
          replace hP := hP1
          replace hS := hS2
          clear hP1 hD1 hS2 hFc hfc hz1 hk1 hvm ht
          refine lv_lconst (v := 0) hx hb dX13_call_108 (by decide) ?_
          refine lv_lstore (lv' := [(5, .long 0), (4, .int p_19), (3, .int v_7), (2, .int r_4), (0, .ref (a h0)), (1, .int x0)]) hx hb dX13_call_109 hl (by decide) rfl (fun ls hl2 => ?_)
          replace hl := hl2
          clear hl2
          refine lv_lconst (v := 0) hx hb dX13_call_111 (by decide) ?_
          refine lv_lstore (lv' := [(7, .long 0), (5, .long 0), (4, .int p_19), (3, .int v_7), (2, .int r_4), (0, .ref (a h0)), (1, .int x0)]) hx hb dX13_call_112 hl (by decide) rfl (fun ls hl2 => ?_)
          replace hl := hl2
          clear hl2
          refine lv_iconst (v := 0) hx hb dX13_call_114 (by decide) ?_
          refine lv_istore (lv' := [(9, .int 0), (7, .long 0), (5, .long 0), (4, .int p_19), (3, .int v_7), (2, .int r_4), (0, .ref (a h0)), (1, .int x0)]) hx hb dX13_call_115 hl (by decide) rfl (fun ls hl2 => ?_)
          replace hl := hl2
          clear hl2
          have hl0 : lv_has ls 13 [(9, .int 0), (7, .long 0), (5, .long 0), (4, .int p_19), (3, .int v_7), (2, .int r_4), (0, .ref (a h0)), (1, .int x0)] := lv_sub hl [0, 1, 2, 3, 4, 5, 6, 7] rfl
          refine de_loop (h := 117) (fun (x : St × Int64 × Int64 × Int32) ls H locs => lv_has ls 13 [(9, .int x.2.2.2), (7, .long x.2.2.1), (5, .long x.2.1), (4, .int p_19), (3, .int v_7), (2, .int r_4), (0, .ref (a h0)), (1, .int x0)] ∧ va_P (dC, dI) vwCl (Wd cy a sh n x.1) H ∧ va_D A (Wd cy a sh n x.1) ∧ va_S A s.heap H locs) (fun f x => fn_X13_call_L117 F sh n r_4 p_19 h0 x0 v_7 f x.1 x.2.1 x.2.2.1 x.2.2.2) (z8, r8) ?_ (fun _ => rfl) F (z_23, 0, 0, 0) ls H_24 locs ⟨hl0, hP, hD, hS⟩ hf
          intro f_29 x ls H locs ih117 hI hf
          obtain ⟨z_28, p_25, p_26, p_27⟩ := x
          obtain ⟨hl2, hP2, hD2, hS2⟩ := hI
          replace hl : lv_has ls 13 [(9, .int p_27), (7, .long p_26), (5, .long p_25), (4, .int p_19), (3, .int v_7), (2, .int r_4), (0, .ref (a h0)), (1, .int x0)] := hl2
          replace hP := hP2
          replace hD := hD2
          replace hS := hS2
          clear hl2 hP2 hD2 hS2 hl0
          replace hf := fn_X13_call_L117_s hf
          refine lv_iload hx hb dX13_call_117 (lv_at hl 0 rfl) ?_
          refine lv_iload_n hx hb dX13_call_119 rfl (lv_at hl 5 rfl) ?_
          refine lv_icmp_ge (tgt := 251) hx hb dX13_call_120 (by decide) (fun c_30 => ?_) (fun c_30 => ?_)
          · skip
            rw [if_pos c_30] at hf
            refine lv_lload hx hb dX13_call_251 (lv_at hl 2 rfl) ?_
            refine lv_bipush (v := 48) hx hb dX13_call_253 (by decide) ?_
            refine lv_lushr (v := ((p_25 : Int64).toUInt64 >>> ((48 : Int32).toInt64.toUInt64 &&& Int64.toUInt64 63)).toInt64) hx hb dX13_call_255 rfl ?_
            refine lv_lconst (v := 0) hx hb dX13_call_256 (by decide) ?_
            refine W.lcmp hx hb dX13_call_257 ?_
            refine de_cut (h := 266) (fun (x : St × Int32) => [.int x.2]) (fun x ls H locs => lv_has ls 13 [(7, .long p_26), (5, .long p_25), (4, .int p_19), (0, .ref (a h0)), (1, .int x0)] ∧ va_P (dC, dI) vwCl (Wd cy a sh n x.1) H ∧ va_D A (Wd cy a sh n x.1) ∧ va_S A s.heap H locs) (fun x => fn_X13_call_B266 F sh n p_19 h0 x0 p_25 p_26 x.1 x.2) (z8, r8) ?_ (fun B266 => ?_)
            · intro x ls H locs hI hf
              obtain ⟨z_32, p_31⟩ := x
              obtain ⟨hl2, hP2, hD2, hS2⟩ := hI
              replace hl : lv_has ls 13 [(7, .long p_26), (5, .long p_25), (4, .int p_19), (0, .ref (a h0)), (1, .int x0)] := hl2
              replace hP := hP2
              replace hD := hD2
              replace hS := hS2
              clear hl2 hP2 hD2 hS2
              replace hf := fn_X13_call_B266_s hf
              refine W.eq (g2 := F0 m 266 ls [.int p_31]) rfl ?_
              refine lv_istore (lv' := [(9, .int p_31), (7, .long p_26), (5, .long p_25), (4, .int p_19), (0, .ref (a h0)), (1, .int x0)]) hx hb dX13_call_266 hl (by decide) rfl (fun ls hl2 => ?_)
              replace hl := hl2
              clear hl2
              refine lv_bipush (v := 48) hx hb dX13_call_268 (by decide) ?_
              refine lv_istore (lv' := [(10, .int 48), (9, .int p_31), (7, .long p_26), (5, .long p_25), (4, .int p_19), (0, .ref (a h0)), (1, .int x0)]) hx hb dX13_call_270 hl (by decide) rfl (fun ls hl2 => ?_)
              replace hl := hl2
              clear hl2
              have hl0 : lv_has ls 13 [(10, .int 48), (9, .int p_31), (7, .long p_26), (5, .long p_25), (4, .int p_19), (0, .ref (a h0)), (1, .int x0)] := lv_sub hl [0, 1, 2, 3, 4, 5, 6] rfl
              refine de_loop (h := 272) (fun (x : St × Int32 × Int32) ls H locs => lv_has ls 13 [(10, .int x.2.2), (9, .int x.2.1), (7, .long p_26), (5, .long p_25), (4, .int p_19), (0, .ref (a h0)), (1, .int x0)] ∧ va_P (dC, dI) vwCl (Wd cy a sh n x.1) H ∧ va_D A (Wd cy a sh n x.1) ∧ va_S A s.heap H locs) (fun f x => fn_X13_call_L272 F sh n p_19 h0 x0 p_25 p_26 f x.1 x.2.1 x.2.2) (z8, r8) ?_ (fun _ => rfl) F (z_32, p_31, 48) ls H locs ⟨hl0, hP, hD, hS⟩ hf
              intro f_36 x ls H locs ih272 hI hf
              obtain ⟨z_35, p_33, p_34⟩ := x
              obtain ⟨hl2, hP2, hD2, hS2⟩ := hI
              replace hl : lv_has ls 13 [(10, .int p_34), (9, .int p_33), (7, .long p_26), (5, .long p_25), (4, .int p_19), (0, .ref (a h0)), (1, .int x0)] := hl2
              replace hP := hP2
              replace hD := hD2
              replace hS := hS2
              clear hl2 hP2 hD2 hS2 hl0
              replace hf := fn_X13_call_L272_s hf
              refine lv_iload hx hb dX13_call_272 (lv_at hl 0 rfl) ?_
              refine lv_bipush (v := 63) hx hb dX13_call_274 (by decide) ?_
              refine lv_icmp_ge (tgt := 307) hx hb dX13_call_276 (by decide) (fun c_37 => ?_) (fun c_37 => ?_)
              · skip
                rw [if_pos c_37] at hf
                refine lv_aload_n hx hb dX13_call_307 rfl (lv_at hl 5 rfl) ?_
                refine lv_iload hx hb dX13_call_308 (lv_at hl 4 rfl) ?_
                refine de_cut (h := 323) (fun (x : St × Int32) => [.int x.2, .ref (a h0)]) (fun x ls H locs => lv_has ls 13 [(7, .long p_26), (5, .long p_25), (0, .ref (a h0)), (1, .int x0)] ∧ va_P (dC, dI) vwCl (Wd cy a sh n x.1) H ∧ va_D A (Wd cy a sh n x.1) ∧ va_S A s.heap H locs) (fun x => fn_X13_call_B323 F sh n h0 x0 p_25 p_26 x.1 x.2) (z8, r8) ?_ (fun B323 => ?_)
                · intro x ls H locs hI hf
                  obtain ⟨z_39, p_38⟩ := x
                  obtain ⟨hl2, hP2, hD2, hS2⟩ := hI
                  replace hl : lv_has ls 13 [(7, .long p_26), (5, .long p_25), (0, .ref (a h0)), (1, .int x0)] := hl2
                  replace hP := hP2
                  replace hD := hD2
                  replace hS := hS2
                  clear hl2 hP2 hD2 hS2
                  replace hf := fn_X13_call_B323_s hf
                  refine W.eq (g2 := F0 m 323 ls [.int p_38, .ref (a h0)]) rfl ?_
                  refine lv_bipush (v := 6) hx hb dX13_call_323 (by decide) ?_
                  obtain ⟨z_40, _u, hfc, hf⟩ := cal_some hf
                  have hFc := de_free hD hS hA
                  refine va_callv (va_runV (As := [.int p_38, .int 6]) (rest := []) ⟨hx, hb, hml, hown, hts⟩ (de_X13_need l dC dI cy a sh n H.size F z_39 h0 p_38 6 hfc) (cwV 2 hts gX13_call_X13_need rfl rfl rfl (by decide +kernel) ⟨Nat.le_of_ble_eq_true rfl, Nat.le_of_ble_eq_true rfl⟩) ⟨fun a U g mk q => by obtain ⟨q0, q1, qP, qK, qD, qN⟩ := q; exact ⟨q0, q1, qP, va_K.moved (u := U) (U := U.calling g mk a) (Vm.Alike.refl U.vm) qK, qD, qN.same rfl⟩, va_recv hK hP (ci := 13) (q0 := h0) rfl (Wd_ob kg_1 sg_1 (by decide)), fun U hU hW => ⟨rfl, by rw [hU], by rw [hU]; exact hP, va_K.moved hW.alike hK, hD.weaken (fun _ _ _ _ => trivial), hN.warm hW⟩⟩ rfl rfl hl.1 rfl (lv_room (Nat.le_of_ble_eq_true rfl)) dX13_call_325 ⟨Nat.le_of_ble_eq_true rfl, Nat.le_of_ble_eq_true rfl⟩) hS (fun q _ h => hFc q h) hFc (fun u t H_41 locs ht hvm hw hB hz1 hk1 hS2 => ?_)
                  obtain ⟨hP1, -, hD1⟩ := hB
                  rw [ht] at hP1
                  replace hD := hD1.weaken (fun _ _ _ h => hFc _ h)
                  replace hP := hP1
                  replace hS := hS2
                  clear hP1 hD1 hS2 hFc hfc hz1 hk1 hvm ht
                  refine lv_iconst (v := 0) hx hb dX13_call_328 (by decide) ?_
                  refine lv_istore (lv' := [(10, .int 0), (7, .long p_26), (5, .long p_25), (0, .ref (a h0)), (1, .int x0)]) hx hb dX13_call_329 hl (by decide) rfl (fun ls hl2 => ?_)
                  replace hl := hl2
                  clear hl2
                  have hl0 : lv_has ls 13 [(10, .int 0), (7, .long p_26), (5, .long p_25), (0, .ref (a h0)), (1, .int x0)] := lv_sub hl [0, 1, 2, 3, 4] rfl
                  refine de_loop (h := 331) (fun (x : St × Int32) ls H locs => lv_has ls 13 [(10, .int x.2), (7, .long p_26), (5, .long p_25), (0, .ref (a h0)), (1, .int x0)] ∧ va_P (dC, dI) vwCl (Wd cy a sh n x.1) H ∧ va_D A (Wd cy a sh n x.1) ∧ va_S A s.heap H locs) (fun f x => fn_X13_call_L331 F sh n h0 x0 p_25 p_26 f x.1 x.2) (z8, r8) ?_ (fun _ => rfl) F (z_40, 0) ls H_41 locs ⟨hl0, hP, hD, hS⟩ hf
                  intro f_44 x ls H locs ih331 hI hf
                  obtain ⟨z_43, p_42⟩ := x
                  obtain ⟨hl2, hP2, hD2, hS2⟩ := hI
                  replace hl : lv_has ls 13 [(10, .int p_42), (7, .long p_26), (5, .long p_25), (0, .ref (a h0)), (1, .int x0)] := hl2
                  replace hP := hP2
                  replace hD := hD2
                  replace hS := hS2
                  clear hl2 hP2 hD2 hS2 hl0
                  replace hf := fn_X13_call_L331_s hf
                  refine lv_iload hx hb dX13_call_331 (lv_at hl 0 rfl) ?_
                  refine lv_aload_n hx hb dX13_call_333 rfl (lv_at hl 3 rfl) ?_
                  obtain ⟨k_45, ek_45, hf⟩ := lnk_some hf
                  refine va_get (D := (dC, dI)) (ci := 13) (v := .ref (a k_45)) (C := RX13) (T := TX13) (N := 22) hx hb hts iwd_X13_call_X13 hown hK hP h0 (Wd_ob kg_1 sg_1 (by decide)) rfl 0 (by decide) (hts _ md_X13_call_1) (fun _ h9 => h9) (fl_q rfl ek_45) dX13_call_334 ?_
                  refine lv_iload_n hx hb dX13_call_337 rfl (lv_at hl 4 rfl) ?_
                  refine lv_iconst (v := 1) hx hb dX13_call_338 (by decide) ?_
                  obtain ⟨g_48, hf⟩ := grd_some hf
                  obtain ⟨kg_48, sg_48⟩ := okO_at g_48
                  obtain ⟨z_46, r_47, hfc, hf⟩ := cal_some hf
                  have hFc := de_free hD hS hA
                  refine va_calli (va_runV (As := [.int x0, .int 1]) (rest := [.int p_42]) ⟨hx, hb, hml, hown, hts⟩ (de_X16_many l dC dI cy a sh n H.size F z_43 k_45 x0 1 hfc) (cwV 2 hts gX13_call_X16_many rfl rfl rfl (by decide +kernel) ⟨Nat.le_of_ble_eq_true rfl, Nat.le_of_ble_eq_true rfl⟩) ⟨fun a U g mk q => by obtain ⟨q0, q1, qP, qK, qD, qN⟩ := q; exact ⟨q0, q1, qP, va_K.moved (u := U) (U := U.calling g mk a) (Vm.Alike.refl U.vm) qK, qD, qN.same rfl⟩, va_recv hK hP (ci := 16) (q0 := k_45) rfl (Wd_ob kg_48 sg_48 (by decide)), fun U hU hW => ⟨rfl, by rw [hU], by rw [hU]; exact hP, va_K.moved hW.alike hK, hD.weaken (fun _ _ _ _ => trivial), hN.warm hW⟩⟩ rfl rfl hl.1 rfl (lv_room (Nat.le_of_ble_eq_true rfl)) dX13_call_339 ⟨Nat.le_of_ble_eq_true rfl, Nat.le_of_ble_eq_true rfl⟩) hS (fun q _ h => hFc q h) hFc (fun rr u t H_49 locs ht hvm hw hB hz1 hk1 hS2 => ?_)
                  rw [hw]
                  clear hw
                  obtain ⟨hP1, -, hD1⟩ := hB
                  rw [ht] at hP1
                  replace hD := hD1.weaken (fun _ _ _ h => hFc _ h)
                  replace hP := hP1
                  replace hS := hS2
                  clear hP1 hD1 hS2 hFc hfc hz1 hk1 hvm ht
                  refine lv_icmp_ge (tgt := 386) hx hb dX13_call_342 (by decide) (fun c_50 => ?_) (fun c_50 => ?_)
                  · skip
                    rw [if_pos c_50] at hf
                    obtain ⟨h8, h9⟩ := ret_some hf
                    rw [h8]
                    exact W.vret hx hb hr (fun t ht hW => ⟨⟨(), rfl, trivial, by rw [ht]; exact hP, va_K.moved hW.alike hK, hD⟩, hS.F ht⟩) hS.2.2 dX13_call_386
                  · skip
                    rw [if_neg c_50] at hf
                    refine lv_aload_n hx hb dX13_call_345 rfl (lv_at hl 3 rfl) ?_
                    obtain ⟨k_51, ek_51, hf⟩ := lnk_some hf
                    refine va_get (D := (dC, dI)) (ci := 13) (v := .ref (a k_51)) (C := RX13) (T := TX13) (N := 22) hx hb hts iwd_X13_call_X13 hown hK hP h0 (Wd_ob kg_1 sg_1 (by decide)) rfl 0 (by decide) (hts _ md_X13_call_1) (fun _ h9 => h9) (fl_q rfl ek_51) dX13_call_346 ?_
                    refine lv_iload_n hx hb dX13_call_349 rfl (lv_at hl 4 rfl) ?_
                    refine lv_iconst (v := 1) hx hb dX13_call_350 (by decide) ?_
                    refine lv_iload hx hb dX13_call_351 (lv_at hl 0 rfl) ?_
                    obtain ⟨g_54, hf⟩ := grd_some hf
                    obtain ⟨kg_54, sg_54⟩ := okO_at g_54
                    obtain ⟨z_52, r_53, hfc, hf⟩ := cal_some hf
                    have hFc := de_free hD hS hA
                    refine va_calll (va_runV (As := [.int x0, .int 1, .int p_42]) (rest := []) ⟨hx, hb, hml, hown, hts⟩ (de_X16_listed l dC dI cy a sh n H_49.size F z_46 k_51 x0 1 p_42 hfc) (cwV 3 hts gX13_call_X16_listed rfl rfl rfl (by decide +kernel) ⟨Nat.le_of_ble_eq_true rfl, Nat.le_of_ble_eq_true rfl⟩) ⟨fun a U g mk q => by obtain ⟨q0, q1, qP, qK, qD, qN⟩ := q; exact ⟨q0, q1, qP, va_K.moved (u := U) (U := U.calling g mk a) (Vm.Alike.refl U.vm) qK, qD, qN.same rfl⟩, va_recv hK hP (ci := 16) (q0 := k_51) rfl (Wd_ob kg_54 sg_54 (by decide)), fun U hU hW => ⟨rfl, by rw [hU], by rw [hU]; exact hP, va_K.moved hW.alike hK, hD.weaken (fun _ _ _ _ => trivial), hN.warm hW⟩⟩ rfl rfl hl.1 rfl (lv_room (Nat.le_of_ble_eq_true rfl)) dX13_call_353 ⟨Nat.le_of_ble_eq_true rfl, Nat.le_of_ble_eq_true rfl⟩) hS (fun q _ h => hFc q h) hFc (fun rr u t H_55 locs ht hvm hw hB hz1 hk1 hS2 => ?_)
                    rw [hw]
                    clear hw
                    obtain ⟨hP1, -, hD1⟩ := hB
                    rw [ht] at hP1
                    replace hD := hD1.weaken (fun _ _ _ h => hFc _ h)
                    replace hP := hP1
                    replace hS := hS2
                    clear hP1 hD1 hS2 hFc hfc hz1 hk1 hvm ht
                    refine lv_lstore (lv' := [(11, .long r_53), (10, .int p_42), (7, .long p_26), (5, .long p_25), (0, .ref (a h0)), (1, .int x0)]) hx hb dX13_call_356 hl (by decide) rfl (fun ls hl2 => ?_)
                    replace hl := hl2
                    clear hl2
                    refine lv_aload_n hx hb dX13_call_358 rfl (lv_at hl 4 rfl) ?_
                    refine lv_lload hx hb dX13_call_359 (lv_at hl 0 rfl) ?_
                    refine lv_lload hx hb dX13_call_361 (lv_at hl 0 rfl) ?_
                    obtain ⟨z_56, r_57, hfc, hf⟩ := cal_some hf
                    have hFc := de_free hD hS hA
                    refine va_calli (va_runS (As := [.long r_53]) (rest := [.long r_53, .ref (a h0)]) ⟨hx, hb, hml, hown, hts⟩ (de_X13_writes l dC dI cy a sh n H_55.size F z_52 r_53 hfc) (va_cwS 1 hts gX13_call_X13_writes rfl rfl rfl (by decide +kernel) ⟨Nat.le_of_ble_eq_true rfl, Nat.le_of_ble_eq_true rfl⟩) ⟨fun a U g mk q => by obtain ⟨q0, q1, qP, qK, qD, qN⟩ := q; exact ⟨q0, q1, qP, va_K.moved (u := U) (U := U.calling g mk a) (Vm.Alike.refl U.vm) qK, qD, qN.same rfl⟩, fun U hU hW => ⟨rfl, by rw [hU], by rw [hU]; exact hP, va_K.moved hW.alike hK, hD.weaken (fun _ _ _ _ => trivial), hN.warm hW⟩⟩ rfl rfl hl.1 rfl (lv_room (Nat.le_of_ble_eq_true rfl)) dX13_call_363 ⟨Nat.le_of_ble_eq_true rfl, Nat.le_of_ble_eq_true rfl⟩) hS (fun q _ h => hFc q h) hFc (fun rr u t H_58 locs ht hvm hw hB hz1 hk1 hS2 => ?_)
                    rw [hw]
                    clear hw
                    obtain ⟨hP1, -, hD1⟩ := hB
                    rw [ht] at hP1
                    replace hD := hD1.weaken (fun _ _ _ h => hFc _ h)
                    replace hP := hP1
                    replace hS := hS2
                    clear hP1 hD1 hS2 hFc hfc hz1 hk1 hvm ht
                    refine de_cut (h := 376) (fun (x : St × Int64) => [.long x.2, .long r_53, .ref (a h0)]) (fun x ls H locs => lv_has ls 13 [(10, .int p_42), (7, .long p_26), (5, .long p_25), (0, .ref (a h0)), (1, .int x0)] ∧ va_P (dC, dI) vwCl (Wd cy a sh n x.1) H ∧ va_D A (Wd cy a sh n x.1) ∧ va_S A s.heap H locs) (fun x => fn_X13_call_B376 F sh n h0 r_53 p_42 (fun z9 q10 => fn_X13_call_L331 F sh n h0 x0 p_25 p_26 f_44 z9 q10) x.1 x.2) (z8, r8) ?_ (fun B376 => ?_)
                    · intro x ls H locs hI hf
                      obtain ⟨z_60, p_59⟩ := x
                      obtain ⟨hl2, hP2, hD2, hS2⟩ := hI
                      replace hl : lv_has ls 13 [(10, .int p_42), (7, .long p_26), (5, .long p_25), (0, .ref (a h0)), (1, .int x0)] := hl2
                      replace hP := hP2
                      replace hD := hD2
                      replace hS := hS2
                      clear hl2 hP2 hD2 hS2
                      replace hf := fn_X13_call_B376_s hf
                      refine W.eq (g2 := F0 m 376 ls [.long p_59, .long r_53, .ref (a h0)]) rfl ?_
                      refine lv_iconst (v := 1) hx hb dX13_call_376 (by decide) ?_
                      obtain ⟨z_61, _u, hfc, hf⟩ := cal_some hf
                      have hFc := de_free hD hS hA
                      refine va_callv (va_runV (As := [.long r_53, .long p_59, .int 1]) (rest := []) ⟨hx, hb, hml, hown, hts⟩ (de_X13_push l dC dI cy a sh n H.size F z_60 h0 r_53 p_59 1 hfc) (cwV 3 hts gX13_call_X13_push rfl rfl rfl (by decide +kernel) ⟨Nat.le_of_ble_eq_true rfl, Nat.le_of_ble_eq_true rfl⟩) ⟨fun a U g mk q => by obtain ⟨q0, q1, qP, qK, qD, qN⟩ := q; exact ⟨q0, q1, qP, va_K.moved (u := U) (U := U.calling g mk a) (Vm.Alike.refl U.vm) qK, qD, qN.same rfl⟩, va_recv hK hP (ci := 13) (q0 := h0) rfl (Wd_ob kg_1 sg_1 (by decide)), fun U hU hW => ⟨rfl, by rw [hU], by rw [hU]; exact hP, va_K.moved hW.alike hK, hD.weaken (fun _ _ _ _ => trivial), hN.warm hW⟩⟩ rfl rfl hl.1 rfl (lv_room (Nat.le_of_ble_eq_true rfl)) dX13_call_377 ⟨Nat.le_of_ble_eq_true rfl, Nat.le_of_ble_eq_true rfl⟩) hS (fun q _ h => hFc q h) hFc (fun u t H_62 locs ht hvm hw hB hz1 hk1 hS2 => ?_)
                      obtain ⟨hP1, -, hD1⟩ := hB
                      rw [ht] at hP1
                      replace hD := hD1.weaken (fun _ _ _ h => hFc _ h)
                      replace hP := hP1
                      replace hS := hS2
                      clear hP1 hD1 hS2 hFc hfc hz1 hk1 hvm ht
                      refine lv_iinc (v := (p_42 + 1)) (lv' := [(10, .int (p_42 + 1)), (7, .long p_26), (5, .long p_25), (0, .ref (a h0)), (1, .int x0)]) hx hb dX13_call_380 hl (k := 0) rfl rfl (by decide) rfl (fun ls hl2 => ?_)
                      replace hl := hl2
                      clear hl2
                      refine lv_goto (tgt := 331) hx hb dX13_call_383 (by decide) ?_
                      exact ih331 (z_61, (p_42 + 1)) ls H_62 locs ⟨lv_sub hl [0, 1, 2, 3, 4] rfl, hP, hD, hS⟩ hf
                    refine lv_if_eq (tgt := 374) hx hb dX13_call_366 (by decide) (fun c_63 => ?_) (fun c_63 => ?_)
                    · skip
                      rw [if_pos c_63] at hf
                      refine lv_lload hx hb dX13_call_374 (lv_at hl 3 rfl) ?_
                      exact B376 (z_56, p_25) ls H_58 locs ⟨lv_sub hl [1, 2, 3, 4, 5] rfl, hP, hD, hS⟩ hf
                    · skip
                      rw [if_neg c_63] at hf
                      refine lv_lload hx hb dX13_call_369 (lv_at hl 2 rfl) ?_
                      refine lv_goto (tgt := 376) hx hb dX13_call_371 (by decide) ?_
                      exact B376 (z_56, p_26) ls H_58 locs ⟨lv_sub hl [1, 2, 3, 4, 5] rfl, hP, hD, hS⟩ hf
                refine de_cut (h := 318) (fun (x : St) => [.ref (a h0)]) (fun x ls H locs => lv_has ls 13 [(7, .long p_26), (5, .long p_25), (0, .ref (a h0)), (1, .int x0)] ∧ va_P (dC, dI) vwCl (Wd cy a sh n x) H ∧ va_D A (Wd cy a sh n x) ∧ va_S A s.heap H locs) (fun x => fn_X13_call_B318 F sh n h0 x0 p_25 p_26 x) (z8, r8) ?_ (fun B318 => ?_)
                · intro x ls H locs hI hf
                  obtain ⟨z_64, ez⟩ : ∃ w, w = x := ⟨_, rfl⟩
                  subst ez
                  obtain ⟨hl2, hP2, hD2, hS2⟩ := hI
                  replace hl : lv_has ls 13 [(7, .long p_26), (5, .long p_25), (0, .ref (a h0)), (1, .int x0)] := hl2
                  replace hP := hP2
                  replace hD := hD2
                  replace hS := hS2
                  clear hl2 hP2 hD2 hS2
                  replace hf := fn_X13_call_B318_s hf
                  refine W.eq (g2 := F0 m 318 ls [.ref (a h0)]) rfl ?_
                  refine lv_iconst (v := 1) hx hb dX13_call_318 (by decide) ?_
                  refine lv_goto (tgt := 323) hx hb dX13_call_319 (by decide) ?_
                  exact B323 (z_64, 1) ls H locs ⟨lv_sub hl [0, 1, 2, 3] rfl, hP, hD, hS⟩ hf
                refine lv_if_eq (tgt := 318) hx hb dX13_call_310 (by decide) (fun c_65 => ?_) (fun c_65 => ?_)
                · skip
                  rw [if_pos c_65] at hf
                  exact B318 (z_35) ls H locs ⟨lv_sub hl [2, 3, 5, 6] rfl, hP, hD, hS⟩ hf
                · skip
                  rw [if_neg c_65] at hf
                  refine lv_iload hx hb dX13_call_313 (lv_at hl 1 rfl) ?_
                  refine lv_if_ne (tgt := 322) hx hb dX13_call_315 (by decide) (fun c_66 => ?_) (fun c_66 => ?_)
                  · skip
                    rw [if_neg c_66] at hf
                    refine lv_iconst (v := 0) hx hb dX13_call_322 (by decide) ?_
                    exact B323 (z_35, 0) ls H locs ⟨lv_sub hl [2, 3, 5, 6] rfl, hP, hD, hS⟩ hf
                  · skip
                    rw [if_pos c_66] at hf
                    exact B318 (z_35) ls H locs ⟨lv_sub hl [2, 3, 5, 6] rfl, hP, hD, hS⟩ hf
              · skip
                rw [if_neg c_37] at hf
                refine lv_iload hx hb dX13_call_279 (lv_at hl 1 rfl) ?_
                refine de_cut (h := 299) (fun (x : St × Int32) => [.int x.2]) (fun x ls H locs => lv_has ls 13 [(10, .int p_34), (7, .long p_26), (5, .long p_25), (4, .int p_19), (0, .ref (a h0)), (1, .int x0)] ∧ va_P (dC, dI) vwCl (Wd cy a sh n x.1) H ∧ va_D A (Wd cy a sh n x.1) ∧ va_S A s.heap H locs) (fun x => fn_X13_call_B299 F sh n p_34 (fun z9 q9 q10 => fn_X13_call_L272 F sh n p_19 h0 x0 p_25 p_26 f_36 z9 q9 q10) x.1 x.2) (z8, r8) ?_ (fun B299 => ?_)
                · intro x ls H locs hI hf
                  obtain ⟨z_68, p_67⟩ := x
                  obtain ⟨hl2, hP2, hD2, hS2⟩ := hI
                  replace hl : lv_has ls 13 [(10, .int p_34), (7, .long p_26), (5, .long p_25), (4, .int p_19), (0, .ref (a h0)), (1, .int x0)] := hl2
                  replace hP := hP2
                  replace hD := hD2
                  replace hS := hS2
                  clear hl2 hP2 hD2 hS2
                  replace hf := fn_X13_call_B299_s hf
                  refine W.eq (g2 := F0 m 299 ls [.int p_67]) rfl ?_
                  refine lv_istore (lv' := [(9, .int p_67), (10, .int p_34), (7, .long p_26), (5, .long p_25), (4, .int p_19), (0, .ref (a h0)), (1, .int x0)]) hx hb dX13_call_299 hl (by decide) rfl (fun ls hl2 => ?_)
                  replace hl := hl2
                  clear hl2
                  refine lv_iinc (v := (p_34 + 1)) (lv' := [(10, .int (p_34 + 1)), (9, .int p_67), (7, .long p_26), (5, .long p_25), (4, .int p_19), (0, .ref (a h0)), (1, .int x0)]) hx hb dX13_call_301 hl (k := 1) rfl rfl (by decide) rfl (fun ls hl2 => ?_)
                  replace hl := hl2
                  clear hl2
                  refine lv_goto (tgt := 272) hx hb dX13_call_304 (by decide) ?_
                  exact ih272 (z_68, p_67, (p_34 + 1)) ls H locs ⟨lv_sub hl [0, 1, 2, 3, 4, 5, 6] rfl, hP, hD, hS⟩ hf
                refine de_cut (h := 294) (fun (x : St) => []) (fun x ls H locs => lv_has ls 13 [(10, .int p_34), (7, .long p_26), (5, .long p_25), (4, .int p_19), (0, .ref (a h0)), (1, .int x0)] ∧ va_P (dC, dI) vwCl (Wd cy a sh n x) H ∧ va_D A (Wd cy a sh n x) ∧ va_S A s.heap H locs) (fun x => fn_X13_call_B294 F sh n p_34 (fun z9 q9 q10 => fn_X13_call_L272 F sh n p_19 h0 x0 p_25 p_26 f_36 z9 q9 q10) x) (z8, r8) ?_ (fun B294 => ?_)
                · intro x ls H locs hI hf
                  obtain ⟨z_69, ez⟩ : ∃ w, w = x := ⟨_, rfl⟩
                  subst ez
                  obtain ⟨hl2, hP2, hD2, hS2⟩ := hI
                  replace hl : lv_has ls 13 [(10, .int p_34), (7, .long p_26), (5, .long p_25), (4, .int p_19), (0, .ref (a h0)), (1, .int x0)] := hl2
                  replace hP := hP2
                  replace hD := hD2
                  replace hS := hS2
                  clear hl2 hP2 hD2 hS2
                  replace hf := fn_X13_call_B294_s hf
                  refine W.eq (g2 := F0 m 294 ls []) rfl ?_
                  refine lv_iconst (v := 1) hx hb dX13_call_294 (by decide) ?_
                  refine lv_goto (tgt := 299) hx hb dX13_call_295 (by decide) ?_
                  exact B299 (z_69, 1) ls H locs ⟨lv_sub hl [0, 1, 2, 3, 4, 5] rfl, hP, hD, hS⟩ hf
                refine lv_if_ne (tgt := 294) hx hb dX13_call_281 (by decide) (fun c_70 => ?_) (fun c_70 => ?_)
                · skip
                  rw [if_neg c_70] at hf
                  exact B294 (z_35) ls H locs ⟨lv_sub hl [0, 2, 3, 4, 5, 6] rfl, hP, hD, hS⟩ hf
                · skip
                  rw [if_pos c_70] at hf
                  refine lv_aload_n hx hb dX13_call_284 rfl (lv_at hl 5 rfl) ?_
                  refine lv_iload hx hb dX13_call_285 (lv_at hl 0 rfl) ?_
                  refine lv_iconst (v := 0) hx hb dX13_call_287 (by decide) ?_
                  obtain ⟨z_71, r_72, hfc, hf⟩ := cal_some hf
                  have hFc := de_free hD hS hA
                  refine va_calli (va_runV (As := [.int p_34, .int 0]) (rest := []) ⟨hx, hb, hml, hown, hts⟩ (de_X13_isPointed l dC dI cy a sh n H.size F z_35 h0 p_34 0 hfc) (cwV 2 hts gX13_call_X13_isPointed rfl rfl rfl (by decide +kernel) ⟨Nat.le_of_ble_eq_true rfl, Nat.le_of_ble_eq_true rfl⟩) ⟨fun a U g mk q => by obtain ⟨q0, q1, qP, qK, qD, qN⟩ := q; exact ⟨q0, q1, qP, va_K.moved (u := U) (U := U.calling g mk a) (Vm.Alike.refl U.vm) qK, qD, qN.same rfl⟩, va_recv hK hP (ci := 13) (q0 := h0) rfl (Wd_ob kg_1 sg_1 (by decide)), fun U hU hW => ⟨rfl, by rw [hU], by rw [hU]; exact hP, va_K.moved hW.alike hK, hD.weaken (fun _ _ _ _ => trivial), hN.warm hW⟩⟩ rfl rfl hl.1 rfl (lv_room (Nat.le_of_ble_eq_true rfl)) dX13_call_288 ⟨Nat.le_of_ble_eq_true rfl, Nat.le_of_ble_eq_true rfl⟩) hS (fun q _ h => hFc q h) hFc (fun rr u t H_73 locs ht hvm hw hB hz1 hk1 hS2 => ?_)
                  rw [hw]
                  clear hw
                  obtain ⟨hP1, -, hD1⟩ := hB
                  rw [ht] at hP1
                  replace hD := hD1.weaken (fun _ _ _ h => hFc _ h)
                  replace hP := hP1
                  replace hS := hS2
                  clear hP1 hD1 hS2 hFc hfc hz1 hk1 hvm ht
                  refine lv_if_eq (tgt := 298) hx hb dX13_call_291 (by decide) (fun c_74 => ?_) (fun c_74 => ?_)
                  · skip
                    rw [if_pos c_74] at hf
                    refine lv_iconst (v := 0) hx hb dX13_call_298 (by decide) ?_
                    exact B299 (z_71, 0) ls H_73 locs ⟨lv_sub hl [0, 2, 3, 4, 5, 6] rfl, hP, hD, hS⟩ hf
                  · skip
                    rw [if_neg c_74] at hf
                    exact B294 (z_71) ls H_73 locs ⟨lv_sub hl [0, 2, 3, 4, 5, 6] rfl, hP, hD, hS⟩ hf
            refine lv_if_eq (tgt := 265) hx hb dX13_call_258 (by decide) (fun c_75 => ?_) (fun c_75 => ?_)
            · skip
              rw [lg_cmp_eq] at c_75
              rw [if_pos c_75] at hf
              refine lv_iconst (v := 0) hx hb dX13_call_265 (by decide) ?_
              exact B266 (z_28, 0) ls H locs ⟨lv_sub hl [1, 2, 3, 6, 7] rfl, hP, hD, hS⟩ hf
            · skip
              rw [lg_cmp_eq] at c_75
              rw [if_neg c_75] at hf
              refine lv_iconst (v := 1) hx hb dX13_call_261 (by decide) ?_
              refine lv_goto (tgt := 266) hx hb dX13_call_262 (by decide) ?_
              exact B266 (z_28, 1) ls H locs ⟨lv_sub hl [1, 2, 3, 6, 7] rfl, hP, hD, hS⟩ hf
          · skip
            rw [if_neg c_30] at hf
            refine lv_lload hx hb dX13_call_123 (lv_at hl 2 rfl) ?_
            refine lv_aload_n hx hb dX13_call_125 rfl (lv_at hl 6 rfl) ?_
            obtain ⟨k_76, ek_76, hf⟩ := lnk_some hf
            refine va_get (D := (dC, dI)) (ci := 13) (v := .ref (a k_76)) (C := RX13) (T := TX13) (N := 22) hx hb hts iwd_X13_call_X13 hown hK hP h0 (Wd_ob kg_1 sg_1 (by decide)) rfl 12 (by decide) (hts _ md_X13_call_5) (fun _ h9 => h9) (fl_q rfl ek_76) dX13_call_126 ?_
            refine lv_iload_n hx hb dX13_call_129 rfl (lv_at hl 4 rfl) ?_
            refine lv_iload hx hb dX13_call_130 (lv_at hl 0 rfl) ?_
            refine lv_iadd hx hb dX13_call_132 ?_
            obtain ⟨g_77, hf⟩ := grd_some hf
            obtain ⟨kg_77, sg_77, ig_77⟩ := okA_at g_77
            refine va_lald hx hb hK hP k_76 2 (Wd_al kg_77 sg_77) rfl ig_77 dX13_call_133 ?_
            refine lv_lor hx hb dX13_call_134 ?_
            refine lv_topl (fun v_78 ev_78 => ?_)
            replace hf := lt_at ev_78 hf
            clear ev_78
            refine lv_lstore (lv' := [(5, .long v_78), (9, .int p_27), (7, .long p_26), (4, .int p_19), (3, .int v_7), (2, .int r_4), (0, .ref (a h0)), (1, .int x0)]) hx hb dX13_call_135 hl (by decide) rfl (fun ls hl2 => ?_)
            replace hl := hl2
            clear hl2
            refine lv_aload_n hx hb dX13_call_137 rfl (lv_at hl 6 rfl) ?_
            obtain ⟨k_79, ek_79, hf⟩ := lnk_some hf
            refine va_get (D := (dC, dI)) (ci := 13) (v := .ref (a k_79)) (C := RX13) (T := TX13) (N := 22) hx hb hts iwd_X13_call_X13 hown hK hP h0 (Wd_ob kg_1 sg_1 (by decide)) rfl 11 (by decide) (hts _ md_X13_call_6) (fun _ h9 => h9) (fl_q rfl ek_79) dX13_call_138 ?_
            refine lv_iload_n hx hb dX13_call_141 rfl (lv_at hl 4 rfl) ?_
            refine lv_iload hx hb dX13_call_142 (lv_at hl 1 rfl) ?_
            refine lv_iadd hx hb dX13_call_144 ?_
            obtain ⟨g_80, hf⟩ := grd_some hf
            obtain ⟨kg_80, sg_80, ig_80⟩ := okA_at g_80
            refine va_lald hx hb hK hP k_79 2 (Wd_al kg_80 sg_80) rfl ig_80 dX13_call_145 ?_
            obtain ⟨z_81, r_82, hfc, hf⟩ := cal_some hf
            have hFc := de_free hD hS hA
            refine va_calli (va_runS (As := [.long (z_28.2.1 k_79 (v_7 + p_27).toNatClampNeg)]) (rest := []) ⟨hx, hb, hml, hown, hts⟩ (de_X13_writes l dC dI cy a sh n H.size F z_28 (z_28.2.1 k_79 (v_7 + p_27).toNatClampNeg) hfc) (va_cwS 1 hts gX13_call_X13_writes rfl rfl rfl (by decide +kernel) ⟨Nat.le_of_ble_eq_true rfl, Nat.le_of_ble_eq_true rfl⟩) ⟨fun a U g mk q => by obtain ⟨q0, q1, qP, qK, qD, qN⟩ := q; exact ⟨q0, q1, qP, va_K.moved (u := U) (U := U.calling g mk a) (Vm.Alike.refl U.vm) qK, qD, qN.same rfl⟩, fun U hU hW => ⟨rfl, by rw [hU], by rw [hU]; exact hP, va_K.moved hW.alike hK, hD.weaken (fun _ _ _ _ => trivial), hN.warm hW⟩⟩ rfl rfl hl.1 rfl (lv_room (Nat.le_of_ble_eq_true rfl)) dX13_call_146 ⟨Nat.le_of_ble_eq_true rfl, Nat.le_of_ble_eq_true rfl⟩) hS (fun q _ h => hFc q h) hFc (fun rr u t H_83 locs ht hvm hw hB hz1 hk1 hS2 => ?_)
            rw [hw]
            clear hw
            obtain ⟨hP1, -, hD1⟩ := hB
            rw [ht] at hP1
            replace hD := hD1.weaken (fun _ _ _ h => hFc _ h)
            replace hP := hP1
            replace hS := hS2
            clear hP1 hD1 hS2 hFc hfc hz1 hk1 hvm ht
            refine de_cut (h := 245) (fun (x : St × Int64) => []) (fun x ls H locs => lv_has ls 13 [(7, .long x.2), (5, .long v_78), (9, .int p_27), (4, .int p_19), (3, .int v_7), (2, .int r_4), (0, .ref (a h0)), (1, .int x0)] ∧ va_P (dC, dI) vwCl (Wd cy a sh n x.1) H ∧ va_D A (Wd cy a sh n x.1) ∧ va_S A s.heap H locs) (fun x => fn_X13_call_B245 F sh n v_78 p_27 (fun z9 q5 q7 q9 => fn_X13_call_L117 F sh n r_4 p_19 h0 x0 v_7 f_29 z9 q5 q7 q9) x.1 x.2) (z8, r8) ?_ (fun B245 => ?_)
            · intro x ls H locs hI hf
              obtain ⟨z_85, p_84⟩ := x
              obtain ⟨hl2, hP2, hD2, hS2⟩ := hI
              replace hl : lv_has ls 13 [(7, .long p_84), (5, .long v_78), (9, .int p_27), (4, .int p_19), (3, .int v_7), (2, .int r_4), (0, .ref (a h0)), (1, .int x0)] := hl2
              replace hP := hP2
              replace hD := hD2
              replace hS := hS2
              clear hl2 hP2 hD2 hS2
              replace hf := fn_X13_call_B245_s hf
              refine W.eq (g2 := F0 m 245 ls []) rfl ?_
              refine lv_iinc (v := (p_27 + 1)) (lv' := [(9, .int (p_27 + 1)), (7, .long p_84), (5, .long v_78), (4, .int p_19), (3, .int v_7), (2, .int r_4), (0, .ref (a h0)), (1, .int x0)]) hx hb dX13_call_245 hl (k := 2) rfl rfl (by decide) rfl (fun ls hl2 => ?_)
              replace hl := hl2
              clear hl2
              refine lv_goto (tgt := 117) hx hb dX13_call_248 (by decide) ?_
              exact ih117 (z_85, v_78, p_84, (p_27 + 1)) ls H locs ⟨lv_sub hl [0, 1, 2, 3, 4, 5, 6, 7] rfl, hP, hD, hS⟩ hf
            refine lv_if_ne (tgt := 155) hx hb dX13_call_149 (by decide) (fun c_86 => ?_) (fun c_86 => ?_)
            · skip
              rw [if_neg c_86] at hf
              refine lv_lload hx hb dX13_call_155 (lv_at hl 2 rfl) ?_
              refine lv_aload_n hx hb dX13_call_157 rfl (lv_at hl 6 rfl) ?_
              obtain ⟨k_87, ek_87, hf⟩ := lnk_some hf
              refine va_get (D := (dC, dI)) (ci := 13) (v := .ref (a k_87)) (C := RX13) (T := TX13) (N := 22) hx hb hts iwd_X13_call_X13 hown hK hP h0 (Wd_ob kg_1 sg_1 (by decide)) rfl 12 (by decide) (hts _ md_X13_call_5) (fun _ h9 => h9) (fl_q rfl ek_87) dX13_call_158 ?_
              refine lv_iload_n hx hb dX13_call_161 rfl (lv_at hl 4 rfl) ?_
              refine lv_iload hx hb dX13_call_162 (lv_at hl 1 rfl) ?_
              refine lv_iadd hx hb dX13_call_164 ?_
              obtain ⟨g_88, hf⟩ := grd_some hf
              obtain ⟨kg_88, sg_88, ig_88⟩ := okA_at g_88
              refine va_lald hx hb hK hP k_87 2 (Wd_al kg_88 sg_88) rfl ig_88 dX13_call_165 ?_
              refine lv_lor hx hb dX13_call_166 ?_
              refine lv_topl (fun v_89 ev_89 => ?_)
              replace hf := lt_at ev_89 hf
              clear ev_89
              refine lv_lstore (lv' := [(7, .long v_89), (5, .long v_78), (9, .int p_27), (4, .int p_19), (3, .int v_7), (2, .int r_4), (0, .ref (a h0)), (1, .int x0)]) hx hb dX13_call_167 hl (by decide) rfl (fun ls hl2 => ?_)
              replace hl := hl2
              clear hl2
              refine lv_aload_n hx hb dX13_call_169 rfl (lv_at hl 6 rfl) ?_
              refine lv_aload_n hx hb dX13_call_170 rfl (lv_at hl 6 rfl) ?_
              refine lv_aload_n hx hb dX13_call_171 rfl (lv_at hl 6 rfl) ?_
              obtain ⟨k_90, ek_90, hf⟩ := lnk_some hf
              refine va_get (D := (dC, dI)) (ci := 13) (v := .ref (a k_90)) (C := RX13) (T := TX13) (N := 22) hx hb hts iwd_X13_call_X13 hown hK hP h0 (Wd_ob kg_1 sg_1 (by decide)) rfl 12 (by decide) (hts _ md_X13_call_5) (fun _ h9 => h9) (fl_q rfl ek_90) dX13_call_172 ?_
              refine lv_iload_n hx hb dX13_call_175 rfl (lv_at hl 4 rfl) ?_
              refine lv_iload hx hb dX13_call_176 (lv_at hl 2 rfl) ?_
              refine lv_iadd hx hb dX13_call_178 ?_
              obtain ⟨g_91, hf⟩ := grd_some hf
              obtain ⟨kg_91, sg_91, ig_91⟩ := okA_at g_91
              refine va_lald hx hb hK hP k_90 2 (Wd_al kg_91 sg_91) rfl ig_91 dX13_call_179 ?_
              obtain ⟨z_92, r_93, hfc, hf⟩ := cal_some hf
              have hFc := de_free hD hS hA
              refine va_calli (va_runV (As := [.long (z_81.2.1 k_90 (v_7 + p_27).toNatClampNeg)]) (rest := [.ref (a h0)]) ⟨hx, hb, hml, hown, hts⟩ (de_X13_isSole l dC dI cy a sh n H_83.size F z_81 h0 (z_81.2.1 k_90 (v_7 + p_27).toNatClampNeg) hfc) (cwV 1 hts gX13_call_X13_isSole rfl rfl rfl (by decide +kernel) ⟨Nat.le_of_ble_eq_true rfl, Nat.le_of_ble_eq_true rfl⟩) ⟨fun a U g mk q => by obtain ⟨q0, q1, qP, qK, qD, qN⟩ := q; exact ⟨q0, q1, qP, va_K.moved (u := U) (U := U.calling g mk a) (Vm.Alike.refl U.vm) qK, qD, qN.same rfl⟩, va_recv hK hP (ci := 13) (q0 := h0) rfl (Wd_ob kg_1 sg_1 (by decide)), fun U hU hW => ⟨rfl, by rw [hU], by rw [hU]; exact hP, va_K.moved hW.alike hK, hD.weaken (fun _ _ _ _ => trivial), hN.warm hW⟩⟩ rfl rfl hl.1 rfl (lv_room (Nat.le_of_ble_eq_true rfl)) dX13_call_180 ⟨Nat.le_of_ble_eq_true rfl, Nat.le_of_ble_eq_true rfl⟩) hS (fun q _ h => hFc q h) hFc (fun rr u t H_94 locs ht hvm hw hB hz1 hk1 hS2 => ?_)
              rw [hw]
              clear hw
              obtain ⟨hP1, -, hD1⟩ := hB
              rw [ht] at hP1
              replace hD := hD1.weaken (fun _ _ _ h => hFc _ h)
              replace hP := hP1
              replace hS := hS2
              clear hP1 hD1 hS2 hFc hfc hz1 hk1 hvm ht
              refine lv_bipush (v := 6) hx hb dX13_call_183 (by decide) ?_
              obtain ⟨z_95, _u, hfc, hf⟩ := cal_some hf
              have hFc := de_free hD hS hA
              refine va_callv (va_runV (As := [.int r_93, .int 6]) (rest := []) ⟨hx, hb, hml, hown, hts⟩ (de_X13_need l dC dI cy a sh n H_94.size F z_92 h0 r_93 6 hfc) (cwV 2 hts gX13_call_X13_need rfl rfl rfl (by decide +kernel) ⟨Nat.le_of_ble_eq_true rfl, Nat.le_of_ble_eq_true rfl⟩) ⟨fun a U g mk q => by obtain ⟨q0, q1, qP, qK, qD, qN⟩ := q; exact ⟨q0, q1, qP, va_K.moved (u := U) (U := U.calling g mk a) (Vm.Alike.refl U.vm) qK, qD, qN.same rfl⟩, va_recv hK hP (ci := 13) (q0 := h0) rfl (Wd_ob kg_1 sg_1 (by decide)), fun U hU hW => ⟨rfl, by rw [hU], by rw [hU]; exact hP, va_K.moved hW.alike hK, hD.weaken (fun _ _ _ _ => trivial), hN.warm hW⟩⟩ rfl rfl hl.1 rfl (lv_room (Nat.le_of_ble_eq_true rfl)) dX13_call_185 ⟨Nat.le_of_ble_eq_true rfl, Nat.le_of_ble_eq_true rfl⟩) hS (fun q _ h => hFc q h) hFc (fun u t H_96 locs ht hvm hw hB hz1 hk1 hS2 => ?_)
              obtain ⟨hP1, -, hD1⟩ := hB
              rw [ht] at hP1
              replace hD := hD1.weaken (fun _ _ _ h => hFc _ h)
              replace hP := hP1
              replace hS := hS2
              clear hP1 hD1 hS2 hFc hfc hz1 hk1 hvm ht
              refine lv_iconst (v := 0) hx hb dX13_call_188 (by decide) ?_
              refine lv_istore (lv' := [(10, .int 0), (7, .long v_89), (5, .long v_78), (9, .int p_27), (4, .int p_19), (3, .int v_7), (2, .int r_4), (0, .ref (a h0)), (1, .int x0)]) hx hb dX13_call_189 hl (by decide) rfl (fun ls hl2 => ?_)
              replace hl := hl2
              clear hl2
              have hl0 : lv_has ls 13 [(10, .int 0), (7, .long v_89), (5, .long v_78), (9, .int p_27), (4, .int p_19), (3, .int v_7), (2, .int r_4), (0, .ref (a h0)), (1, .int x0)] := lv_sub hl [0, 1, 2, 3, 4, 5, 6, 7, 8] rfl
              refine de_loop (h := 191) (fun (x : St × Int32) ls H locs => lv_has ls 13 [(10, .int x.2), (7, .long v_89), (5, .long v_78), (9, .int p_27), (4, .int p_19), (3, .int v_7), (2, .int r_4), (0, .ref (a h0)), (1, .int x0)] ∧ va_P (dC, dI) vwCl (Wd cy a sh n x.1) H ∧ va_D A (Wd cy a sh n x.1) ∧ va_S A s.heap H locs) (fun f x => fn_X13_call_L191 F sh n r_4 v_78 p_27 v_89 h0 v_7 (fun z9 q5 q7 q9 => fn_X13_call_L117 F sh n r_4 p_19 h0 x0 v_7 f_29 z9 q5 q7 q9) f x.1 x.2) (z8, r8) ?_ (fun _ => rfl) F (z_95, 0) ls H_96 locs ⟨hl0, hP, hD, hS⟩ hf
              intro f_99 x ls H locs ih191 hI hf
              obtain ⟨z_98, p_97⟩ := x
              obtain ⟨hl2, hP2, hD2, hS2⟩ := hI
              replace hl : lv_has ls 13 [(10, .int p_97), (7, .long v_89), (5, .long v_78), (9, .int p_27), (4, .int p_19), (3, .int v_7), (2, .int r_4), (0, .ref (a h0)), (1, .int x0)] := hl2
              replace hP := hP2
              replace hD := hD2
              replace hS := hS2
              clear hl2 hP2 hD2 hS2 hl0
              replace hf := fn_X13_call_L191_s hf
              refine lv_iload hx hb dX13_call_191 (lv_at hl 0 rfl) ?_
              refine lv_iload_n hx hb dX13_call_193 rfl (lv_at hl 6 rfl) ?_
              refine lv_icmp_ge (tgt := 245) hx hb dX13_call_194 (by decide) (fun c_100 => ?_) (fun c_100 => ?_)
              · skip
                rw [if_pos c_100] at hf
                exact B245 (z_98, v_89) ls H locs ⟨lv_sub hl [1, 2, 3, 4, 5, 6, 7, 8] rfl, hP, hD, hS⟩ hf
              · skip
                rw [if_neg c_100] at hf
                refine lv_aload_n hx hb dX13_call_197 rfl (lv_at hl 7 rfl) ?_
                refine lv_iload hx hb dX13_call_198 (lv_at hl 0 rfl) ?_
                refine lv_iload hx hb dX13_call_200 (lv_at hl 3 rfl) ?_
                refine de_cut (h := 234) (fun (x : St × Int32) => [.int x.2, .ref (a h0)]) (fun x ls H locs => lv_has ls 13 [(10, .int p_97), (7, .long v_89), (5, .long v_78), (9, .int p_27), (4, .int p_19), (3, .int v_7), (2, .int r_4), (0, .ref (a h0)), (1, .int x0)] ∧ va_P (dC, dI) vwCl (Wd cy a sh n x.1) H ∧ va_D A (Wd cy a sh n x.1) ∧ va_S A s.heap H locs) (fun x => fn_X13_call_B234 F sh n h0 p_97 (fun z9 q10 => fn_X13_call_L191 F sh n r_4 v_78 p_27 v_89 h0 v_7 (fun z9 q5 q7 q9 => fn_X13_call_L117 F sh n r_4 p_19 h0 x0 v_7 f_29 z9 q5 q7 q9) f_99 z9 q10) x.1 x.2) (z8, r8) ?_ (fun B234 => ?_)
                · intro x ls H locs hI hf
                  obtain ⟨z_102, p_101⟩ := x
                  obtain ⟨hl2, hP2, hD2, hS2⟩ := hI
                  replace hl : lv_has ls 13 [(10, .int p_97), (7, .long v_89), (5, .long v_78), (9, .int p_27), (4, .int p_19), (3, .int v_7), (2, .int r_4), (0, .ref (a h0)), (1, .int x0)] := hl2
                  replace hP := hP2
                  replace hD := hD2
                  replace hS := hS2
                  clear hl2 hP2 hD2 hS2
                  replace hf := fn_X13_call_B234_s hf
                  refine W.eq (g2 := F0 m 234 ls [.int p_101, .ref (a h0)]) rfl ?_
                  refine lv_bipush (v := 6) hx hb dX13_call_234 (by decide) ?_
                  obtain ⟨z_103, _u, hfc, hf⟩ := cal_some hf
                  have hFc := de_free hD hS hA
                  refine va_callv (va_runV (As := [.int p_101, .int 6]) (rest := []) ⟨hx, hb, hml, hown, hts⟩ (de_X13_need l dC dI cy a sh n H.size F z_102 h0 p_101 6 hfc) (cwV 2 hts gX13_call_X13_need rfl rfl rfl (by decide +kernel) ⟨Nat.le_of_ble_eq_true rfl, Nat.le_of_ble_eq_true rfl⟩) ⟨fun a U g mk q => by obtain ⟨q0, q1, qP, qK, qD, qN⟩ := q; exact ⟨q0, q1, qP, va_K.moved (u := U) (U := U.calling g mk a) (Vm.Alike.refl U.vm) qK, qD, qN.same rfl⟩, va_recv hK hP (ci := 13) (q0 := h0) rfl (Wd_ob kg_1 sg_1 (by decide)), fun U hU hW => ⟨rfl, by rw [hU], by rw [hU]; exact hP, va_K.moved hW.alike hK, hD.weaken (fun _ _ _ _ => trivial), hN.warm hW⟩⟩ rfl rfl hl.1 rfl (lv_room (Nat.le_of_ble_eq_true rfl)) dX13_call_236 ⟨Nat.le_of_ble_eq_true rfl, Nat.le_of_ble_eq_true rfl⟩) hS (fun q _ h => hFc q h) hFc (fun u t H_104 locs ht hvm hw hB hz1 hk1 hS2 => ?_)
                  obtain ⟨hP1, -, hD1⟩ := hB
                  rw [ht] at hP1
                  replace hD := hD1.weaken (fun _ _ _ h => hFc _ h)
                  replace hP := hP1
                  replace hS := hS2
                  clear hP1 hD1 hS2 hFc hfc hz1 hk1 hvm ht
                  refine lv_iinc (v := (p_97 + 1)) (lv' := [(10, .int (p_97 + 1)), (7, .long v_89), (5, .long v_78), (9, .int p_27), (4, .int p_19), (3, .int v_7), (2, .int r_4), (0, .ref (a h0)), (1, .int x0)]) hx hb dX13_call_239 hl (k := 0) rfl rfl (by decide) rfl (fun ls hl2 => ?_)
                  replace hl := hl2
                  clear hl2
                  refine lv_goto (tgt := 191) hx hb dX13_call_242 (by decide) ?_
                  exact ih191 (z_103, (p_97 + 1)) ls H_104 locs ⟨lv_sub hl [0, 1, 2, 3, 4, 5, 6, 7, 8] rfl, hP, hD, hS⟩ hf
                refine de_cut (h := 229) (fun (x : St) => [.ref (a h0)]) (fun x ls H locs => lv_has ls 13 [(10, .int p_97), (7, .long v_89), (5, .long v_78), (9, .int p_27), (4, .int p_19), (3, .int v_7), (2, .int r_4), (0, .ref (a h0)), (1, .int x0)] ∧ va_P (dC, dI) vwCl (Wd cy a sh n x) H ∧ va_D A (Wd cy a sh n x) ∧ va_S A s.heap H locs) (fun x => fn_X13_call_B229 F sh n h0 p_97 (fun z9 q10 => fn_X13_call_L191 F sh n r_4 v_78 p_27 v_89 h0 v_7 (fun z9 q5 q7 q9 => fn_X13_call_L117 F sh n r_4 p_19 h0 x0 v_7 f_29 z9 q5 q7 q9) f_99 z9 q10) x) (z8, r8) ?_ (fun B229 => ?_)
                · intro x ls H locs hI hf
                  obtain ⟨z_105, ez⟩ : ∃ w, w = x := ⟨_, rfl⟩
                  subst ez
                  obtain ⟨hl2, hP2, hD2, hS2⟩ := hI
                  replace hl : lv_has ls 13 [(10, .int p_97), (7, .long v_89), (5, .long v_78), (9, .int p_27), (4, .int p_19), (3, .int v_7), (2, .int r_4), (0, .ref (a h0)), (1, .int x0)] := hl2
                  replace hP := hP2
                  replace hD := hD2
                  replace hS := hS2
                  clear hl2 hP2 hD2 hS2
                  replace hf := fn_X13_call_B229_s hf
                  refine W.eq (g2 := F0 m 229 ls [.ref (a h0)]) rfl ?_
                  refine lv_iconst (v := 1) hx hb dX13_call_229 (by decide) ?_
                  refine lv_goto (tgt := 234) hx hb dX13_call_230 (by decide) ?_
                  exact B234 (z_105, 1) ls H locs ⟨lv_sub hl [0, 1, 2, 3, 4, 5, 6, 7, 8] rfl, hP, hD, hS⟩ hf
                refine lv_icmp_eq (tgt := 229) hx hb dX13_call_202 (by decide) (fun c_106 => ?_) (fun c_106 => ?_)
                · skip
                  rw [if_pos c_106] at hf
                  exact B229 (z_98) ls H locs ⟨lv_sub hl [0, 1, 2, 3, 4, 5, 6, 7, 8] rfl, hP, hD, hS⟩ hf
                · skip
                  rw [if_neg c_106] at hf
                  refine lv_aload_n hx hb dX13_call_205 rfl (lv_at hl 7 rfl) ?_
                  obtain ⟨k_107, ek_107, hf⟩ := lnk_some hf
                  refine va_get (D := (dC, dI)) (ci := 13) (v := .ref (a k_107)) (C := RX13) (T := TX13) (N := 22) hx hb hts iwd_X13_call_X13 hown hK hP h0 (Wd_ob kg_1 sg_1 (by decide)) rfl 12 (by decide) (hts _ md_X13_call_5) (fun _ h9 => h9) (fl_q rfl ek_107) dX13_call_206 ?_
                  refine lv_iload_n hx hb dX13_call_209 rfl (lv_at hl 5 rfl) ?_
                  refine lv_iload hx hb dX13_call_210 (lv_at hl 0 rfl) ?_
                  refine lv_iadd hx hb dX13_call_212 ?_
                  obtain ⟨g_108, hf⟩ := grd_some hf
                  obtain ⟨kg_108, sg_108, ig_108⟩ := okA_at g_108
                  refine va_lald hx hb hK hP k_107 2 (Wd_al kg_108 sg_108) rfl ig_108 dX13_call_213 ?_
                  refine lv_aload_n hx hb dX13_call_214 rfl (lv_at hl 7 rfl) ?_
                  obtain ⟨k_109, ek_109, hf⟩ := lnk_some hf
                  refine va_get (D := (dC, dI)) (ci := 13) (v := .ref (a k_109)) (C := RX13) (T := TX13) (N := 22) hx hb hts iwd_X13_call_X13 hown hK hP h0 (Wd_ob kg_1 sg_1 (by decide)) rfl 12 (by decide) (hts _ md_X13_call_5) (fun _ h9 => h9) (fl_q rfl ek_109) dX13_call_215 ?_
                  refine lv_iload_n hx hb dX13_call_218 rfl (lv_at hl 5 rfl) ?_
                  refine lv_iload hx hb dX13_call_219 (lv_at hl 3 rfl) ?_
                  refine lv_iadd hx hb dX13_call_221 ?_
                  obtain ⟨g_110, hf⟩ := grd_some hf
                  obtain ⟨kg_110, sg_110, ig_110⟩ := okA_at g_110
                  refine va_lald hx hb hK hP k_109 2 (Wd_al kg_110 sg_110) rfl ig_110 dX13_call_222 ?_
                  refine lv_land hx hb dX13_call_223 ?_
                  refine lv_lconst (v := 0) hx hb dX13_call_224 (by decide) ?_
                  refine W.lcmp hx hb dX13_call_225 ?_
                  refine lv_if_ne (tgt := 233) hx hb dX13_call_226 (by decide) (fun c_111 => ?_) (fun c_111 => ?_)
                  · skip
                    rw [lg_cmp_eq] at c_111
                    rw [if_neg c_111] at hf
                    refine lv_iconst (v := 0) hx hb dX13_call_233 (by decide) ?_
                    exact B234 (z_98, 0) ls H locs ⟨lv_sub hl [0, 1, 2, 3, 4, 5, 6, 7, 8] rfl, hP, hD, hS⟩ hf
                  · skip
                    rw [lg_cmp_eq] at c_111
                    rw [if_pos c_111] at hf
                    exact B229 (z_98) ls H locs ⟨lv_sub hl [0, 1, 2, 3, 4, 5, 6, 7, 8] rfl, hP, hD, hS⟩ hf
            · skip
              rw [if_pos c_86] at hf
              refine lv_goto (tgt := 245) hx hb dX13_call_152 (by decide) ?_
              exact B245 (z_81, p_26) ls H_83 locs ⟨lv_sub hl [2, 0, 1, 3, 4, 5, 6, 7] rfl, hP, hD, hS⟩ hf
        refine de_cut (h := 98) (fun (x : St) => [.ref (a h0)]) (fun x ls H locs => lv_has ls 13 [(4, .int p_19), (3, .int v_7), (2, .int r_4), (0, .ref (a h0)), (1, .int x0)] ∧ va_P (dC, dI) vwCl (Wd cy a sh n x) H ∧ va_D A (Wd cy a sh n x) ∧ va_S A s.heap H locs) (fun x => fn_X13_call_B98 F sh n h0 r_4 p_19 x0 v_7 x) (z8, r8) ?_ (fun B98 => ?_)
        · intro x ls H locs hI hf
          obtain ⟨z_112, ez⟩ : ∃ w, w = x := ⟨_, rfl⟩
          subst ez
          obtain ⟨hl2, hP2, hD2, hS2⟩ := hI
          replace hl : lv_has ls 13 [(4, .int p_19), (3, .int v_7), (2, .int r_4), (0, .ref (a h0)), (1, .int x0)] := hl2
          replace hP := hP2
          replace hD := hD2
          replace hS := hS2
          clear hl2 hP2 hD2 hS2
          replace hf := fn_X13_call_B98_s hf
          refine W.eq (g2 := F0 m 98 ls [.ref (a h0)]) rfl ?_
          refine lv_iconst (v := 1) hx hb dX13_call_98 (by decide) ?_
          refine lv_goto (tgt := 103) hx hb dX13_call_99 (by decide) ?_
          exact B103 (z_112, 1) ls H locs ⟨lv_sub hl [0, 1, 2, 3, 4] rfl, hP, hD, hS⟩ hf
        refine lv_if_eq (tgt := 98) hx hb dX13_call_79 (by decide) (fun c_113 => ?_) (fun c_113 => ?_)
        · skip
          rw [if_pos c_113] at hf
          exact B98 (z_20) ls H locs ⟨lv_sub hl [0, 1, 2, 3, 4] rfl, hP, hD, hS⟩ hf
        · skip
          rw [if_neg c_113] at hf
          refine lv_aload_n hx hb dX13_call_82 rfl (lv_at hl 3 rfl) ?_
          obtain ⟨k_114, ek_114, hf⟩ := lnk_some hf
          refine va_get (D := (dC, dI)) (ci := 13) (v := .ref (a k_114)) (C := RX13) (T := TX13) (N := 22) hx hb hts iwd_X13_call_X13 hown hK hP h0 (Wd_ob kg_1 sg_1 (by decide)) rfl 0 (by decide) (hts _ md_X13_call_1) (fun _ h9 => h9) (fl_q rfl ek_114) dX13_call_83 ?_
          refine lv_aload_n hx hb dX13_call_86 rfl (lv_at hl 3 rfl) ?_
          refine va_get (D := (dC, dI)) (ci := 13) (v := .int (z_20.1 h0 1)) (C := RX13) (T := TX13) (N := 22) hx hb hts iwd_X13_call_X13 hown hK hP h0 (Wd_ob kg_1 sg_1 (by decide)) rfl 1 (by decide) (hts _ md_X13_call_4) (fun _ h9 => h9) (fl_at (t := 0) rfl) dX13_call_87 ?_
          obtain ⟨g_117, hf⟩ := grd_some hf
          obtain ⟨kg_117, sg_117⟩ := okO_at g_117
          obtain ⟨z_115, r_116, hfc, hf⟩ := cal_some hf
          have hFc := de_free hD hS hA
          refine va_calli (va_runV (As := [.int (z_20.1 h0 1)]) (rest := [.ref (a h0)]) ⟨hx, hb, hml, hown, hts⟩ (de_X16_flags l dC dI cy a sh n H.size F z_20 k_114 (z_20.1 h0 1) hfc) (cwV 1 hts gX13_call_X16_flags rfl rfl rfl (by decide +kernel) ⟨Nat.le_of_ble_eq_true rfl, Nat.le_of_ble_eq_true rfl⟩) ⟨fun a U g mk q => by obtain ⟨q0, q1, qP, qK, qD, qN⟩ := q; exact ⟨q0, q1, qP, va_K.moved (u := U) (U := U.calling g mk a) (Vm.Alike.refl U.vm) qK, qD, qN.same rfl⟩, va_recv hK hP (ci := 16) (q0 := k_114) rfl (Wd_ob kg_117 sg_117 (by decide)), fun U hU hW => ⟨rfl, by rw [hU], by rw [hU]; exact hP, va_K.moved hW.alike hK, hD.weaken (fun _ _ _ _ => trivial), hN.warm hW⟩⟩ rfl rfl hl.1 rfl (lv_room (Nat.le_of_ble_eq_true rfl)) dX13_call_90 ⟨Nat.le_of_ble_eq_true rfl, Nat.le_of_ble_eq_true rfl⟩) hS (fun q _ h => hFc q h) hFc (fun rr u t H_118 locs ht hvm hw hB hz1 hk1 hS2 => ?_)
          rw [hw]
          clear hw
          obtain ⟨hP1, -, hD1⟩ := hB
          rw [ht] at hP1
          replace hD := hD1.weaken (fun _ _ _ h => hFc _ h)
          replace hP := hP1
          replace hS := hS2
          clear hP1 hD1 hS2 hFc hfc hz1 hk1 hvm ht
          refine lv_iconst (v := 4) hx hb dX13_call_93 (by decide) ?_
          refine lv_iand hx hb dX13_call_94 ?_
          refine lv_if_eq (tgt := 102) hx hb dX13_call_95 (by decide) (fun c_119 => ?_) (fun c_119 => ?_)
          · skip
            rw [if_pos c_119] at hf
            refine lv_iconst (v := 0) hx hb dX13_call_102 (by decide) ?_
            exact B103 (z_115, 0) ls H_118 locs ⟨lv_sub hl [0, 1, 2, 3, 4] rfl, hP, hD, hS⟩ hf
          · skip
            rw [if_neg c_119] at hf
            exact B98 (z_115) ls H_118 locs ⟨lv_sub hl [0, 1, 2, 3, 4] rfl, hP, hD, hS⟩ hf
      refine lv_if_eq (tgt := 73) hx hb dX13_call_66 (by decide) (fun c_120 => ?_) (fun c_120 => ?_)
      · skip
        rw [if_pos c_120] at hf
        refine lv_iconst (v := 0) hx hb dX13_call_73 (by decide) ?_
        exact B74 (z_15, 0) ls H_18 locs ⟨lv_sub hl [1, 2, 3, 4] rfl, hP, hD, hS⟩ hf
      · skip
        rw [if_neg c_120] at hf
        refine lv_iconst (v := 1) hx hb dX13_call_69 (by decide) ?_
        refine lv_goto (tgt := 74) hx hb dX13_call_70 (by decide) ?_
        exact B74 (z_15, 1) ls H_18 locs ⟨lv_sub hl [1, 2, 3, 4] rfl, hP, hD, hS⟩ hf
    · skip
      rw [if_neg c_13] at hf
      obtain ⟨h8, h9⟩ := ret_some hf
      rw [h8]
      exact W.vret hx hb hr (fun t ht hW => ⟨⟨(), rfl, trivial, by rw [ht]; exact hP, va_K.moved hW.alike hK, hD⟩, hS.F ht⟩) hS.2.2 dX13_call_55
  · skip
    rw [if_neg c_12] at hf
    refine lv_aload_n hx hb dX13_call_27 rfl (lv_at hl 3 rfl) ?_
    refine lv_aload_n hx hb dX13_call_28 rfl (lv_at hl 3 rfl) ?_
    obtain ⟨k_121, ek_121, hf⟩ := lnk_some hf
    refine va_get (D := (dC, dI)) (ci := 13) (v := .ref (a k_121)) (C := RX13) (T := TX13) (N := 22) hx hb hts iwd_X13_call_X13 hown hK hP h0 (Wd_ob kg_1 sg_1 (by decide)) rfl 0 (by decide) (hts _ md_X13_call_1) (fun _ h9 => h9) (fl_q rfl ek_121) dX13_call_29 ?_
    refine lv_iload_n hx hb dX13_call_32 rfl (lv_at hl 4 rfl) ?_
    refine lv_iconst (v := 0) hx hb dX13_call_33 (by decide) ?_
    refine lv_iload hx hb dX13_call_34 (lv_at hl 0 rfl) ?_
    obtain ⟨g_124, hf⟩ := grd_some hf
    obtain ⟨kg_124, sg_124⟩ := okO_at g_124
    obtain ⟨z_122, r_123, hfc, hf⟩ := cal_some hf
    have hFc := de_free hD hS hA
    refine va_calll (va_runV (As := [.int x0, .int 0, .int p_9]) (rest := [.ref (a h0)]) ⟨hx, hb, hml, hown, hts⟩ (de_X16_listed l dC dI cy a sh n H.size F z_10 k_121 x0 0 p_9 hfc) (cwV 3 hts gX13_call_X16_listed rfl rfl rfl (by decide +kernel) ⟨Nat.le_of_ble_eq_true rfl, Nat.le_of_ble_eq_true rfl⟩) ⟨fun a U g mk q => by obtain ⟨q0, q1, qP, qK, qD, qN⟩ := q; exact ⟨q0, q1, qP, va_K.moved (u := U) (U := U.calling g mk a) (Vm.Alike.refl U.vm) qK, qD, qN.same rfl⟩, va_recv hK hP (ci := 16) (q0 := k_121) rfl (Wd_ob kg_124 sg_124 (by decide)), fun U hU hW => ⟨rfl, by rw [hU], by rw [hU]; exact hP, va_K.moved hW.alike hK, hD.weaken (fun _ _ _ _ => trivial), hN.warm hW⟩⟩ rfl rfl hl.1 rfl (lv_room (Nat.le_of_ble_eq_true rfl)) dX13_call_36 ⟨Nat.le_of_ble_eq_true rfl, Nat.le_of_ble_eq_true rfl⟩) hS (fun q _ h => hFc q h) hFc (fun rr u t H_125 locs ht hvm hw hB hz1 hk1 hS2 => ?_)
    rw [hw]
    clear hw
    obtain ⟨hP1, -, hD1⟩ := hB
    rw [ht] at hP1
    replace hD := hD1.weaken (fun _ _ _ h => hFc _ h)
    replace hP := hP1
    replace hS := hS2
    clear hP1 hD1 hS2 hFc hfc hz1 hk1 hvm ht
    obtain ⟨z_126, _u, hfc, hf⟩ := cal_some hf
    have hFc := de_free hD hS hA
    refine va_callv (va_runV (As := [.long r_123]) (rest := []) ⟨hx, hb, hml, hown, hts⟩ (de_X13_take_ l dC dI cy a sh n H_125.size F z_122 h0 r_123 hfc) (cwV 1 hts gX13_call_X13_take_ rfl rfl rfl (by decide +kernel) ⟨Nat.le_of_ble_eq_true rfl, Nat.le_of_ble_eq_true rfl⟩) ⟨fun a U g mk q => by obtain ⟨q0, q1, qP, qK, qD, qN⟩ := q; exact ⟨q0, q1, qP, va_K.moved (u := U) (U := U.calling g mk a) (Vm.Alike.refl U.vm) qK, qD, qN.same rfl⟩, va_recv hK hP (ci := 13) (q0 := h0) rfl (Wd_ob kg_1 sg_1 (by decide)), fun U hU hW => ⟨rfl, by rw [hU], by rw [hU]; exact hP, va_K.moved hW.alike hK, hD.weaken (fun _ _ _ _ => trivial), hN.warm hW⟩⟩ rfl rfl hl.1 rfl (lv_room (Nat.le_of_ble_eq_true rfl)) dX13_call_39 ⟨Nat.le_of_ble_eq_true rfl, Nat.le_of_ble_eq_true rfl⟩) hS (fun q _ h => hFc q h) hFc (fun u t H_127 locs ht hvm hw hB hz1 hk1 hS2 => ?_)
    obtain ⟨hP1, -, hD1⟩ := hB
    rw [ht] at hP1
    replace hD := hD1.weaken (fun _ _ _ h => hFc _ h)
    replace hP := hP1
    replace hS := hS2
    clear hP1 hD1 hS2 hFc hfc hz1 hk1 hvm ht
    refine lv_iinc (v := (p_9 + (-1))) (lv' := [(4, .int (p_9 + (-1))), (3, .int v_7), (2, .int r_4), (0, .ref (a h0)), (1, .int x0)]) hx hb dX13_call_42 hl (k := 0) rfl rfl (by decide) rfl (fun ls hl2 => ?_)
    replace hl := hl2
    clear hl2
    refine lv_goto (tgt := 22) hx hb dX13_call_45 (by decide) ?_
    exact ih22 (z_126, (p_9 + (-1))) ls H_127 locs ⟨lv_sub hl [0, 1, 2, 3, 4] rfl, hP, hD, hS⟩ hf

theorem md_X16_overAll_1 : (.fieldLink RX16 92 "ResourceLedgerModel$Unit" "structures" "I" : Cond) ∈ wsX16_overAll := List.mem_of_getElem? (i := 1) rfl
theorem iwd_X16_overAll_X16 : ∀ w ∈ wsX160, w ∈ wsX16_overAll := fun _ h => List.mem_cons_of_mem _ (List.mem_append_right _ h)
theorem md_X16_overAll_4 : (.fieldLink RX16 95 "ResourceLedgerModel$Unit" "foreigns" "I" : Cond) ∈ wsX16_overAll := List.mem_of_getElem? (i := 4) rfl
theorem md_X16_overAll_5 : (.fieldLink RX16 98 "ResourceLedgerModel$Unit" "callees" "I" : Cond) ∈ wsX16_overAll := List.mem_of_getElem? (i := 5) rfl
theorem md_X16_overAll_7 : (.fieldLink RX16 101 "ResourceLedgerModel$Unit" "elements" "I" : Cond) ∈ wsX16_overAll := List.mem_of_getElem? (i := 7) rfl
theorem md_X16_overAll_9 : (.fieldLink RX16 104 "ResourceLedgerModel$Unit" "functions" "I" : Cond) ∈ wsX16_overAll := List.mem_of_getElem? (i := 9) rfl
theorem md_X16_overAll_3 : (.fieldLink RX16 50 "ResourceLedgerModel$Unit" "at" "I" : Cond) ∈ wsX16_overAll := List.mem_of_getElem? (i := 3) rfl
theorem md_X16_overAll_10 : (.fieldLink RX16 43 "ResourceLedgerModel$Unit" "length" "I" : Cond) ∈ wsX16_overAll := List.mem_of_getElem? (i := 10) rfl
theorem md_X16_overAll_8 : (.fieldLink RX16 20 "ResourceLedgerModel$Unit" "elementAt" "[I" : Cond) ∈ wsX16_overAll := List.mem_of_getElem? (i := 8) rfl
theorem md_X16_overAll_6 : (.fieldLink RX16 17 "ResourceLedgerModel$Unit" "calleeAt" "[I" : Cond) ∈ wsX16_overAll := List.mem_of_getElem? (i := 6) rfl
theorem md_X16_overAll_2 : (.fieldLink RX16 13 "ResourceLedgerModel$Unit" "structureAt" "[I" : Cond) ∈ wsX16_overAll := List.mem_of_getElem? (i := 2) rfl
set_option maxHeartbeats 4000000 in
set_option maxRecDepth 100000 in
theorem de_X16_overAll (l : Launch) (dC : Nat → ClassId) (dI : Nat → Nat → Nat) (cy : Nat → ClassId) (a : Nat → Nat) (sh : Nat → Nat × Nat) (n sz : Nat) (F : Nat) (z : St) (h0 : Nat) {z8 : St} {r8 : Unit} (hf : fn_X16_overAll F sh n z h0 = some (z8, r8)) : Met l yX16_overAll wsX16_overAll ({ frames := 6, cells := 0, slots := 0, locals := 137 }) (va_Pc [.ref (a h0)] (fun U => U.heap.size = sz ∧ va_P (dC, dI) vwCl (Wd cy a sh n z) U.heap ∧ va_K (dC, dI) vwCl (TYS cy) U ∧ va_D (fun _ => True) (Wd cy a sh n z) ∧ NK U)) (va_Qv (fun u : Unit => True) (fun u t => va_P (dC, dI) vwCl (Wd cy a sh n z8) t.heap ∧ va_K (dC, dI) vwCl (TYS cy) t ∧ va_D (va_A (Wd cy a sh n z) sz) (Wd cy a sh n z8)) (va_A (Wd cy a sh n z) sz)) 0 0 (va_A (Wd cy a sh n z) sz) := by
  refine Met.ofW (cc := cX16_overAll) (maxL := 4) (ret := none) (by decide) rfl ?_
  intro p e s m args below meth c s₁ B hml hv
  obtain ⟨rfl, hsz, hP, hK, hD0, hN⟩ := hv
  have hx := B.exec
  have hb := B.bytes
  have hr := B.returns
  have hts := atoms_spec (ws := wsX16_overAll) B.pre
  have hown : s.vm.findClass RX16 = some m.cls := findClass_of_methodNamed B.named
  have hlocks := B.notSynchronized
  subst hsz
  have hD := hD0.self (sz := s.heap.size)
  clear hD0
  generalize hAe : va_A (Wd cy a sh n z) s.heap.size = A at hD ⊢
  have hA : ∀ q : Nat, s.heap.size ≤ q → A q := fun q h => by rw [← hAe]; exact Or.inr h
  clear hAe
  have hS : va_S A s.heap s.heap [] := va_S.rf
  have hl := lv_entry ([.ref (a h0)]) (n := 4) (Nat.le_of_ble_eq_true rfl)
  rw [lg_entry_eq]
  generalize (lg_sl ([.ref (a h0)]) ++ List.replicate (4 - (lg_sl ([.ref (a h0)])).length) Slot.unset).toArray = ls at hl ⊢
  replace hl : lv_has ls 4 [(0, .ref (a h0))] := hl
  unfold fn_X16_overAll at hf
  refine de_start hS hP (fun H locs hS hP => ?_)
  refine lv_iconst (v := 0) hx hb dX16_overAll_0 (by decide) ?_
  refine lv_istore_n (lv' := [(1, .int 0), (0, .ref (a h0))]) hx hb dX16_overAll_1 rfl hl (by decide) rfl (fun ls hl2 => ?_)
  replace hl := hl2
  clear hl2
  have hl0 : lv_has ls 4 [(1, .int 0), (0, .ref (a h0))] := lv_sub hl [0, 1] rfl
  refine de_loop (h := 2) (fun (x : St × Int32) ls H locs => lv_has ls 4 [(1, .int x.2), (0, .ref (a h0))] ∧ va_P (dC, dI) vwCl (Wd cy a sh n x.1) H ∧ va_D A (Wd cy a sh n x.1) ∧ va_S A s.heap H locs) (fun f x => fn_X16_overAll_L2 F sh n h0 f x.1 x.2) (z8, r8) ?_ (fun _ => rfl) F (z, 0) ls H locs ⟨hl0, hP, hD, hS⟩ hf
  intro f_3 x ls H locs ih2 hI hf
  obtain ⟨z_2, p_1⟩ := x
  obtain ⟨hl2, hP2, hD2, hS2⟩ := hI
  replace hl : lv_has ls 4 [(1, .int p_1), (0, .ref (a h0))] := hl2
  replace hP := hP2
  replace hD := hD2
  replace hS := hS2
  clear hl2 hP2 hD2 hS2 hl0
  replace hf := fn_X16_overAll_L2_s hf
  refine lv_iload_n hx hb dX16_overAll_2 rfl (lv_at hl 0 rfl) ?_
  refine lv_iconst (v := 4) hx hb dX16_overAll_3 (by decide) ?_
  refine de_cut (h := 80) (fun (x : St) => []) (fun x ls H locs => lv_has ls 4 [(0, .ref (a h0))] ∧ va_P (dC, dI) vwCl (Wd cy a sh n x) H ∧ va_D A (Wd cy a sh n x) ∧ va_S A s.heap H locs) (fun x => fn_X16_overAll_B80 F sh n h0 x) (z8, r8) ?_ (fun B80 => ?_)
  · intro x ls H locs hI hf
    obtain ⟨z_4, ez⟩ : ∃ w, w = x := ⟨_, rfl⟩
    subst ez
    obtain ⟨hl2, hP2, hD2, hS2⟩ := hI
    replace hl : lv_has ls 4 [(0, .ref (a h0))] := hl2
    replace hP := hP2
    replace hD := hD2
    replace hS := hS2
    clear hl2 hP2 hD2 hS2
    replace hf := fn_X16_overAll_B80_s hf
    refine W.eq (g2 := F0 m 80 ls []) rfl ?_
    refine lv_aload_n hx hb dX16_overAll_80 rfl (lv_at hl 0 rfl) ?_
    obtain ⟨g_7, hf⟩ := grd_some hf
    obtain ⟨kg_7, sg_7⟩ := okO_at g_7
    obtain ⟨z_5, r_6, hfc, hf⟩ := cal_some hf
    have hFc := de_free hD hS hA
    refine va_calli (va_runV (As := []) (rest := []) ⟨hx, hb, hml, hown, hts⟩ (de_X16_isGood l dC dI cy a sh n H.size F z_4 h0 hfc) (cwV 0 hts gX16_overAll_X16_isGood rfl rfl rfl (by decide +kernel) ⟨Nat.le_of_ble_eq_true rfl, Nat.le_of_ble_eq_true rfl⟩) ⟨fun a U g mk q => by obtain ⟨q0, q1, qP, qK, qD, qN⟩ := q; exact ⟨q0, q1, qP, va_K.moved (u := U) (U := U.calling g mk a) (Vm.Alike.refl U.vm) qK, qD, qN.same rfl⟩, va_recv hK hP (ci := 16) (q0 := h0) rfl (Wd_ob kg_7 sg_7 (by decide)), fun U hU hW => ⟨rfl, by rw [hU], by rw [hU]; exact hP, va_K.moved hW.alike hK, hD.weaken (fun _ _ _ _ => trivial), hN.warm hW⟩⟩ rfl rfl hl.1 rfl (lv_room (Nat.le_of_ble_eq_true rfl)) dX16_overAll_81 ⟨Nat.le_of_ble_eq_true rfl, Nat.le_of_ble_eq_true rfl⟩) hS (fun q _ h => hFc q h) hFc (fun rr u t H_8 locs ht hvm hw hB hz1 hk1 hS2 => ?_)
    rw [hw]
    clear hw
    obtain ⟨hP1, -, hD1⟩ := hB
    rw [ht] at hP1
    replace hD := hD1.weaken (fun _ _ _ h => hFc _ h)
    replace hP := hP1
    replace hS := hS2
    clear hP1 hD1 hS2 hFc hfc hz1 hk1 hvm ht
    refine de_cut (h := 93) (fun (x : St) => []) (fun x ls H locs => lv_has ls 4 [(0, .ref (a h0))] ∧ va_P (dC, dI) vwCl (Wd cy a sh n x) H ∧ va_D A (Wd cy a sh n x) ∧ va_S A s.heap H locs) (fun x => fn_X16_overAll_B93 F sh n h0 x) (z8, r8) ?_ (fun B93 => ?_)
    · intro x ls H locs hI hf
      obtain ⟨z_9, ez⟩ : ∃ w, w = x := ⟨_, rfl⟩
      subst ez
      obtain ⟨hl2, hP2, hD2, hS2⟩ := hI
      replace hl : lv_has ls 4 [(0, .ref (a h0))] := hl2
      replace hP := hP2
      replace hD := hD2
      replace hS := hS2
      clear hl2 hP2 hD2 hS2
      replace hf := fn_X16_overAll_B93_s hf
      refine W.eq (g2 := F0 m 93 ls []) rfl ?_
      refine lv_aload_n hx hb dX16_overAll_93 rfl (lv_at hl 0 rfl) ?_
      refine lv_aload_n hx hb dX16_overAll_94 rfl (lv_at hl 0 rfl) ?_
      obtain ⟨z_10, r_11, hfc, hf⟩ := cal_some hf
      have hFc := de_free hD hS hA
      refine va_calli (va_runV (As := []) (rest := [.ref (a h0)]) ⟨hx, hb, hml, hown, hts⟩ (de_X16_isGood l dC dI cy a sh n H.size F z_9 h0 hfc) (cwV 0 hts gX16_overAll_X16_isGood rfl rfl rfl (by decide +kernel) ⟨Nat.le_of_ble_eq_true rfl, Nat.le_of_ble_eq_true rfl⟩) ⟨fun a U g mk q => by obtain ⟨q0, q1, qP, qK, qD, qN⟩ := q; exact ⟨q0, q1, qP, va_K.moved (u := U) (U := U.calling g mk a) (Vm.Alike.refl U.vm) qK, qD, qN.same rfl⟩, va_recv hK hP (ci := 16) (q0 := h0) rfl (Wd_ob kg_7 sg_7 (by decide)), fun U hU hW => ⟨rfl, by rw [hU], by rw [hU]; exact hP, va_K.moved hW.alike hK, hD.weaken (fun _ _ _ _ => trivial), hN.warm hW⟩⟩ rfl rfl hl.1 rfl (lv_room (Nat.le_of_ble_eq_true rfl)) dX16_overAll_95 ⟨Nat.le_of_ble_eq_true rfl, Nat.le_of_ble_eq_true rfl⟩) hS (fun q _ h => hFc q h) hFc (fun rr u t H_12 locs ht hvm hw hB hz1 hk1 hS2 => ?_)
      rw [hw]
      clear hw
      obtain ⟨hP1, -, hD1⟩ := hB
      rw [ht] at hP1
      replace hD := hD1.weaken (fun _ _ _ h => hFc _ h)
      replace hP := hP1
      replace hS := hS2
      clear hP1 hD1 hS2 hFc hfc hz1 hk1 hvm ht
      refine de_cut (h := 112) (fun (x : St × Int32) => [.int x.2, .ref (a h0)]) (fun x ls H locs => lv_has ls 4 [(0, .ref (a h0))] ∧ va_P (dC, dI) vwCl (Wd cy a sh n x.1) H ∧ va_D A (Wd cy a sh n x.1) ∧ va_S A s.heap H locs) (fun x => fn_X16_overAll_B112 F sh n h0 x.1 x.2) (z8, r8) ?_ (fun B112 => ?_)
      · intro x ls H locs hI hf
        obtain ⟨z_14, p_13⟩ := x
        obtain ⟨hl2, hP2, hD2, hS2⟩ := hI
        replace hl : lv_has ls 4 [(0, .ref (a h0))] := hl2
        replace hP := hP2
        replace hD := hD2
        replace hS := hS2
        clear hl2 hP2 hD2 hS2
        replace hf := fn_X16_overAll_B112_s hf
        refine W.eq (g2 := F0 m 112 ls [.int p_13, .ref (a h0)]) rfl ?_
        refine va_put (D := (dC, dI)) (ci := 16) (v := .int p_13) (ty := .int) (C := RX16) (T := TX16) (N := 18) hx hb hts iwd_X16_overAll_X16 tyX16 tyX16_ok nmX16 hown hK hP hD hS h0 (Wd_ob kg_7 sg_7 (by decide)) rfl 5 (by decide) (hts _ md_X16_overAll_1) (fun _ h9 => h9) rfl (by decide +kernel) rfl rfl (by rw [fl_len]; decide) dX16_overAll_112 (fun H_15 locs hP2 hD2 hS2 => ?_)
        rw [Wd_si sg_7 (by decide) rfl] at hP2 hD2
        obtain ⟨z_16, ez_16⟩ : ∃ w, w = si z_14 h0 5 p_13 := ⟨_, rfl⟩
        rw [← ez_16] at hP2 hD2
        replace hf := lt_at ez_16 hf
        clear ez_16
        replace hP := hP2
        replace hD := hD2
        replace hS := hS2
        clear hP2 hD2 hS2
        refine lv_iconst (v := 0) hx hb dX16_overAll_115 (by decide) ?_
        refine lv_istore_n (lv' := [(1, .int 0), (0, .ref (a h0))]) hx hb dX16_overAll_116 rfl hl (by decide) rfl (fun ls hl2 => ?_)
        replace hl := hl2
        clear hl2
        have hl0 : lv_has ls 4 [(1, .int 0), (0, .ref (a h0))] := lv_sub hl [0, 1] rfl
        refine de_loop (h := 117) (fun (x : St × Int32) ls H locs => lv_has ls 4 [(1, .int x.2), (0, .ref (a h0))] ∧ va_P (dC, dI) vwCl (Wd cy a sh n x.1) H ∧ va_D A (Wd cy a sh n x.1) ∧ va_S A s.heap H locs) (fun f x => fn_X16_overAll_L117 F sh n h0 f x.1 x.2) (z8, r8) ?_ (fun _ => rfl) F (z_16, 0) ls H_15 locs ⟨hl0, hP, hD, hS⟩ hf
        intro f_19 x ls H locs ih117 hI hf
        obtain ⟨z_18, p_17⟩ := x
        obtain ⟨hl2, hP2, hD2, hS2⟩ := hI
        replace hl : lv_has ls 4 [(1, .int p_17), (0, .ref (a h0))] := hl2
        replace hP := hP2
        replace hD := hD2
        replace hS := hS2
        clear hl2 hP2 hD2 hS2 hl0
        replace hf := fn_X16_overAll_L117_s hf
        refine lv_iload_n hx hb dX16_overAll_117 rfl (lv_at hl 0 rfl) ?_
        refine lv_aload_n hx hb dX16_overAll_118 rfl (lv_at hl 1 rfl) ?_
        refine va_get (D := (dC, dI)) (ci := 16) (v := .int (z_18.1 h0 5)) (C := RX16) (T := TX16) (N := 18) hx hb hts iwd_X16_overAll_X16 hown hK hP h0 (Wd_ob kg_7 sg_7 (by decide)) rfl 5 (by decide) (hts _ md_X16_overAll_1) (fun _ h9 => h9) (fl_at (t := 0) rfl) dX16_overAll_119 ?_
        refine de_cut (h := 200) (fun (x : St) => []) (fun x ls H locs => lv_has ls 4 [(0, .ref (a h0))] ∧ va_P (dC, dI) vwCl (Wd cy a sh n x) H ∧ va_D A (Wd cy a sh n x) ∧ va_S A s.heap H locs) (fun x => fn_X16_overAll_B200 F sh n h0 x) (z8, r8) ?_ (fun B200 => ?_)
        · intro x ls H locs hI hf
          obtain ⟨z_20, ez⟩ : ∃ w, w = x := ⟨_, rfl⟩
          subst ez
          obtain ⟨hl2, hP2, hD2, hS2⟩ := hI
          replace hl : lv_has ls 4 [(0, .ref (a h0))] := hl2
          replace hP := hP2
          replace hD := hD2
          replace hS := hS2
          clear hl2 hP2 hD2 hS2
          replace hf := fn_X16_overAll_B200_s hf
          refine W.eq (g2 := F0 m 200 ls []) rfl ?_
          refine lv_aload_n hx hb dX16_overAll_200 rfl (lv_at hl 0 rfl) ?_
          refine lv_aload_n hx hb dX16_overAll_201 rfl (lv_at hl 0 rfl) ?_
          obtain ⟨z_21, r_22, hfc, hf⟩ := cal_some hf
          have hFc := de_free hD hS hA
          refine va_calli (va_runV (As := []) (rest := [.ref (a h0)]) ⟨hx, hb, hml, hown, hts⟩ (de_X16_isGood l dC dI cy a sh n H.size F z_20 h0 hfc) (cwV 0 hts gX16_overAll_X16_isGood rfl rfl rfl (by decide +kernel) ⟨Nat.le_of_ble_eq_true rfl, Nat.le_of_ble_eq_true rfl⟩) ⟨fun a U g mk q => by obtain ⟨q0, q1, qP, qK, qD, qN⟩ := q; exact ⟨q0, q1, qP, va_K.moved (u := U) (U := U.calling g mk a) (Vm.Alike.refl U.vm) qK, qD, qN.same rfl⟩, va_recv hK hP (ci := 16) (q0 := h0) rfl (Wd_ob kg_7 sg_7 (by decide)), fun U hU hW => ⟨rfl, by rw [hU], by rw [hU]; exact hP, va_K.moved hW.alike hK, hD.weaken (fun _ _ _ _ => trivial), hN.warm hW⟩⟩ rfl rfl hl.1 rfl (lv_room (Nat.le_of_ble_eq_true rfl)) dX16_overAll_202 ⟨Nat.le_of_ble_eq_true rfl, Nat.le_of_ble_eq_true rfl⟩) hS (fun q _ h => hFc q h) hFc (fun rr u t H_23 locs ht hvm hw hB hz1 hk1 hS2 => ?_)
          rw [hw]
          clear hw
          obtain ⟨hP1, -, hD1⟩ := hB
          rw [ht] at hP1
          replace hD := hD1.weaken (fun _ _ _ h => hFc _ h)
          replace hP := hP1
          replace hS := hS2
          clear hP1 hD1 hS2 hFc hfc hz1 hk1 hvm ht
          refine de_cut (h := 219) (fun (x : St × Int32) => [.int x.2, .ref (a h0)]) (fun x ls H locs => lv_has ls 4 [(0, .ref (a h0))] ∧ va_P (dC, dI) vwCl (Wd cy a sh n x.1) H ∧ va_D A (Wd cy a sh n x.1) ∧ va_S A s.heap H locs) (fun x => fn_X16_overAll_B219 F sh n h0 x.1 x.2) (z8, r8) ?_ (fun B219 => ?_)
          · intro x ls H locs hI hf
            obtain ⟨z_25, p_24⟩ := x
            obtain ⟨hl2, hP2, hD2, hS2⟩ := hI
            replace hl : lv_has ls 4 [(0, .ref (a h0))] := hl2
            replace hP := hP2
            replace hD := hD2
            replace hS := hS2
            clear hl2 hP2 hD2 hS2
            replace hf := fn_X16_overAll_B219_s hf
            refine W.eq (g2 := F0 m 219 ls [.int p_24, .ref (a h0)]) rfl ?_
            refine va_put (D := (dC, dI)) (ci := 16) (v := .int p_24) (ty := .int) (C := RX16) (T := TX16) (N := 18) hx hb hts iwd_X16_overAll_X16 tyX16 tyX16_ok nmX16 hown hK hP hD hS h0 (Wd_ob kg_7 sg_7 (by decide)) rfl 6 (by decide) (hts _ md_X16_overAll_4) (fun _ h9 => h9) rfl (by decide +kernel) rfl rfl (by rw [fl_len]; decide) dX16_overAll_219 (fun H_26 locs hP2 hD2 hS2 => ?_)
            rw [Wd_si sg_7 (by decide) rfl] at hP2 hD2
            obtain ⟨z_27, ez_27⟩ : ∃ w, w = si z_25 h0 6 p_24 := ⟨_, rfl⟩
            rw [← ez_27] at hP2 hD2
            replace hf := lt_at ez_27 hf
            clear ez_27
            replace hP := hP2
            replace hD := hD2
            replace hS := hS2
            clear hP2 hD2 hS2
            refine lv_iconst (v := 0) hx hb dX16_overAll_222 (by decide) ?_
            refine lv_istore_n (lv' := [(1, .int 0), (0, .ref (a h0))]) hx hb dX16_overAll_223 rfl hl (by decide) rfl (fun ls hl2 => ?_)
            replace hl := hl2
            clear hl2
            have hl0 : lv_has ls 4 [(1, .int 0), (0, .ref (a h0))] := lv_sub hl [0, 1] rfl
            refine de_loop (h := 224) (fun (x : St × Int32) ls H locs => lv_has ls 4 [(1, .int x.2), (0, .ref (a h0))] ∧ va_P (dC, dI) vwCl (Wd cy a sh n x.1) H ∧ va_D A (Wd cy a sh n x.1) ∧ va_S A s.heap H locs) (fun f x => fn_X16_overAll_L224 F sh n h0 f x.1 x.2) (z8, r8) ?_ (fun _ => rfl) F (z_27, 0) ls H_26 locs ⟨hl0, hP, hD, hS⟩ hf
            intro f_30 x ls H locs ih224 hI hf
            obtain ⟨z_29, p_28⟩ := x
            obtain ⟨hl2, hP2, hD2, hS2⟩ := hI
            replace hl : lv_has ls 4 [(1, .int p_28), (0, .ref (a h0))] := hl2
            replace hP := hP2
            replace hD := hD2
            replace hS := hS2
            clear hl2 hP2 hD2 hS2 hl0
            replace hf := fn_X16_overAll_L224_s hf
            refine lv_iload_n hx hb dX16_overAll_224 rfl (lv_at hl 0 rfl) ?_
            refine lv_aload_n hx hb dX16_overAll_225 rfl (lv_at hl 1 rfl) ?_
            refine va_get (D := (dC, dI)) (ci := 16) (v := .int (z_29.1 h0 6)) (C := RX16) (T := TX16) (N := 18) hx hb hts iwd_X16_overAll_X16 hown hK hP h0 (Wd_ob kg_7 sg_7 (by decide)) rfl 6 (by decide) (hts _ md_X16_overAll_4) (fun _ h9 => h9) (fl_at (t := 0) rfl) dX16_overAll_226 ?_
            refine de_cut (h := 281) (fun (x : St) => []) (fun x ls H locs => lv_has ls 4 [(0, .ref (a h0))] ∧ va_P (dC, dI) vwCl (Wd cy a sh n x) H ∧ va_D A (Wd cy a sh n x) ∧ va_S A s.heap H locs) (fun x => fn_X16_overAll_B281 F sh n h0 x) (z8, r8) ?_ (fun B281 => ?_)
            · intro x ls H locs hI hf
              obtain ⟨z_31, ez⟩ : ∃ w, w = x := ⟨_, rfl⟩
              subst ez
              obtain ⟨hl2, hP2, hD2, hS2⟩ := hI
              replace hl : lv_has ls 4 [(0, .ref (a h0))] := hl2
              replace hP := hP2
              replace hD := hD2
              replace hS := hS2
              clear hl2 hP2 hD2 hS2
              replace hf := fn_X16_overAll_B281_s hf
              refine W.eq (g2 := F0 m 281 ls []) rfl ?_
              refine lv_aload_n hx hb dX16_overAll_281 rfl (lv_at hl 0 rfl) ?_
              refine lv_aload_n hx hb dX16_overAll_282 rfl (lv_at hl 0 rfl) ?_
              obtain ⟨z_32, r_33, hfc, hf⟩ := cal_some hf
              have hFc := de_free hD hS hA
              refine va_calli (va_runV (As := []) (rest := [.ref (a h0)]) ⟨hx, hb, hml, hown, hts⟩ (de_X16_isGood l dC dI cy a sh n H.size F z_31 h0 hfc) (cwV 0 hts gX16_overAll_X16_isGood rfl rfl rfl (by decide +kernel) ⟨Nat.le_of_ble_eq_true rfl, Nat.le_of_ble_eq_true rfl⟩) ⟨fun a U g mk q => by obtain ⟨q0, q1, qP, qK, qD, qN⟩ := q; exact ⟨q0, q1, qP, va_K.moved (u := U) (U := U.calling g mk a) (Vm.Alike.refl U.vm) qK, qD, qN.same rfl⟩, va_recv hK hP (ci := 16) (q0 := h0) rfl (Wd_ob kg_7 sg_7 (by decide)), fun U hU hW => ⟨rfl, by rw [hU], by rw [hU]; exact hP, va_K.moved hW.alike hK, hD.weaken (fun _ _ _ _ => trivial), hN.warm hW⟩⟩ rfl rfl hl.1 rfl (lv_room (Nat.le_of_ble_eq_true rfl)) dX16_overAll_283 ⟨Nat.le_of_ble_eq_true rfl, Nat.le_of_ble_eq_true rfl⟩) hS (fun q _ h => hFc q h) hFc (fun rr u t H_34 locs ht hvm hw hB hz1 hk1 hS2 => ?_)
              rw [hw]
              clear hw
              obtain ⟨hP1, -, hD1⟩ := hB
              rw [ht] at hP1
              replace hD := hD1.weaken (fun _ _ _ h => hFc _ h)
              replace hP := hP1
              replace hS := hS2
              clear hP1 hD1 hS2 hFc hfc hz1 hk1 hvm ht
              refine de_cut (h := 300) (fun (x : St × Int32) => [.int x.2, .ref (a h0)]) (fun x ls H locs => lv_has ls 4 [(0, .ref (a h0))] ∧ va_P (dC, dI) vwCl (Wd cy a sh n x.1) H ∧ va_D A (Wd cy a sh n x.1) ∧ va_S A s.heap H locs) (fun x => fn_X16_overAll_B300 F sh n h0 x.1 x.2) (z8, r8) ?_ (fun B300 => ?_)
              · intro x ls H locs hI hf
                obtain ⟨z_36, p_35⟩ := x
                obtain ⟨hl2, hP2, hD2, hS2⟩ := hI
                replace hl : lv_has ls 4 [(0, .ref (a h0))] := hl2
                replace hP := hP2
                replace hD := hD2
                replace hS := hS2
                clear hl2 hP2 hD2 hS2
                replace hf := fn_X16_overAll_B300_s hf
                refine W.eq (g2 := F0 m 300 ls [.int p_35, .ref (a h0)]) rfl ?_
                refine va_put (D := (dC, dI)) (ci := 16) (v := .int p_35) (ty := .int) (C := RX16) (T := TX16) (N := 18) hx hb hts iwd_X16_overAll_X16 tyX16 tyX16_ok nmX16 hown hK hP hD hS h0 (Wd_ob kg_7 sg_7 (by decide)) rfl 7 (by decide) (hts _ md_X16_overAll_5) (fun _ h9 => h9) rfl (by decide +kernel) rfl rfl (by rw [fl_len]; decide) dX16_overAll_300 (fun H_37 locs hP2 hD2 hS2 => ?_)
                rw [Wd_si sg_7 (by decide) rfl] at hP2 hD2
                obtain ⟨z_38, ez_38⟩ : ∃ w, w = si z_36 h0 7 p_35 := ⟨_, rfl⟩
                rw [← ez_38] at hP2 hD2
                replace hf := lt_at ez_38 hf
                clear ez_38
                replace hP := hP2
                replace hD := hD2
                replace hS := hS2
                clear hP2 hD2 hS2
                refine lv_iconst (v := 0) hx hb dX16_overAll_303 (by decide) ?_
                refine lv_istore_n (lv' := [(1, .int 0), (0, .ref (a h0))]) hx hb dX16_overAll_304 rfl hl (by decide) rfl (fun ls hl2 => ?_)
                replace hl := hl2
                clear hl2
                have hl0 : lv_has ls 4 [(1, .int 0), (0, .ref (a h0))] := lv_sub hl [0, 1] rfl
                refine de_loop (h := 305) (fun (x : St × Int32) ls H locs => lv_has ls 4 [(1, .int x.2), (0, .ref (a h0))] ∧ va_P (dC, dI) vwCl (Wd cy a sh n x.1) H ∧ va_D A (Wd cy a sh n x.1) ∧ va_S A s.heap H locs) (fun f x => fn_X16_overAll_L305 F sh n h0 f x.1 x.2) (z8, r8) ?_ (fun _ => rfl) F (z_38, 0) ls H_37 locs ⟨hl0, hP, hD, hS⟩ hf
                intro f_41 x ls H locs ih305 hI hf
                obtain ⟨z_40, p_39⟩ := x
                obtain ⟨hl2, hP2, hD2, hS2⟩ := hI
                replace hl : lv_has ls 4 [(1, .int p_39), (0, .ref (a h0))] := hl2
                replace hP := hP2
                replace hD := hD2
                replace hS := hS2
                clear hl2 hP2 hD2 hS2 hl0
                replace hf := fn_X16_overAll_L305_s hf
                refine lv_iload_n hx hb dX16_overAll_305 rfl (lv_at hl 0 rfl) ?_
                refine lv_aload_n hx hb dX16_overAll_306 rfl (lv_at hl 1 rfl) ?_
                refine va_get (D := (dC, dI)) (ci := 16) (v := .int (z_40.1 h0 7)) (C := RX16) (T := TX16) (N := 18) hx hb hts iwd_X16_overAll_X16 hown hK hP h0 (Wd_ob kg_7 sg_7 (by decide)) rfl 7 (by decide) (hts _ md_X16_overAll_5) (fun _ h9 => h9) (fl_at (t := 0) rfl) dX16_overAll_307 ?_
                refine de_cut (h := 385) (fun (x : St) => []) (fun x ls H locs => lv_has ls 4 [(0, .ref (a h0))] ∧ va_P (dC, dI) vwCl (Wd cy a sh n x) H ∧ va_D A (Wd cy a sh n x) ∧ va_S A s.heap H locs) (fun x => fn_X16_overAll_B385 F sh n h0 x) (z8, r8) ?_ (fun B385 => ?_)
                · intro x ls H locs hI hf
                  obtain ⟨z_42, ez⟩ : ∃ w, w = x := ⟨_, rfl⟩
                  subst ez
                  obtain ⟨hl2, hP2, hD2, hS2⟩ := hI
                  replace hl : lv_has ls 4 [(0, .ref (a h0))] := hl2
                  replace hP := hP2
                  replace hD := hD2
                  replace hS := hS2
                  clear hl2 hP2 hD2 hS2
                  replace hf := fn_X16_overAll_B385_s hf
                  refine W.eq (g2 := F0 m 385 ls []) rfl ?_
                  refine lv_aload_n hx hb dX16_overAll_385 rfl (lv_at hl 0 rfl) ?_
                  refine lv_aload_n hx hb dX16_overAll_386 rfl (lv_at hl 0 rfl) ?_
                  obtain ⟨z_43, r_44, hfc, hf⟩ := cal_some hf
                  have hFc := de_free hD hS hA
                  refine va_calli (va_runV (As := []) (rest := [.ref (a h0)]) ⟨hx, hb, hml, hown, hts⟩ (de_X16_isGood l dC dI cy a sh n H.size F z_42 h0 hfc) (cwV 0 hts gX16_overAll_X16_isGood rfl rfl rfl (by decide +kernel) ⟨Nat.le_of_ble_eq_true rfl, Nat.le_of_ble_eq_true rfl⟩) ⟨fun a U g mk q => by obtain ⟨q0, q1, qP, qK, qD, qN⟩ := q; exact ⟨q0, q1, qP, va_K.moved (u := U) (U := U.calling g mk a) (Vm.Alike.refl U.vm) qK, qD, qN.same rfl⟩, va_recv hK hP (ci := 16) (q0 := h0) rfl (Wd_ob kg_7 sg_7 (by decide)), fun U hU hW => ⟨rfl, by rw [hU], by rw [hU]; exact hP, va_K.moved hW.alike hK, hD.weaken (fun _ _ _ _ => trivial), hN.warm hW⟩⟩ rfl rfl hl.1 rfl (lv_room (Nat.le_of_ble_eq_true rfl)) dX16_overAll_387 ⟨Nat.le_of_ble_eq_true rfl, Nat.le_of_ble_eq_true rfl⟩) hS (fun q _ h => hFc q h) hFc (fun rr u t H_45 locs ht hvm hw hB hz1 hk1 hS2 => ?_)
                  rw [hw]
                  clear hw
                  obtain ⟨hP1, -, hD1⟩ := hB
                  rw [ht] at hP1
                  replace hD := hD1.weaken (fun _ _ _ h => hFc _ h)
                  replace hP := hP1
                  replace hS := hS2
                  clear hP1 hD1 hS2 hFc hfc hz1 hk1 hvm ht
                  refine de_cut (h := 404) (fun (x : St × Int32) => [.int x.2, .ref (a h0)]) (fun x ls H locs => lv_has ls 4 [(0, .ref (a h0))] ∧ va_P (dC, dI) vwCl (Wd cy a sh n x.1) H ∧ va_D A (Wd cy a sh n x.1) ∧ va_S A s.heap H locs) (fun x => fn_X16_overAll_B404 F sh n h0 x.1 x.2) (z8, r8) ?_ (fun B404 => ?_)
                  · intro x ls H locs hI hf
                    obtain ⟨z_47, p_46⟩ := x
                    obtain ⟨hl2, hP2, hD2, hS2⟩ := hI
                    replace hl : lv_has ls 4 [(0, .ref (a h0))] := hl2
                    replace hP := hP2
                    replace hD := hD2
                    replace hS := hS2
                    clear hl2 hP2 hD2 hS2
                    replace hf := fn_X16_overAll_B404_s hf
                    refine W.eq (g2 := F0 m 404 ls [.int p_46, .ref (a h0)]) rfl ?_
                    refine va_put (D := (dC, dI)) (ci := 16) (v := .int p_46) (ty := .int) (C := RX16) (T := TX16) (N := 18) hx hb hts iwd_X16_overAll_X16 tyX16 tyX16_ok nmX16 hown hK hP hD hS h0 (Wd_ob kg_7 sg_7 (by decide)) rfl 8 (by decide) (hts _ md_X16_overAll_7) (fun _ h9 => h9) rfl (by decide +kernel) rfl rfl (by rw [fl_len]; decide) dX16_overAll_404 (fun H_48 locs hP2 hD2 hS2 => ?_)
                    rw [Wd_si sg_7 (by decide) rfl] at hP2 hD2
                    obtain ⟨z_49, ez_49⟩ : ∃ w, w = si z_47 h0 8 p_46 := ⟨_, rfl⟩
                    rw [← ez_49] at hP2 hD2
                    replace hf := lt_at ez_49 hf
                    clear ez_49
                    replace hP := hP2
                    replace hD := hD2
                    replace hS := hS2
                    clear hP2 hD2 hS2
                    refine lv_iconst (v := 0) hx hb dX16_overAll_407 (by decide) ?_
                    refine lv_istore_n (lv' := [(1, .int 0), (0, .ref (a h0))]) hx hb dX16_overAll_408 rfl hl (by decide) rfl (fun ls hl2 => ?_)
                    replace hl := hl2
                    clear hl2
                    have hl0 : lv_has ls 4 [(1, .int 0), (0, .ref (a h0))] := lv_sub hl [0, 1] rfl
                    refine de_loop (h := 409) (fun (x : St × Int32) ls H locs => lv_has ls 4 [(1, .int x.2), (0, .ref (a h0))] ∧ va_P (dC, dI) vwCl (Wd cy a sh n x.1) H ∧ va_D A (Wd cy a sh n x.1) ∧ va_S A s.heap H locs) (fun f x => fn_X16_overAll_L409 F sh n h0 f x.1 x.2) (z8, r8) ?_ (fun _ => rfl) F (z_49, 0) ls H_48 locs ⟨hl0, hP, hD, hS⟩ hf
                    intro f_52 x ls H locs ih409 hI hf
                    obtain ⟨z_51, p_50⟩ := x
                    obtain ⟨hl2, hP2, hD2, hS2⟩ := hI
                    replace hl : lv_has ls 4 [(1, .int p_50), (0, .ref (a h0))] := hl2
                    replace hP := hP2
                    replace hD := hD2
                    replace hS := hS2
                    clear hl2 hP2 hD2 hS2 hl0
                    replace hf := fn_X16_overAll_L409_s hf
                    refine lv_iload_n hx hb dX16_overAll_409 rfl (lv_at hl 0 rfl) ?_
                    refine lv_aload_n hx hb dX16_overAll_410 rfl (lv_at hl 1 rfl) ?_
                    refine va_get (D := (dC, dI)) (ci := 16) (v := .int (z_51.1 h0 8)) (C := RX16) (T := TX16) (N := 18) hx hb hts iwd_X16_overAll_X16 hown hK hP h0 (Wd_ob kg_7 sg_7 (by decide)) rfl 8 (by decide) (hts _ md_X16_overAll_7) (fun _ h9 => h9) (fl_at (t := 0) rfl) dX16_overAll_411 ?_
                    refine de_cut (h := 445) (fun (x : St) => []) (fun x ls H locs => lv_has ls 4 [(0, .ref (a h0))] ∧ va_P (dC, dI) vwCl (Wd cy a sh n x) H ∧ va_D A (Wd cy a sh n x) ∧ va_S A s.heap H locs) (fun x => fn_X16_overAll_B445 F sh n h0 x) (z8, r8) ?_ (fun B445 => ?_)
                    · intro x ls H locs hI hf
                      obtain ⟨z_53, ez⟩ : ∃ w, w = x := ⟨_, rfl⟩
                      subst ez
                      obtain ⟨hl2, hP2, hD2, hS2⟩ := hI
                      replace hl : lv_has ls 4 [(0, .ref (a h0))] := hl2
                      replace hP := hP2
                      replace hD := hD2
                      replace hS := hS2
                      clear hl2 hP2 hD2 hS2
                      replace hf := fn_X16_overAll_B445_s hf
                      refine W.eq (g2 := F0 m 445 ls []) rfl ?_
                      refine lv_aload_n hx hb dX16_overAll_445 rfl (lv_at hl 0 rfl) ?_
                      refine lv_aload_n hx hb dX16_overAll_446 rfl (lv_at hl 0 rfl) ?_
                      obtain ⟨z_54, r_55, hfc, hf⟩ := cal_some hf
                      have hFc := de_free hD hS hA
                      refine va_calli (va_runV (As := []) (rest := [.ref (a h0)]) ⟨hx, hb, hml, hown, hts⟩ (de_X16_isGood l dC dI cy a sh n H.size F z_53 h0 hfc) (cwV 0 hts gX16_overAll_X16_isGood rfl rfl rfl (by decide +kernel) ⟨Nat.le_of_ble_eq_true rfl, Nat.le_of_ble_eq_true rfl⟩) ⟨fun a U g mk q => by obtain ⟨q0, q1, qP, qK, qD, qN⟩ := q; exact ⟨q0, q1, qP, va_K.moved (u := U) (U := U.calling g mk a) (Vm.Alike.refl U.vm) qK, qD, qN.same rfl⟩, va_recv hK hP (ci := 16) (q0 := h0) rfl (Wd_ob kg_7 sg_7 (by decide)), fun U hU hW => ⟨rfl, by rw [hU], by rw [hU]; exact hP, va_K.moved hW.alike hK, hD.weaken (fun _ _ _ _ => trivial), hN.warm hW⟩⟩ rfl rfl hl.1 rfl (lv_room (Nat.le_of_ble_eq_true rfl)) dX16_overAll_447 ⟨Nat.le_of_ble_eq_true rfl, Nat.le_of_ble_eq_true rfl⟩) hS (fun q _ h => hFc q h) hFc (fun rr u t H_56 locs ht hvm hw hB hz1 hk1 hS2 => ?_)
                      rw [hw]
                      clear hw
                      obtain ⟨hP1, -, hD1⟩ := hB
                      rw [ht] at hP1
                      replace hD := hD1.weaken (fun _ _ _ h => hFc _ h)
                      replace hP := hP1
                      replace hS := hS2
                      clear hP1 hD1 hS2 hFc hfc hz1 hk1 hvm ht
                      refine de_cut (h := 464) (fun (x : St × Int32) => [.int x.2, .ref (a h0)]) (fun x ls H locs => lv_has ls 4 [(0, .ref (a h0))] ∧ va_P (dC, dI) vwCl (Wd cy a sh n x.1) H ∧ va_D A (Wd cy a sh n x.1) ∧ va_S A s.heap H locs) (fun x => fn_X16_overAll_B464 F sh n h0 x.1 x.2) (z8, r8) ?_ (fun B464 => ?_)
                      · intro x ls H locs hI hf
                        obtain ⟨z_58, p_57⟩ := x
                        obtain ⟨hl2, hP2, hD2, hS2⟩ := hI
                        replace hl : lv_has ls 4 [(0, .ref (a h0))] := hl2
                        replace hP := hP2
                        replace hD := hD2
                        replace hS := hS2
                        clear hl2 hP2 hD2 hS2
                        replace hf := fn_X16_overAll_B464_s hf
                        refine W.eq (g2 := F0 m 464 ls [.int p_57, .ref (a h0)]) rfl ?_
                        refine va_put (D := (dC, dI)) (ci := 16) (v := .int p_57) (ty := .int) (C := RX16) (T := TX16) (N := 18) hx hb hts iwd_X16_overAll_X16 tyX16 tyX16_ok nmX16 hown hK hP hD hS h0 (Wd_ob kg_7 sg_7 (by decide)) rfl 9 (by decide) (hts _ md_X16_overAll_9) (fun _ h9 => h9) rfl (by decide +kernel) rfl rfl (by rw [fl_len]; decide) dX16_overAll_464 (fun H_59 locs hP2 hD2 hS2 => ?_)
                        rw [Wd_si sg_7 (by decide) rfl] at hP2 hD2
                        obtain ⟨z_60, ez_60⟩ : ∃ w, w = si z_58 h0 9 p_57 := ⟨_, rfl⟩
                        rw [← ez_60] at hP2 hD2
                        replace hf := lt_at ez_60 hf
                        clear ez_60
                        replace hP := hP2
                        replace hD := hD2
                        replace hS := hS2
                        clear hP2 hD2 hS2
                        refine lv_iconst (v := 0) hx hb dX16_overAll_467 (by decide) ?_
                        refine lv_istore_n (lv' := [(1, .int 0), (0, .ref (a h0))]) hx hb dX16_overAll_468 rfl hl (by decide) rfl (fun ls hl2 => ?_)
                        replace hl := hl2
                        clear hl2
                        have hl0 : lv_has ls 4 [(1, .int 0), (0, .ref (a h0))] := lv_sub hl [0, 1] rfl
                        refine de_loop (h := 469) (fun (x : St × Int32) ls H locs => lv_has ls 4 [(1, .int x.2), (0, .ref (a h0))] ∧ va_P (dC, dI) vwCl (Wd cy a sh n x.1) H ∧ va_D A (Wd cy a sh n x.1) ∧ va_S A s.heap H locs) (fun f x => fn_X16_overAll_L469 F sh n h0 f x.1 x.2) (z8, r8) ?_ (fun _ => rfl) F (z_60, 0) ls H_59 locs ⟨hl0, hP, hD, hS⟩ hf
                        intro f_63 x ls H locs ih469 hI hf
                        obtain ⟨z_62, p_61⟩ := x
                        obtain ⟨hl2, hP2, hD2, hS2⟩ := hI
                        replace hl : lv_has ls 4 [(1, .int p_61), (0, .ref (a h0))] := hl2
                        replace hP := hP2
                        replace hD := hD2
                        replace hS := hS2
                        clear hl2 hP2 hD2 hS2 hl0
                        replace hf := fn_X16_overAll_L469_s hf
                        refine lv_iload_n hx hb dX16_overAll_469 rfl (lv_at hl 0 rfl) ?_
                        refine lv_aload_n hx hb dX16_overAll_470 rfl (lv_at hl 1 rfl) ?_
                        refine va_get (D := (dC, dI)) (ci := 16) (v := .int (z_62.1 h0 9)) (C := RX16) (T := TX16) (N := 18) hx hb hts iwd_X16_overAll_X16 hown hK hP h0 (Wd_ob kg_7 sg_7 (by decide)) rfl 9 (by decide) (hts _ md_X16_overAll_9) (fun _ h9 => h9) (fl_at (t := 0) rfl) dX16_overAll_471 ?_
                        refine de_cut (h := 495) (fun (x : St) => []) (fun x ls H locs => lv_has ls 4 [(0, .ref (a h0))] ∧ va_P (dC, dI) vwCl (Wd cy a sh n x) H ∧ va_D A (Wd cy a sh n x) ∧ va_S A s.heap H locs) (fun x => fn_X16_overAll_B495 F sh n h0 x) (z8, r8) ?_ (fun B495 => ?_)
                        · intro x ls H locs hI hf
                          obtain ⟨z_64, ez⟩ : ∃ w, w = x := ⟨_, rfl⟩
                          subst ez
                          obtain ⟨hl2, hP2, hD2, hS2⟩ := hI
                          replace hl : lv_has ls 4 [(0, .ref (a h0))] := hl2
                          replace hP := hP2
                          replace hD := hD2
                          replace hS := hS2
                          clear hl2 hP2 hD2 hS2
                          replace hf := fn_X16_overAll_B495_s hf
                          refine W.eq (g2 := F0 m 495 ls []) rfl ?_
                          refine lv_aload_n hx hb dX16_overAll_495 rfl (lv_at hl 0 rfl) ?_
                          obtain ⟨z_65, r_66, hfc, hf⟩ := cal_some hf
                          have hFc := de_free hD hS hA
                          refine va_calli (va_runV (As := []) (rest := []) ⟨hx, hb, hml, hown, hts⟩ (de_X16_isGood l dC dI cy a sh n H.size F z_64 h0 hfc) (cwV 0 hts gX16_overAll_X16_isGood rfl rfl rfl (by decide +kernel) ⟨Nat.le_of_ble_eq_true rfl, Nat.le_of_ble_eq_true rfl⟩) ⟨fun a U g mk q => by obtain ⟨q0, q1, qP, qK, qD, qN⟩ := q; exact ⟨q0, q1, qP, va_K.moved (u := U) (U := U.calling g mk a) (Vm.Alike.refl U.vm) qK, qD, qN.same rfl⟩, va_recv hK hP (ci := 16) (q0 := h0) rfl (Wd_ob kg_7 sg_7 (by decide)), fun U hU hW => ⟨rfl, by rw [hU], by rw [hU]; exact hP, va_K.moved hW.alike hK, hD.weaken (fun _ _ _ _ => trivial), hN.warm hW⟩⟩ rfl rfl hl.1 rfl (lv_room (Nat.le_of_ble_eq_true rfl)) dX16_overAll_496 ⟨Nat.le_of_ble_eq_true rfl, Nat.le_of_ble_eq_true rfl⟩) hS (fun q _ h => hFc q h) hFc (fun rr u t H_67 locs ht hvm hw hB hz1 hk1 hS2 => ?_)
                          rw [hw]
                          clear hw
                          obtain ⟨hP1, -, hD1⟩ := hB
                          rw [ht] at hP1
                          replace hD := hD1.weaken (fun _ _ _ h => hFc _ h)
                          replace hP := hP1
                          replace hS := hS2
                          clear hP1 hD1 hS2 hFc hfc hz1 hk1 hvm ht
                          refine lv_if_eq (tgt := 523) hx hb dX16_overAll_499 (by decide) (fun c_68 => ?_) (fun c_68 => ?_)
                          · skip
                            rw [if_pos c_68] at hf
                            obtain ⟨h8, h9⟩ := ret_some hf
                            rw [h8]
                            exact W.vret hx hb hr (fun t ht hW => ⟨⟨(), rfl, trivial, by rw [ht]; exact hP, va_K.moved hW.alike hK, hD⟩, hS.F ht⟩) hS.2.2 dX16_overAll_523
                          · skip
                            rw [if_neg c_68] at hf
                            refine lv_aload_n hx hb dX16_overAll_502 rfl (lv_at hl 0 rfl) ?_
                            refine va_get (D := (dC, dI)) (ci := 16) (v := .int (z_65.1 h0 2)) (C := RX16) (T := TX16) (N := 18) hx hb hts iwd_X16_overAll_X16 hown hK hP h0 (Wd_ob kg_7 sg_7 (by decide)) rfl 2 (by decide) (hts _ md_X16_overAll_3) (fun _ h9 => h9) (fl_at (t := 0) rfl) dX16_overAll_503 ?_
                            refine lv_aload_n hx hb dX16_overAll_506 rfl (lv_at hl 0 rfl) ?_
                            refine va_get (D := (dC, dI)) (ci := 16) (v := .int (z_65.1 h0 1)) (C := RX16) (T := TX16) (N := 18) hx hb hts iwd_X16_overAll_X16 hown hK hP h0 (Wd_ob kg_7 sg_7 (by decide)) rfl 1 (by decide) (hts _ md_X16_overAll_10) (fun _ h9 => h9) (fl_at (t := 0) rfl) dX16_overAll_507 ?_
                            refine lv_icmp_ge (tgt := 523) hx hb dX16_overAll_510 (by decide) (fun c_69 => ?_) (fun c_69 => ?_)
                            · skip
                              rw [if_pos c_69] at hf
                              obtain ⟨h8, h9⟩ := ret_some hf
                              rw [h8]
                              exact W.vret hx hb hr (fun t ht hW => ⟨⟨(), rfl, trivial, by rw [ht]; exact hP, va_K.moved hW.alike hK, hD⟩, hS.F ht⟩) hS.2.2 dX16_overAll_523
                            · skip
                              rw [if_neg c_69] at hf
                              refine lv_aload_n hx hb dX16_overAll_513 rfl (lv_at hl 0 rfl) ?_
                              refine lv_bipush (v := 6) hx hb dX16_overAll_514 (by decide) ?_
                              refine lv_aload_n hx hb dX16_overAll_516 rfl (lv_at hl 0 rfl) ?_
                              refine va_get (D := (dC, dI)) (ci := 16) (v := .int (z_65.1 h0 2)) (C := RX16) (T := TX16) (N := 18) hx hb hts iwd_X16_overAll_X16 hown hK hP h0 (Wd_ob kg_7 sg_7 (by decide)) rfl 2 (by decide) (hts _ md_X16_overAll_3) (fun _ h9 => h9) (fl_at (t := 0) rfl) dX16_overAll_517 ?_
                              obtain ⟨z_70, _u, hfc, hf⟩ := cal_some hf
                              have hFc := de_free hD hS hA
                              refine va_callv (va_runV (As := [.int 6, .int (z_65.1 h0 2)]) (rest := []) ⟨hx, hb, hml, hown, hts⟩ (de_X16_fail l dC dI cy a sh n H_67.size F z_65 h0 6 (z_65.1 h0 2) hfc) (cwV 2 hts gX16_overAll_X16_fail rfl rfl rfl (by decide +kernel) ⟨Nat.le_of_ble_eq_true rfl, Nat.le_of_ble_eq_true rfl⟩) ⟨fun a U g mk q => by obtain ⟨q0, q1, qP, qK, qD, qN⟩ := q; exact ⟨q0, q1, qP, va_K.moved (u := U) (U := U.calling g mk a) (Vm.Alike.refl U.vm) qK, qD, qN.same rfl⟩, va_recv hK hP (ci := 16) (q0 := h0) rfl (Wd_ob kg_7 sg_7 (by decide)), fun U hU hW => ⟨rfl, by rw [hU], by rw [hU]; exact hP, va_K.moved hW.alike hK, hD.weaken (fun _ _ _ _ => trivial), hN.warm hW⟩⟩ rfl rfl hl.1 rfl (lv_room (Nat.le_of_ble_eq_true rfl)) dX16_overAll_520 ⟨Nat.le_of_ble_eq_true rfl, Nat.le_of_ble_eq_true rfl⟩) hS (fun q _ h => hFc q h) hFc (fun u t H_71 locs ht hvm hw hB hz1 hk1 hS2 => ?_)
                              obtain ⟨hP1, -, hD1⟩ := hB
                              rw [ht] at hP1
                              replace hD := hD1.weaken (fun _ _ _ h => hFc _ h)
                              replace hP := hP1
                              replace hS := hS2
                              clear hP1 hD1 hS2 hFc hfc hz1 hk1 hvm ht
                              obtain ⟨h8, h9⟩ := ret_some hf
                              rw [h8]
                              exact W.vret hx hb hr (fun t ht hW => ⟨⟨(), rfl, trivial, by rw [ht]; exact hP, va_K.moved hW.alike hK, hD⟩, hS.F ht⟩) hS.2.2 dX16_overAll_523
                        refine lv_icmp_ge (tgt := 495) hx hb dX16_overAll_474 (by decide) (fun c_72 => ?_) (fun c_72 => ?_)
                        · skip
                          rw [if_pos c_72] at hf
                          exact B495 (z_62) ls H locs ⟨lv_sub hl [1] rfl, hP, hD, hS⟩ hf
                        · skip
                          rw [if_neg c_72] at hf
                          refine lv_aload_n hx hb dX16_overAll_477 rfl (lv_at hl 1 rfl) ?_
                          obtain ⟨z_73, r_74, hfc, hf⟩ := cal_some hf
                          have hFc := de_free hD hS hA
                          refine va_calli (va_runV (As := []) (rest := []) ⟨hx, hb, hml, hown, hts⟩ (de_X16_isGood l dC dI cy a sh n H.size F z_62 h0 hfc) (cwV 0 hts gX16_overAll_X16_isGood rfl rfl rfl (by decide +kernel) ⟨Nat.le_of_ble_eq_true rfl, Nat.le_of_ble_eq_true rfl⟩) ⟨fun a U g mk q => by obtain ⟨q0, q1, qP, qK, qD, qN⟩ := q; exact ⟨q0, q1, qP, va_K.moved (u := U) (U := U.calling g mk a) (Vm.Alike.refl U.vm) qK, qD, qN.same rfl⟩, va_recv hK hP (ci := 16) (q0 := h0) rfl (Wd_ob kg_7 sg_7 (by decide)), fun U hU hW => ⟨rfl, by rw [hU], by rw [hU]; exact hP, va_K.moved hW.alike hK, hD.weaken (fun _ _ _ _ => trivial), hN.warm hW⟩⟩ rfl rfl hl.1 rfl (lv_room (Nat.le_of_ble_eq_true rfl)) dX16_overAll_478 ⟨Nat.le_of_ble_eq_true rfl, Nat.le_of_ble_eq_true rfl⟩) hS (fun q _ h => hFc q h) hFc (fun rr u t H_75 locs ht hvm hw hB hz1 hk1 hS2 => ?_)
                          rw [hw]
                          clear hw
                          obtain ⟨hP1, -, hD1⟩ := hB
                          rw [ht] at hP1
                          replace hD := hD1.weaken (fun _ _ _ h => hFc _ h)
                          replace hP := hP1
                          replace hS := hS2
                          clear hP1 hD1 hS2 hFc hfc hz1 hk1 hvm ht
                          refine lv_if_eq (tgt := 495) hx hb dX16_overAll_481 (by decide) (fun c_76 => ?_) (fun c_76 => ?_)
                          · skip
                            rw [if_pos c_76] at hf
                            exact B495 (z_73) ls H_75 locs ⟨lv_sub hl [1] rfl, hP, hD, hS⟩ hf
                          · skip
                            rw [if_neg c_76] at hf
                            refine lv_aload_n hx hb dX16_overAll_484 rfl (lv_at hl 1 rfl) ?_
                            refine lv_iload_n hx hb dX16_overAll_485 rfl (lv_at hl 0 rfl) ?_
                            obtain ⟨z_77, _u, hfc, hf⟩ := cal_some hf
                            have hFc := de_free hD hS hA
                            refine va_callv (va_runV (As := [.int p_61]) (rest := []) ⟨hx, hb, hml, hown, hts⟩ (de_X16_overFunction l dC dI cy a sh n H_75.size F z_73 h0 p_61 hfc) (cwV 1 hts gX16_overAll_X16_overFunction rfl rfl rfl (by decide +kernel) ⟨Nat.le_of_ble_eq_true rfl, Nat.le_of_ble_eq_true rfl⟩) ⟨fun a U g mk q => by obtain ⟨q0, q1, qP, qK, qD, qN⟩ := q; exact ⟨q0, q1, qP, va_K.moved (u := U) (U := U.calling g mk a) (Vm.Alike.refl U.vm) qK, qD, qN.same rfl⟩, va_recv hK hP (ci := 16) (q0 := h0) rfl (Wd_ob kg_7 sg_7 (by decide)), fun U hU hW => ⟨rfl, by rw [hU], by rw [hU]; exact hP, va_K.moved hW.alike hK, hD.weaken (fun _ _ _ _ => trivial), hN.warm hW⟩⟩ rfl rfl hl.1 rfl (lv_room (Nat.le_of_ble_eq_true rfl)) dX16_overAll_486 ⟨Nat.le_of_ble_eq_true rfl, Nat.le_of_ble_eq_true rfl⟩) hS (fun q _ h => hFc q h) hFc (fun u t H_78 locs ht hvm hw hB hz1 hk1 hS2 => ?_)
                            obtain ⟨hP1, -, hD1⟩ := hB
                            rw [ht] at hP1
                            replace hD := hD1.weaken (fun _ _ _ h => hFc _ h)
                            replace hP := hP1
                            replace hS := hS2
                            clear hP1 hD1 hS2 hFc hfc hz1 hk1 hvm ht
                            refine lv_iinc (v := (p_61 + 1)) (lv' := [(1, .int (p_61 + 1)), (0, .ref (a h0))]) hx hb dX16_overAll_489 hl (k := 0) rfl rfl (by decide) rfl (fun ls hl2 => ?_)
                            replace hl := hl2
                            clear hl2
                            refine lv_goto (tgt := 469) hx hb dX16_overAll_492 (by decide) ?_
                            exact ih469 (z_77, (p_61 + 1)) ls H_78 locs ⟨lv_sub hl [0, 1] rfl, hP, hD, hS⟩ hf
                      refine lv_if_eq (tgt := 463) hx hb dX16_overAll_450 (by decide) (fun c_79 => ?_) (fun c_79 => ?_)
                      · skip
                        rw [if_pos c_79] at hf
                        refine lv_iconst (v := 0) hx hb dX16_overAll_463 (by decide) ?_
                        exact B464 (z_54, 0) ls H_56 locs ⟨lv_sub hl [0] rfl, hP, hD, hS⟩ hf
                      · skip
                        rw [if_neg c_79] at hf
                        refine lv_aload_n hx hb dX16_overAll_453 rfl (lv_at hl 0 rfl) ?_
                        refine lv_iconst (v := 0) hx hb dX16_overAll_454 (by decide) ?_
                        refine lv_bipush (v := 64) hx hb dX16_overAll_455 (by decide) ?_
                        obtain ⟨z_80, r_81, hfc, hf⟩ := cal_some hf
                        have hFc := de_free hD hS hA
                        refine va_calli (va_runV (As := [.int 0, .int 64]) (rest := [.ref (a h0)]) ⟨hx, hb, hml, hown, hts⟩ (de_X16_count l dC dI cy a sh n H_56.size F z_54 h0 0 64 hfc) (cwV 2 hts gX16_overAll_X16_count rfl rfl rfl (by decide +kernel) ⟨Nat.le_of_ble_eq_true rfl, Nat.le_of_ble_eq_true rfl⟩) ⟨fun a U g mk q => by obtain ⟨q0, q1, qP, qK, qD, qN⟩ := q; exact ⟨q0, q1, qP, va_K.moved (u := U) (U := U.calling g mk a) (Vm.Alike.refl U.vm) qK, qD, qN.same rfl⟩, va_recv hK hP (ci := 16) (q0 := h0) rfl (Wd_ob kg_7 sg_7 (by decide)), fun U hU hW => ⟨rfl, by rw [hU], by rw [hU]; exact hP, va_K.moved hW.alike hK, hD.weaken (fun _ _ _ _ => trivial), hN.warm hW⟩⟩ rfl rfl hl.1 rfl (lv_room (Nat.le_of_ble_eq_true rfl)) dX16_overAll_457 ⟨Nat.le_of_ble_eq_true rfl, Nat.le_of_ble_eq_true rfl⟩) hS (fun q _ h => hFc q h) hFc (fun rr u t H_82 locs ht hvm hw hB hz1 hk1 hS2 => ?_)
                        rw [hw]
                        clear hw
                        obtain ⟨hP1, -, hD1⟩ := hB
                        rw [ht] at hP1
                        replace hD := hD1.weaken (fun _ _ _ h => hFc _ h)
                        replace hP := hP1
                        replace hS := hS2
                        clear hP1 hD1 hS2 hFc hfc hz1 hk1 hvm ht
                        refine lv_goto (tgt := 464) hx hb dX16_overAll_460 (by decide) ?_
                        exact B464 (z_80, r_81) ls H_82 locs ⟨lv_sub hl [0] rfl, hP, hD, hS⟩ hf
                    refine lv_icmp_ge (tgt := 445) hx hb dX16_overAll_414 (by decide) (fun c_83 => ?_) (fun c_83 => ?_)
                    · skip
                      rw [if_pos c_83] at hf
                      exact B445 (z_51) ls H locs ⟨lv_sub hl [1] rfl, hP, hD, hS⟩ hf
                    · skip
                      rw [if_neg c_83] at hf
                      refine lv_aload_n hx hb dX16_overAll_417 rfl (lv_at hl 1 rfl) ?_
                      obtain ⟨z_84, r_85, hfc, hf⟩ := cal_some hf
                      have hFc := de_free hD hS hA
                      refine va_calli (va_runV (As := []) (rest := []) ⟨hx, hb, hml, hown, hts⟩ (de_X16_isGood l dC dI cy a sh n H.size F z_51 h0 hfc) (cwV 0 hts gX16_overAll_X16_isGood rfl rfl rfl (by decide +kernel) ⟨Nat.le_of_ble_eq_true rfl, Nat.le_of_ble_eq_true rfl⟩) ⟨fun a U g mk q => by obtain ⟨q0, q1, qP, qK, qD, qN⟩ := q; exact ⟨q0, q1, qP, va_K.moved (u := U) (U := U.calling g mk a) (Vm.Alike.refl U.vm) qK, qD, qN.same rfl⟩, va_recv hK hP (ci := 16) (q0 := h0) rfl (Wd_ob kg_7 sg_7 (by decide)), fun U hU hW => ⟨rfl, by rw [hU], by rw [hU]; exact hP, va_K.moved hW.alike hK, hD.weaken (fun _ _ _ _ => trivial), hN.warm hW⟩⟩ rfl rfl hl.1 rfl (lv_room (Nat.le_of_ble_eq_true rfl)) dX16_overAll_418 ⟨Nat.le_of_ble_eq_true rfl, Nat.le_of_ble_eq_true rfl⟩) hS (fun q _ h => hFc q h) hFc (fun rr u t H_86 locs ht hvm hw hB hz1 hk1 hS2 => ?_)
                      rw [hw]
                      clear hw
                      obtain ⟨hP1, -, hD1⟩ := hB
                      rw [ht] at hP1
                      replace hD := hD1.weaken (fun _ _ _ h => hFc _ h)
                      replace hP := hP1
                      replace hS := hS2
                      clear hP1 hD1 hS2 hFc hfc hz1 hk1 hvm ht
                      refine lv_if_eq (tgt := 445) hx hb dX16_overAll_421 (by decide) (fun c_87 => ?_) (fun c_87 => ?_)
                      · skip
                        rw [if_pos c_87] at hf
                        exact B445 (z_84) ls H_86 locs ⟨lv_sub hl [1] rfl, hP, hD, hS⟩ hf
                      · skip
                        rw [if_neg c_87] at hf
                        refine lv_aload_n hx hb dX16_overAll_424 rfl (lv_at hl 1 rfl) ?_
                        obtain ⟨k_88, ek_88, hf⟩ := lnk_some hf
                        refine va_get (D := (dC, dI)) (ci := 16) (v := .ref (a k_88)) (C := RX16) (T := TX16) (N := 18) hx hb hts iwd_X16_overAll_X16 hown hK hP h0 (Wd_ob kg_7 sg_7 (by decide)) rfl 13 (by decide) (hts _ md_X16_overAll_8) (fun _ h9 => h9) (fl_q rfl ek_88) dX16_overAll_425 ?_
                        refine lv_iload_n hx hb dX16_overAll_428 rfl (lv_at hl 0 rfl) ?_
                        refine lv_aload_n hx hb dX16_overAll_429 rfl (lv_at hl 1 rfl) ?_
                        refine va_get (D := (dC, dI)) (ci := 16) (v := .int (z_84.1 h0 2)) (C := RX16) (T := TX16) (N := 18) hx hb hts iwd_X16_overAll_X16 hown hK hP h0 (Wd_ob kg_7 sg_7 (by decide)) rfl 2 (by decide) (hts _ md_X16_overAll_3) (fun _ h9 => h9) (fl_at (t := 0) rfl) dX16_overAll_430 ?_
                        obtain ⟨g_89, hf⟩ := grd_some hf
                        obtain ⟨kg_89, sg_89, ig_89⟩ := okA_at g_89
                        refine va_iast hx hb hK hP hD hS k_88 1 (Wd_ai kg_89 sg_89) rfl ig_89 dX16_overAll_433 (fun H_90 locs hP2 hD2 hS2 => ?_)
                        rw [Wd_ti sg_89] at hP2 hD2
                        obtain ⟨z_91, ez_91⟩ : ∃ w, w = si z_84 k_88 p_50.toNatClampNeg (z_84.1 h0 2) := ⟨_, rfl⟩
                        rw [← ez_91] at hP2 hD2
                        replace hf := lt_at ez_91 hf
                        clear ez_91
                        replace hP := hP2
                        replace hD := hD2
                        replace hS := hS2
                        clear hP2 hD2 hS2
                        refine lv_aload_n hx hb dX16_overAll_434 rfl (lv_at hl 1 rfl) ?_
                        refine lv_iconst (v := 0) hx hb dX16_overAll_435 (by decide) ?_
                        obtain ⟨z_92, _u, hfc, hf⟩ := cal_some hf
                        have hFc := de_free hD hS hA
                        refine va_callv (va_runV (As := [.int 0]) (rest := []) ⟨hx, hb, hml, hown, hts⟩ (de_X16_overType l dC dI cy a sh n H_90.size F z_91 h0 0 hfc) (cwV 1 hts gX16_overAll_X16_overType rfl rfl rfl (by decide +kernel) ⟨Nat.le_of_ble_eq_true rfl, Nat.le_of_ble_eq_true rfl⟩) ⟨fun a U g mk q => by obtain ⟨q0, q1, qP, qK, qD, qN⟩ := q; exact ⟨q0, q1, qP, va_K.moved (u := U) (U := U.calling g mk a) (Vm.Alike.refl U.vm) qK, qD, qN.same rfl⟩, va_recv hK hP (ci := 16) (q0 := h0) rfl (Wd_ob kg_7 sg_7 (by decide)), fun U hU hW => ⟨rfl, by rw [hU], by rw [hU]; exact hP, va_K.moved hW.alike hK, hD.weaken (fun _ _ _ _ => trivial), hN.warm hW⟩⟩ rfl rfl hl.1 rfl (lv_room (Nat.le_of_ble_eq_true rfl)) dX16_overAll_436 ⟨Nat.le_of_ble_eq_true rfl, Nat.le_of_ble_eq_true rfl⟩) hS (fun q _ h => hFc q h) hFc (fun u t H_93 locs ht hvm hw hB hz1 hk1 hS2 => ?_)
                        obtain ⟨hP1, -, hD1⟩ := hB
                        rw [ht] at hP1
                        replace hD := hD1.weaken (fun _ _ _ h => hFc _ h)
                        replace hP := hP1
                        replace hS := hS2
                        clear hP1 hD1 hS2 hFc hfc hz1 hk1 hvm ht
                        refine lv_iinc (v := (p_50 + 1)) (lv' := [(1, .int (p_50 + 1)), (0, .ref (a h0))]) hx hb dX16_overAll_439 hl (k := 0) rfl rfl (by decide) rfl (fun ls hl2 => ?_)
                        replace hl := hl2
                        clear hl2
                        refine lv_goto (tgt := 409) hx hb dX16_overAll_442 (by decide) ?_
                        exact ih409 (z_92, (p_50 + 1)) ls H_93 locs ⟨lv_sub hl [0, 1] rfl, hP, hD, hS⟩ hf
                  refine lv_if_eq (tgt := 403) hx hb dX16_overAll_390 (by decide) (fun c_94 => ?_) (fun c_94 => ?_)
                  · skip
                    rw [if_pos c_94] at hf
                    refine lv_iconst (v := 0) hx hb dX16_overAll_403 (by decide) ?_
                    exact B404 (z_43, 0) ls H_45 locs ⟨lv_sub hl [0] rfl, hP, hD, hS⟩ hf
                  · skip
                    rw [if_neg c_94] at hf
                    refine lv_aload_n hx hb dX16_overAll_393 rfl (lv_at hl 0 rfl) ?_
                    refine lv_iconst (v := 0) hx hb dX16_overAll_394 (by decide) ?_
                    refine lv_bipush (v := 32) hx hb dX16_overAll_395 (by decide) ?_
                    obtain ⟨z_95, r_96, hfc, hf⟩ := cal_some hf
                    have hFc := de_free hD hS hA
                    refine va_calli (va_runV (As := [.int 0, .int 32]) (rest := [.ref (a h0)]) ⟨hx, hb, hml, hown, hts⟩ (de_X16_count l dC dI cy a sh n H_45.size F z_43 h0 0 32 hfc) (cwV 2 hts gX16_overAll_X16_count rfl rfl rfl (by decide +kernel) ⟨Nat.le_of_ble_eq_true rfl, Nat.le_of_ble_eq_true rfl⟩) ⟨fun a U g mk q => by obtain ⟨q0, q1, qP, qK, qD, qN⟩ := q; exact ⟨q0, q1, qP, va_K.moved (u := U) (U := U.calling g mk a) (Vm.Alike.refl U.vm) qK, qD, qN.same rfl⟩, va_recv hK hP (ci := 16) (q0 := h0) rfl (Wd_ob kg_7 sg_7 (by decide)), fun U hU hW => ⟨rfl, by rw [hU], by rw [hU]; exact hP, va_K.moved hW.alike hK, hD.weaken (fun _ _ _ _ => trivial), hN.warm hW⟩⟩ rfl rfl hl.1 rfl (lv_room (Nat.le_of_ble_eq_true rfl)) dX16_overAll_397 ⟨Nat.le_of_ble_eq_true rfl, Nat.le_of_ble_eq_true rfl⟩) hS (fun q _ h => hFc q h) hFc (fun rr u t H_97 locs ht hvm hw hB hz1 hk1 hS2 => ?_)
                    rw [hw]
                    clear hw
                    obtain ⟨hP1, -, hD1⟩ := hB
                    rw [ht] at hP1
                    replace hD := hD1.weaken (fun _ _ _ h => hFc _ h)
                    replace hP := hP1
                    replace hS := hS2
                    clear hP1 hD1 hS2 hFc hfc hz1 hk1 hvm ht
                    refine lv_goto (tgt := 404) hx hb dX16_overAll_400 (by decide) ?_
                    exact B404 (z_95, r_96) ls H_97 locs ⟨lv_sub hl [0] rfl, hP, hD, hS⟩ hf
                refine lv_icmp_ge (tgt := 385) hx hb dX16_overAll_310 (by decide) (fun c_98 => ?_) (fun c_98 => ?_)
                · skip
                  rw [if_pos c_98] at hf
                  exact B385 (z_40) ls H locs ⟨lv_sub hl [1] rfl, hP, hD, hS⟩ hf
                · skip
                  rw [if_neg c_98] at hf
                  refine lv_aload_n hx hb dX16_overAll_313 rfl (lv_at hl 1 rfl) ?_
                  obtain ⟨z_99, r_100, hfc, hf⟩ := cal_some hf
                  have hFc := de_free hD hS hA
                  refine va_calli (va_runV (As := []) (rest := []) ⟨hx, hb, hml, hown, hts⟩ (de_X16_isGood l dC dI cy a sh n H.size F z_40 h0 hfc) (cwV 0 hts gX16_overAll_X16_isGood rfl rfl rfl (by decide +kernel) ⟨Nat.le_of_ble_eq_true rfl, Nat.le_of_ble_eq_true rfl⟩) ⟨fun a U g mk q => by obtain ⟨q0, q1, qP, qK, qD, qN⟩ := q; exact ⟨q0, q1, qP, va_K.moved (u := U) (U := U.calling g mk a) (Vm.Alike.refl U.vm) qK, qD, qN.same rfl⟩, va_recv hK hP (ci := 16) (q0 := h0) rfl (Wd_ob kg_7 sg_7 (by decide)), fun U hU hW => ⟨rfl, by rw [hU], by rw [hU]; exact hP, va_K.moved hW.alike hK, hD.weaken (fun _ _ _ _ => trivial), hN.warm hW⟩⟩ rfl rfl hl.1 rfl (lv_room (Nat.le_of_ble_eq_true rfl)) dX16_overAll_314 ⟨Nat.le_of_ble_eq_true rfl, Nat.le_of_ble_eq_true rfl⟩) hS (fun q _ h => hFc q h) hFc (fun rr u t H_101 locs ht hvm hw hB hz1 hk1 hS2 => ?_)
                  rw [hw]
                  clear hw
                  obtain ⟨hP1, -, hD1⟩ := hB
                  rw [ht] at hP1
                  replace hD := hD1.weaken (fun _ _ _ h => hFc _ h)
                  replace hP := hP1
                  replace hS := hS2
                  clear hP1 hD1 hS2 hFc hfc hz1 hk1 hvm ht
                  refine lv_if_eq (tgt := 385) hx hb dX16_overAll_317 (by decide) (fun c_102 => ?_) (fun c_102 => ?_)
                  · skip
                    rw [if_pos c_102] at hf
                    exact B385 (z_99) ls H_101 locs ⟨lv_sub hl [1] rfl, hP, hD, hS⟩ hf
                  · skip
                    rw [if_neg c_102] at hf
                    refine lv_aload_n hx hb dX16_overAll_320 rfl (lv_at hl 1 rfl) ?_
                    obtain ⟨k_103, ek_103, hf⟩ := lnk_some hf
                    refine va_get (D := (dC, dI)) (ci := 16) (v := .ref (a k_103)) (C := RX16) (T := TX16) (N := 18) hx hb hts iwd_X16_overAll_X16 hown hK hP h0 (Wd_ob kg_7 sg_7 (by decide)) rfl 12 (by decide) (hts _ md_X16_overAll_6) (fun _ h9 => h9) (fl_q rfl ek_103) dX16_overAll_321 ?_
                    refine lv_iload_n hx hb dX16_overAll_324 rfl (lv_at hl 0 rfl) ?_
                    refine lv_aload_n hx hb dX16_overAll_325 rfl (lv_at hl 1 rfl) ?_
                    refine va_get (D := (dC, dI)) (ci := 16) (v := .int (z_99.1 h0 2)) (C := RX16) (T := TX16) (N := 18) hx hb hts iwd_X16_overAll_X16 hown hK hP h0 (Wd_ob kg_7 sg_7 (by decide)) rfl 2 (by decide) (hts _ md_X16_overAll_3) (fun _ h9 => h9) (fl_at (t := 0) rfl) dX16_overAll_326 ?_
                    obtain ⟨g_104, hf⟩ := grd_some hf
                    obtain ⟨kg_104, sg_104, ig_104⟩ := okA_at g_104
                    refine va_iast hx hb hK hP hD hS k_103 1 (Wd_ai kg_104 sg_104) rfl ig_104 dX16_overAll_329 (fun H_105 locs hP2 hD2 hS2 => ?_)
                    rw [Wd_ti sg_104] at hP2 hD2
                    obtain ⟨z_106, ez_106⟩ : ∃ w, w = si z_99 k_103 p_39.toNatClampNeg (z_99.1 h0 2) := ⟨_, rfl⟩
                    rw [← ez_106] at hP2 hD2
                    replace hf := lt_at ez_106 hf
                    clear ez_106
                    replace hP := hP2
                    replace hD := hD2
                    replace hS := hS2
                    clear hP2 hD2 hS2
                    refine lv_aload_n hx hb dX16_overAll_330 rfl (lv_at hl 1 rfl) ?_
                    refine lv_iconst (v := 3) hx hb dX16_overAll_331 (by decide) ?_
                    obtain ⟨z_107, r_108, hfc, hf⟩ := cal_some hf
                    have hFc := de_free hD hS hA
                    refine va_calli (va_runV (As := [.int 3]) (rest := []) ⟨hx, hb, hml, hown, hts⟩ (de_X16_over l dC dI cy a sh n H_105.size F z_106 h0 3 hfc) (cwV 1 hts gX16_overAll_X16_over rfl rfl rfl (by decide +kernel) ⟨Nat.le_of_ble_eq_true rfl, Nat.le_of_ble_eq_true rfl⟩) ⟨fun a U g mk q => by obtain ⟨q0, q1, qP, qK, qD, qN⟩ := q; exact ⟨q0, q1, qP, va_K.moved (u := U) (U := U.calling g mk a) (Vm.Alike.refl U.vm) qK, qD, qN.same rfl⟩, va_recv hK hP (ci := 16) (q0 := h0) rfl (Wd_ob kg_7 sg_7 (by decide)), fun U hU hW => ⟨rfl, by rw [hU], by rw [hU]; exact hP, va_K.moved hW.alike hK, hD.weaken (fun _ _ _ _ => trivial), hN.warm hW⟩⟩ rfl rfl hl.1 rfl (lv_room (Nat.le_of_ble_eq_true rfl)) dX16_overAll_332 ⟨Nat.le_of_ble_eq_true rfl, Nat.le_of_ble_eq_true rfl⟩) hS (fun q _ h => hFc q h) hFc (fun rr u t H_109 locs ht hvm hw hB hz1 hk1 hS2 => ?_)
                    rw [hw]
                    clear hw
                    obtain ⟨hP1, -, hD1⟩ := hB
                    rw [ht] at hP1
                    replace hD := hD1.weaken (fun _ _ _ h => hFc _ h)
                    replace hP := hP1
                    replace hS := hS2
                    clear hP1 hD1 hS2 hFc hfc hz1 hk1 hvm ht
                    refine lv_pop hx hb dX16_overAll_335 rfl ?_
                    refine lv_aload_n hx hb dX16_overAll_336 rfl (lv_at hl 1 rfl) ?_
                    obtain ⟨z_110, r_111, hfc, hf⟩ := cal_some hf
                    have hFc := de_free hD hS hA
                    refine va_calli (va_runV (As := []) (rest := []) ⟨hx, hb, hml, hown, hts⟩ (de_X16_isGood l dC dI cy a sh n H_109.size F z_107 h0 hfc) (cwV 0 hts gX16_overAll_X16_isGood rfl rfl rfl (by decide +kernel) ⟨Nat.le_of_ble_eq_true rfl, Nat.le_of_ble_eq_true rfl⟩) ⟨fun a U g mk q => by obtain ⟨q0, q1, qP, qK, qD, qN⟩ := q; exact ⟨q0, q1, qP, va_K.moved (u := U) (U := U.calling g mk a) (Vm.Alike.refl U.vm) qK, qD, qN.same rfl⟩, va_recv hK hP (ci := 16) (q0 := h0) rfl (Wd_ob kg_7 sg_7 (by decide)), fun U hU hW => ⟨rfl, by rw [hU], by rw [hU]; exact hP, va_K.moved hW.alike hK, hD.weaken (fun _ _ _ _ => trivial), hN.warm hW⟩⟩ rfl rfl hl.1 rfl (lv_room (Nat.le_of_ble_eq_true rfl)) dX16_overAll_337 ⟨Nat.le_of_ble_eq_true rfl, Nat.le_of_ble_eq_true rfl⟩) hS (fun q _ h => hFc q h) hFc (fun rr u t H_112 locs ht hvm hw hB hz1 hk1 hS2 => ?_)
                    rw [hw]
                    clear hw
                    obtain ⟨hP1, -, hD1⟩ := hB
                    rw [ht] at hP1
                    replace hD := hD1.weaken (fun _ _ _ h => hFc _ h)
                    replace hP := hP1
                    replace hS := hS2
                    clear hP1 hD1 hS2 hFc hfc hz1 hk1 hvm ht
                    refine de_cut (h := 351) (fun (x : St) => []) (fun x ls H locs => lv_has ls 4 [(1, .int p_39), (0, .ref (a h0))] ∧ va_P (dC, dI) vwCl (Wd cy a sh n x) H ∧ va_D A (Wd cy a sh n x) ∧ va_S A s.heap H locs) (fun x => fn_X16_overAll_B351 F sh n h0 p_39 (fun z9 q1 => fn_X16_overAll_L305 F sh n h0 f_41 z9 q1) x) (z8, r8) ?_ (fun B351 => ?_)
                    · intro x ls H locs hI hf
                      obtain ⟨z_113, ez⟩ : ∃ w, w = x := ⟨_, rfl⟩
                      subst ez
                      obtain ⟨hl2, hP2, hD2, hS2⟩ := hI
                      replace hl : lv_has ls 4 [(1, .int p_39), (0, .ref (a h0))] := hl2
                      replace hP := hP2
                      replace hD := hD2
                      replace hS := hS2
                      clear hl2 hP2 hD2 hS2
                      replace hf := fn_X16_overAll_B351_s hf
                      refine W.eq (g2 := F0 m 351 ls []) rfl ?_
                      refine lv_aload_n hx hb dX16_overAll_351 rfl (lv_at hl 1 rfl) ?_
                      obtain ⟨z_114, r_115, hfc, hf⟩ := cal_some hf
                      have hFc := de_free hD hS hA
                      refine va_calli (va_runV (As := []) (rest := []) ⟨hx, hb, hml, hown, hts⟩ (de_X16_isGood l dC dI cy a sh n H.size F z_113 h0 hfc) (cwV 0 hts gX16_overAll_X16_isGood rfl rfl rfl (by decide +kernel) ⟨Nat.le_of_ble_eq_true rfl, Nat.le_of_ble_eq_true rfl⟩) ⟨fun a U g mk q => by obtain ⟨q0, q1, qP, qK, qD, qN⟩ := q; exact ⟨q0, q1, qP, va_K.moved (u := U) (U := U.calling g mk a) (Vm.Alike.refl U.vm) qK, qD, qN.same rfl⟩, va_recv hK hP (ci := 16) (q0 := h0) rfl (Wd_ob kg_7 sg_7 (by decide)), fun U hU hW => ⟨rfl, by rw [hU], by rw [hU]; exact hP, va_K.moved hW.alike hK, hD.weaken (fun _ _ _ _ => trivial), hN.warm hW⟩⟩ rfl rfl hl.1 rfl (lv_room (Nat.le_of_ble_eq_true rfl)) dX16_overAll_352 ⟨Nat.le_of_ble_eq_true rfl, Nat.le_of_ble_eq_true rfl⟩) hS (fun q _ h => hFc q h) hFc (fun rr u t H_116 locs ht hvm hw hB hz1 hk1 hS2 => ?_)
                      rw [hw]
                      clear hw
                      obtain ⟨hP1, -, hD1⟩ := hB
                      rw [ht] at hP1
                      replace hD := hD1.weaken (fun _ _ _ h => hFc _ h)
                      replace hP := hP1
                      replace hS := hS2
                      clear hP1 hD1 hS2 hFc hfc hz1 hk1 hvm ht
                      refine de_cut (h := 365) (fun (x : St) => []) (fun x ls H locs => lv_has ls 4 [(1, .int p_39), (0, .ref (a h0))] ∧ va_P (dC, dI) vwCl (Wd cy a sh n x) H ∧ va_D A (Wd cy a sh n x) ∧ va_S A s.heap H locs) (fun x => fn_X16_overAll_B365 F sh n h0 p_39 (fun z9 q1 => fn_X16_overAll_L305 F sh n h0 f_41 z9 q1) x) (z8, r8) ?_ (fun B365 => ?_)
                      · intro x ls H locs hI hf
                        obtain ⟨z_117, ez⟩ : ∃ w, w = x := ⟨_, rfl⟩
                        subst ez
                        obtain ⟨hl2, hP2, hD2, hS2⟩ := hI
                        replace hl : lv_has ls 4 [(1, .int p_39), (0, .ref (a h0))] := hl2
                        replace hP := hP2
                        replace hD := hD2
                        replace hS := hS2
                        clear hl2 hP2 hD2 hS2
                        replace hf := fn_X16_overAll_B365_s hf
                        refine W.eq (g2 := F0 m 365 ls []) rfl ?_
                        refine lv_aload_n hx hb dX16_overAll_365 rfl (lv_at hl 1 rfl) ?_
                        obtain ⟨z_118, r_119, hfc, hf⟩ := cal_some hf
                        have hFc := de_free hD hS hA
                        refine va_calli (va_runV (As := []) (rest := []) ⟨hx, hb, hml, hown, hts⟩ (de_X16_isGood l dC dI cy a sh n H.size F z_117 h0 hfc) (cwV 0 hts gX16_overAll_X16_isGood rfl rfl rfl (by decide +kernel) ⟨Nat.le_of_ble_eq_true rfl, Nat.le_of_ble_eq_true rfl⟩) ⟨fun a U g mk q => by obtain ⟨q0, q1, qP, qK, qD, qN⟩ := q; exact ⟨q0, q1, qP, va_K.moved (u := U) (U := U.calling g mk a) (Vm.Alike.refl U.vm) qK, qD, qN.same rfl⟩, va_recv hK hP (ci := 16) (q0 := h0) rfl (Wd_ob kg_7 sg_7 (by decide)), fun U hU hW => ⟨rfl, by rw [hU], by rw [hU]; exact hP, va_K.moved hW.alike hK, hD.weaken (fun _ _ _ _ => trivial), hN.warm hW⟩⟩ rfl rfl hl.1 rfl (lv_room (Nat.le_of_ble_eq_true rfl)) dX16_overAll_366 ⟨Nat.le_of_ble_eq_true rfl, Nat.le_of_ble_eq_true rfl⟩) hS (fun q _ h => hFc q h) hFc (fun rr u t H_120 locs ht hvm hw hB hz1 hk1 hS2 => ?_)
                        rw [hw]
                        clear hw
                        obtain ⟨hP1, -, hD1⟩ := hB
                        rw [ht] at hP1
                        replace hD := hD1.weaken (fun _ _ _ h => hFc _ h)
                        replace hP := hP1
                        replace hS := hS2
                        clear hP1 hD1 hS2 hFc hfc hz1 hk1 hvm ht
                        refine de_cut (h := 379) (fun (x : St) => []) (fun x ls H locs => lv_has ls 4 [(1, .int p_39), (0, .ref (a h0))] ∧ va_P (dC, dI) vwCl (Wd cy a sh n x) H ∧ va_D A (Wd cy a sh n x) ∧ va_S A s.heap H locs) (fun x => fn_X16_overAll_B379 F sh n p_39 (fun z9 q1 => fn_X16_overAll_L305 F sh n h0 f_41 z9 q1) x) (z8, r8) ?_ (fun B379 => ?_)
                        · intro x ls H locs hI hf
                          obtain ⟨z_121, ez⟩ : ∃ w, w = x := ⟨_, rfl⟩
                          subst ez
                          obtain ⟨hl2, hP2, hD2, hS2⟩ := hI
                          replace hl : lv_has ls 4 [(1, .int p_39), (0, .ref (a h0))] := hl2
                          replace hP := hP2
                          replace hD := hD2
                          replace hS := hS2
                          clear hl2 hP2 hD2 hS2
                          replace hf := fn_X16_overAll_B379_s hf
                          refine W.eq (g2 := F0 m 379 ls []) rfl ?_
                          refine lv_iinc (v := (p_39 + 1)) (lv' := [(1, .int (p_39 + 1)), (0, .ref (a h0))]) hx hb dX16_overAll_379 hl (k := 0) rfl rfl (by decide) rfl (fun ls hl2 => ?_)
                          replace hl := hl2
                          clear hl2
                          refine lv_goto (tgt := 305) hx hb dX16_overAll_382 (by decide) ?_
                          exact ih305 (z_121, (p_39 + 1)) ls H locs ⟨lv_sub hl [0, 1] rfl, hP, hD, hS⟩ hf
                        refine lv_if_eq (tgt := 379) hx hb dX16_overAll_369 (by decide) (fun c_122 => ?_) (fun c_122 => ?_)
                        · skip
                          rw [if_pos c_122] at hf
                          exact B379 (z_118) ls H_120 locs ⟨lv_sub hl [0, 1] rfl, hP, hD, hS⟩ hf
                        · skip
                          rw [if_neg c_122] at hf
                          refine lv_aload_n hx hb dX16_overAll_372 rfl (lv_at hl 1 rfl) ?_
                          refine lv_bipush (v := 8) hx hb dX16_overAll_373 (by decide) ?_
                          refine lv_iconst (v := 1) hx hb dX16_overAll_375 (by decide) ?_
                          obtain ⟨z_123, _u, hfc, hf⟩ := cal_some hf
                          have hFc := de_free hD hS hA
                          refine va_callv (va_runV (As := [.int 8, .int 1]) (rest := []) ⟨hx, hb, hml, hown, hts⟩ (de_X16_overList l dC dI cy a sh n H_120.size F z_118 h0 8 1 hfc) (cwV 2 hts gX16_overAll_X16_overList rfl rfl rfl (by decide +kernel) ⟨Nat.le_of_ble_eq_true rfl, Nat.le_of_ble_eq_true rfl⟩) ⟨fun a U g mk q => by obtain ⟨q0, q1, qP, qK, qD, qN⟩ := q; exact ⟨q0, q1, qP, va_K.moved (u := U) (U := U.calling g mk a) (Vm.Alike.refl U.vm) qK, qD, qN.same rfl⟩, va_recv hK hP (ci := 16) (q0 := h0) rfl (Wd_ob kg_7 sg_7 (by decide)), fun U hU hW => ⟨rfl, by rw [hU], by rw [hU]; exact hP, va_K.moved hW.alike hK, hD.weaken (fun _ _ _ _ => trivial), hN.warm hW⟩⟩ rfl rfl hl.1 rfl (lv_room (Nat.le_of_ble_eq_true rfl)) dX16_overAll_376 ⟨Nat.le_of_ble_eq_true rfl, Nat.le_of_ble_eq_true rfl⟩) hS (fun q _ h => hFc q h) hFc (fun u t H_124 locs ht hvm hw hB hz1 hk1 hS2 => ?_)
                          obtain ⟨hP1, -, hD1⟩ := hB
                          rw [ht] at hP1
                          replace hD := hD1.weaken (fun _ _ _ h => hFc _ h)
                          replace hP := hP1
                          replace hS := hS2
                          clear hP1 hD1 hS2 hFc hfc hz1 hk1 hvm ht
                          exact B379 (z_123) ls H_124 locs ⟨lv_sub hl [0, 1] rfl, hP, hD, hS⟩ hf
                      refine lv_if_eq (tgt := 365) hx hb dX16_overAll_355 (by decide) (fun c_125 => ?_) (fun c_125 => ?_)
                      · skip
                        rw [if_pos c_125] at hf
                        exact B365 (z_114) ls H_116 locs ⟨lv_sub hl [0, 1] rfl, hP, hD, hS⟩ hf
                      · skip
                        rw [if_neg c_125] at hf
                        refine lv_aload_n hx hb dX16_overAll_358 rfl (lv_at hl 1 rfl) ?_
                        refine lv_bipush (v := 8) hx hb dX16_overAll_359 (by decide) ?_
                        refine lv_iconst (v := 1) hx hb dX16_overAll_361 (by decide) ?_
                        obtain ⟨z_126, _u, hfc, hf⟩ := cal_some hf
                        have hFc := de_free hD hS hA
                        refine va_callv (va_runV (As := [.int 8, .int 1]) (rest := []) ⟨hx, hb, hml, hown, hts⟩ (de_X16_overList l dC dI cy a sh n H_116.size F z_114 h0 8 1 hfc) (cwV 2 hts gX16_overAll_X16_overList rfl rfl rfl (by decide +kernel) ⟨Nat.le_of_ble_eq_true rfl, Nat.le_of_ble_eq_true rfl⟩) ⟨fun a U g mk q => by obtain ⟨q0, q1, qP, qK, qD, qN⟩ := q; exact ⟨q0, q1, qP, va_K.moved (u := U) (U := U.calling g mk a) (Vm.Alike.refl U.vm) qK, qD, qN.same rfl⟩, va_recv hK hP (ci := 16) (q0 := h0) rfl (Wd_ob kg_7 sg_7 (by decide)), fun U hU hW => ⟨rfl, by rw [hU], by rw [hU]; exact hP, va_K.moved hW.alike hK, hD.weaken (fun _ _ _ _ => trivial), hN.warm hW⟩⟩ rfl rfl hl.1 rfl (lv_room (Nat.le_of_ble_eq_true rfl)) dX16_overAll_362 ⟨Nat.le_of_ble_eq_true rfl, Nat.le_of_ble_eq_true rfl⟩) hS (fun q _ h => hFc q h) hFc (fun u t H_127 locs ht hvm hw hB hz1 hk1 hS2 => ?_)
                        obtain ⟨hP1, -, hD1⟩ := hB
                        rw [ht] at hP1
                        replace hD := hD1.weaken (fun _ _ _ h => hFc _ h)
                        replace hP := hP1
                        replace hS := hS2
                        clear hP1 hD1 hS2 hFc hfc hz1 hk1 hvm ht
                        exact B365 (z_126) ls H_127 locs ⟨lv_sub hl [0, 1] rfl, hP, hD, hS⟩ hf
                    refine lv_if_eq (tgt := 351) hx hb dX16_overAll_340 (by decide) (fun c_128 => ?_) (fun c_128 => ?_)
                    · skip
                      rw [if_pos c_128] at hf
                      exact B351 (z_110) ls H_112 locs ⟨lv_sub hl [0, 1] rfl, hP, hD, hS⟩ hf
                    · skip
                      rw [if_neg c_128] at hf
                      refine lv_aload_n hx hb dX16_overAll_343 rfl (lv_at hl 1 rfl) ?_
                      refine lv_iconst (v := 0) hx hb dX16_overAll_344 (by decide) ?_
                      refine lv_bipush (v := 7) hx hb dX16_overAll_345 (by decide) ?_
                      obtain ⟨z_129, r_130, hfc, hf⟩ := cal_some hf
                      have hFc := de_free hD hS hA
                      refine va_calli (va_runV (As := [.int 0, .int 7]) (rest := []) ⟨hx, hb, hml, hown, hts⟩ (de_X16_count l dC dI cy a sh n H_112.size F z_110 h0 0 7 hfc) (cwV 2 hts gX16_overAll_X16_count rfl rfl rfl (by decide +kernel) ⟨Nat.le_of_ble_eq_true rfl, Nat.le_of_ble_eq_true rfl⟩) ⟨fun a U g mk q => by obtain ⟨q0, q1, qP, qK, qD, qN⟩ := q; exact ⟨q0, q1, qP, va_K.moved (u := U) (U := U.calling g mk a) (Vm.Alike.refl U.vm) qK, qD, qN.same rfl⟩, va_recv hK hP (ci := 16) (q0 := h0) rfl (Wd_ob kg_7 sg_7 (by decide)), fun U hU hW => ⟨rfl, by rw [hU], by rw [hU]; exact hP, va_K.moved hW.alike hK, hD.weaken (fun _ _ _ _ => trivial), hN.warm hW⟩⟩ rfl rfl hl.1 rfl (lv_room (Nat.le_of_ble_eq_true rfl)) dX16_overAll_347 ⟨Nat.le_of_ble_eq_true rfl, Nat.le_of_ble_eq_true rfl⟩) hS (fun q _ h => hFc q h) hFc (fun rr u t H_131 locs ht hvm hw hB hz1 hk1 hS2 => ?_)
                      rw [hw]
                      clear hw
                      obtain ⟨hP1, -, hD1⟩ := hB
                      rw [ht] at hP1
                      replace hD := hD1.weaken (fun _ _ _ h => hFc _ h)
                      replace hP := hP1
                      replace hS := hS2
                      clear hP1 hD1 hS2 hFc hfc hz1 hk1 hvm ht
                      refine lv_pop hx hb dX16_overAll_350 rfl ?_
                      exact B351 (z_129) ls H_131 locs ⟨lv_sub hl [0, 1] rfl, hP, hD, hS⟩ hf
              refine lv_if_eq (tgt := 299) hx hb dX16_overAll_286 (by decide) (fun c_132 => ?_) (fun c_132 => ?_)
              · skip
                rw [if_pos c_132] at hf
                refine lv_iconst (v := 0) hx hb dX16_overAll_299 (by decide) ?_
                exact B300 (z_32, 0) ls H_34 locs ⟨lv_sub hl [0] rfl, hP, hD, hS⟩ hf
              · skip
                rw [if_neg c_132] at hf
                refine lv_aload_n hx hb dX16_overAll_289 rfl (lv_at hl 0 rfl) ?_
                refine lv_iconst (v := 0) hx hb dX16_overAll_290 (by decide) ?_
                refine lv_bipush (v := 32) hx hb dX16_overAll_291 (by decide) ?_
                obtain ⟨z_133, r_134, hfc, hf⟩ := cal_some hf
                have hFc := de_free hD hS hA
                refine va_calli (va_runV (As := [.int 0, .int 32]) (rest := [.ref (a h0)]) ⟨hx, hb, hml, hown, hts⟩ (de_X16_count l dC dI cy a sh n H_34.size F z_32 h0 0 32 hfc) (cwV 2 hts gX16_overAll_X16_count rfl rfl rfl (by decide +kernel) ⟨Nat.le_of_ble_eq_true rfl, Nat.le_of_ble_eq_true rfl⟩) ⟨fun a U g mk q => by obtain ⟨q0, q1, qP, qK, qD, qN⟩ := q; exact ⟨q0, q1, qP, va_K.moved (u := U) (U := U.calling g mk a) (Vm.Alike.refl U.vm) qK, qD, qN.same rfl⟩, va_recv hK hP (ci := 16) (q0 := h0) rfl (Wd_ob kg_7 sg_7 (by decide)), fun U hU hW => ⟨rfl, by rw [hU], by rw [hU]; exact hP, va_K.moved hW.alike hK, hD.weaken (fun _ _ _ _ => trivial), hN.warm hW⟩⟩ rfl rfl hl.1 rfl (lv_room (Nat.le_of_ble_eq_true rfl)) dX16_overAll_293 ⟨Nat.le_of_ble_eq_true rfl, Nat.le_of_ble_eq_true rfl⟩) hS (fun q _ h => hFc q h) hFc (fun rr u t H_135 locs ht hvm hw hB hz1 hk1 hS2 => ?_)
                rw [hw]
                clear hw
                obtain ⟨hP1, -, hD1⟩ := hB
                rw [ht] at hP1
                replace hD := hD1.weaken (fun _ _ _ h => hFc _ h)
                replace hP := hP1
                replace hS := hS2
                clear hP1 hD1 hS2 hFc hfc hz1 hk1 hvm ht
                refine lv_goto (tgt := 300) hx hb dX16_overAll_296 (by decide) ?_
                exact B300 (z_133, r_134) ls H_135 locs ⟨lv_sub hl [0] rfl, hP, hD, hS⟩ hf
            refine lv_icmp_ge (tgt := 281) hx hb dX16_overAll_229 (by decide) (fun c_136 => ?_) (fun c_136 => ?_)
            · skip
              rw [if_pos c_136] at hf
              exact B281 (z_29) ls H locs ⟨lv_sub hl [1] rfl, hP, hD, hS⟩ hf
            · skip
              rw [if_neg c_136] at hf
              refine lv_aload_n hx hb dX16_overAll_232 rfl (lv_at hl 1 rfl) ?_
              obtain ⟨z_137, r_138, hfc, hf⟩ := cal_some hf
              have hFc := de_free hD hS hA
              refine va_calli (va_runV (As := []) (rest := []) ⟨hx, hb, hml, hown, hts⟩ (de_X16_isGood l dC dI cy a sh n H.size F z_29 h0 hfc) (cwV 0 hts gX16_overAll_X16_isGood rfl rfl rfl (by decide +kernel) ⟨Nat.le_of_ble_eq_true rfl, Nat.le_of_ble_eq_true rfl⟩) ⟨fun a U g mk q => by obtain ⟨q0, q1, qP, qK, qD, qN⟩ := q; exact ⟨q0, q1, qP, va_K.moved (u := U) (U := U.calling g mk a) (Vm.Alike.refl U.vm) qK, qD, qN.same rfl⟩, va_recv hK hP (ci := 16) (q0 := h0) rfl (Wd_ob kg_7 sg_7 (by decide)), fun U hU hW => ⟨rfl, by rw [hU], by rw [hU]; exact hP, va_K.moved hW.alike hK, hD.weaken (fun _ _ _ _ => trivial), hN.warm hW⟩⟩ rfl rfl hl.1 rfl (lv_room (Nat.le_of_ble_eq_true rfl)) dX16_overAll_233 ⟨Nat.le_of_ble_eq_true rfl, Nat.le_of_ble_eq_true rfl⟩) hS (fun q _ h => hFc q h) hFc (fun rr u t H_139 locs ht hvm hw hB hz1 hk1 hS2 => ?_)
              rw [hw]
              clear hw
              obtain ⟨hP1, -, hD1⟩ := hB
              rw [ht] at hP1
              replace hD := hD1.weaken (fun _ _ _ h => hFc _ h)
              replace hP := hP1
              replace hS := hS2
              clear hP1 hD1 hS2 hFc hfc hz1 hk1 hvm ht
              refine lv_if_eq (tgt := 281) hx hb dX16_overAll_236 (by decide) (fun c_140 => ?_) (fun c_140 => ?_)
              · skip
                rw [if_pos c_140] at hf
                exact B281 (z_137) ls H_139 locs ⟨lv_sub hl [1] rfl, hP, hD, hS⟩ hf
              · skip
                rw [if_neg c_140] at hf
                refine lv_aload_n hx hb dX16_overAll_239 rfl (lv_at hl 1 rfl) ?_
                obtain ⟨k_141, ek_141, hf⟩ := lnk_some hf
                refine va_get (D := (dC, dI)) (ci := 16) (v := .ref (a k_141)) (C := RX16) (T := TX16) (N := 18) hx hb hts iwd_X16_overAll_X16 hown hK hP h0 (Wd_ob kg_7 sg_7 (by decide)) rfl 11 (by decide) (hts _ md_X16_overAll_2) (fun _ h9 => h9) (fl_q rfl ek_141) dX16_overAll_240 ?_
                refine lv_aload_n hx hb dX16_overAll_243 rfl (lv_at hl 1 rfl) ?_
                refine va_get (D := (dC, dI)) (ci := 16) (v := .int (z_137.1 h0 5)) (C := RX16) (T := TX16) (N := 18) hx hb hts iwd_X16_overAll_X16 hown hK hP h0 (Wd_ob kg_7 sg_7 (by decide)) rfl 5 (by decide) (hts _ md_X16_overAll_1) (fun _ h9 => h9) (fl_at (t := 0) rfl) dX16_overAll_244 ?_
                refine lv_iload_n hx hb dX16_overAll_247 rfl (lv_at hl 0 rfl) ?_
                refine lv_iadd hx hb dX16_overAll_248 ?_
                refine lv_aload_n hx hb dX16_overAll_249 rfl (lv_at hl 1 rfl) ?_
                refine va_get (D := (dC, dI)) (ci := 16) (v := .int (z_137.1 h0 2)) (C := RX16) (T := TX16) (N := 18) hx hb hts iwd_X16_overAll_X16 hown hK hP h0 (Wd_ob kg_7 sg_7 (by decide)) rfl 2 (by decide) (hts _ md_X16_overAll_3) (fun _ h9 => h9) (fl_at (t := 0) rfl) dX16_overAll_250 ?_
                obtain ⟨g_142, hf⟩ := grd_some hf
                obtain ⟨kg_142, sg_142, ig_142⟩ := okA_at g_142
                refine va_iast hx hb hK hP hD hS k_141 1 (Wd_ai kg_142 sg_142) rfl ig_142 dX16_overAll_253 (fun H_143 locs hP2 hD2 hS2 => ?_)
                rw [Wd_ti sg_142] at hP2 hD2
                obtain ⟨z_144, ez_144⟩ : ∃ w, w = si z_137 k_141 ((z_137.1 h0 5) + p_28).toNatClampNeg (z_137.1 h0 2) := ⟨_, rfl⟩
                rw [← ez_144] at hP2 hD2
                replace hf := lt_at ez_144 hf
                clear ez_144
                replace hP := hP2
                replace hD := hD2
                replace hS := hS2
                clear hP2 hD2 hS2
                refine lv_aload_n hx hb dX16_overAll_254 rfl (lv_at hl 1 rfl) ?_
                refine lv_iconst (v := 3) hx hb dX16_overAll_255 (by decide) ?_
                obtain ⟨z_145, r_146, hfc, hf⟩ := cal_some hf
                have hFc := de_free hD hS hA
                refine va_calli (va_runV (As := [.int 3]) (rest := []) ⟨hx, hb, hml, hown, hts⟩ (de_X16_over l dC dI cy a sh n H_143.size F z_144 h0 3 hfc) (cwV 1 hts gX16_overAll_X16_over rfl rfl rfl (by decide +kernel) ⟨Nat.le_of_ble_eq_true rfl, Nat.le_of_ble_eq_true rfl⟩) ⟨fun a U g mk q => by obtain ⟨q0, q1, qP, qK, qD, qN⟩ := q; exact ⟨q0, q1, qP, va_K.moved (u := U) (U := U.calling g mk a) (Vm.Alike.refl U.vm) qK, qD, qN.same rfl⟩, va_recv hK hP (ci := 16) (q0 := h0) rfl (Wd_ob kg_7 sg_7 (by decide)), fun U hU hW => ⟨rfl, by rw [hU], by rw [hU]; exact hP, va_K.moved hW.alike hK, hD.weaken (fun _ _ _ _ => trivial), hN.warm hW⟩⟩ rfl rfl hl.1 rfl (lv_room (Nat.le_of_ble_eq_true rfl)) dX16_overAll_256 ⟨Nat.le_of_ble_eq_true rfl, Nat.le_of_ble_eq_true rfl⟩) hS (fun q _ h => hFc q h) hFc (fun rr u t H_147 locs ht hvm hw hB hz1 hk1 hS2 => ?_)
                rw [hw]
                clear hw
                obtain ⟨hP1, -, hD1⟩ := hB
                rw [ht] at hP1
                replace hD := hD1.weaken (fun _ _ _ h => hFc _ h)
                replace hP := hP1
                replace hS := hS2
                clear hP1 hD1 hS2 hFc hfc hz1 hk1 hvm ht
                refine lv_pop hx hb dX16_overAll_259 rfl ?_
                refine lv_aload_n hx hb dX16_overAll_260 rfl (lv_at hl 1 rfl) ?_
                obtain ⟨z_148, r_149, hfc, hf⟩ := cal_some hf
                have hFc := de_free hD hS hA
                refine va_calli (va_runV (As := []) (rest := []) ⟨hx, hb, hml, hown, hts⟩ (de_X16_isGood l dC dI cy a sh n H_147.size F z_145 h0 hfc) (cwV 0 hts gX16_overAll_X16_isGood rfl rfl rfl (by decide +kernel) ⟨Nat.le_of_ble_eq_true rfl, Nat.le_of_ble_eq_true rfl⟩) ⟨fun a U g mk q => by obtain ⟨q0, q1, qP, qK, qD, qN⟩ := q; exact ⟨q0, q1, qP, va_K.moved (u := U) (U := U.calling g mk a) (Vm.Alike.refl U.vm) qK, qD, qN.same rfl⟩, va_recv hK hP (ci := 16) (q0 := h0) rfl (Wd_ob kg_7 sg_7 (by decide)), fun U hU hW => ⟨rfl, by rw [hU], by rw [hU]; exact hP, va_K.moved hW.alike hK, hD.weaken (fun _ _ _ _ => trivial), hN.warm hW⟩⟩ rfl rfl hl.1 rfl (lv_room (Nat.le_of_ble_eq_true rfl)) dX16_overAll_261 ⟨Nat.le_of_ble_eq_true rfl, Nat.le_of_ble_eq_true rfl⟩) hS (fun q _ h => hFc q h) hFc (fun rr u t H_150 locs ht hvm hw hB hz1 hk1 hS2 => ?_)
                rw [hw]
                clear hw
                obtain ⟨hP1, -, hD1⟩ := hB
                rw [ht] at hP1
                replace hD := hD1.weaken (fun _ _ _ h => hFc _ h)
                replace hP := hP1
                replace hS := hS2
                clear hP1 hD1 hS2 hFc hfc hz1 hk1 hvm ht
                refine de_cut (h := 275) (fun (x : St) => []) (fun x ls H locs => lv_has ls 4 [(1, .int p_28), (0, .ref (a h0))] ∧ va_P (dC, dI) vwCl (Wd cy a sh n x) H ∧ va_D A (Wd cy a sh n x) ∧ va_S A s.heap H locs) (fun x => fn_X16_overAll_B275 F sh n p_28 (fun z9 q1 => fn_X16_overAll_L224 F sh n h0 f_30 z9 q1) x) (z8, r8) ?_ (fun B275 => ?_)
                · intro x ls H locs hI hf
                  obtain ⟨z_151, ez⟩ : ∃ w, w = x := ⟨_, rfl⟩
                  subst ez
                  obtain ⟨hl2, hP2, hD2, hS2⟩ := hI
                  replace hl : lv_has ls 4 [(1, .int p_28), (0, .ref (a h0))] := hl2
                  replace hP := hP2
                  replace hD := hD2
                  replace hS := hS2
                  clear hl2 hP2 hD2 hS2
                  replace hf := fn_X16_overAll_B275_s hf
                  refine W.eq (g2 := F0 m 275 ls []) rfl ?_
                  refine lv_iinc (v := (p_28 + 1)) (lv' := [(1, .int (p_28 + 1)), (0, .ref (a h0))]) hx hb dX16_overAll_275 hl (k := 0) rfl rfl (by decide) rfl (fun ls hl2 => ?_)
                  replace hl := hl2
                  clear hl2
                  refine lv_goto (tgt := 224) hx hb dX16_overAll_278 (by decide) ?_
                  exact ih224 (z_151, (p_28 + 1)) ls H locs ⟨lv_sub hl [0, 1] rfl, hP, hD, hS⟩ hf
                refine lv_if_eq (tgt := 275) hx hb dX16_overAll_264 (by decide) (fun c_152 => ?_) (fun c_152 => ?_)
                · skip
                  rw [if_pos c_152] at hf
                  exact B275 (z_148) ls H_150 locs ⟨lv_sub hl [0, 1] rfl, hP, hD, hS⟩ hf
                · skip
                  rw [if_neg c_152] at hf
                  refine lv_aload_n hx hb dX16_overAll_267 rfl (lv_at hl 1 rfl) ?_
                  refine lv_iconst (v := 0) hx hb dX16_overAll_268 (by decide) ?_
                  refine lv_bipush (v := 15) hx hb dX16_overAll_269 (by decide) ?_
                  obtain ⟨z_153, r_154, hfc, hf⟩ := cal_some hf
                  have hFc := de_free hD hS hA
                  refine va_calli (va_runV (As := [.int 0, .int 15]) (rest := []) ⟨hx, hb, hml, hown, hts⟩ (de_X16_count l dC dI cy a sh n H_150.size F z_148 h0 0 15 hfc) (cwV 2 hts gX16_overAll_X16_count rfl rfl rfl (by decide +kernel) ⟨Nat.le_of_ble_eq_true rfl, Nat.le_of_ble_eq_true rfl⟩) ⟨fun a U g mk q => by obtain ⟨q0, q1, qP, qK, qD, qN⟩ := q; exact ⟨q0, q1, qP, va_K.moved (u := U) (U := U.calling g mk a) (Vm.Alike.refl U.vm) qK, qD, qN.same rfl⟩, va_recv hK hP (ci := 16) (q0 := h0) rfl (Wd_ob kg_7 sg_7 (by decide)), fun U hU hW => ⟨rfl, by rw [hU], by rw [hU]; exact hP, va_K.moved hW.alike hK, hD.weaken (fun _ _ _ _ => trivial), hN.warm hW⟩⟩ rfl rfl hl.1 rfl (lv_room (Nat.le_of_ble_eq_true rfl)) dX16_overAll_271 ⟨Nat.le_of_ble_eq_true rfl, Nat.le_of_ble_eq_true rfl⟩) hS (fun q _ h => hFc q h) hFc (fun rr u t H_155 locs ht hvm hw hB hz1 hk1 hS2 => ?_)
                  rw [hw]
                  clear hw
                  obtain ⟨hP1, -, hD1⟩ := hB
                  rw [ht] at hP1
                  replace hD := hD1.weaken (fun _ _ _ h => hFc _ h)
                  replace hP := hP1
                  replace hS := hS2
                  clear hP1 hD1 hS2 hFc hfc hz1 hk1 hvm ht
                  refine lv_pop hx hb dX16_overAll_274 rfl ?_
                  exact B275 (z_153) ls H_155 locs ⟨lv_sub hl [0, 1] rfl, hP, hD, hS⟩ hf
          refine lv_if_eq (tgt := 218) hx hb dX16_overAll_205 (by decide) (fun c_156 => ?_) (fun c_156 => ?_)
          · skip
            rw [if_pos c_156] at hf
            refine lv_iconst (v := 0) hx hb dX16_overAll_218 (by decide) ?_
            exact B219 (z_21, 0) ls H_23 locs ⟨lv_sub hl [0] rfl, hP, hD, hS⟩ hf
          · skip
            rw [if_neg c_156] at hf
            refine lv_aload_n hx hb dX16_overAll_208 rfl (lv_at hl 0 rfl) ?_
            refine lv_iconst (v := 0) hx hb dX16_overAll_209 (by decide) ?_
            refine lv_bipush (v := 32) hx hb dX16_overAll_210 (by decide) ?_
            obtain ⟨z_157, r_158, hfc, hf⟩ := cal_some hf
            have hFc := de_free hD hS hA
            refine va_calli (va_runV (As := [.int 0, .int 32]) (rest := [.ref (a h0)]) ⟨hx, hb, hml, hown, hts⟩ (de_X16_count l dC dI cy a sh n H_23.size F z_21 h0 0 32 hfc) (cwV 2 hts gX16_overAll_X16_count rfl rfl rfl (by decide +kernel) ⟨Nat.le_of_ble_eq_true rfl, Nat.le_of_ble_eq_true rfl⟩) ⟨fun a U g mk q => by obtain ⟨q0, q1, qP, qK, qD, qN⟩ := q; exact ⟨q0, q1, qP, va_K.moved (u := U) (U := U.calling g mk a) (Vm.Alike.refl U.vm) qK, qD, qN.same rfl⟩, va_recv hK hP (ci := 16) (q0 := h0) rfl (Wd_ob kg_7 sg_7 (by decide)), fun U hU hW => ⟨rfl, by rw [hU], by rw [hU]; exact hP, va_K.moved hW.alike hK, hD.weaken (fun _ _ _ _ => trivial), hN.warm hW⟩⟩ rfl rfl hl.1 rfl (lv_room (Nat.le_of_ble_eq_true rfl)) dX16_overAll_212 ⟨Nat.le_of_ble_eq_true rfl, Nat.le_of_ble_eq_true rfl⟩) hS (fun q _ h => hFc q h) hFc (fun rr u t H_159 locs ht hvm hw hB hz1 hk1 hS2 => ?_)
            rw [hw]
            clear hw
            obtain ⟨hP1, -, hD1⟩ := hB
            rw [ht] at hP1
            replace hD := hD1.weaken (fun _ _ _ h => hFc _ h)
            replace hP := hP1
            replace hS := hS2
            clear hP1 hD1 hS2 hFc hfc hz1 hk1 hvm ht
            refine lv_goto (tgt := 219) hx hb dX16_overAll_215 (by decide) ?_
            exact B219 (z_157, r_158) ls H_159 locs ⟨lv_sub hl [0] rfl, hP, hD, hS⟩ hf
        refine lv_icmp_ge (tgt := 200) hx hb dX16_overAll_122 (by decide) (fun c_160 => ?_) (fun c_160 => ?_)
        · skip
          rw [if_pos c_160] at hf
          exact B200 (z_18) ls H locs ⟨lv_sub hl [1] rfl, hP, hD, hS⟩ hf
        · skip
          rw [if_neg c_160] at hf
          refine lv_aload_n hx hb dX16_overAll_125 rfl (lv_at hl 1 rfl) ?_
          obtain ⟨z_161, r_162, hfc, hf⟩ := cal_some hf
          have hFc := de_free hD hS hA
          refine va_calli (va_runV (As := []) (rest := []) ⟨hx, hb, hml, hown, hts⟩ (de_X16_isGood l dC dI cy a sh n H.size F z_18 h0 hfc) (cwV 0 hts gX16_overAll_X16_isGood rfl rfl rfl (by decide +kernel) ⟨Nat.le_of_ble_eq_true rfl, Nat.le_of_ble_eq_true rfl⟩) ⟨fun a U g mk q => by obtain ⟨q0, q1, qP, qK, qD, qN⟩ := q; exact ⟨q0, q1, qP, va_K.moved (u := U) (U := U.calling g mk a) (Vm.Alike.refl U.vm) qK, qD, qN.same rfl⟩, va_recv hK hP (ci := 16) (q0 := h0) rfl (Wd_ob kg_7 sg_7 (by decide)), fun U hU hW => ⟨rfl, by rw [hU], by rw [hU]; exact hP, va_K.moved hW.alike hK, hD.weaken (fun _ _ _ _ => trivial), hN.warm hW⟩⟩ rfl rfl hl.1 rfl (lv_room (Nat.le_of_ble_eq_true rfl)) dX16_overAll_126 ⟨Nat.le_of_ble_eq_true rfl, Nat.le_of_ble_eq_true rfl⟩) hS (fun q _ h => hFc q h) hFc (fun rr u t H_163 locs ht hvm hw hB hz1 hk1 hS2 => ?_)
          rw [hw]
          clear hw
          obtain ⟨hP1, -, hD1⟩ := hB
          rw [ht] at hP1
          replace hD := hD1.weaken (fun _ _ _ h => hFc _ h)
          replace hP := hP1
          replace hS := hS2
          clear hP1 hD1 hS2 hFc hfc hz1 hk1 hvm ht
          refine lv_if_eq (tgt := 200) hx hb dX16_overAll_129 (by decide) (fun c_164 => ?_) (fun c_164 => ?_)
          · skip
            rw [if_pos c_164] at hf
            exact B200 (z_161) ls H_163 locs ⟨lv_sub hl [1] rfl, hP, hD, hS⟩ hf
          · skip
            rw [if_neg c_164] at hf
            refine lv_aload_n hx hb dX16_overAll_132 rfl (lv_at hl 1 rfl) ?_
            obtain ⟨k_165, ek_165, hf⟩ := lnk_some hf
            refine va_get (D := (dC, dI)) (ci := 16) (v := .ref (a k_165)) (C := RX16) (T := TX16) (N := 18) hx hb hts iwd_X16_overAll_X16 hown hK hP h0 (Wd_ob kg_7 sg_7 (by decide)) rfl 11 (by decide) (hts _ md_X16_overAll_2) (fun _ h9 => h9) (fl_q rfl ek_165) dX16_overAll_133 ?_
            refine lv_iload_n hx hb dX16_overAll_136 rfl (lv_at hl 0 rfl) ?_
            refine lv_aload_n hx hb dX16_overAll_137 rfl (lv_at hl 1 rfl) ?_
            refine va_get (D := (dC, dI)) (ci := 16) (v := .int (z_161.1 h0 2)) (C := RX16) (T := TX16) (N := 18) hx hb hts iwd_X16_overAll_X16 hown hK hP h0 (Wd_ob kg_7 sg_7 (by decide)) rfl 2 (by decide) (hts _ md_X16_overAll_3) (fun _ h9 => h9) (fl_at (t := 0) rfl) dX16_overAll_138 ?_
            obtain ⟨g_166, hf⟩ := grd_some hf
            obtain ⟨kg_166, sg_166, ig_166⟩ := okA_at g_166
            refine va_iast hx hb hK hP hD hS k_165 1 (Wd_ai kg_166 sg_166) rfl ig_166 dX16_overAll_141 (fun H_167 locs hP2 hD2 hS2 => ?_)
            rw [Wd_ti sg_166] at hP2 hD2
            obtain ⟨z_168, ez_168⟩ : ∃ w, w = si z_161 k_165 p_17.toNatClampNeg (z_161.1 h0 2) := ⟨_, rfl⟩
            rw [← ez_168] at hP2 hD2
            replace hf := lt_at ez_168 hf
            clear ez_168
            replace hP := hP2
            replace hD := hD2
            replace hS := hS2
            clear hP2 hD2 hS2
            refine lv_aload_n hx hb dX16_overAll_142 rfl (lv_at hl 1 rfl) ?_
            refine lv_iconst (v := 0) hx hb dX16_overAll_143 (by decide) ?_
            refine lv_bipush (v := 15) hx hb dX16_overAll_144 (by decide) ?_
            obtain ⟨z_169, r_170, hfc, hf⟩ := cal_some hf
            have hFc := de_free hD hS hA
            refine va_calli (va_runV (As := [.int 0, .int 15]) (rest := []) ⟨hx, hb, hml, hown, hts⟩ (de_X16_count l dC dI cy a sh n H_167.size F z_168 h0 0 15 hfc) (cwV 2 hts gX16_overAll_X16_count rfl rfl rfl (by decide +kernel) ⟨Nat.le_of_ble_eq_true rfl, Nat.le_of_ble_eq_true rfl⟩) ⟨fun a U g mk q => by obtain ⟨q0, q1, qP, qK, qD, qN⟩ := q; exact ⟨q0, q1, qP, va_K.moved (u := U) (U := U.calling g mk a) (Vm.Alike.refl U.vm) qK, qD, qN.same rfl⟩, va_recv hK hP (ci := 16) (q0 := h0) rfl (Wd_ob kg_7 sg_7 (by decide)), fun U hU hW => ⟨rfl, by rw [hU], by rw [hU]; exact hP, va_K.moved hW.alike hK, hD.weaken (fun _ _ _ _ => trivial), hN.warm hW⟩⟩ rfl rfl hl.1 rfl (lv_room (Nat.le_of_ble_eq_true rfl)) dX16_overAll_146 ⟨Nat.le_of_ble_eq_true rfl, Nat.le_of_ble_eq_true rfl⟩) hS (fun q _ h => hFc q h) hFc (fun rr u t H_171 locs ht hvm hw hB hz1 hk1 hS2 => ?_)
            rw [hw]
            clear hw
            obtain ⟨hP1, -, hD1⟩ := hB
            rw [ht] at hP1
            replace hD := hD1.weaken (fun _ _ _ h => hFc _ h)
            replace hP := hP1
            replace hS := hS2
            clear hP1 hD1 hS2 hFc hfc hz1 hk1 hvm ht
            refine lv_pop hx hb dX16_overAll_149 rfl ?_
            refine lv_aload_n hx hb dX16_overAll_150 rfl (lv_at hl 1 rfl) ?_
            obtain ⟨z_172, r_173, hfc, hf⟩ := cal_some hf
            have hFc := de_free hD hS hA
            refine va_calli (va_runV (As := []) (rest := []) ⟨hx, hb, hml, hown, hts⟩ (de_X16_isGood l dC dI cy a sh n H_171.size F z_169 h0 hfc) (cwV 0 hts gX16_overAll_X16_isGood rfl rfl rfl (by decide +kernel) ⟨Nat.le_of_ble_eq_true rfl, Nat.le_of_ble_eq_true rfl⟩) ⟨fun a U g mk q => by obtain ⟨q0, q1, qP, qK, qD, qN⟩ := q; exact ⟨q0, q1, qP, va_K.moved (u := U) (U := U.calling g mk a) (Vm.Alike.refl U.vm) qK, qD, qN.same rfl⟩, va_recv hK hP (ci := 16) (q0 := h0) rfl (Wd_ob kg_7 sg_7 (by decide)), fun U hU hW => ⟨rfl, by rw [hU], by rw [hU]; exact hP, va_K.moved hW.alike hK, hD.weaken (fun _ _ _ _ => trivial), hN.warm hW⟩⟩ rfl rfl hl.1 rfl (lv_room (Nat.le_of_ble_eq_true rfl)) dX16_overAll_151 ⟨Nat.le_of_ble_eq_true rfl, Nat.le_of_ble_eq_true rfl⟩) hS (fun q _ h => hFc q h) hFc (fun rr u t H_174 locs ht hvm hw hB hz1 hk1 hS2 => ?_)
            rw [hw]
            clear hw
            obtain ⟨hP1, -, hD1⟩ := hB
            rw [ht] at hP1
            replace hD := hD1.weaken (fun _ _ _ h => hFc _ h)
            replace hP := hP1
            replace hS := hS2
            clear hP1 hD1 hS2 hFc hfc hz1 hk1 hvm ht
            refine de_cut (h := 168) (fun (x : St × Int32) => [.int x.2]) (fun x ls H locs => lv_has ls 4 [(1, .int p_17), (0, .ref (a h0))] ∧ va_P (dC, dI) vwCl (Wd cy a sh n x.1) H ∧ va_D A (Wd cy a sh n x.1) ∧ va_S A s.heap H locs) (fun x => fn_X16_overAll_B168 F sh n p_17 h0 (fun z9 q1 => fn_X16_overAll_L117 F sh n h0 f_19 z9 q1) x.1 x.2) (z8, r8) ?_ (fun B168 => ?_)
            · intro x ls H locs hI hf
              obtain ⟨z_176, p_175⟩ := x
              obtain ⟨hl2, hP2, hD2, hS2⟩ := hI
              replace hl : lv_has ls 4 [(1, .int p_17), (0, .ref (a h0))] := hl2
              replace hP := hP2
              replace hD := hD2
              replace hS := hS2
              clear hl2 hP2 hD2 hS2
              replace hf := fn_X16_overAll_B168_s hf
              refine W.eq (g2 := F0 m 168 ls [.int p_175]) rfl ?_
              refine lv_istore_n (lv' := [(2, .int p_175), (1, .int p_17), (0, .ref (a h0))]) hx hb dX16_overAll_168 rfl hl (by decide) rfl (fun ls hl2 => ?_)
              replace hl := hl2
              clear hl2
              refine lv_iconst (v := 0) hx hb dX16_overAll_169 (by decide) ?_
              refine lv_istore_n (lv' := [(3, .int 0), (2, .int p_175), (1, .int p_17), (0, .ref (a h0))]) hx hb dX16_overAll_170 rfl hl (by decide) rfl (fun ls hl2 => ?_)
              replace hl := hl2
              clear hl2
              have hl0 : lv_has ls 4 [(3, .int 0), (2, .int p_175), (1, .int p_17), (0, .ref (a h0))] := lv_sub hl [0, 1, 2, 3] rfl
              refine de_loop (h := 171) (fun (x : St × Int32) ls H locs => lv_has ls 4 [(3, .int x.2), (2, .int p_175), (1, .int p_17), (0, .ref (a h0))] ∧ va_P (dC, dI) vwCl (Wd cy a sh n x.1) H ∧ va_D A (Wd cy a sh n x.1) ∧ va_S A s.heap H locs) (fun f x => fn_X16_overAll_L171 F sh n p_175 p_17 h0 (fun z9 q1 => fn_X16_overAll_L117 F sh n h0 f_19 z9 q1) f x.1 x.2) (z8, r8) ?_ (fun _ => rfl) F (z_176, 0) ls H locs ⟨hl0, hP, hD, hS⟩ hf
              intro f_179 x ls H locs ih171 hI hf
              obtain ⟨z_178, p_177⟩ := x
              obtain ⟨hl2, hP2, hD2, hS2⟩ := hI
              replace hl : lv_has ls 4 [(3, .int p_177), (2, .int p_175), (1, .int p_17), (0, .ref (a h0))] := hl2
              replace hP := hP2
              replace hD := hD2
              replace hS := hS2
              clear hl2 hP2 hD2 hS2 hl0
              replace hf := fn_X16_overAll_L171_s hf
              refine lv_iload_n hx hb dX16_overAll_171 rfl (lv_at hl 0 rfl) ?_
              refine lv_iload_n hx hb dX16_overAll_172 rfl (lv_at hl 1 rfl) ?_
              refine de_cut (h := 194) (fun (x : St) => []) (fun x ls H locs => lv_has ls 4 [(1, .int p_17), (0, .ref (a h0))] ∧ va_P (dC, dI) vwCl (Wd cy a sh n x) H ∧ va_D A (Wd cy a sh n x) ∧ va_S A s.heap H locs) (fun x => fn_X16_overAll_B194 F sh n p_17 (fun z9 q1 => fn_X16_overAll_L117 F sh n h0 f_19 z9 q1) x) (z8, r8) ?_ (fun B194 => ?_)
              · intro x ls H locs hI hf
                obtain ⟨z_180, ez⟩ : ∃ w, w = x := ⟨_, rfl⟩
                subst ez
                obtain ⟨hl2, hP2, hD2, hS2⟩ := hI
                replace hl : lv_has ls 4 [(1, .int p_17), (0, .ref (a h0))] := hl2
                replace hP := hP2
                replace hD := hD2
                replace hS := hS2
                clear hl2 hP2 hD2 hS2
                replace hf := fn_X16_overAll_B194_s hf
                refine W.eq (g2 := F0 m 194 ls []) rfl ?_
                refine lv_iinc (v := (p_17 + 1)) (lv' := [(1, .int (p_17 + 1)), (0, .ref (a h0))]) hx hb dX16_overAll_194 hl (k := 0) rfl rfl (by decide) rfl (fun ls hl2 => ?_)
                replace hl := hl2
                clear hl2
                refine lv_goto (tgt := 117) hx hb dX16_overAll_197 (by decide) ?_
                exact ih117 (z_180, (p_17 + 1)) ls H locs ⟨lv_sub hl [0, 1] rfl, hP, hD, hS⟩ hf
              refine lv_icmp_ge (tgt := 194) hx hb dX16_overAll_173 (by decide) (fun c_181 => ?_) (fun c_181 => ?_)
              · skip
                rw [if_pos c_181] at hf
                exact B194 (z_178) ls H locs ⟨lv_sub hl [2, 3] rfl, hP, hD, hS⟩ hf
              · skip
                rw [if_neg c_181] at hf
                refine lv_aload_n hx hb dX16_overAll_176 rfl (lv_at hl 3 rfl) ?_
                obtain ⟨z_182, r_183, hfc, hf⟩ := cal_some hf
                have hFc := de_free hD hS hA
                refine va_calli (va_runV (As := []) (rest := []) ⟨hx, hb, hml, hown, hts⟩ (de_X16_isGood l dC dI cy a sh n H.size F z_178 h0 hfc) (cwV 0 hts gX16_overAll_X16_isGood rfl rfl rfl (by decide +kernel) ⟨Nat.le_of_ble_eq_true rfl, Nat.le_of_ble_eq_true rfl⟩) ⟨fun a U g mk q => by obtain ⟨q0, q1, qP, qK, qD, qN⟩ := q; exact ⟨q0, q1, qP, va_K.moved (u := U) (U := U.calling g mk a) (Vm.Alike.refl U.vm) qK, qD, qN.same rfl⟩, va_recv hK hP (ci := 16) (q0 := h0) rfl (Wd_ob kg_7 sg_7 (by decide)), fun U hU hW => ⟨rfl, by rw [hU], by rw [hU]; exact hP, va_K.moved hW.alike hK, hD.weaken (fun _ _ _ _ => trivial), hN.warm hW⟩⟩ rfl rfl hl.1 rfl (lv_room (Nat.le_of_ble_eq_true rfl)) dX16_overAll_177 ⟨Nat.le_of_ble_eq_true rfl, Nat.le_of_ble_eq_true rfl⟩) hS (fun q _ h => hFc q h) hFc (fun rr u t H_184 locs ht hvm hw hB hz1 hk1 hS2 => ?_)
                rw [hw]
                clear hw
                obtain ⟨hP1, -, hD1⟩ := hB
                rw [ht] at hP1
                replace hD := hD1.weaken (fun _ _ _ h => hFc _ h)
                replace hP := hP1
                replace hS := hS2
                clear hP1 hD1 hS2 hFc hfc hz1 hk1 hvm ht
                refine lv_if_eq (tgt := 194) hx hb dX16_overAll_180 (by decide) (fun c_185 => ?_) (fun c_185 => ?_)
                · skip
                  rw [if_pos c_185] at hf
                  exact B194 (z_182) ls H_184 locs ⟨lv_sub hl [2, 3] rfl, hP, hD, hS⟩ hf
                · skip
                  rw [if_neg c_185] at hf
                  refine lv_aload_n hx hb dX16_overAll_183 rfl (lv_at hl 3 rfl) ?_
                  refine lv_iconst (v := 0) hx hb dX16_overAll_184 (by decide) ?_
                  obtain ⟨z_186, _u, hfc, hf⟩ := cal_some hf
                  have hFc := de_free hD hS hA
                  refine va_callv (va_runV (As := [.int 0]) (rest := []) ⟨hx, hb, hml, hown, hts⟩ (de_X16_overType l dC dI cy a sh n H_184.size F z_182 h0 0 hfc) (cwV 1 hts gX16_overAll_X16_overType rfl rfl rfl (by decide +kernel) ⟨Nat.le_of_ble_eq_true rfl, Nat.le_of_ble_eq_true rfl⟩) ⟨fun a U g mk q => by obtain ⟨q0, q1, qP, qK, qD, qN⟩ := q; exact ⟨q0, q1, qP, va_K.moved (u := U) (U := U.calling g mk a) (Vm.Alike.refl U.vm) qK, qD, qN.same rfl⟩, va_recv hK hP (ci := 16) (q0 := h0) rfl (Wd_ob kg_7 sg_7 (by decide)), fun U hU hW => ⟨rfl, by rw [hU], by rw [hU]; exact hP, va_K.moved hW.alike hK, hD.weaken (fun _ _ _ _ => trivial), hN.warm hW⟩⟩ rfl rfl hl.1 rfl (lv_room (Nat.le_of_ble_eq_true rfl)) dX16_overAll_185 ⟨Nat.le_of_ble_eq_true rfl, Nat.le_of_ble_eq_true rfl⟩) hS (fun q _ h => hFc q h) hFc (fun u t H_187 locs ht hvm hw hB hz1 hk1 hS2 => ?_)
                  obtain ⟨hP1, -, hD1⟩ := hB
                  rw [ht] at hP1
                  replace hD := hD1.weaken (fun _ _ _ h => hFc _ h)
                  replace hP := hP1
                  replace hS := hS2
                  clear hP1 hD1 hS2 hFc hfc hz1 hk1 hvm ht
                  refine lv_iinc (v := (p_177 + 1)) (lv' := [(3, .int (p_177 + 1)), (2, .int p_175), (1, .int p_17), (0, .ref (a h0))]) hx hb dX16_overAll_188 hl (k := 0) rfl rfl (by decide) rfl (fun ls hl2 => ?_)
                  replace hl := hl2
                  clear hl2
                  refine lv_goto (tgt := 171) hx hb dX16_overAll_191 (by decide) ?_
                  exact ih171 (z_186, (p_177 + 1)) ls H_187 locs ⟨lv_sub hl [0, 1, 2, 3] rfl, hP, hD, hS⟩ hf
            refine lv_if_eq (tgt := 167) hx hb dX16_overAll_154 (by decide) (fun c_188 => ?_) (fun c_188 => ?_)
            · skip
              rw [if_pos c_188] at hf
              refine lv_iconst (v := 0) hx hb dX16_overAll_167 (by decide) ?_
              exact B168 (z_172, 0) ls H_174 locs ⟨lv_sub hl [0, 1] rfl, hP, hD, hS⟩ hf
            · skip
              rw [if_neg c_188] at hf
              refine lv_aload_n hx hb dX16_overAll_157 rfl (lv_at hl 1 rfl) ?_
              refine lv_iconst (v := 1) hx hb dX16_overAll_158 (by decide) ?_
              refine lv_bipush (v := 16) hx hb dX16_overAll_159 (by decide) ?_
              obtain ⟨z_189, r_190, hfc, hf⟩ := cal_some hf
              have hFc := de_free hD hS hA
              refine va_calli (va_runV (As := [.int 1, .int 16]) (rest := []) ⟨hx, hb, hml, hown, hts⟩ (de_X16_count l dC dI cy a sh n H_174.size F z_172 h0 1 16 hfc) (cwV 2 hts gX16_overAll_X16_count rfl rfl rfl (by decide +kernel) ⟨Nat.le_of_ble_eq_true rfl, Nat.le_of_ble_eq_true rfl⟩) ⟨fun a U g mk q => by obtain ⟨q0, q1, qP, qK, qD, qN⟩ := q; exact ⟨q0, q1, qP, va_K.moved (u := U) (U := U.calling g mk a) (Vm.Alike.refl U.vm) qK, qD, qN.same rfl⟩, va_recv hK hP (ci := 16) (q0 := h0) rfl (Wd_ob kg_7 sg_7 (by decide)), fun U hU hW => ⟨rfl, by rw [hU], by rw [hU]; exact hP, va_K.moved hW.alike hK, hD.weaken (fun _ _ _ _ => trivial), hN.warm hW⟩⟩ rfl rfl hl.1 rfl (lv_room (Nat.le_of_ble_eq_true rfl)) dX16_overAll_161 ⟨Nat.le_of_ble_eq_true rfl, Nat.le_of_ble_eq_true rfl⟩) hS (fun q _ h => hFc q h) hFc (fun rr u t H_191 locs ht hvm hw hB hz1 hk1 hS2 => ?_)
              rw [hw]
              clear hw
              obtain ⟨hP1, -, hD1⟩ := hB
              rw [ht] at hP1
              replace hD := hD1.weaken (fun _ _ _ h => hFc _ h)
              replace hP := hP1
              replace hS := hS2
              clear hP1 hD1 hS2 hFc hfc hz1 hk1 hvm ht
              refine lv_goto (tgt := 168) hx hb dX16_overAll_164 (by decide) ?_
              exact B168 (z_189, r_190) ls H_191 locs ⟨lv_sub hl [0, 1] rfl, hP, hD, hS⟩ hf
      refine lv_if_eq (tgt := 111) hx hb dX16_overAll_98 (by decide) (fun c_192 => ?_) (fun c_192 => ?_)
      · skip
        rw [if_pos c_192] at hf
        refine lv_iconst (v := 0) hx hb dX16_overAll_111 (by decide) ?_
        exact B112 (z_10, 0) ls H_12 locs ⟨lv_sub hl [0] rfl, hP, hD, hS⟩ hf
      · skip
        rw [if_neg c_192] at hf
        refine lv_aload_n hx hb dX16_overAll_101 rfl (lv_at hl 0 rfl) ?_
        refine lv_iconst (v := 0) hx hb dX16_overAll_102 (by decide) ?_
        refine lv_bipush (v := 32) hx hb dX16_overAll_103 (by decide) ?_
        obtain ⟨z_193, r_194, hfc, hf⟩ := cal_some hf
        have hFc := de_free hD hS hA
        refine va_calli (va_runV (As := [.int 0, .int 32]) (rest := [.ref (a h0)]) ⟨hx, hb, hml, hown, hts⟩ (de_X16_count l dC dI cy a sh n H_12.size F z_10 h0 0 32 hfc) (cwV 2 hts gX16_overAll_X16_count rfl rfl rfl (by decide +kernel) ⟨Nat.le_of_ble_eq_true rfl, Nat.le_of_ble_eq_true rfl⟩) ⟨fun a U g mk q => by obtain ⟨q0, q1, qP, qK, qD, qN⟩ := q; exact ⟨q0, q1, qP, va_K.moved (u := U) (U := U.calling g mk a) (Vm.Alike.refl U.vm) qK, qD, qN.same rfl⟩, va_recv hK hP (ci := 16) (q0 := h0) rfl (Wd_ob kg_7 sg_7 (by decide)), fun U hU hW => ⟨rfl, by rw [hU], by rw [hU]; exact hP, va_K.moved hW.alike hK, hD.weaken (fun _ _ _ _ => trivial), hN.warm hW⟩⟩ rfl rfl hl.1 rfl (lv_room (Nat.le_of_ble_eq_true rfl)) dX16_overAll_105 ⟨Nat.le_of_ble_eq_true rfl, Nat.le_of_ble_eq_true rfl⟩) hS (fun q _ h => hFc q h) hFc (fun rr u t H_195 locs ht hvm hw hB hz1 hk1 hS2 => ?_)
        rw [hw]
        clear hw
        obtain ⟨hP1, -, hD1⟩ := hB
        rw [ht] at hP1
        replace hD := hD1.weaken (fun _ _ _ h => hFc _ h)
        replace hP := hP1
        replace hS := hS2
        clear hP1 hD1 hS2 hFc hfc hz1 hk1 hvm ht
        refine lv_goto (tgt := 112) hx hb dX16_overAll_108 (by decide) ?_
        exact B112 (z_193, r_194) ls H_195 locs ⟨lv_sub hl [0] rfl, hP, hD, hS⟩ hf
    refine lv_if_eq (tgt := 93) hx hb dX16_overAll_84 (by decide) (fun c_196 => ?_) (fun c_196 => ?_)
    · skip
      rw [if_pos c_196] at hf
      exact B93 (z_5) ls H_8 locs ⟨lv_sub hl [0] rfl, hP, hD, hS⟩ hf
    · skip
      rw [if_neg c_196] at hf
      refine lv_aload_n hx hb dX16_overAll_87 rfl (lv_at hl 0 rfl) ?_
      refine lv_iconst (v := 2) hx hb dX16_overAll_88 (by decide) ?_
      obtain ⟨z_197, r_198, hfc, hf⟩ := cal_some hf
      have hFc := de_free hD hS hA
      refine va_calli (va_runV (As := [.int 2]) (rest := []) ⟨hx, hb, hml, hown, hts⟩ (de_X16_over l dC dI cy a sh n H_8.size F z_5 h0 2 hfc) (cwV 1 hts gX16_overAll_X16_over rfl rfl rfl (by decide +kernel) ⟨Nat.le_of_ble_eq_true rfl, Nat.le_of_ble_eq_true rfl⟩) ⟨fun a U g mk q => by obtain ⟨q0, q1, qP, qK, qD, qN⟩ := q; exact ⟨q0, q1, qP, va_K.moved (u := U) (U := U.calling g mk a) (Vm.Alike.refl U.vm) qK, qD, qN.same rfl⟩, va_recv hK hP (ci := 16) (q0 := h0) rfl (Wd_ob kg_7 sg_7 (by decide)), fun U hU hW => ⟨rfl, by rw [hU], by rw [hU]; exact hP, va_K.moved hW.alike hK, hD.weaken (fun _ _ _ _ => trivial), hN.warm hW⟩⟩ rfl rfl hl.1 rfl (lv_room (Nat.le_of_ble_eq_true rfl)) dX16_overAll_89 ⟨Nat.le_of_ble_eq_true rfl, Nat.le_of_ble_eq_true rfl⟩) hS (fun q _ h => hFc q h) hFc (fun rr u t H_199 locs ht hvm hw hB hz1 hk1 hS2 => ?_)
      rw [hw]
      clear hw
      obtain ⟨hP1, -, hD1⟩ := hB
      rw [ht] at hP1
      replace hD := hD1.weaken (fun _ _ _ h => hFc _ h)
      replace hP := hP1
      replace hS := hS2
      clear hP1 hD1 hS2 hFc hfc hz1 hk1 hvm ht
      refine lv_pop hx hb dX16_overAll_92 rfl ?_
      exact B93 (z_197) ls H_199 locs ⟨lv_sub hl [0] rfl, hP, hD, hS⟩ hf
  refine lv_icmp_ge (tgt := 80) hx hb dX16_overAll_4 (by decide) (fun c_200 => ?_) (fun c_200 => ?_)
  · skip
    rw [if_pos c_200] at hf
    exact B80 (z_2) ls H locs ⟨lv_sub hl [1] rfl, hP, hD, hS⟩ hf
  · skip
    rw [if_neg c_200] at hf
    refine lv_aload_n hx hb dX16_overAll_7 rfl (lv_at hl 1 rfl) ?_
    obtain ⟨g_203, hf⟩ := grd_some hf
    obtain ⟨kg_203, sg_203⟩ := okO_at g_203
    obtain ⟨z_201, r_202, hfc, hf⟩ := cal_some hf
    have hFc := de_free hD hS hA
    refine va_calli (va_runV (As := []) (rest := []) ⟨hx, hb, hml, hown, hts⟩ (de_X16_isGood l dC dI cy a sh n H.size F z_2 h0 hfc) (cwV 0 hts gX16_overAll_X16_isGood rfl rfl rfl (by decide +kernel) ⟨Nat.le_of_ble_eq_true rfl, Nat.le_of_ble_eq_true rfl⟩) ⟨fun a U g mk q => by obtain ⟨q0, q1, qP, qK, qD, qN⟩ := q; exact ⟨q0, q1, qP, va_K.moved (u := U) (U := U.calling g mk a) (Vm.Alike.refl U.vm) qK, qD, qN.same rfl⟩, va_recv hK hP (ci := 16) (q0 := h0) rfl (Wd_ob kg_203 sg_203 (by decide)), fun U hU hW => ⟨rfl, by rw [hU], by rw [hU]; exact hP, va_K.moved hW.alike hK, hD.weaken (fun _ _ _ _ => trivial), hN.warm hW⟩⟩ rfl rfl hl.1 rfl (lv_room (Nat.le_of_ble_eq_true rfl)) dX16_overAll_8 ⟨Nat.le_of_ble_eq_true rfl, Nat.le_of_ble_eq_true rfl⟩) hS (fun q _ h => hFc q h) hFc (fun rr u t H_204 locs ht hvm hw hB hz1 hk1 hS2 => ?_)
    rw [hw]
    clear hw
    obtain ⟨hP1, -, hD1⟩ := hB
    rw [ht] at hP1
    replace hD := hD1.weaken (fun _ _ _ h => hFc _ h)
    replace hP := hP1
    replace hS := hS2
    clear hP1 hD1 hS2 hFc hfc hz1 hk1 hvm ht
    refine lv_if_eq (tgt := 80) hx hb dX16_overAll_11 (by decide) (fun c_205 => ?_) (fun c_205 => ?_)
    · skip
      rw [if_pos c_205] at hf
      exact B80 (z_201) ls H_204 locs ⟨lv_sub hl [1] rfl, hP, hD, hS⟩ hf
    · skip
      rw [if_neg c_205] at hf
      refine lv_aload_n hx hb dX16_overAll_14 rfl (lv_at hl 1 rfl) ?_
      refine lv_iconst (v := 1) hx hb dX16_overAll_15 (by decide) ?_
      obtain ⟨z_206, r_207, hfc, hf⟩ := cal_some hf
      have hFc := de_free hD hS hA
      refine va_calli (va_runV (As := [.int 1]) (rest := []) ⟨hx, hb, hml, hown, hts⟩ (de_X16_over l dC dI cy a sh n H_204.size F z_201 h0 1 hfc) (cwV 1 hts gX16_overAll_X16_over rfl rfl rfl (by decide +kernel) ⟨Nat.le_of_ble_eq_true rfl, Nat.le_of_ble_eq_true rfl⟩) ⟨fun a U g mk q => by obtain ⟨q0, q1, qP, qK, qD, qN⟩ := q; exact ⟨q0, q1, qP, va_K.moved (u := U) (U := U.calling g mk a) (Vm.Alike.refl U.vm) qK, qD, qN.same rfl⟩, va_recv hK hP (ci := 16) (q0 := h0) rfl (Wd_ob kg_203 sg_203 (by decide)), fun U hU hW => ⟨rfl, by rw [hU], by rw [hU]; exact hP, va_K.moved hW.alike hK, hD.weaken (fun _ _ _ _ => trivial), hN.warm hW⟩⟩ rfl rfl hl.1 rfl (lv_room (Nat.le_of_ble_eq_true rfl)) dX16_overAll_16 ⟨Nat.le_of_ble_eq_true rfl, Nat.le_of_ble_eq_true rfl⟩) hS (fun q _ h => hFc q h) hFc (fun rr u t H_208 locs ht hvm hw hB hz1 hk1 hS2 => ?_)
      rw [hw]
      clear hw
      obtain ⟨hP1, -, hD1⟩ := hB
      rw [ht] at hP1
      replace hD := hD1.weaken (fun _ _ _ h => hFc _ h)
      replace hP := hP1
      replace hS := hS2
      clear hP1 hD1 hS2 hFc hfc hz1 hk1 hvm ht
      refine lv_istore_n (lv' := [(2, .int r_207), (1, .int p_1), (0, .ref (a h0))]) hx hb dX16_overAll_19 rfl hl (by decide) rfl (fun ls hl2 => ?_)
      replace hl := hl2
      clear hl2
      refine lv_iload_n hx hb dX16_overAll_20 rfl (lv_at hl 1 rfl) ?_
      refine de_cut (h := 51) (fun (x : St × Int32) => [.int x.2]) (fun x ls H locs => lv_has ls 4 [(2, .int r_207), (1, .int p_1), (0, .ref (a h0))] ∧ va_P (dC, dI) vwCl (Wd cy a sh n x.1) H ∧ va_D A (Wd cy a sh n x.1) ∧ va_S A s.heap H locs) (fun x => fn_X16_overAll_B51 F sh n h0 p_1 r_207 (fun z9 q1 => fn_X16_overAll_L2 F sh n h0 f_3 z9 q1) x.1 x.2) (z8, r8) ?_ (fun B51 => ?_)
      · intro x ls H locs hI hf
        obtain ⟨z_210, p_209⟩ := x
        obtain ⟨hl2, hP2, hD2, hS2⟩ := hI
        replace hl : lv_has ls 4 [(2, .int r_207), (1, .int p_1), (0, .ref (a h0))] := hl2
        replace hP := hP2
        replace hD := hD2
        replace hS := hS2
        clear hl2 hP2 hD2 hS2
        replace hf := fn_X16_overAll_B51_s hf
        refine W.eq (g2 := F0 m 51 ls [.int p_209]) rfl ?_
        refine lv_istore_n (lv' := [(3, .int p_209), (2, .int r_207), (1, .int p_1), (0, .ref (a h0))]) hx hb dX16_overAll_51 rfl hl (by decide) rfl (fun ls hl2 => ?_)
        replace hl := hl2
        clear hl2
        refine lv_aload_n hx hb dX16_overAll_52 rfl (lv_at hl 3 rfl) ?_
        obtain ⟨z_211, r_212, hfc, hf⟩ := cal_some hf
        have hFc := de_free hD hS hA
        refine va_calli (va_runV (As := []) (rest := []) ⟨hx, hb, hml, hown, hts⟩ (de_X16_isGood l dC dI cy a sh n H.size F z_210 h0 hfc) (cwV 0 hts gX16_overAll_X16_isGood rfl rfl rfl (by decide +kernel) ⟨Nat.le_of_ble_eq_true rfl, Nat.le_of_ble_eq_true rfl⟩) ⟨fun a U g mk q => by obtain ⟨q0, q1, qP, qK, qD, qN⟩ := q; exact ⟨q0, q1, qP, va_K.moved (u := U) (U := U.calling g mk a) (Vm.Alike.refl U.vm) qK, qD, qN.same rfl⟩, va_recv hK hP (ci := 16) (q0 := h0) rfl (Wd_ob kg_203 sg_203 (by decide)), fun U hU hW => ⟨rfl, by rw [hU], by rw [hU]; exact hP, va_K.moved hW.alike hK, hD.weaken (fun _ _ _ _ => trivial), hN.warm hW⟩⟩ rfl rfl hl.1 rfl (lv_room (Nat.le_of_ble_eq_true rfl)) dX16_overAll_53 ⟨Nat.le_of_ble_eq_true rfl, Nat.le_of_ble_eq_true rfl⟩) hS (fun q _ h => hFc q h) hFc (fun rr u t H_213 locs ht hvm hw hB hz1 hk1 hS2 => ?_)
        rw [hw]
        clear hw
        obtain ⟨hP1, -, hD1⟩ := hB
        rw [ht] at hP1
        replace hD := hD1.weaken (fun _ _ _ h => hFc _ h)
        replace hP := hP1
        replace hS := hS2
        clear hP1 hD1 hS2 hFc hfc hz1 hk1 hvm ht
        refine de_cut (h := 74) (fun (x : St) => []) (fun x ls H locs => lv_has ls 4 [(1, .int p_1), (0, .ref (a h0))] ∧ va_P (dC, dI) vwCl (Wd cy a sh n x) H ∧ va_D A (Wd cy a sh n x) ∧ va_S A s.heap H locs) (fun x => fn_X16_overAll_B74 F sh n p_1 (fun z9 q1 => fn_X16_overAll_L2 F sh n h0 f_3 z9 q1) x) (z8, r8) ?_ (fun B74 => ?_)
        · intro x ls H locs hI hf
          obtain ⟨z_214, ez⟩ : ∃ w, w = x := ⟨_, rfl⟩
          subst ez
          obtain ⟨hl2, hP2, hD2, hS2⟩ := hI
          replace hl : lv_has ls 4 [(1, .int p_1), (0, .ref (a h0))] := hl2
          replace hP := hP2
          replace hD := hD2
          replace hS := hS2
          clear hl2 hP2 hD2 hS2
          replace hf := fn_X16_overAll_B74_s hf
          refine W.eq (g2 := F0 m 74 ls []) rfl ?_
          refine lv_iinc (v := (p_1 + 1)) (lv' := [(1, .int (p_1 + 1)), (0, .ref (a h0))]) hx hb dX16_overAll_74 hl (k := 0) rfl rfl (by decide) rfl (fun ls hl2 => ?_)
          replace hl := hl2
          clear hl2
          refine lv_goto (tgt := 2) hx hb dX16_overAll_77 (by decide) ?_
          exact ih2 (z_214, (p_1 + 1)) ls H locs ⟨lv_sub hl [0, 1] rfl, hP, hD, hS⟩ hf
        refine lv_if_eq (tgt := 74) hx hb dX16_overAll_56 (by decide) (fun c_215 => ?_) (fun c_215 => ?_)
        · skip
          rw [if_pos c_215] at hf
          exact B74 (z_211) ls H_213 locs ⟨lv_sub hl [2, 3] rfl, hP, hD, hS⟩ hf
        · skip
          rw [if_neg c_215] at hf
          refine lv_aload_n hx hb dX16_overAll_59 rfl (lv_at hl 3 rfl) ?_
          refine lv_iload_n hx hb dX16_overAll_60 rfl (lv_at hl 1 rfl) ?_
          obtain ⟨z_216, r_217, hfc, hf⟩ := cal_some hf
          have hFc := de_free hD hS hA
          refine va_calli (va_runV (As := [.int r_207]) (rest := []) ⟨hx, hb, hml, hown, hts⟩ (de_X16_byteAt l dC dI cy a sh n H_213.size F z_211 h0 r_207 hfc) (cwV 1 hts gX16_overAll_X16_byteAt rfl rfl rfl (by decide +kernel) ⟨Nat.le_of_ble_eq_true rfl, Nat.le_of_ble_eq_true rfl⟩) ⟨fun a U g mk q => by obtain ⟨q0, q1, qP, qK, qD, qN⟩ := q; exact ⟨q0, q1, qP, va_K.moved (u := U) (U := U.calling g mk a) (Vm.Alike.refl U.vm) qK, qD, qN.same rfl⟩, va_recv hK hP (ci := 16) (q0 := h0) rfl (Wd_ob kg_203 sg_203 (by decide)), fun U hU hW => ⟨rfl, by rw [hU], by rw [hU]; exact hP, va_K.moved hW.alike hK, hD.weaken (fun _ _ _ _ => trivial), hN.warm hW⟩⟩ rfl rfl hl.1 rfl (lv_room (Nat.le_of_ble_eq_true rfl)) dX16_overAll_61 ⟨Nat.le_of_ble_eq_true rfl, Nat.le_of_ble_eq_true rfl⟩) hS (fun q _ h => hFc q h) hFc (fun rr u t H_218 locs ht hvm hw hB hz1 hk1 hS2 => ?_)
          rw [hw]
          clear hw
          obtain ⟨hP1, -, hD1⟩ := hB
          rw [ht] at hP1
          replace hD := hD1.weaken (fun _ _ _ h => hFc _ h)
          replace hP := hP1
          replace hS := hS2
          clear hP1 hD1 hS2 hFc hfc hz1 hk1 hvm ht
          refine lv_iload_n hx hb dX16_overAll_64 rfl (lv_at hl 0 rfl) ?_
          refine lv_icmp_eq (tgt := 74) hx hb dX16_overAll_65 (by decide) (fun c_219 => ?_) (fun c_219 => ?_)
          · skip
            rw [if_pos c_219] at hf
            exact B74 (z_216) ls H_218 locs ⟨lv_sub hl [2, 3] rfl, hP, hD, hS⟩ hf
          · skip
            rw [if_neg c_219] at hf
            refine lv_aload_n hx hb dX16_overAll_68 rfl (lv_at hl 3 rfl) ?_
            refine lv_iconst (v := 1) hx hb dX16_overAll_69 (by decide) ?_
            refine lv_iload_n hx hb dX16_overAll_70 rfl (lv_at hl 1 rfl) ?_
            obtain ⟨z_220, _u, hfc, hf⟩ := cal_some hf
            have hFc := de_free hD hS hA
            refine va_callv (va_runV (As := [.int 1, .int r_207]) (rest := []) ⟨hx, hb, hml, hown, hts⟩ (de_X16_fail l dC dI cy a sh n H_218.size F z_216 h0 1 r_207 hfc) (cwV 2 hts gX16_overAll_X16_fail rfl rfl rfl (by decide +kernel) ⟨Nat.le_of_ble_eq_true rfl, Nat.le_of_ble_eq_true rfl⟩) ⟨fun a U g mk q => by obtain ⟨q0, q1, qP, qK, qD, qN⟩ := q; exact ⟨q0, q1, qP, va_K.moved (u := U) (U := U.calling g mk a) (Vm.Alike.refl U.vm) qK, qD, qN.same rfl⟩, va_recv hK hP (ci := 16) (q0 := h0) rfl (Wd_ob kg_203 sg_203 (by decide)), fun U hU hW => ⟨rfl, by rw [hU], by rw [hU]; exact hP, va_K.moved hW.alike hK, hD.weaken (fun _ _ _ _ => trivial), hN.warm hW⟩⟩ rfl rfl hl.1 rfl (lv_room (Nat.le_of_ble_eq_true rfl)) dX16_overAll_71 ⟨Nat.le_of_ble_eq_true rfl, Nat.le_of_ble_eq_true rfl⟩) hS (fun q _ h => hFc q h) hFc (fun u t H_221 locs ht hvm hw hB hz1 hk1 hS2 => ?_)
            obtain ⟨hP1, -, hD1⟩ := hB
            rw [ht] at hP1
            replace hD := hD1.weaken (fun _ _ _ h => hFc _ h)
            replace hP := hP1
            replace hS := hS2
            clear hP1 hD1 hS2 hFc hfc hz1 hk1 hvm ht
            exact B74 (z_220) ls H_221 locs ⟨lv_sub hl [2, 3] rfl, hP, hD, hS⟩ hf
      refine lv_if_ne (tgt := 29) hx hb dX16_overAll_21 (by decide) (fun c_222 => ?_) (fun c_222 => ?_)
      · skip
        rw [if_neg c_222] at hf
        refine lv_iload_n hx hb dX16_overAll_29 rfl (lv_at hl 1 rfl) ?_
        refine lv_iconst (v := 1) hx hb dX16_overAll_30 (by decide) ?_
        refine lv_icmp_ne (tgt := 39) hx hb dX16_overAll_31 (by decide) (fun c_223 => ?_) (fun c_223 => ?_)
        · skip
          rw [if_neg c_223] at hf
          refine lv_iload_n hx hb dX16_overAll_39 rfl (lv_at hl 1 rfl) ?_
          refine lv_iconst (v := 2) hx hb dX16_overAll_40 (by decide) ?_
          refine lv_icmp_ne (tgt := 49) hx hb dX16_overAll_41 (by decide) (fun c_224 => ?_) (fun c_224 => ?_)
          · skip
            rw [if_neg c_224] at hf
            refine lv_bipush (v := 49) hx hb dX16_overAll_49 (by decide) ?_
            exact B51 (z_206, 49) ls H_208 locs ⟨lv_sub hl [0, 1, 2] rfl, hP, hD, hS⟩ hf
          · skip
            rw [if_pos c_224] at hf
            refine lv_bipush (v := 77) hx hb dX16_overAll_44 (by decide) ?_
            refine lv_goto (tgt := 51) hx hb dX16_overAll_46 (by decide) ?_
            exact B51 (z_206, 77) ls H_208 locs ⟨lv_sub hl [0, 1, 2] rfl, hP, hD, hS⟩ hf
        · skip
          rw [if_pos c_223] at hf
          refine lv_bipush (v := 76) hx hb dX16_overAll_34 (by decide) ?_
          refine lv_goto (tgt := 51) hx hb dX16_overAll_36 (by decide) ?_
          exact B51 (z_206, 76) ls H_208 locs ⟨lv_sub hl [0, 1, 2] rfl, hP, hD, hS⟩ hf
      · skip
        rw [if_pos c_222] at hf
        refine lv_bipush (v := 82) hx hb dX16_overAll_24 (by decide) ?_
        refine lv_goto (tgt := 51) hx hb dX16_overAll_26 (by decide) ?_
        exact B51 (z_206, 82) ls H_208 locs ⟨lv_sub hl [0, 1, 2] rfl, hP, hD, hS⟩ hf

theorem md_X11_root_1 : (.fieldLink RX11 43 "ResourceLedger" "tree" "LResourceLedger$Tree;" : Cond) ∈ wsX11_root := List.mem_of_getElem? (i := 1) rfl
theorem iwd_X11_root_X11 : ∀ w ∈ wsX110, w ∈ wsX11_root := fun _ h => List.mem_cons_of_mem _ (List.mem_append_left _ (List.mem_append_left _ (List.mem_append_left _ (List.mem_append_left _ (List.mem_append_right _ h)))))
theorem md_X11_root_2 : (.fieldLink RX11 108 "ResourceLedger$Tree" "stale" "Z" : Cond) ∈ wsX11_root := List.mem_of_getElem? (i := 2) rfl
theorem iwd_X11_root_X9 : ∀ w ∈ wsX90, w ∈ wsX11_root := fun _ h => List.mem_cons_of_mem _ (List.mem_append_left _ (List.mem_append_left _ (List.mem_append_left _ (List.mem_append_right _ h))))
theorem md_X11_root_4 : (.fieldLink RX11 288 "ResourceLedger$Tree" "top" "[J" : Cond) ∈ wsX11_root := List.mem_of_getElem? (i := 4) rfl
theorem md_X11_root_3 : (.fieldLink RX11 22 "ResourceLedger" "state" "LResourceLedger$State;" : Cond) ∈ wsX11_root := List.mem_of_getElem? (i := 3) rfl
set_option maxHeartbeats 4000000 in
set_option maxRecDepth 100000 in
theorem de_X11_root (l : Launch) (dC : Nat → ClassId) (dI : Nat → Nat → Nat) (cy : Nat → ClassId) (a : Nat → Nat) (sh : Nat → Nat × Nat) (n sz : Nat) (F : Nat) (sk : Nat → Nat) (z : St) (h0 : Nat) (x0 : Int32) {z8 : St} {r8 : Int64} (hf : fn_X11_root F sh n z h0 x0 = some (z8, r8)) : Met l yX11_root wsX11_root ({ frames := 7, cells := 0, slots := 0, locals := 172 }) (va_Pc [.ref (a h0), .int x0] (fun U => U.heap.size = sz ∧ va_P (dC, dI) vwCl (Wd cy a sh n z) U.heap ∧ va_K (dC, dI) vwCl (TYS cy) U ∧ va_D (fun _ => True) (Wd cy a sh n z) ∧ NK U ∧ SKs sk (a CBK) (va_A (Wd cy a sh n z) sz) U U.heap)) (va_Ql (fun (r9 : Int64) (u : Unit) => r9 = r8) (fun u t => va_P (dC, dI) vwCl (Wd cy a sh n z8) t.heap ∧ va_K (dC, dI) vwCl (TYS cy) t ∧ va_D (va_A (Wd cy a sh n z) sz) (Wd cy a sh n z8)) (va_A (Wd cy a sh n z) sz)) 0 0 (va_A (Wd cy a sh n z) sz) := by
  refine Met.ofW (cc := cX11_root) (maxL := 2) (ret := (some .long)) (by decide) rfl ?_
  intro p e s m args below meth c s₁ B hml hv
  obtain ⟨rfl, hsz, hP, hK, hD0, hN, hSK⟩ := hv
  have hx := B.exec
  have hb := B.bytes
  have hr := B.returns
  have hts := atoms_spec (ws := wsX11_root) B.pre
  have hown : s.vm.findClass RX11 = some m.cls := findClass_of_methodNamed B.named
  have hlocks := B.notSynchronized
  subst hsz
  have hD := hD0.self (sz := s.heap.size)
  clear hD0
  generalize hAe : va_A (Wd cy a sh n z) s.heap.size = A at hD hSK ⊢
  have hA : ∀ q : Nat, s.heap.size ≤ q → A q := fun q h => by rw [← hAe]; exact Or.inr h
  clear hAe
  have hS : va_S A s.heap s.heap [] := va_S.rf
  have hl := lv_entry ([.ref (a h0), .int x0]) (n := 2) (Nat.le_of_ble_eq_true rfl)
  rw [lg_entry_eq]
  generalize (lg_sl ([.ref (a h0), .int x0]) ++ List.replicate (2 - (lg_sl ([.ref (a h0), .int x0])).length) Slot.unset).toArray = ls at hl ⊢
  replace hl : lv_has ls 2 [(0, .ref (a h0)), (1, .int x0)] := hl
  unfold fn_X11_root at hf
  refine de_start hS hP (fun H locs hS hP => ?_)
  refine lv_iload_n hx hb dX11_root_0 rfl (lv_at hl 1 rfl) ?_
  refine lv_if_lt (tgt := 9) hx hb dX11_root_1 (by decide) (fun c_1 => ?_) (fun c_1 => ?_)
  · skip
    rw [if_pos c_1] at hf
    refine lv_lconst (v := 0) hx hb dX11_root_9 (by decide) ?_
    obtain ⟨h8, h9⟩ := ret_some hf
    rw [h8, h9]
    exact W.lret (v := 0) hx hb hr (fun t ht hW => ⟨⟨0, (), rfl, rfl, by rw [ht]; exact hP, va_K.moved hW.alike hK, hD⟩, hS.F ht⟩) hS.2.2 dX11_root_10
  · skip
    rw [if_neg c_1] at hf
    refine lv_iload_n hx hb dX11_root_4 rfl (lv_at hl 1 rfl) ?_
    refine lv_iconst (v := 3) hx hb dX11_root_5 (by decide) ?_
    refine lv_icmp_le (tgt := 11) hx hb dX11_root_6 (by decide) (fun c_2 => ?_) (fun c_2 => ?_)
    · skip
      rw [if_pos c_2] at hf
      refine lv_aload_n hx hb dX11_root_11 rfl (lv_at hl 0 rfl) ?_
      obtain ⟨g_3, hf⟩ := grd_some hf
      obtain ⟨kg_3, sg_3⟩ := okO_at g_3
      obtain ⟨k_4, ek_4, hf⟩ := lnk_some hf
      refine va_get (D := (dC, dI)) (ci := 11) (v := .ref (a k_4)) (C := RX11) (T := TX11) (N := 13) hx hb hts iwd_X11_root_X11 hown hK hP h0 (Wd_ob kg_3 sg_3 (by decide)) rfl 10 (by decide) (hts _ md_X11_root_1) (fun _ h9 => h9) (fl_q rfl ek_4) dX11_root_12 ?_
      obtain ⟨g_5, hf⟩ := grd_some hf
      obtain ⟨kg_5, sg_5⟩ := okO_at g_5
      refine va_get (D := (dC, dI)) (ci := 9) (v := .int (z.1 k_4 1)) (C := RX9) (T := TX9) (N := 13) hx hb hts iwd_X11_root_X9 hown hK hP k_4 (Wd_ob kg_5 sg_5 (by decide)) rfl 1 (by decide) (hts _ md_X11_root_2) (fun _ h9 => h9) (fl_at (t := 0) rfl) dX11_root_15 ?_
      refine lv_if_eq (tgt := 32) hx hb dX11_root_18 (by decide) (fun c_6 => ?_) (fun c_6 => ?_)
      · skip
        rw [if_pos c_6] at hf
        refine lv_aload_n hx hb dX11_root_32 rfl (lv_at hl 0 rfl) ?_
        obtain ⟨k_7, ek_7, hf⟩ := lnk_some hf
        refine va_get (D := (dC, dI)) (ci := 11) (v := .ref (a k_7)) (C := RX11) (T := TX11) (N := 13) hx hb hts iwd_X11_root_X11 hown hK hP h0 (Wd_ob kg_3 sg_3 (by decide)) rfl 10 (by decide) (hts _ md_X11_root_1) (fun _ h9 => h9) (fl_q rfl ek_7) dX11_root_33 ?_
        obtain ⟨g_8, hf⟩ := grd_some hf
        obtain ⟨kg_8, sg_8⟩ := okO_at g_8
        obtain ⟨k_9, ek_9, hf⟩ := lnk_some hf
        refine va_get (D := (dC, dI)) (ci := 9) (v := .ref (a k_9)) (C := RX9) (T := TX9) (N := 13) hx hb hts iwd_X11_root_X9 hown hK hP k_7 (Wd_ob kg_8 sg_8 (by decide)) rfl 0 (by decide) (hts _ md_X11_root_4) (fun _ h9 => h9) (fl_q rfl ek_9) dX11_root_36 ?_
        refine lv_iload_n hx hb dX11_root_39 rfl (lv_at hl 1 rfl) ?_
        obtain ⟨g_10, hf⟩ := grd_some hf
        obtain ⟨kg_10, sg_10, ig_10⟩ := okA_at g_10
        refine va_lald hx hb hK hP k_9 2 (Wd_al kg_10 sg_10) rfl ig_10 dX11_root_40 ?_
        obtain ⟨h8, h9⟩ := ret_some hf
        rw [h8, h9]
        exact W.lret (v := (z.2.1 k_9 x0.toNatClampNeg)) hx hb hr (fun t ht hW => ⟨⟨(z.2.1 k_9 x0.toNatClampNeg), (), rfl, rfl, by rw [ht]; exact hP, va_K.moved hW.alike hK, hD⟩, hS.F ht⟩) hS.2.2 dX11_root_41
      · skip
        rw [if_neg c_6] at hf
        refine lv_aload_n hx hb dX11_root_21 rfl (lv_at hl 0 rfl) ?_
        obtain ⟨k_11, ek_11, hf⟩ := lnk_some hf
        refine va_get (D := (dC, dI)) (ci := 11) (v := .ref (a k_11)) (C := RX11) (T := TX11) (N := 13) hx hb hts iwd_X11_root_X11 hown hK hP h0 (Wd_ob kg_3 sg_3 (by decide)) rfl 10 (by decide) (hts _ md_X11_root_1) (fun _ h9 => h9) (fl_q rfl ek_11) dX11_root_22 ?_
        refine lv_aload_n hx hb dX11_root_25 rfl (lv_at hl 0 rfl) ?_
        obtain ⟨k_12, ek_12, hf⟩ := lnk_some hf
        refine va_get (D := (dC, dI)) (ci := 11) (v := .ref (a k_12)) (C := RX11) (T := TX11) (N := 13) hx hb hts iwd_X11_root_X11 hown hK hP h0 (Wd_ob kg_3 sg_3 (by decide)) rfl 6 (by decide) (hts _ md_X11_root_3) (fun _ h9 => h9) (fl_q rfl ek_12) dX11_root_26 ?_
        obtain ⟨g_14, hf⟩ := grd_some hf
        obtain ⟨kg_14, sg_14⟩ := okO_at g_14
        obtain ⟨z_13, _u, hfc, hf⟩ := cal_some hf
        have hFc := de_free hD hS hA
        refine va_callv (va_runV (As := [.ref (a k_12)]) (rest := []) ⟨hx, hb, hml, hown, hts⟩ (de_X9_rebuild l dC dI cy a sh n H.size F sk z k_11 k_12 hfc) (cwV 1 hts gX11_root_X9_rebuild rfl rfl rfl (by decide +kernel) ⟨Nat.le_of_ble_eq_true rfl, Nat.le_of_ble_eq_true rfl⟩) ⟨fun a U g mk q => by obtain ⟨q0, q1, qP, qK, qD, qN, qS⟩ := q; exact ⟨q0, q1, qP, va_K.moved (u := U) (U := U.calling g mk a) (Vm.Alike.refl U.vm) qK, qD, qN.same rfl, SKs.moved (u := U) (U := U.calling g mk a) (Vm.Alike.refl U.vm) qS⟩, va_recv hK hP (ci := 9) (q0 := k_11) rfl (Wd_ob kg_14 sg_14 (by decide)), fun U hU hW => ⟨rfl, by rw [hU], by rw [hU]; exact hP, va_K.moved hW.alike hK, hD.weaken (fun _ _ _ _ => trivial), hN.warm hW, by rw [hU]; exact ((hSK.kept hS.2.1).narrow hFc).moved hW.alike⟩⟩ rfl rfl hl.1 rfl (lv_room (Nat.le_of_ble_eq_true rfl)) dX11_root_29 ⟨Nat.le_of_ble_eq_true rfl, Nat.le_of_ble_eq_true rfl⟩) hS (fun q _ h => hFc q h) hFc (fun u t H_15 locs ht hvm hw hB hz1 hk1 hS2 => ?_)
        obtain ⟨hP1, -, hD1⟩ := hB
        rw [ht] at hP1
        replace hD := hD1.weaken (fun _ _ _ h => hFc _ h)
        replace hP := hP1
        replace hS := hS2
        clear hP1 hD1 hS2 hFc hfc hz1 hk1 hvm ht
        refine lv_aload_n hx hb dX11_root_32 rfl (lv_at hl 0 rfl) ?_
        obtain ⟨k_16, ek_16, hf⟩ := lnk_some hf
        refine va_get (D := (dC, dI)) (ci := 11) (v := .ref (a k_16)) (C := RX11) (T := TX11) (N := 13) hx hb hts iwd_X11_root_X11 hown hK hP h0 (Wd_ob kg_3 sg_3 (by decide)) rfl 10 (by decide) (hts _ md_X11_root_1) (fun _ h9 => h9) (fl_q rfl ek_16) dX11_root_33 ?_
        obtain ⟨g_17, hf⟩ := grd_some hf
        obtain ⟨kg_17, sg_17⟩ := okO_at g_17
        obtain ⟨k_18, ek_18, hf⟩ := lnk_some hf
        refine va_get (D := (dC, dI)) (ci := 9) (v := .ref (a k_18)) (C := RX9) (T := TX9) (N := 13) hx hb hts iwd_X11_root_X9 hown hK hP k_16 (Wd_ob kg_17 sg_17 (by decide)) rfl 0 (by decide) (hts _ md_X11_root_4) (fun _ h9 => h9) (fl_q rfl ek_18) dX11_root_36 ?_
        refine lv_iload_n hx hb dX11_root_39 rfl (lv_at hl 1 rfl) ?_
        obtain ⟨g_19, hf⟩ := grd_some hf
        obtain ⟨kg_19, sg_19, ig_19⟩ := okA_at g_19
        refine va_lald hx hb hK hP k_18 2 (Wd_al kg_19 sg_19) rfl ig_19 dX11_root_40 ?_
        obtain ⟨h8, h9⟩ := ret_some hf
        rw [h8, h9]
        exact W.lret (v := (z_13.2.1 k_18 x0.toNatClampNeg)) hx hb hr (fun t ht hW => ⟨⟨(z_13.2.1 k_18 x0.toNatClampNeg), (), rfl, rfl, by rw [ht]; exact hP, va_K.moved hW.alike hK, hD⟩, hS.F ht⟩) hS.2.2 dX11_root_41
    · skip
      rw [if_neg c_2] at hf
      refine lv_lconst (v := 0) hx hb dX11_root_9 (by decide) ?_
      obtain ⟨h8, h9⟩ := ret_some hf
      rw [h8, h9]
      exact W.lret (v := 0) hx hb hr (fun t ht hW => ⟨⟨0, (), rfl, rfl, by rw [ht]; exact hP, va_K.moved hW.alike hK, hD⟩, hS.F ht⟩) hS.2.2 dX11_root_10

set_option maxHeartbeats 4000000 in
set_option maxRecDepth 100000 in
theorem de_X18_isSameList (l : Launch) (dC : Nat → ClassId) (dI : Nat → Nat → Nat) (cy : Nat → ClassId) (a : Nat → Nat) (sh : Nat → Nat × Nat) (n sz : Nat) (F : Nat) (z : St) (h0 : Nat) (x0 : Nat) (x1 : Int32) (x2 : Int32) (x3 : Int32) (x4 : Int32) {z8 : St} {r8 : Int32} (hf : fn_X18_isSameList F sh n z h0 x0 x1 x2 x3 x4 = some (z8, r8)) : Met l yX18_isSameList wsX18_isSameList ({ frames := 7, cells := 0, slots := 0, locals := 163 }) (va_Pc [.ref (a h0), .ref (a x0), .int x1, .int x2, .int x3, .int x4] (fun U => U.heap.size = sz ∧ va_P (dC, dI) vwCl (Wd cy a sh n z) U.heap ∧ va_K (dC, dI) vwCl (TYS cy) U ∧ va_D (fun _ => True) (Wd cy a sh n z) ∧ NK U)) (va_Qi (fun (r9 : Int32) (u : Unit) => r9 = r8) (fun u t => va_P (dC, dI) vwCl (Wd cy a sh n z8) t.heap ∧ va_K (dC, dI) vwCl (TYS cy) t ∧ va_D (va_A (Wd cy a sh n z) sz) (Wd cy a sh n z8)) (va_A (Wd cy a sh n z) sz)) 0 0 (va_A (Wd cy a sh n z) sz) := by
  refine Met.ofW (cc := cX18_isSameList) (maxL := 9) (ret := (some .boolean)) (by decide) rfl ?_
  intro p e s m args below meth c s₁ B hml hv
  obtain ⟨rfl, hsz, hP, hK, hD0, hN⟩ := hv
  have hx := B.exec
  have hb := B.bytes
  have hr := B.returns
  have hts := atoms_spec (ws := wsX18_isSameList) B.pre
  have hown : s.vm.findClass RX18 = some m.cls := findClass_of_methodNamed B.named
  have hlocks := B.notSynchronized
  subst hsz
  have hD := hD0.self (sz := s.heap.size)
  clear hD0
  generalize hAe : va_A (Wd cy a sh n z) s.heap.size = A at hD ⊢
  have hA : ∀ q : Nat, s.heap.size ≤ q → A q := fun q h => by rw [← hAe]; exact Or.inr h
  clear hAe
  have hS : va_S A s.heap s.heap [] := va_S.rf
  have hl := lv_entry ([.ref (a h0), .ref (a x0), .int x1, .int x2, .int x3, .int x4]) (n := 9) (Nat.le_of_ble_eq_true rfl)
  rw [lg_entry_eq]
  generalize (lg_sl ([.ref (a h0), .ref (a x0), .int x1, .int x2, .int x3, .int x4]) ++ List.replicate (9 - (lg_sl ([.ref (a h0), .ref (a x0), .int x1, .int x2, .int x3, .int x4])).length) Slot.unset).toArray = ls at hl ⊢
  replace hl : lv_has ls 9 [(0, .ref (a h0)), (1, .ref (a x0)), (2, .int x1), (3, .int x2), (4, .int x3), (5, .int x4)] := hl
  unfold fn_X18_isSameList at hf
  refine de_start hS hP (fun H locs hS hP => ?_)
  refine lv_aload_n hx hb dX18_isSameList_0 rfl (lv_at hl 1 rfl) ?_
  refine lv_iload_n hx hb dX18_isSameList_1 rfl (lv_at hl 2 rfl) ?_
  refine lv_iload hx hb dX18_isSameList_2 (lv_at hl 5 rfl) ?_
  obtain ⟨g_3, hf⟩ := grd_some hf
  obtain ⟨kg_3, sg_3⟩ := okO_at g_3
  obtain ⟨z_1, r_2, hfc, hf⟩ := cal_some hf
  have hFc := de_free hD hS hA
  refine va_calli (va_runV (As := [.int x1, .int x4]) (rest := []) ⟨hx, hb, hml, hown, hts⟩ (de_X16_many l dC dI cy a sh n H.size F z x0 x1 x4 hfc) (cwV 2 hts gX18_isSameList_X16_many rfl rfl rfl (by decide +kernel) ⟨Nat.le_of_ble_eq_true rfl, Nat.le_of_ble_eq_true rfl⟩) ⟨fun a U g mk q => by obtain ⟨q0, q1, qP, qK, qD, qN⟩ := q; exact ⟨q0, q1, qP, va_K.moved (u := U) (U := U.calling g mk a) (Vm.Alike.refl U.vm) qK, qD, qN.same rfl⟩, va_recv hK hP (ci := 16) (q0 := x0) rfl (Wd_ob kg_3 sg_3 (by decide)), fun U hU hW => ⟨rfl, by rw [hU], by rw [hU]; exact hP, va_K.moved hW.alike hK, hD.weaken (fun _ _ _ _ => trivial), hN.warm hW⟩⟩ rfl rfl hl.1 rfl (lv_room (Nat.le_of_ble_eq_true rfl)) dX18_isSameList_4 ⟨Nat.le_of_ble_eq_true rfl, Nat.le_of_ble_eq_true rfl⟩) hS (fun q _ h => hFc q h) hFc (fun rr u t H_4 locs ht hvm hw hB hz1 hk1 hS2 => ?_)
  rw [hw]
  clear hw
  obtain ⟨hP1, -, hD1⟩ := hB
  rw [ht] at hP1
  replace hD := hD1.weaken (fun _ _ _ h => hFc _ h)
  replace hP := hP1
  replace hS := hS2
  clear hP1 hD1 hS2 hFc hfc hz1 hk1 hvm ht
  refine lv_istore (lv' := [(6, .int r_2), (0, .ref (a h0)), (1, .ref (a x0)), (2, .int x1), (3, .int x2), (4, .int x3), (5, .int x4)]) hx hb dX18_isSameList_7 hl (by decide) rfl (fun ls hl2 => ?_)
  replace hl := hl2
  clear hl2
  refine lv_iload hx hb dX18_isSameList_9 (lv_at hl 0 rfl) ?_
  refine lv_aload_n hx hb dX18_isSameList_11 rfl (lv_at hl 1 rfl) ?_
  refine lv_iload_n hx hb dX18_isSameList_12 rfl (lv_at hl 4 rfl) ?_
  refine lv_iload hx hb dX18_isSameList_13 (lv_at hl 5 rfl) ?_
  refine lv_iload hx hb dX18_isSameList_15 (lv_at hl 6 rfl) ?_
  obtain ⟨g_7, hf⟩ := grd_some hf
  obtain ⟨kg_7, sg_7⟩ := okO_at g_7
  obtain ⟨z_5, r_6, hfc, hf⟩ := cal_some hf
  have hFc := de_free hD hS hA
  refine va_calli (va_runV (As := [.int x2, .int x3, .int x4]) (rest := [.int r_2]) ⟨hx, hb, hml, hown, hts⟩ (de_X18_manyThere l dC dI cy a sh n H_4.size F z_1 h0 x2 x3 x4 hfc) (cwV 3 hts gX18_isSameList_X18_manyThere rfl rfl rfl (by decide +kernel) ⟨Nat.le_of_ble_eq_true rfl, Nat.le_of_ble_eq_true rfl⟩) ⟨fun a U g mk q => by obtain ⟨q0, q1, qP, qK, qD, qN⟩ := q; exact ⟨q0, q1, qP, va_K.moved (u := U) (U := U.calling g mk a) (Vm.Alike.refl U.vm) qK, qD, qN.same rfl⟩, va_recv hK hP (ci := 18) (q0 := h0) rfl (Wd_ob kg_7 sg_7 (by decide)), fun U hU hW => ⟨rfl, by rw [hU], by rw [hU]; exact hP, va_K.moved hW.alike hK, hD.weaken (fun _ _ _ _ => trivial), hN.warm hW⟩⟩ rfl rfl hl.1 rfl (lv_room (Nat.le_of_ble_eq_true rfl)) dX18_isSameList_17 ⟨Nat.le_of_ble_eq_true rfl, Nat.le_of_ble_eq_true rfl⟩) hS (fun q _ h => hFc q h) hFc (fun rr u t H_8 locs ht hvm hw hB hz1 hk1 hS2 => ?_)
  rw [hw]
  clear hw
  obtain ⟨hP1, -, hD1⟩ := hB
  rw [ht] at hP1
  replace hD := hD1.weaken (fun _ _ _ h => hFc _ h)
  replace hP := hP1
  replace hS := hS2
  clear hP1 hD1 hS2 hFc hfc hz1 hk1 hvm ht
  refine de_cut (h := 28) (fun (x : St × Int32) => [.int x.2]) (fun x ls H locs => lv_has ls 9 [(6, .int r_2), (0, .ref (a h0)), (1, .ref (a x0)), (2, .int x1), (3, .int x2), (4, .int x3), (5, .int x4)] ∧ va_P (dC, dI) vwCl (Wd cy a sh n x.1) H ∧ va_D A (Wd cy a sh n x.1) ∧ va_S A s.heap H locs) (fun x => fn_X18_isSameList_B28 F sh n r_2 x0 x1 x4 h0 x2 x3 x.1 x.2) (z8, r8) ?_ (fun B28 => ?_)
  · intro x ls H locs hI hf
    obtain ⟨z_10, p_9⟩ := x
    obtain ⟨hl2, hP2, hD2, hS2⟩ := hI
    replace hl : lv_has ls 9 [(6, .int r_2), (0, .ref (a h0)), (1, .ref (a x0)), (2, .int x1), (3, .int x2), (4, .int x3), (5, .int x4)] := hl2
    replace hP := hP2
    replace hD := hD2
    replace hS := hS2
    clear hl2 hP2 hD2 hS2
    replace hf := fn_X18_isSameList_B28_s hf
    refine W.eq (g2 := F0 m 28 ls [.int p_9]) rfl ?_
    refine lv_istore (lv' := [(7, .int p_9), (6, .int r_2), (0, .ref (a h0)), (1, .ref (a x0)), (2, .int x1), (3, .int x2), (4, .int x3), (5, .int x4)]) hx hb dX18_isSameList_28 hl (by decide) rfl (fun ls hl2 => ?_)
    replace hl := hl2
    clear hl2
    refine lv_iconst (v := 0) hx hb dX18_isSameList_30 (by decide) ?_
    refine lv_istore (lv' := [(8, .int 0), (7, .int p_9), (6, .int r_2), (0, .ref (a h0)), (1, .ref (a x0)), (2, .int x1), (3, .int x2), (4, .int x3), (5, .int x4)]) hx hb dX18_isSameList_31 hl (by decide) rfl (fun ls hl2 => ?_)
    replace hl := hl2
    clear hl2
    have hl0 : lv_has ls 9 [(8, .int 0), (7, .int p_9), (6, .int r_2), (0, .ref (a h0)), (1, .ref (a x0)), (2, .int x1), (3, .int x2), (4, .int x3), (5, .int x4)] := lv_sub hl [0, 1, 2, 3, 4, 5, 6, 7, 8] rfl
    refine de_loop (h := 33) (fun (x : St × Int32 × Int32) ls H locs => lv_has ls 9 [(8, .int x.2.2), (7, .int x.2.1), (6, .int r_2), (0, .ref (a h0)), (1, .ref (a x0)), (2, .int x1), (3, .int x2), (4, .int x3), (5, .int x4)] ∧ va_P (dC, dI) vwCl (Wd cy a sh n x.1) H ∧ va_D A (Wd cy a sh n x.1) ∧ va_S A s.heap H locs) (fun f x => fn_X18_isSameList_L33 F sh n r_2 x0 x1 x4 h0 x2 x3 f x.1 x.2.1 x.2.2) (z8, r8) ?_ (fun _ => rfl) F (z_10, p_9, 0) ls H locs ⟨hl0, hP, hD, hS⟩ hf
    intro f_14 x ls H locs ih33 hI hf
    obtain ⟨z_13, p_11, p_12⟩ := x
    obtain ⟨hl2, hP2, hD2, hS2⟩ := hI
    replace hl : lv_has ls 9 [(8, .int p_12), (7, .int p_11), (6, .int r_2), (0, .ref (a h0)), (1, .ref (a x0)), (2, .int x1), (3, .int x2), (4, .int x3), (5, .int x4)] := hl2
    replace hP := hP2
    replace hD := hD2
    replace hS := hS2
    clear hl2 hP2 hD2 hS2 hl0
    replace hf := fn_X18_isSameList_L33_s hf
    refine lv_iload hx hb dX18_isSameList_33 (lv_at hl 0 rfl) ?_
    refine lv_iload hx hb dX18_isSameList_35 (lv_at hl 2 rfl) ?_
    refine lv_icmp_ge (tgt := 79) hx hb dX18_isSameList_37 (by decide) (fun c_15 => ?_) (fun c_15 => ?_)
    · skip
      rw [if_pos c_15] at hf
      refine lv_iload hx hb dX18_isSameList_79 (lv_at hl 1 rfl) ?_
      obtain ⟨g_16, hf⟩ := grd_some hf
      obtain ⟨h8, h9⟩ := ret_some hf
      rw [h8, h9]
      exact W.zret (v := p_11) hx hb hr (nar_z g_16) (fun t ht hW => ⟨⟨p_11, (), rfl, rfl, by rw [ht]; exact hP, va_K.moved hW.alike hK, hD⟩, hS.F ht⟩) hS.2.2 dX18_isSameList_81
    · skip
      rw [if_neg c_15] at hf
      refine lv_iload hx hb dX18_isSameList_40 (lv_at hl 1 rfl) ?_
      refine lv_if_eq (tgt := 79) hx hb dX18_isSameList_42 (by decide) (fun c_17 => ?_) (fun c_17 => ?_)
      · skip
        rw [if_pos c_17] at hf
        refine lv_iload hx hb dX18_isSameList_79 (lv_at hl 1 rfl) ?_
        obtain ⟨g_18, hf⟩ := grd_some hf
        obtain ⟨h8, h9⟩ := ret_some hf
        rw [h8, h9]
        exact W.zret (v := p_11) hx hb hr (nar_z g_18) (fun t ht hW => ⟨⟨p_11, (), rfl, rfl, by rw [ht]; exact hP, va_K.moved hW.alike hK, hD⟩, hS.F ht⟩) hS.2.2 dX18_isSameList_81
      · skip
        rw [if_neg c_17] at hf
        refine lv_aload_n hx hb dX18_isSameList_45 rfl (lv_at hl 3 rfl) ?_
        refine lv_aload_n hx hb dX18_isSameList_46 rfl (lv_at hl 4 rfl) ?_
        refine lv_aload_n hx hb dX18_isSameList_47 rfl (lv_at hl 4 rfl) ?_
        refine lv_iload_n hx hb dX18_isSameList_48 rfl (lv_at hl 5 rfl) ?_
        refine lv_iload hx hb dX18_isSameList_49 (lv_at hl 8 rfl) ?_
        refine lv_iload hx hb dX18_isSameList_51 (lv_at hl 0 rfl) ?_
        obtain ⟨z_19, r_20, hfc, hf⟩ := cal_some hf
        have hFc := de_free hD hS hA
        refine va_calll (va_runV (As := [.int x1, .int x4, .int p_12]) (rest := [.ref (a x0), .ref (a h0)]) ⟨hx, hb, hml, hown, hts⟩ (de_X16_listed l dC dI cy a sh n H.size F z_13 x0 x1 x4 p_12 hfc) (cwV 3 hts gX18_isSameList_X16_listed rfl rfl rfl (by decide +kernel) ⟨Nat.le_of_ble_eq_true rfl, Nat.le_of_ble_eq_true rfl⟩) ⟨fun a U g mk q => by obtain ⟨q0, q1, qP, qK, qD, qN⟩ := q; exact ⟨q0, q1, qP, va_K.moved (u := U) (U := U.calling g mk a) (Vm.Alike.refl U.vm) qK, qD, qN.same rfl⟩, va_recv hK hP (ci := 16) (q0 := x0) rfl (Wd_ob kg_3 sg_3 (by decide)), fun U hU hW => ⟨rfl, by rw [hU], by rw [hU]; exact hP, va_K.moved hW.alike hK, hD.weaken (fun _ _ _ _ => trivial), hN.warm hW⟩⟩ rfl rfl hl.1 rfl (lv_room (Nat.le_of_ble_eq_true rfl)) dX18_isSameList_53 ⟨Nat.le_of_ble_eq_true rfl, Nat.le_of_ble_eq_true rfl⟩) hS (fun q _ h => hFc q h) hFc (fun rr u t H_21 locs ht hvm hw hB hz1 hk1 hS2 => ?_)
        rw [hw]
        clear hw
        obtain ⟨hP1, -, hD1⟩ := hB
        rw [ht] at hP1
        replace hD := hD1.weaken (fun _ _ _ h => hFc _ h)
        replace hP := hP1
        replace hS := hS2
        clear hP1 hD1 hS2 hFc hfc hz1 hk1 hvm ht
        refine lv_iload_n hx hb dX18_isSameList_56 rfl (lv_at hl 6 rfl) ?_
        refine lv_aload_n hx hb dX18_isSameList_57 rfl (lv_at hl 3 rfl) ?_
        refine lv_iload_n hx hb dX18_isSameList_58 rfl (lv_at hl 6 rfl) ?_
        refine lv_iload hx hb dX18_isSameList_59 (lv_at hl 7 rfl) ?_
        refine lv_iload hx hb dX18_isSameList_61 (lv_at hl 8 rfl) ?_
        refine lv_iload hx hb dX18_isSameList_63 (lv_at hl 0 rfl) ?_
        obtain ⟨z_22, r_23, hfc, hf⟩ := cal_some hf
        have hFc := de_free hD hS hA
        refine va_calll (va_runV (As := [.int x2, .int x3, .int x4, .int p_12]) (rest := [.int x2, .long r_20, .ref (a x0), .ref (a h0)]) ⟨hx, hb, hml, hown, hts⟩ (de_X18_typeThere l dC dI cy a sh n H_21.size F z_19 h0 x2 x3 x4 p_12 hfc) (cwV 4 hts gX18_isSameList_X18_typeThere rfl rfl rfl (by decide +kernel) ⟨Nat.le_of_ble_eq_true rfl, Nat.le_of_ble_eq_true rfl⟩) ⟨fun a U g mk q => by obtain ⟨q0, q1, qP, qK, qD, qN⟩ := q; exact ⟨q0, q1, qP, va_K.moved (u := U) (U := U.calling g mk a) (Vm.Alike.refl U.vm) qK, qD, qN.same rfl⟩, va_recv hK hP (ci := 18) (q0 := h0) rfl (Wd_ob kg_7 sg_7 (by decide)), fun U hU hW => ⟨rfl, by rw [hU], by rw [hU]; exact hP, va_K.moved hW.alike hK, hD.weaken (fun _ _ _ _ => trivial), hN.warm hW⟩⟩ rfl rfl hl.1 rfl (lv_room (Nat.le_of_ble_eq_true rfl)) dX18_isSameList_65 ⟨Nat.le_of_ble_eq_true rfl, Nat.le_of_ble_eq_true rfl⟩) hS (fun q _ h => hFc q h) hFc (fun rr u t H_24 locs ht hvm hw hB hz1 hk1 hS2 => ?_)
        rw [hw]
        clear hw
        obtain ⟨hP1, -, hD1⟩ := hB
        rw [ht] at hP1
        replace hD := hD1.weaken (fun _ _ _ h => hFc _ h)
        replace hP := hP1
        replace hS := hS2
        clear hP1 hD1 hS2 hFc hfc hz1 hk1 hvm ht
        obtain ⟨z_25, r_26, hfc, hf⟩ := cal_some hf
        have hFc := de_free hD hS hA
        refine va_calli (va_runV (As := [.ref (a x0), .long r_20, .int x2, .long r_23]) (rest := []) ⟨hx, hb, hml, hown, hts⟩ (de_X18_isSame l dC dI cy a sh n H_24.size F z_22 h0 x0 r_20 x2 r_23 hfc) (cwV 4 hts gX18_isSameList_X18_isSame rfl rfl rfl (by decide +kernel) ⟨Nat.le_of_ble_eq_true rfl, Nat.le_of_ble_eq_true rfl⟩) ⟨fun a U g mk q => by obtain ⟨q0, q1, qP, qK, qD, qN⟩ := q; exact ⟨q0, q1, qP, va_K.moved (u := U) (U := U.calling g mk a) (Vm.Alike.refl U.vm) qK, qD, qN.same rfl⟩, va_recv hK hP (ci := 18) (q0 := h0) rfl (Wd_ob kg_7 sg_7 (by decide)), fun U hU hW => ⟨rfl, by rw [hU], by rw [hU]; exact hP, va_K.moved hW.alike hK, hD.weaken (fun _ _ _ _ => trivial), hN.warm hW⟩⟩ rfl rfl hl.1 rfl (lv_room (Nat.le_of_ble_eq_true rfl)) dX18_isSameList_68 ⟨Nat.le_of_ble_eq_true rfl, Nat.le_of_ble_eq_true rfl⟩) hS (fun q _ h => hFc q h) hFc (fun rr u t H_27 locs ht hvm hw hB hz1 hk1 hS2 => ?_)
        rw [hw]
        clear hw
        obtain ⟨hP1, -, hD1⟩ := hB
        rw [ht] at hP1
        replace hD := hD1.weaken (fun _ _ _ h => hFc _ h)
        replace hP := hP1
        replace hS := hS2
        clear hP1 hD1 hS2 hFc hfc hz1 hk1 hvm ht
        refine lv_istore (lv' := [(7, .int r_26), (8, .int p_12), (6, .int r_2), (0, .ref (a h0)), (1, .ref (a x0)), (2, .int x1), (3, .int x2), (4, .int x3), (5, .int x4)]) hx hb dX18_isSameList_71 hl (by decide) rfl (fun ls hl2 => ?_)
        replace hl := hl2
        clear hl2
        refine lv_iinc (v := (p_12 + 1)) (lv' := [(8, .int (p_12 + 1)), (7, .int r_26), (6, .int r_2), (0, .ref (a h0)), (1, .ref (a x0)), (2, .int x1), (3, .int x2), (4, .int x3), (5, .int x4)]) hx hb dX18_isSameList_73 hl (k := 1) rfl rfl (by decide) rfl (fun ls hl2 => ?_)
        replace hl := hl2
        clear hl2
        refine lv_goto (tgt := 33) hx hb dX18_isSameList_76 (by decide) ?_
        exact ih33 (z_25, r_26, (p_12 + 1)) ls H_27 locs ⟨lv_sub hl [0, 1, 2, 3, 4, 5, 6, 7, 8] rfl, hP, hD, hS⟩ hf
  refine lv_icmp_ne (tgt := 27) hx hb dX18_isSameList_20 (by decide) (fun c_28 => ?_) (fun c_28 => ?_)
  · skip
    rw [if_neg c_28] at hf
    refine lv_iconst (v := 0) hx hb dX18_isSameList_27 (by decide) ?_
    exact B28 (z_5, 0) ls H_8 locs ⟨lv_sub hl [0, 1, 2, 3, 4, 5, 6] rfl, hP, hD, hS⟩ hf
  · skip
    rw [if_pos c_28] at hf
    refine lv_iconst (v := 1) hx hb dX18_isSameList_23 (by decide) ?_
    refine lv_goto (tgt := 28) hx hb dX18_isSameList_24 (by decide) ?_
    exact B28 (z_5, 1) ls H_8 locs ⟨lv_sub hl [0, 1, 2, 3, 4, 5, 6] rfl, hP, hD, hS⟩ hf

theorem md_X16_read_1 : (.fieldLink RX16 43 "ResourceLedgerModel$Unit" "length" "I" : Cond) ∈ wsX16_read := List.mem_of_getElem? (i := 1) rfl
theorem iwd_X16_read_X16 : ∀ w ∈ wsX160, w ∈ wsX16_read := fun _ h => List.mem_cons_of_mem _ (List.mem_append_right _ h)
theorem md_X16_read_3 : (.fieldLink RX16 50 "ResourceLedgerModel$Unit" "at" "I" : Cond) ∈ wsX16_read := List.mem_of_getElem? (i := 3) rfl
theorem md_X16_read_4 : (.fieldLink RX16 36 "ResourceLedgerModel$Unit" "fault" "I" : Cond) ∈ wsX16_read := List.mem_of_getElem? (i := 4) rfl
theorem md_X16_read_5 : (.fieldLink RX16 40 "ResourceLedgerModel$Unit" "where" "I" : Cond) ∈ wsX16_read := List.mem_of_getElem? (i := 5) rfl
theorem md_X16_read_6 : (.fieldLink RX16 72 "ResourceLedgerModel$Unit" "all" "I" : Cond) ∈ wsX16_read := List.mem_of_getElem? (i := 6) rfl
theorem md_X16_read_7 : (.fieldLink RX16 92 "ResourceLedgerModel$Unit" "structures" "I" : Cond) ∈ wsX16_read := List.mem_of_getElem? (i := 7) rfl
theorem md_X16_read_8 : (.fieldLink RX16 13 "ResourceLedgerModel$Unit" "structureAt" "[I" : Cond) ∈ wsX16_read := List.mem_of_getElem? (i := 8) rfl
theorem md_X16_read_2 : (.fieldLink RX16 7 "ResourceLedgerModel$Unit" "bytes" "[B" : Cond) ∈ wsX16_read := List.mem_of_getElem? (i := 2) rfl
set_option maxHeartbeats 4000000 in
set_option maxRecDepth 100000 in
theorem de_X16_read (l : Launch) (dC : Nat → ClassId) (dI : Nat → Nat → Nat) (cy : Nat → ClassId) (a : Nat → Nat) (sh : Nat → Nat × Nat) (n sz : Nat) (F : Nat) (z : St) (h0 : Nat) (x0 : Nat) (x1 : Int32) (x2 : Int32) {z8 : St} {r8 : Int32} (hf : fn_X16_read F sh n z h0 x0 x1 x2 = some (z8, r8)) : Met l yX16_read wsX16_read ({ frames := 7, cells := 0, slots := 0, locals := 160 }) (va_Pc [.ref (a h0), .ref (a x0), .int x1, .int x2] (fun U => U.heap.size = sz ∧ va_P (dC, dI) vwCl (Wd cy a sh n z) U.heap ∧ va_K (dC, dI) vwCl (TYS cy) U ∧ va_D (fun _ => True) (Wd cy a sh n z) ∧ NK U)) (va_Qi (fun (r9 : Int32) (u : Unit) => r9 = r8) (fun u t => va_P (dC, dI) vwCl (Wd cy a sh n z8) t.heap ∧ va_K (dC, dI) vwCl (TYS cy) t ∧ va_D (va_A (Wd cy a sh n z) sz) (Wd cy a sh n z8)) (va_A (Wd cy a sh n z) sz)) 0 0 (va_A (Wd cy a sh n z) sz) := by
  refine Met.ofW (cc := cX16_read) (maxL := 5) (ret := (some .int)) (by decide) rfl ?_
  intro p e s m args below meth c s₁ B hml hv
  obtain ⟨rfl, hsz, hP, hK, hD0, hN⟩ := hv
  have hx := B.exec
  have hb := B.bytes
  have hr := B.returns
  have hts := atoms_spec (ws := wsX16_read) B.pre
  have hown : s.vm.findClass RX16 = some m.cls := findClass_of_methodNamed B.named
  have hlocks := B.notSynchronized
  subst hsz
  have hD := hD0.self (sz := s.heap.size)
  clear hD0
  generalize hAe : va_A (Wd cy a sh n z) s.heap.size = A at hD ⊢
  have hA : ∀ q : Nat, s.heap.size ≤ q → A q := fun q h => by rw [← hAe]; exact Or.inr h
  clear hAe
  have hS : va_S A s.heap s.heap [] := va_S.rf
  have hl := lv_entry ([.ref (a h0), .ref (a x0), .int x1, .int x2]) (n := 5) (Nat.le_of_ble_eq_true rfl)
  rw [lg_entry_eq]
  generalize (lg_sl ([.ref (a h0), .ref (a x0), .int x1, .int x2]) ++ List.replicate (5 - (lg_sl ([.ref (a h0), .ref (a x0), .int x1, .int x2])).length) Slot.unset).toArray = ls at hl ⊢
  replace hl : lv_has ls 5 [(0, .ref (a h0)), (1, .ref (a x0)), (2, .int x1), (3, .int x2)] := hl
  unfold fn_X16_read at hf
  refine de_start hS hP (fun H locs hS hP => ?_)
  refine lv_aload_n hx hb dX16_read_0 rfl (lv_at hl 0 rfl) ?_
  refine lv_iload_n hx hb dX16_read_1 rfl (lv_at hl 3 rfl) ?_
  obtain ⟨g_1, hf⟩ := grd_some hf
  obtain ⟨kg_1, sg_1⟩ := okO_at g_1
  refine va_put (D := (dC, dI)) (ci := 16) (v := .int x2) (ty := .int) (C := RX16) (T := TX16) (N := 18) hx hb hts iwd_X16_read_X16 tyX16 tyX16_ok nmX16 hown hK hP hD hS h0 (Wd_ob kg_1 sg_1 (by decide)) rfl 1 (by decide) (hts _ md_X16_read_1) (fun _ h9 => h9) rfl (by decide +kernel) rfl rfl (by rw [fl_len]; decide) dX16_read_2 (fun H_2 locs hP2 hD2 hS2 => ?_)
  rw [Wd_si sg_1 (by decide) rfl] at hP2 hD2
  obtain ⟨z_3, ez_3⟩ : ∃ w, w = si z h0 1 x2 := ⟨_, rfl⟩
  rw [← ez_3] at hP2 hD2
  replace hf := lt_at ez_3 hf
  clear ez_3
  replace hP := hP2
  replace hD := hD2
  replace hS := hS2
  clear hP2 hD2 hS2
  refine lv_iconst (v := 0) hx hb dX16_read_5 (by decide) ?_
  refine lv_istore (lv' := [(4, .int 0), (0, .ref (a h0)), (1, .ref (a x0)), (2, .int x1), (3, .int x2)]) hx hb dX16_read_6 hl (by decide) rfl (fun ls hl2 => ?_)
  replace hl := hl2
  clear hl2
  have hl0 : lv_has ls 5 [(4, .int 0), (0, .ref (a h0)), (1, .ref (a x0)), (2, .int x1), (3, .int x2)] := lv_sub hl [0, 1, 2, 3, 4] rfl
  refine de_loop (h := 8) (fun (x : St × Int32) ls H locs => lv_has ls 5 [(4, .int x.2), (0, .ref (a h0)), (1, .ref (a x0)), (2, .int x1), (3, .int x2)] ∧ va_P (dC, dI) vwCl (Wd cy a sh n x.1) H ∧ va_D A (Wd cy a sh n x.1) ∧ va_S A s.heap H locs) (fun f x => fn_X16_read_L8 F sh n x2 h0 x0 x1 f x.1 x.2) (z8, r8) ?_ (fun _ => rfl) F (z_3, 0) ls H_2 locs ⟨hl0, hP, hD, hS⟩ hf
  intro f_6 x ls H locs ih8 hI hf
  obtain ⟨z_5, p_4⟩ := x
  obtain ⟨hl2, hP2, hD2, hS2⟩ := hI
  replace hl : lv_has ls 5 [(4, .int p_4), (0, .ref (a h0)), (1, .ref (a x0)), (2, .int x1), (3, .int x2)] := hl2
  replace hP := hP2
  replace hD := hD2
  replace hS := hS2
  clear hl2 hP2 hD2 hS2 hl0
  replace hf := fn_X16_read_L8_s hf
  refine lv_iload hx hb dX16_read_8 (lv_at hl 0 rfl) ?_
  refine lv_iload_n hx hb dX16_read_10 rfl (lv_at hl 4 rfl) ?_
  refine lv_icmp_ge (tgt := 33) hx hb dX16_read_11 (by decide) (fun c_7 => ?_) (fun c_7 => ?_)
  · skip
    rw [if_pos c_7] at hf
    refine lv_aload_n hx hb dX16_read_33 rfl (lv_at hl 1 rfl) ?_
    refine lv_iconst (v := 0) hx hb dX16_read_34 (by decide) ?_
    refine va_put (D := (dC, dI)) (ci := 16) (v := .int 0) (ty := .int) (C := RX16) (T := TX16) (N := 18) hx hb hts iwd_X16_read_X16 tyX16 tyX16_ok nmX16 hown hK hP hD hS h0 (Wd_ob kg_1 sg_1 (by decide)) rfl 2 (by decide) (hts _ md_X16_read_3) (fun _ h9 => h9) rfl (by decide +kernel) rfl rfl (by rw [fl_len]; decide) dX16_read_35 (fun H_8 locs hP2 hD2 hS2 => ?_)
    rw [Wd_si sg_1 (by decide) rfl] at hP2 hD2
    obtain ⟨z_9, ez_9⟩ : ∃ w, w = si z_5 h0 2 0 := ⟨_, rfl⟩
    rw [← ez_9] at hP2 hD2
    replace hf := lt_at ez_9 hf
    clear ez_9
    replace hP := hP2
    replace hD := hD2
    replace hS := hS2
    clear hP2 hD2 hS2
    refine lv_aload_n hx hb dX16_read_38 rfl (lv_at hl 1 rfl) ?_
    refine lv_iconst (v := 0) hx hb dX16_read_39 (by decide) ?_
    refine va_put (D := (dC, dI)) (ci := 16) (v := .int 0) (ty := .int) (C := RX16) (T := TX16) (N := 18) hx hb hts iwd_X16_read_X16 tyX16 tyX16_ok nmX16 hown hK hP hD hS h0 (Wd_ob kg_1 sg_1 (by decide)) rfl 3 (by decide) (hts _ md_X16_read_4) (fun _ h9 => h9) rfl (by decide +kernel) rfl rfl (by rw [fl_len]; decide) dX16_read_40 (fun H_10 locs hP2 hD2 hS2 => ?_)
    rw [Wd_si sg_1 (by decide) rfl] at hP2 hD2
    obtain ⟨z_11, ez_11⟩ : ∃ w, w = si z_9 h0 3 0 := ⟨_, rfl⟩
    rw [← ez_11] at hP2 hD2
    replace hf := lt_at ez_11 hf
    clear ez_11
    replace hP := hP2
    replace hD := hD2
    replace hS := hS2
    clear hP2 hD2 hS2
    refine lv_aload_n hx hb dX16_read_43 rfl (lv_at hl 1 rfl) ?_
    refine lv_iconst (v := 0) hx hb dX16_read_44 (by decide) ?_
    refine va_put (D := (dC, dI)) (ci := 16) (v := .int 0) (ty := .int) (C := RX16) (T := TX16) (N := 18) hx hb hts iwd_X16_read_X16 tyX16 tyX16_ok nmX16 hown hK hP hD hS h0 (Wd_ob kg_1 sg_1 (by decide)) rfl 4 (by decide) (hts _ md_X16_read_5) (fun _ h9 => h9) rfl (by decide +kernel) rfl rfl (by rw [fl_len]; decide) dX16_read_45 (fun H_12 locs hP2 hD2 hS2 => ?_)
    rw [Wd_si sg_1 (by decide) rfl] at hP2 hD2
    obtain ⟨z_13, ez_13⟩ : ∃ w, w = si z_11 h0 4 0 := ⟨_, rfl⟩
    rw [← ez_13] at hP2 hD2
    replace hf := lt_at ez_13 hf
    clear ez_13
    replace hP := hP2
    replace hD := hD2
    replace hS := hS2
    clear hP2 hD2 hS2
    refine lv_aload_n hx hb dX16_read_48 rfl (lv_at hl 1 rfl) ?_
    refine lv_iconst (v := 0) hx hb dX16_read_49 (by decide) ?_
    refine va_put (D := (dC, dI)) (ci := 16) (v := .int 0) (ty := .int) (C := RX16) (T := TX16) (N := 18) hx hb hts iwd_X16_read_X16 tyX16 tyX16_ok nmX16 hown hK hP hD hS h0 (Wd_ob kg_1 sg_1 (by decide)) rfl 10 (by decide) (hts _ md_X16_read_6) (fun _ h9 => h9) rfl (by decide +kernel) rfl rfl (by rw [fl_len]; decide) dX16_read_50 (fun H_14 locs hP2 hD2 hS2 => ?_)
    rw [Wd_si sg_1 (by decide) rfl] at hP2 hD2
    obtain ⟨z_15, ez_15⟩ : ∃ w, w = si z_13 h0 10 0 := ⟨_, rfl⟩
    rw [← ez_15] at hP2 hD2
    replace hf := lt_at ez_15 hf
    clear ez_15
    replace hP := hP2
    replace hD := hD2
    replace hS := hS2
    clear hP2 hD2 hS2
    refine lv_aload_n hx hb dX16_read_53 rfl (lv_at hl 1 rfl) ?_
    obtain ⟨z_16, _u, hfc, hf⟩ := cal_some hf
    have hFc := de_free hD hS hA
    refine va_callv (va_runV (As := []) (rest := []) ⟨hx, hb, hml, hown, hts⟩ (de_X16_overAll l dC dI cy a sh n H_14.size F z_15 h0 hfc) (cwV 0 hts gX16_read_X16_overAll rfl rfl rfl (by decide +kernel) ⟨Nat.le_of_ble_eq_true rfl, Nat.le_of_ble_eq_true rfl⟩) ⟨fun a U g mk q => by obtain ⟨q0, q1, qP, qK, qD, qN⟩ := q; exact ⟨q0, q1, qP, va_K.moved (u := U) (U := U.calling g mk a) (Vm.Alike.refl U.vm) qK, qD, qN.same rfl⟩, va_recv hK hP (ci := 16) (q0 := h0) rfl (Wd_ob kg_1 sg_1 (by decide)), fun U hU hW => ⟨rfl, by rw [hU], by rw [hU]; exact hP, va_K.moved hW.alike hK, hD.weaken (fun _ _ _ _ => trivial), hN.warm hW⟩⟩ rfl rfl hl.1 rfl (lv_room (Nat.le_of_ble_eq_true rfl)) dX16_read_54 ⟨Nat.le_of_ble_eq_true rfl, Nat.le_of_ble_eq_true rfl⟩) hS (fun q _ h => hFc q h) hFc (fun u t H_17 locs ht hvm hw hB hz1 hk1 hS2 => ?_)
    obtain ⟨hP1, -, hD1⟩ := hB
    rw [ht] at hP1
    replace hD := hD1.weaken (fun _ _ _ h => hFc _ h)
    replace hP := hP1
    replace hS := hS2
    clear hP1 hD1 hS2 hFc hfc hz1 hk1 hvm ht
    refine lv_aload_n hx hb dX16_read_57 rfl (lv_at hl 1 rfl) ?_
    obtain ⟨z_18, r_19, hfc, hf⟩ := cal_some hf
    have hFc := de_free hD hS hA
    refine va_calli (va_runV (As := []) (rest := []) ⟨hx, hb, hml, hown, hts⟩ (de_X16_isGood l dC dI cy a sh n H_17.size F z_16 h0 hfc) (cwV 0 hts gX16_read_X16_isGood rfl rfl rfl (by decide +kernel) ⟨Nat.le_of_ble_eq_true rfl, Nat.le_of_ble_eq_true rfl⟩) ⟨fun a U g mk q => by obtain ⟨q0, q1, qP, qK, qD, qN⟩ := q; exact ⟨q0, q1, qP, va_K.moved (u := U) (U := U.calling g mk a) (Vm.Alike.refl U.vm) qK, qD, qN.same rfl⟩, va_recv hK hP (ci := 16) (q0 := h0) rfl (Wd_ob kg_1 sg_1 (by decide)), fun U hU hW => ⟨rfl, by rw [hU], by rw [hU]; exact hP, va_K.moved hW.alike hK, hD.weaken (fun _ _ _ _ => trivial), hN.warm hW⟩⟩ rfl rfl hl.1 rfl (lv_room (Nat.le_of_ble_eq_true rfl)) dX16_read_58 ⟨Nat.le_of_ble_eq_true rfl, Nat.le_of_ble_eq_true rfl⟩) hS (fun q _ h => hFc q h) hFc (fun rr u t H_20 locs ht hvm hw hB hz1 hk1 hS2 => ?_)
    rw [hw]
    clear hw
    obtain ⟨hP1, -, hD1⟩ := hB
    rw [ht] at hP1
    replace hD := hD1.weaken (fun _ _ _ h => hFc _ h)
    replace hP := hP1
    replace hS := hS2
    clear hP1 hD1 hS2 hFc hfc hz1 hk1 hvm ht
    refine de_cut (h := 68) (fun (x : St) => []) (fun x ls H locs => lv_has ls 5 [(0, .ref (a h0))] ∧ va_P (dC, dI) vwCl (Wd cy a sh n x) H ∧ va_D A (Wd cy a sh n x) ∧ va_S A s.heap H locs) (fun x => fn_X16_read_B68 F sh n h0 x) (z8, r8) ?_ (fun B68 => ?_)
    · intro x ls H locs hI hf
      obtain ⟨z_21, ez⟩ : ∃ w, w = x := ⟨_, rfl⟩
      subst ez
      obtain ⟨hl2, hP2, hD2, hS2⟩ := hI
      replace hl : lv_has ls 5 [(0, .ref (a h0))] := hl2
      replace hP := hP2
      replace hD := hD2
      replace hS := hS2
      clear hl2 hP2 hD2 hS2
      replace hf := fn_X16_read_B68_s hf
      refine W.eq (g2 := F0 m 68 ls []) rfl ?_
      refine lv_iconst (v := 0) hx hb dX16_read_68 (by decide) ?_
      refine lv_istore (lv' := [(4, .int 0), (0, .ref (a h0))]) hx hb dX16_read_69 hl (by decide) rfl (fun ls hl2 => ?_)
      replace hl := hl2
      clear hl2
      have hl0 : lv_has ls 5 [(4, .int 0), (0, .ref (a h0))] := lv_sub hl [0, 1] rfl
      refine de_loop (h := 71) (fun (x : St × Int32) ls H locs => lv_has ls 5 [(4, .int x.2), (0, .ref (a h0))] ∧ va_P (dC, dI) vwCl (Wd cy a sh n x.1) H ∧ va_D A (Wd cy a sh n x.1) ∧ va_S A s.heap H locs) (fun f x => fn_X16_read_L71 F sh n h0 f x.1 x.2) (z8, r8) ?_ (fun _ => rfl) F (z_21, 0) ls H locs ⟨hl0, hP, hD, hS⟩ hf
      intro f_24 x ls H locs ih71 hI hf
      obtain ⟨z_23, p_22⟩ := x
      obtain ⟨hl2, hP2, hD2, hS2⟩ := hI
      replace hl : lv_has ls 5 [(4, .int p_22), (0, .ref (a h0))] := hl2
      replace hP := hP2
      replace hD := hD2
      replace hS := hS2
      clear hl2 hP2 hD2 hS2 hl0
      replace hf := fn_X16_read_L71_s hf
      refine lv_iload hx hb dX16_read_71 (lv_at hl 0 rfl) ?_
      refine lv_aload_n hx hb dX16_read_73 rfl (lv_at hl 1 rfl) ?_
      refine va_get (D := (dC, dI)) (ci := 16) (v := .int (z_23.1 h0 5)) (C := RX16) (T := TX16) (N := 18) hx hb hts iwd_X16_read_X16 hown hK hP h0 (Wd_ob kg_1 sg_1 (by decide)) rfl 5 (by decide) (hts _ md_X16_read_7) (fun _ h9 => h9) (fl_at (t := 0) rfl) dX16_read_74 ?_
      refine lv_icmp_ge (tgt := 115) hx hb dX16_read_77 (by decide) (fun c_25 => ?_) (fun c_25 => ?_)
      · skip
        rw [if_pos c_25] at hf
        refine lv_aload_n hx hb dX16_read_115 rfl (lv_at hl 1 rfl) ?_
        refine va_get (D := (dC, dI)) (ci := 16) (v := .int (z_23.1 h0 3)) (C := RX16) (T := TX16) (N := 18) hx hb hts iwd_X16_read_X16 hown hK hP h0 (Wd_ob kg_1 sg_1 (by decide)) rfl 3 (by decide) (hts _ md_X16_read_4) (fun _ h9 => h9) (fl_at (t := 0) rfl) dX16_read_116 ?_
        obtain ⟨h8, h9⟩ := ret_some hf
        rw [h8, h9]
        exact W.iret (v := (z_23.1 h0 3)) hx hb hr (fun t ht hW => ⟨⟨(z_23.1 h0 3), (), rfl, rfl, by rw [ht]; exact hP, va_K.moved hW.alike hK, hD⟩, hS.F ht⟩) hS.2.2 dX16_read_119
      · skip
        rw [if_neg c_25] at hf
        refine lv_aload_n hx hb dX16_read_80 rfl (lv_at hl 1 rfl) ?_
        obtain ⟨z_26, r_27, hfc, hf⟩ := cal_some hf
        have hFc := de_free hD hS hA
        refine va_calli (va_runV (As := []) (rest := []) ⟨hx, hb, hml, hown, hts⟩ (de_X16_isGood l dC dI cy a sh n H.size F z_23 h0 hfc) (cwV 0 hts gX16_read_X16_isGood rfl rfl rfl (by decide +kernel) ⟨Nat.le_of_ble_eq_true rfl, Nat.le_of_ble_eq_true rfl⟩) ⟨fun a U g mk q => by obtain ⟨q0, q1, qP, qK, qD, qN⟩ := q; exact ⟨q0, q1, qP, va_K.moved (u := U) (U := U.calling g mk a) (Vm.Alike.refl U.vm) qK, qD, qN.same rfl⟩, va_recv hK hP (ci := 16) (q0 := h0) rfl (Wd_ob kg_1 sg_1 (by decide)), fun U hU hW => ⟨rfl, by rw [hU], by rw [hU]; exact hP, va_K.moved hW.alike hK, hD.weaken (fun _ _ _ _ => trivial), hN.warm hW⟩⟩ rfl rfl hl.1 rfl (lv_room (Nat.le_of_ble_eq_true rfl)) dX16_read_81 ⟨Nat.le_of_ble_eq_true rfl, Nat.le_of_ble_eq_true rfl⟩) hS (fun q _ h => hFc q h) hFc (fun rr u t H_28 locs ht hvm hw hB hz1 hk1 hS2 => ?_)
        rw [hw]
        clear hw
        obtain ⟨hP1, -, hD1⟩ := hB
        rw [ht] at hP1
        replace hD := hD1.weaken (fun _ _ _ h => hFc _ h)
        replace hP := hP1
        replace hS := hS2
        clear hP1 hD1 hS2 hFc hfc hz1 hk1 hvm ht
        refine lv_if_eq (tgt := 115) hx hb dX16_read_84 (by decide) (fun c_29 => ?_) (fun c_29 => ?_)
        · skip
          rw [if_pos c_29] at hf
          refine lv_aload_n hx hb dX16_read_115 rfl (lv_at hl 1 rfl) ?_
          refine va_get (D := (dC, dI)) (ci := 16) (v := .int (z_26.1 h0 3)) (C := RX16) (T := TX16) (N := 18) hx hb hts iwd_X16_read_X16 hown hK hP h0 (Wd_ob kg_1 sg_1 (by decide)) rfl 3 (by decide) (hts _ md_X16_read_4) (fun _ h9 => h9) (fl_at (t := 0) rfl) dX16_read_116 ?_
          obtain ⟨h8, h9⟩ := ret_some hf
          rw [h8, h9]
          exact W.iret (v := (z_26.1 h0 3)) hx hb hr (fun t ht hW => ⟨⟨(z_26.1 h0 3), (), rfl, rfl, by rw [ht]; exact hP, va_K.moved hW.alike hK, hD⟩, hS.F ht⟩) hS.2.2 dX16_read_119
        · skip
          rw [if_neg c_29] at hf
          refine lv_aload_n hx hb dX16_read_87 rfl (lv_at hl 1 rfl) ?_
          refine lv_iload hx hb dX16_read_88 (lv_at hl 0 rfl) ?_
          obtain ⟨z_30, r_31, hfc, hf⟩ := cal_some hf
          have hFc := de_free hD hS hA
          refine va_calli (va_runV (As := [.int p_22]) (rest := []) ⟨hx, hb, hml, hown, hts⟩ (de_X16_isRound l dC dI cy a sh n H_28.size F z_26 h0 p_22 hfc) (cwV 1 hts gX16_read_X16_isRound rfl rfl rfl (by decide +kernel) ⟨Nat.le_of_ble_eq_true rfl, Nat.le_of_ble_eq_true rfl⟩) ⟨fun a U g mk q => by obtain ⟨q0, q1, qP, qK, qD, qN⟩ := q; exact ⟨q0, q1, qP, va_K.moved (u := U) (U := U.calling g mk a) (Vm.Alike.refl U.vm) qK, qD, qN.same rfl⟩, va_recv hK hP (ci := 16) (q0 := h0) rfl (Wd_ob kg_1 sg_1 (by decide)), fun U hU hW => ⟨rfl, by rw [hU], by rw [hU]; exact hP, va_K.moved hW.alike hK, hD.weaken (fun _ _ _ _ => trivial), hN.warm hW⟩⟩ rfl rfl hl.1 rfl (lv_room (Nat.le_of_ble_eq_true rfl)) dX16_read_90 ⟨Nat.le_of_ble_eq_true rfl, Nat.le_of_ble_eq_true rfl⟩) hS (fun q _ h => hFc q h) hFc (fun rr u t H_32 locs ht hvm hw hB hz1 hk1 hS2 => ?_)
          rw [hw]
          clear hw
          obtain ⟨hP1, -, hD1⟩ := hB
          rw [ht] at hP1
          replace hD := hD1.weaken (fun _ _ _ h => hFc _ h)
          replace hP := hP1
          replace hS := hS2
          clear hP1 hD1 hS2 hFc hfc hz1 hk1 hvm ht
          refine de_cut (h := 109) (fun (x : St) => []) (fun x ls H locs => lv_has ls 5 [(4, .int p_22), (0, .ref (a h0))] ∧ va_P (dC, dI) vwCl (Wd cy a sh n x) H ∧ va_D A (Wd cy a sh n x) ∧ va_S A s.heap H locs) (fun x => fn_X16_read_B109 F sh n p_22 (fun z9 q4 => fn_X16_read_L71 F sh n h0 f_24 z9 q4) x) (z8, r8) ?_ (fun B109 => ?_)
          · intro x ls H locs hI hf
            obtain ⟨z_33, ez⟩ : ∃ w, w = x := ⟨_, rfl⟩
            subst ez
            obtain ⟨hl2, hP2, hD2, hS2⟩ := hI
            replace hl : lv_has ls 5 [(4, .int p_22), (0, .ref (a h0))] := hl2
            replace hP := hP2
            replace hD := hD2
            replace hS := hS2
            clear hl2 hP2 hD2 hS2
            replace hf := fn_X16_read_B109_s hf
            refine W.eq (g2 := F0 m 109 ls []) rfl ?_
            refine lv_iinc (v := (p_22 + 1)) (lv' := [(4, .int (p_22 + 1)), (0, .ref (a h0))]) hx hb dX16_read_109 hl (k := 0) rfl rfl (by decide) rfl (fun ls hl2 => ?_)
            replace hl := hl2
            clear hl2
            refine lv_goto (tgt := 71) hx hb dX16_read_112 (by decide) ?_
            exact ih71 (z_33, (p_22 + 1)) ls H locs ⟨lv_sub hl [0, 1] rfl, hP, hD, hS⟩ hf
          refine lv_if_eq (tgt := 109) hx hb dX16_read_93 (by decide) (fun c_34 => ?_) (fun c_34 => ?_)
          · skip
            rw [if_pos c_34] at hf
            exact B109 (z_30) ls H_32 locs ⟨lv_sub hl [0, 1] rfl, hP, hD, hS⟩ hf
          · skip
            rw [if_neg c_34] at hf
            refine lv_aload_n hx hb dX16_read_96 rfl (lv_at hl 1 rfl) ?_
            refine lv_bipush (v := 14) hx hb dX16_read_97 (by decide) ?_
            refine lv_aload_n hx hb dX16_read_99 rfl (lv_at hl 1 rfl) ?_
            obtain ⟨k_35, ek_35, hf⟩ := lnk_some hf
            refine va_get (D := (dC, dI)) (ci := 16) (v := .ref (a k_35)) (C := RX16) (T := TX16) (N := 18) hx hb hts iwd_X16_read_X16 hown hK hP h0 (Wd_ob kg_1 sg_1 (by decide)) rfl 11 (by decide) (hts _ md_X16_read_8) (fun _ h9 => h9) (fl_q rfl ek_35) dX16_read_100 ?_
            refine lv_iload hx hb dX16_read_103 (lv_at hl 0 rfl) ?_
            obtain ⟨g_36, hf⟩ := grd_some hf
            obtain ⟨kg_36, sg_36, ig_36⟩ := okA_at g_36
            refine va_iald hx hb hK hP k_35 1 (Wd_ai kg_36 sg_36) rfl ig_36 dX16_read_105 ?_
            obtain ⟨z_37, _u, hfc, hf⟩ := cal_some hf
            have hFc := de_free hD hS hA
            refine va_callv (va_runV (As := [.int 14, .int (z_30.1 k_35 p_22.toNatClampNeg)]) (rest := []) ⟨hx, hb, hml, hown, hts⟩ (de_X16_fail l dC dI cy a sh n H_32.size F z_30 h0 14 (z_30.1 k_35 p_22.toNatClampNeg) hfc) (cwV 2 hts gX16_read_X16_fail rfl rfl rfl (by decide +kernel) ⟨Nat.le_of_ble_eq_true rfl, Nat.le_of_ble_eq_true rfl⟩) ⟨fun a U g mk q => by obtain ⟨q0, q1, qP, qK, qD, qN⟩ := q; exact ⟨q0, q1, qP, va_K.moved (u := U) (U := U.calling g mk a) (Vm.Alike.refl U.vm) qK, qD, qN.same rfl⟩, va_recv hK hP (ci := 16) (q0 := h0) rfl (Wd_ob kg_1 sg_1 (by decide)), fun U hU hW => ⟨rfl, by rw [hU], by rw [hU]; exact hP, va_K.moved hW.alike hK, hD.weaken (fun _ _ _ _ => trivial), hN.warm hW⟩⟩ rfl rfl hl.1 rfl (lv_room (Nat.le_of_ble_eq_true rfl)) dX16_read_106 ⟨Nat.le_of_ble_eq_true rfl, Nat.le_of_ble_eq_true rfl⟩) hS (fun q _ h => hFc q h) hFc (fun u t H_38 locs ht hvm hw hB hz1 hk1 hS2 => ?_)
            obtain ⟨hP1, -, hD1⟩ := hB
            rw [ht] at hP1
            replace hD := hD1.weaken (fun _ _ _ h => hFc _ h)
            replace hP := hP1
            replace hS := hS2
            clear hP1 hD1 hS2 hFc hfc hz1 hk1 hvm ht
            exact B109 (z_37) ls H_38 locs ⟨lv_sub hl [0, 1] rfl, hP, hD, hS⟩ hf
    refine lv_if_eq (tgt := 68) hx hb dX16_read_61 (by decide) (fun c_39 => ?_) (fun c_39 => ?_)
    · skip
      rw [if_pos c_39] at hf
      exact B68 (z_18) ls H_20 locs ⟨lv_sub hl [1] rfl, hP, hD, hS⟩ hf
    · skip
      rw [if_neg c_39] at hf
      refine lv_aload_n hx hb dX16_read_64 rfl (lv_at hl 1 rfl) ?_
      obtain ⟨z_40, _u, hfc, hf⟩ := cal_some hf
      have hFc := de_free hD hS hA
      refine va_callv (va_runV (As := []) (rest := []) ⟨hx, hb, hml, hown, hts⟩ (de_X16_lookAll l dC dI cy a sh n H_20.size F z_18 h0 hfc) (cwV 0 hts gX16_read_X16_lookAll rfl rfl rfl (by decide +kernel) ⟨Nat.le_of_ble_eq_true rfl, Nat.le_of_ble_eq_true rfl⟩) ⟨fun a U g mk q => by obtain ⟨q0, q1, qP, qK, qD, qN⟩ := q; exact ⟨q0, q1, qP, va_K.moved (u := U) (U := U.calling g mk a) (Vm.Alike.refl U.vm) qK, qD, qN.same rfl⟩, va_recv hK hP (ci := 16) (q0 := h0) rfl (Wd_ob kg_1 sg_1 (by decide)), fun U hU hW => ⟨rfl, by rw [hU], by rw [hU]; exact hP, va_K.moved hW.alike hK, hD.weaken (fun _ _ _ _ => trivial), hN.warm hW⟩⟩ rfl rfl hl.1 rfl (lv_room (Nat.le_of_ble_eq_true rfl)) dX16_read_65 ⟨Nat.le_of_ble_eq_true rfl, Nat.le_of_ble_eq_true rfl⟩) hS (fun q _ h => hFc q h) hFc (fun u t H_41 locs ht hvm hw hB hz1 hk1 hS2 => ?_)
      obtain ⟨hP1, -, hD1⟩ := hB
      rw [ht] at hP1
      replace hD := hD1.weaken (fun _ _ _ h => hFc _ h)
      replace hP := hP1
      replace hS := hS2
      clear hP1 hD1 hS2 hFc hfc hz1 hk1 hvm ht
      exact B68 (z_40) ls H_41 locs ⟨lv_sub hl [1] rfl, hP, hD, hS⟩ hf
  · skip
    rw [if_neg c_7] at hf
    refine lv_aload_n hx hb dX16_read_14 rfl (lv_at hl 1 rfl) ?_
    obtain ⟨k_42, ek_42, hf⟩ := lnk_some hf
    refine va_get (D := (dC, dI)) (ci := 16) (v := .ref (a k_42)) (C := RX16) (T := TX16) (N := 18) hx hb hts iwd_X16_read_X16 hown hK hP h0 (Wd_ob kg_1 sg_1 (by decide)) rfl 0 (by decide) (hts _ md_X16_read_2) (fun _ h9 => h9) (fl_q rfl ek_42) dX16_read_15 ?_
    refine lv_iload hx hb dX16_read_18 (lv_at hl 0 rfl) ?_
    refine lv_aload_n hx hb dX16_read_20 rfl (lv_at hl 2 rfl) ?_
    refine lv_iload_n hx hb dX16_read_21 rfl (lv_at hl 3 rfl) ?_
    refine lv_iload hx hb dX16_read_22 (lv_at hl 0 rfl) ?_
    refine lv_iadd hx hb dX16_read_24 ?_
    obtain ⟨g_43, hf⟩ := grd_some hf
    obtain ⟨kg_43, sg_43, ig_43⟩ := okA_at g_43
    refine va_bald hx hb hK hP x0 0 (Wd_ab kg_43 sg_43) rfl ig_43 dX16_read_25 ?_
    obtain ⟨g_44, hf⟩ := grd_some hf
    obtain ⟨kg_44, sg_44, ig_44⟩ := okA_at g_44
    refine va_bast hx hb hK hP hD hS k_42 0 (Wd_ab kg_44 sg_44) rfl ig_44 dX16_read_26 (fun H_45 locs hP2 hD2 hS2 => ?_)
    rw [Wd_tb sg_44] at hP2 hD2
    obtain ⟨z_46, ez_46⟩ : ∃ w, w = si z_5 k_42 p_4.toNatClampNeg (vp_nar .byte (z_5.1 x0 (x1 + p_4).toNatClampNeg)) := ⟨_, rfl⟩
    rw [← ez_46] at hP2 hD2
    replace hf := lt_at ez_46 hf
    clear ez_46
    replace hP := hP2
    replace hD := hD2
    replace hS := hS2
    clear hP2 hD2 hS2
    refine lv_iinc (v := (p_4 + 1)) (lv' := [(4, .int (p_4 + 1)), (0, .ref (a h0)), (1, .ref (a x0)), (2, .int x1), (3, .int x2)]) hx hb dX16_read_27 hl (k := 0) rfl rfl (by decide) rfl (fun ls hl2 => ?_)
    replace hl := hl2
    clear hl2
    refine lv_goto (tgt := 8) hx hb dX16_read_30 (by decide) ?_
    exact ih8 (z_46, (p_4 + 1)) ls H_45 locs ⟨lv_sub hl [0, 1, 2, 3, 4] rfl, hP, hD, hS⟩ hf

theorem md_X11_execute_1 : (.fieldLink RX11 115 "ResourceLedger" "doneLength" "I" : Cond) ∈ wsX11_execute := List.mem_of_getElem? (i := 1) rfl
theorem iwd_X11_execute_X11 : ∀ w ∈ wsX110, w ∈ wsX11_execute := fun _ h => List.mem_cons_of_mem _ (List.mem_append_left _ (List.mem_append_left _ (List.mem_append_left _ (List.mem_append_left _ (List.mem_append_left _ (List.mem_append_left _ (List.mem_append_left _ (List.mem_append_left _ (List.mem_append_left _ (List.mem_append_left _ (List.mem_append_left _ (List.mem_append_right _ h))))))))))))
theorem md_X11_execute_2 : (.fieldLink RX11 112 "ResourceLedger" "blockLength" "I" : Cond) ∈ wsX11_execute := List.mem_of_getElem? (i := 2) rfl
theorem md_X11_execute_8 : (.fieldLink RX11 43 "ResourceLedger" "tree" "LResourceLedger$Tree;" : Cond) ∈ wsX11_execute := List.mem_of_getElem? (i := 8) rfl
theorem md_X11_execute_9 : (.fieldLink RX11 108 "ResourceLedger$Tree" "stale" "Z" : Cond) ∈ wsX11_execute := List.mem_of_getElem? (i := 9) rfl
theorem iwd_X11_execute_X9 : ∀ w ∈ wsX90, w ∈ wsX11_execute := fun _ h => List.mem_cons_of_mem _ (List.mem_append_left _ (List.mem_append_left _ (List.mem_append_left _ (List.mem_append_left _ (List.mem_append_left _ (List.mem_append_left _ (List.mem_append_left _ (List.mem_append_left _ (List.mem_append_left _ (List.mem_append_right _ h))))))))))
theorem md_X11_execute_3 : (.fieldLink RX11 15 "ResourceLedger" "block" "[LResourceLedger$Transaction;" : Cond) ∈ wsX11_execute := List.mem_of_getElem? (i := 3) rfl
theorem md_X11_execute_4 : (.fieldLink RX11 22 "ResourceLedger" "state" "LResourceLedger$State;" : Cond) ∈ wsX11_execute := List.mem_of_getElem? (i := 4) rfl
theorem md_X11_execute_5 : (.fieldLink RX11 131 "ResourceLedger$Transaction" "calls" "Z" : Cond) ∈ wsX11_execute := List.mem_of_getElem? (i := 5) rfl
theorem iwd_X11_execute_X8 : ∀ w ∈ wsX80, w ∈ wsX11_execute := fun _ h => List.mem_cons_of_mem _ (List.mem_append_left _ (List.mem_append_left _ (List.mem_append_left _ (List.mem_append_left _ (List.mem_append_left _ (List.mem_append_left _ (List.mem_append_left _ (List.mem_append_left _ (List.mem_append_left _ (List.mem_append_left _ (List.mem_append_right _ h)))))))))))
theorem md_X11_execute_7 : (.fieldLink RX11 174 "ResourceLedger$Transaction" "outcome" "I" : Cond) ∈ wsX11_execute := List.mem_of_getElem? (i := 7) rfl
theorem md_X11_execute_6 : (.fieldLink RX11 55 "ResourceLedger" "machine" "LResourceLedger$Machine;" : Cond) ∈ wsX11_execute := List.mem_of_getElem? (i := 6) rfl
set_option maxHeartbeats 4000000 in
set_option maxRecDepth 100000 in
theorem de_X11_execute (l : Launch) (dC : Nat → ClassId) (dI : Nat → Nat → Nat) (cy : Nat → ClassId) (a : Nat → Nat) (sh : Nat → Nat × Nat) (n sz : Nat) (F : Nat) (sk : Nat → Nat) (z : St) (h0 : Nat) {z8 : St} {r8 : Int32} (hf : fn_X11_execute F sh n z h0 = some (z8, r8)) : Met l yX11_execute wsX11_execute ({ frames := 55, cells := 0, slots := 0, locals := 1523 }) (va_Pc [.ref (a h0)] (fun U => U.heap.size = sz ∧ va_P (dC, dI) vwCl (Wd cy a sh n z) U.heap ∧ va_K (dC, dI) vwCl (TYS cy) U ∧ va_D (fun _ => True) (Wd cy a sh n z) ∧ NK U ∧ SKs sk (a CBK) (va_A (Wd cy a sh n z) sz) U U.heap)) (va_Qi (fun (r9 : Int32) (u : Unit) => r9 = r8) (fun u t => va_P (dC, dI) vwCl (Wd cy a sh n z8) t.heap ∧ va_K (dC, dI) vwCl (TYS cy) t ∧ va_D (va_A (Wd cy a sh n z) sz) (Wd cy a sh n z8)) (va_A (Wd cy a sh n z) sz)) 0 0 (va_A (Wd cy a sh n z) sz) := by
  refine Met.ofW (cc := cX11_execute) (maxL := 5) (ret := (some .int)) (by decide) rfl ?_
  intro p e s m args below meth c s₁ B hml hv
  obtain ⟨rfl, hsz, hP, hK, hD0, hN, hSK⟩ := hv
  have hx := B.exec
  have hb := B.bytes
  have hr := B.returns
  have hts := atoms_spec (ws := wsX11_execute) B.pre
  have hown : s.vm.findClass RX11 = some m.cls := findClass_of_methodNamed B.named
  have hlocks := B.notSynchronized
  subst hsz
  have hD := hD0.self (sz := s.heap.size)
  clear hD0
  generalize hAe : va_A (Wd cy a sh n z) s.heap.size = A at hD hSK ⊢
  have hA : ∀ q : Nat, s.heap.size ≤ q → A q := fun q h => by rw [← hAe]; exact Or.inr h
  clear hAe
  have hS : va_S A s.heap s.heap [] := va_S.rf
  have hl := lv_entry ([.ref (a h0)]) (n := 5) (Nat.le_of_ble_eq_true rfl)
  rw [lg_entry_eq]
  generalize (lg_sl ([.ref (a h0)]) ++ List.replicate (5 - (lg_sl ([.ref (a h0)])).length) Slot.unset).toArray = ls at hl ⊢
  replace hl : lv_has ls 5 [(0, .ref (a h0))] := hl
  unfold fn_X11_execute at hf
  refine de_start hS hP (fun H locs hS hP => ?_)
  refine lv_aload_n hx hb dX11_execute_0 rfl (lv_at hl 0 rfl) ?_
  obtain ⟨g_1, hf⟩ := grd_some hf
  obtain ⟨kg_1, sg_1⟩ := okO_at g_1
  refine va_get (D := (dC, dI)) (ci := 11) (v := .int (z.1 h0 5)) (C := RX11) (T := TX11) (N := 13) hx hb hts iwd_X11_execute_X11 hown hK hP h0 (Wd_ob kg_1 sg_1 (by decide)) rfl 5 (by decide) (hts _ md_X11_execute_1) (fun _ h9 => h9) (fl_at (t := 0) rfl) dX11_execute_1 ?_
  refine lv_aload_n hx hb dX11_execute_4 rfl (lv_at hl 0 rfl) ?_
  refine va_get (D := (dC, dI)) (ci := 11) (v := .int (z.1 h0 4)) (C := RX11) (T := TX11) (N := 13) hx hb hts iwd_X11_execute_X11 hown hK hP h0 (Wd_ob kg_1 sg_1 (by decide)) rfl 4 (by decide) (hts _ md_X11_execute_2) (fun _ h9 => h9) (fl_at (t := 0) rfl) dX11_execute_5 ?_
  refine lv_icmp_lt (tgt := 14) hx hb dX11_execute_8 (by decide) (fun c_2 => ?_) (fun c_2 => ?_)
  · skip
    rw [if_pos c_2] at hf
    refine lv_iconst (v := 0) hx hb dX11_execute_14 (by decide) ?_
    refine lv_istore_n (lv' := [(1, .int 0), (0, .ref (a h0))]) hx hb dX11_execute_15 rfl hl (by decide) rfl (fun ls hl2 => ?_)
    replace hl := hl2
    clear hl2
    refine lv_aload_n hx hb dX11_execute_16 rfl (lv_at hl 1 rfl) ?_
    refine va_get (D := (dC, dI)) (ci := 11) (v := .int (z.1 h0 5)) (C := RX11) (T := TX11) (N := 13) hx hb hts iwd_X11_execute_X11 hown hK hP h0 (Wd_ob kg_1 sg_1 (by decide)) rfl 5 (by decide) (hts _ md_X11_execute_1) (fun _ h9 => h9) (fl_at (t := 0) rfl) dX11_execute_17 ?_
    refine lv_topi (fun v_3 ev_3 => ?_)
    replace hf := lt_at ev_3 hf
    clear ev_3
    refine lv_istore_n (lv' := [(2, .int v_3), (1, .int 0), (0, .ref (a h0))]) hx hb dX11_execute_20 rfl hl (by decide) rfl (fun ls hl2 => ?_)
    replace hl := hl2
    clear hl2
    have hl0 : lv_has ls 5 [(2, .int v_3), (1, .int 0), (0, .ref (a h0))] := lv_sub hl [0, 1, 2] rfl
    refine de_loop (h := 21) (fun (x : St × Int32 × Int32) ls H locs => lv_has ls 5 [(2, .int x.2.2), (1, .int x.2.1), (0, .ref (a h0))] ∧ va_P (dC, dI) vwCl (Wd cy a sh n x.1) H ∧ va_D A (Wd cy a sh n x.1) ∧ va_S A s.heap H locs) (fun f x => fn_X11_execute_L21 F sh n h0 f x.1 x.2.1 x.2.2) (z8, r8) ?_ (fun _ => rfl) F (z, 0, v_3) ls H locs ⟨hl0, hP, hD, hS⟩ hf
    intro f_7 x ls H locs ih21 hI hf
    obtain ⟨z_6, p_4, p_5⟩ := x
    obtain ⟨hl2, hP2, hD2, hS2⟩ := hI
    replace hl : lv_has ls 5 [(2, .int p_5), (1, .int p_4), (0, .ref (a h0))] := hl2
    replace hP := hP2
    replace hD := hD2
    replace hS := hS2
    clear hl2 hP2 hD2 hS2 hl0
    replace hf := fn_X11_execute_L21_s hf
    refine lv_iload_n hx hb dX11_execute_21 rfl (lv_at hl 0 rfl) ?_
    refine lv_aload_n hx hb dX11_execute_22 rfl (lv_at hl 2 rfl) ?_
    refine va_get (D := (dC, dI)) (ci := 11) (v := .int (z_6.1 h0 4)) (C := RX11) (T := TX11) (N := 13) hx hb hts iwd_X11_execute_X11 hown hK hP h0 (Wd_ob kg_1 sg_1 (by decide)) rfl 4 (by decide) (hts _ md_X11_execute_2) (fun _ h9 => h9) (fl_at (t := 0) rfl) dX11_execute_23 ?_
    refine lv_icmp_ge (tgt := 115) hx hb dX11_execute_26 (by decide) (fun c_8 => ?_) (fun c_8 => ?_)
    · skip
      rw [if_pos c_8] at hf
      refine lv_aload_n hx hb dX11_execute_115 rfl (lv_at hl 2 rfl) ?_
      refine lv_aload_n hx hb dX11_execute_116 rfl (lv_at hl 2 rfl) ?_
      refine va_get (D := (dC, dI)) (ci := 11) (v := .int (z_6.1 h0 4)) (C := RX11) (T := TX11) (N := 13) hx hb hts iwd_X11_execute_X11 hown hK hP h0 (Wd_ob kg_1 sg_1 (by decide)) rfl 4 (by decide) (hts _ md_X11_execute_2) (fun _ h9 => h9) (fl_at (t := 0) rfl) dX11_execute_117 ?_
      refine va_put (D := (dC, dI)) (ci := 11) (v := .int (z_6.1 h0 4)) (ty := .int) (C := RX11) (T := TX11) (N := 13) hx hb hts iwd_X11_execute_X11 tyX11 tyX11_ok nmX11 hown hK hP hD hS h0 (Wd_ob kg_1 sg_1 (by decide)) rfl 5 (by decide) (hts _ md_X11_execute_1) (fun _ h9 => h9) rfl (by decide +kernel) rfl rfl (by rw [fl_len]; decide) dX11_execute_120 (fun H_9 locs hP2 hD2 hS2 => ?_)
      rw [Wd_si sg_1 (by decide) rfl] at hP2 hD2
      obtain ⟨z_10, ez_10⟩ : ∃ w, w = si z_6 h0 5 (z_6.1 h0 4) := ⟨_, rfl⟩
      rw [← ez_10] at hP2 hD2
      replace hf := lt_at ez_10 hf
      clear ez_10
      replace hP := hP2
      replace hD := hD2
      replace hS := hS2
      clear hP2 hD2 hS2
      refine lv_aload_n hx hb dX11_execute_123 rfl (lv_at hl 2 rfl) ?_
      obtain ⟨k_11, ek_11, hf⟩ := lnk_some hf
      refine va_get (D := (dC, dI)) (ci := 11) (v := .ref (a k_11)) (C := RX11) (T := TX11) (N := 13) hx hb hts iwd_X11_execute_X11 hown hK hP h0 (Wd_ob kg_1 sg_1 (by decide)) rfl 10 (by decide) (hts _ md_X11_execute_8) (fun _ h9 => h9) (fl_q rfl ek_11) dX11_execute_124 ?_
      refine lv_iconst (v := 1) hx hb dX11_execute_127 (by decide) ?_
      obtain ⟨g_12, hf⟩ := grd_some hf
      obtain ⟨kg_12, sg_12⟩ := okO_at g_12
      refine va_put (D := (dC, dI)) (ci := 9) (v := .int 1) (ty := .boolean) (C := RX9) (T := TX9) (N := 13) hx hb hts iwd_X11_execute_X9 tyX9 tyX9_ok nmX9 hown hK hP hD hS k_11 (Wd_ob kg_12 sg_12 (by decide)) rfl 1 (by decide) (hts _ md_X11_execute_9) (fun _ h9 => h9) rfl (by decide +kernel) rfl rfl (by rw [fl_len]; decide) dX11_execute_128 (fun H_13 locs hP2 hD2 hS2 => ?_)
      rw [Wd_si sg_12 (by decide) rfl] at hP2 hD2
      obtain ⟨z_14, ez_14⟩ : ∃ w, w = si z_10 k_11 1 1 := ⟨_, rfl⟩
      rw [← ez_14] at hP2 hD2
      replace hf := lt_at ez_14 hf
      clear ez_14
      replace hP := hP2
      replace hD := hD2
      replace hS := hS2
      clear hP2 hD2 hS2
      refine lv_iload_n hx hb dX11_execute_131 rfl (lv_at hl 1 rfl) ?_
      obtain ⟨h8, h9⟩ := ret_some hf
      rw [h8, h9]
      exact W.iret (v := p_4) hx hb hr (fun t ht hW => ⟨⟨p_4, (), rfl, rfl, by rw [ht]; exact hP, va_K.moved hW.alike hK, hD⟩, hS.F ht⟩) hS.2.2 dX11_execute_132
    · skip
      rw [if_neg c_8] at hf
      refine lv_aload_n hx hb dX11_execute_29 rfl (lv_at hl 2 rfl) ?_
      obtain ⟨k_15, ek_15, hf⟩ := lnk_some hf
      refine va_get (D := (dC, dI)) (ci := 11) (v := .ref (a k_15)) (C := RX11) (T := TX11) (N := 13) hx hb hts iwd_X11_execute_X11 hown hK hP h0 (Wd_ob kg_1 sg_1 (by decide)) rfl 3 (by decide) (hts _ md_X11_execute_3) (fun _ h9 => h9) (fl_q rfl ek_15) dX11_execute_30 ?_
      refine lv_iload_n hx hb dX11_execute_33 rfl (lv_at hl 0 rfl) ?_
      obtain ⟨g_16, hf⟩ := grd_some hf
      obtain ⟨kg_16, sg_16, ig_16⟩ := okA_at g_16
      obtain ⟨k_17, ek_17, hf⟩ := lnk_some hf
      refine va_aldq (C := RX8) hx hb hK hP k_15 5 (Wd_aq kg_16 sg_16 (by decide)) rfl ig_16 dX11_execute_34 ?_
      refine W.eq (g2 := F0 m 35 ls [.ref (a k_17)]) (by rw [ek_17]; rfl) ?_
      refine lv_astore_n (lv' := [(3, .ref (a k_17)), (2, .int p_5), (1, .int p_4), (0, .ref (a h0))]) hx hb dX11_execute_35 rfl hl (by decide) rfl (fun ls hl2 => ?_)
      replace hl := hl2
      clear hl2
      refine lv_aload_n hx hb dX11_execute_36 rfl (lv_at hl 3 rfl) ?_
      refine lv_aload_n hx hb dX11_execute_37 rfl (lv_at hl 0 rfl) ?_
      obtain ⟨z_18, r_19, hfc, hf⟩ := cal_some hf
      have hFc := de_free hD hS hA
      refine va_calli (va_runV (As := [.ref (a k_17)]) (rest := []) ⟨hx, hb, hml, hown, hts⟩ (de_X11_refusalOf l dC dI cy a sh n H.size F z_6 h0 k_17 hfc) (cwV 1 hts gX11_execute_X11_refusalOf rfl rfl rfl (by decide +kernel) ⟨Nat.le_of_ble_eq_true rfl, Nat.le_of_ble_eq_true rfl⟩) ⟨fun a U g mk q => by obtain ⟨q0, q1, qP, qK, qD, qN⟩ := q; exact ⟨q0, q1, qP, va_K.moved (u := U) (U := U.calling g mk a) (Vm.Alike.refl U.vm) qK, qD, qN.same rfl⟩, va_recv hK hP (ci := 11) (q0 := h0) rfl (Wd_ob kg_1 sg_1 (by decide)), fun U hU hW => ⟨rfl, by rw [hU], by rw [hU]; exact hP, va_K.moved hW.alike hK, hD.weaken (fun _ _ _ _ => trivial), hN.warm hW⟩⟩ rfl rfl hl.1 rfl (lv_room (Nat.le_of_ble_eq_true rfl)) dX11_execute_38 ⟨Nat.le_of_ble_eq_true rfl, Nat.le_of_ble_eq_true rfl⟩) hS (fun q _ h => hFc q h) hFc (fun rr u t H_20 locs ht hvm hw hB hz1 hk1 hS2 => ?_)
      rw [hw]
      clear hw
      obtain ⟨hP1, -, hD1⟩ := hB
      rw [ht] at hP1
      replace hD := hD1.weaken (fun _ _ _ h => hFc _ h)
      replace hP := hP1
      replace hS := hS2
      clear hP1 hD1 hS2 hFc hfc hz1 hk1 hvm ht
      refine lv_istore (lv' := [(4, .int r_19), (3, .ref (a k_17)), (2, .int p_5), (1, .int p_4), (0, .ref (a h0))]) hx hb dX11_execute_41 hl (by decide) rfl (fun ls hl2 => ?_)
      replace hl := hl2
      clear hl2
      refine lv_iload hx hb dX11_execute_43 (lv_at hl 0 rfl) ?_
      refine de_cut (h := 109) (fun (x : St × Int32) => []) (fun x ls H locs => lv_has ls 5 [(1, .int x.2), (2, .int p_5), (0, .ref (a h0))] ∧ va_P (dC, dI) vwCl (Wd cy a sh n x.1) H ∧ va_D A (Wd cy a sh n x.1) ∧ va_S A s.heap H locs) (fun x => fn_X11_execute_B109 F sh n p_5 (fun z9 q1 q2 => fn_X11_execute_L21 F sh n h0 f_7 z9 q1 q2) x.1 x.2) (z8, r8) ?_ (fun B109 => ?_)
      · intro x ls H locs hI hf
        obtain ⟨z_22, p_21⟩ := x
        obtain ⟨hl2, hP2, hD2, hS2⟩ := hI
        replace hl : lv_has ls 5 [(1, .int p_21), (2, .int p_5), (0, .ref (a h0))] := hl2
        replace hP := hP2
        replace hD := hD2
        replace hS := hS2
        clear hl2 hP2 hD2 hS2
        replace hf := fn_X11_execute_B109_s hf
        refine W.eq (g2 := F0 m 109 ls []) rfl ?_
        refine lv_iinc (v := (p_5 + 1)) (lv' := [(2, .int (p_5 + 1)), (1, .int p_21), (0, .ref (a h0))]) hx hb dX11_execute_109 hl (k := 1) rfl rfl (by decide) rfl (fun ls hl2 => ?_)
        replace hl := hl2
        clear hl2
        refine lv_goto (tgt := 21) hx hb dX11_execute_112 (by decide) ?_
        exact ih21 (z_22, p_21, (p_5 + 1)) ls H locs ⟨lv_sub hl [0, 1, 2] rfl, hP, hD, hS⟩ hf
      refine lv_if_eq (tgt := 60) hx hb dX11_execute_45 (by decide) (fun c_23 => ?_) (fun c_23 => ?_)
      · skip
        rw [if_pos c_23] at hf
        refine lv_aload_n hx hb dX11_execute_60 rfl (lv_at hl 4 rfl) ?_
        obtain ⟨k_24, ek_24, hf⟩ := lnk_some hf
        refine va_get (D := (dC, dI)) (ci := 11) (v := .ref (a k_24)) (C := RX11) (T := TX11) (N := 13) hx hb hts iwd_X11_execute_X11 hown hK hP h0 (Wd_ob kg_1 sg_1 (by decide)) rfl 6 (by decide) (hts _ md_X11_execute_4) (fun _ h9 => h9) (fl_q rfl ek_24) dX11_execute_61 ?_
        refine lv_aload_n hx hb dX11_execute_64 rfl (lv_at hl 1 rfl) ?_
        obtain ⟨g_26, hf⟩ := grd_some hf
        obtain ⟨kg_26, sg_26⟩ := okO_at g_26
        obtain ⟨z_25, _u, hfc, hf⟩ := cal_some hf
        have hFc := de_free hD hS hA
        refine va_callv (va_runV (As := [.ref (a k_17)]) (rest := []) ⟨hx, hb, hml, hown, hts⟩ (de_X7_charge l dC dI cy a sh n H_20.size F z_18 k_24 k_17 hfc) (cwV 1 hts gX11_execute_X7_charge rfl rfl rfl (by decide +kernel) ⟨Nat.le_of_ble_eq_true rfl, Nat.le_of_ble_eq_true rfl⟩) ⟨fun a U g mk q => by obtain ⟨q0, q1, qP, qK, qD, qN⟩ := q; exact ⟨q0, q1, qP, va_K.moved (u := U) (U := U.calling g mk a) (Vm.Alike.refl U.vm) qK, qD, qN.same rfl⟩, va_recv hK hP (ci := 7) (q0 := k_24) rfl (Wd_ob kg_26 sg_26 (by decide)), fun U hU hW => ⟨rfl, by rw [hU], by rw [hU]; exact hP, va_K.moved hW.alike hK, hD.weaken (fun _ _ _ _ => trivial), hN.warm hW⟩⟩ rfl rfl hl.1 rfl (lv_room (Nat.le_of_ble_eq_true rfl)) dX11_execute_65 ⟨Nat.le_of_ble_eq_true rfl, Nat.le_of_ble_eq_true rfl⟩) hS (fun q _ h => hFc q h) hFc (fun u t H_27 locs ht hvm hw hB hz1 hk1 hS2 => ?_)
        obtain ⟨hP1, -, hD1⟩ := hB
        rw [ht] at hP1
        replace hD := hD1.weaken (fun _ _ _ h => hFc _ h)
        replace hP := hP1
        replace hS := hS2
        clear hP1 hD1 hS2 hFc hfc hz1 hk1 hvm ht
        refine lv_aload_n hx hb dX11_execute_68 rfl (lv_at hl 1 rfl) ?_
        obtain ⟨g_28, hf⟩ := grd_some hf
        obtain ⟨kg_28, sg_28⟩ := okO_at g_28
        refine va_get (D := (dC, dI)) (ci := 8) (v := .int (z_25.1 k_17 0)) (C := RX8) (T := TX8) (N := 19) hx hb hts iwd_X11_execute_X8 hown hK hP k_17 (Wd_ob kg_28 sg_28 (by decide)) rfl 0 (by decide) (hts _ md_X11_execute_5) (fun _ h9 => h9) (fl_at (t := 0) rfl) dX11_execute_69 ?_
        refine de_cut (h := 91) (fun (x : St) => []) (fun x ls H locs => lv_has ls 5 [(3, .ref (a k_17)), (2, .int p_5), (1, .int p_4), (0, .ref (a h0))] ∧ va_P (dC, dI) vwCl (Wd cy a sh n x) H ∧ va_D A (Wd cy a sh n x) ∧ va_S A s.heap H locs) (fun x => fn_X11_execute_B91 F sh n h0 k_17 p_5 p_4 (fun z9 q1 q2 => fn_X11_execute_L21 F sh n h0 f_7 z9 q1 q2) x) (z8, r8) ?_ (fun B91 => ?_)
        · intro x ls H locs hI hf
          obtain ⟨z_29, ez⟩ : ∃ w, w = x := ⟨_, rfl⟩
          subst ez
          obtain ⟨hl2, hP2, hD2, hS2⟩ := hI
          replace hl : lv_has ls 5 [(3, .ref (a k_17)), (2, .int p_5), (1, .int p_4), (0, .ref (a h0))] := hl2
          replace hP := hP2
          replace hD := hD2
          replace hS := hS2
          clear hl2 hP2 hD2 hS2
          replace hf := fn_X11_execute_B91_s hf
          refine W.eq (g2 := F0 m 91 ls []) rfl ?_
          refine lv_aload_n hx hb dX11_execute_91 rfl (lv_at hl 3 rfl) ?_
          obtain ⟨k_30, ek_30, hf⟩ := lnk_some hf
          refine va_get (D := (dC, dI)) (ci := 11) (v := .ref (a k_30)) (C := RX11) (T := TX11) (N := 13) hx hb hts iwd_X11_execute_X11 hown hK hP h0 (Wd_ob kg_1 sg_1 (by decide)) rfl 6 (by decide) (hts _ md_X11_execute_4) (fun _ h9 => h9) (fl_q rfl ek_30) dX11_execute_92 ?_
          refine lv_aload_n hx hb dX11_execute_95 rfl (lv_at hl 0 rfl) ?_
          obtain ⟨g_32, hf⟩ := grd_some hf
          obtain ⟨kg_32, sg_32⟩ := okO_at g_32
          obtain ⟨z_31, _u, hfc, hf⟩ := cal_some hf
          have hFc := de_free hD hS hA
          refine va_callv (va_runV (As := [.ref (a k_17)]) (rest := []) ⟨hx, hb, hml, hown, hts⟩ (de_X7_settle l dC dI cy a sh n H.size F z_29 k_30 k_17 hfc) (cwV 1 hts gX11_execute_X7_settle rfl rfl rfl (by decide +kernel) ⟨Nat.le_of_ble_eq_true rfl, Nat.le_of_ble_eq_true rfl⟩) ⟨fun a U g mk q => by obtain ⟨q0, q1, qP, qK, qD, qN⟩ := q; exact ⟨q0, q1, qP, va_K.moved (u := U) (U := U.calling g mk a) (Vm.Alike.refl U.vm) qK, qD, qN.same rfl⟩, va_recv hK hP (ci := 7) (q0 := k_30) rfl (Wd_ob kg_32 sg_32 (by decide)), fun U hU hW => ⟨rfl, by rw [hU], by rw [hU]; exact hP, va_K.moved hW.alike hK, hD.weaken (fun _ _ _ _ => trivial), hN.warm hW⟩⟩ rfl rfl hl.1 rfl (lv_room (Nat.le_of_ble_eq_true rfl)) dX11_execute_96 ⟨Nat.le_of_ble_eq_true rfl, Nat.le_of_ble_eq_true rfl⟩) hS (fun q _ h => hFc q h) hFc (fun u t H_33 locs ht hvm hw hB hz1 hk1 hS2 => ?_)
          obtain ⟨hP1, -, hD1⟩ := hB
          rw [ht] at hP1
          replace hD := hD1.weaken (fun _ _ _ h => hFc _ h)
          replace hP := hP1
          replace hS := hS2
          clear hP1 hD1 hS2 hFc hfc hz1 hk1 hvm ht
          refine lv_aload_n hx hb dX11_execute_99 rfl (lv_at hl 0 rfl) ?_
          refine va_get (D := (dC, dI)) (ci := 8) (v := .int (z_31.1 k_17 11)) (C := RX8) (T := TX8) (N := 19) hx hb hts iwd_X11_execute_X8 hown hK hP k_17 (Wd_ob kg_28 sg_28 (by decide)) rfl 11 (by decide) (hts _ md_X11_execute_7) (fun _ h9 => h9) (fl_at (t := 0) rfl) dX11_execute_100 ?_
          refine lv_if_ne (tgt := 109) hx hb dX11_execute_103 (by decide) (fun c_34 => ?_) (fun c_34 => ?_)
          · skip
            rw [if_neg c_34] at hf
            exact B109 (z_31, p_4) ls H_33 locs ⟨lv_sub hl [2, 1, 3] rfl, hP, hD, hS⟩ hf
          · skip
            rw [if_pos c_34] at hf
            refine lv_iinc (v := (p_4 + 1)) (lv' := [(1, .int (p_4 + 1)), (3, .ref (a k_17)), (2, .int p_5), (0, .ref (a h0))]) hx hb dX11_execute_106 hl (k := 2) rfl rfl (by decide) rfl (fun ls hl2 => ?_)
            replace hl := hl2
            clear hl2
            exact B109 (z_31, (p_4 + 1)) ls H_33 locs ⟨lv_sub hl [0, 2, 3] rfl, hP, hD, hS⟩ hf
        refine lv_if_eq (tgt := 86) hx hb dX11_execute_72 (by decide) (fun c_35 => ?_) (fun c_35 => ?_)
        · skip
          rw [if_pos c_35] at hf
          refine lv_aload_n hx hb dX11_execute_86 rfl (lv_at hl 4 rfl) ?_
          refine lv_aload_n hx hb dX11_execute_87 rfl (lv_at hl 1 rfl) ?_
          obtain ⟨z_36, _u, hfc, hf⟩ := cal_some hf
          have hFc := de_free hD hS hA
          refine va_callv (va_runV (As := [.ref (a k_17)]) (rest := []) ⟨hx, hb, hml, hown, hts⟩ (de_X11_takeModule l dC dI cy a sh n H_27.size F sk z_25 h0 k_17 hfc) (cwV 1 hts gX11_execute_X11_takeModule rfl rfl rfl (by decide +kernel) ⟨Nat.le_of_ble_eq_true rfl, Nat.le_of_ble_eq_true rfl⟩) ⟨fun a U g mk q => by obtain ⟨q0, q1, qP, qK, qD, qN, qS⟩ := q; exact ⟨q0, q1, qP, va_K.moved (u := U) (U := U.calling g mk a) (Vm.Alike.refl U.vm) qK, qD, qN.same rfl, SKs.moved (u := U) (U := U.calling g mk a) (Vm.Alike.refl U.vm) qS⟩, va_recv hK hP (ci := 11) (q0 := h0) rfl (Wd_ob kg_1 sg_1 (by decide)), fun U hU hW => ⟨rfl, by rw [hU], by rw [hU]; exact hP, va_K.moved hW.alike hK, hD.weaken (fun _ _ _ _ => trivial), hN.warm hW, by rw [hU]; exact ((hSK.kept hS.2.1).narrow hFc).moved hW.alike⟩⟩ rfl rfl hl.1 rfl (lv_room (Nat.le_of_ble_eq_true rfl)) dX11_execute_88 ⟨Nat.le_of_ble_eq_true rfl, Nat.le_of_ble_eq_true rfl⟩) hS (fun q _ h => hFc q h) hFc (fun u t H_37 locs ht hvm hw hB hz1 hk1 hS2 => ?_)
          obtain ⟨hP1, -, hD1⟩ := hB
          rw [ht] at hP1
          replace hD := hD1.weaken (fun _ _ _ h => hFc _ h)
          replace hP := hP1
          replace hS := hS2
          clear hP1 hD1 hS2 hFc hfc hz1 hk1 hvm ht
          exact B91 (z_36) ls H_37 locs ⟨lv_sub hl [1, 2, 3, 4] rfl, hP, hD, hS⟩ hf
        · skip
          rw [if_neg c_35] at hf
          refine lv_aload_n hx hb dX11_execute_75 rfl (lv_at hl 4 rfl) ?_
          obtain ⟨k_38, ek_38, hf⟩ := lnk_some hf
          refine va_get (D := (dC, dI)) (ci := 11) (v := .ref (a k_38)) (C := RX11) (T := TX11) (N := 13) hx hb hts iwd_X11_execute_X11 hown hK hP h0 (Wd_ob kg_1 sg_1 (by decide)) rfl 9 (by decide) (hts _ md_X11_execute_6) (fun _ h9 => h9) (fl_q rfl ek_38) dX11_execute_76 ?_
          refine lv_aload_n hx hb dX11_execute_79 rfl (lv_at hl 1 rfl) ?_
          obtain ⟨g_40, hf⟩ := grd_some hf
          obtain ⟨kg_40, sg_40⟩ := okO_at g_40
          obtain ⟨z_39, _u, hfc, hf⟩ := cal_some hf
          have hFc := de_free hD hS hA
          refine va_callv (va_runV (As := [.ref (a k_17)]) (rest := []) ⟨hx, hb, hml, hown, hts⟩ (de_X4_run l dC dI cy a sh n H_27.size F sk z_25 k_38 k_17 hfc) (cwV 1 hts gX11_execute_X4_run rfl rfl rfl (by decide +kernel) ⟨Nat.le_of_ble_eq_true rfl, Nat.le_of_ble_eq_true rfl⟩) ⟨fun a U g mk q => by obtain ⟨q0, q1, qP, qK, qD, qN, qS⟩ := q; exact ⟨q0, q1, qP, va_K.moved (u := U) (U := U.calling g mk a) (Vm.Alike.refl U.vm) qK, qD, qN.same rfl, SKs.moved (u := U) (U := U.calling g mk a) (Vm.Alike.refl U.vm) qS⟩, va_recv hK hP (ci := 4) (q0 := k_38) rfl (Wd_ob kg_40 sg_40 (by decide)), fun U hU hW => ⟨rfl, by rw [hU], by rw [hU]; exact hP, va_K.moved hW.alike hK, hD.weaken (fun _ _ _ _ => trivial), hN.warm hW, by rw [hU]; exact ((hSK.kept hS.2.1).narrow hFc).moved hW.alike⟩⟩ rfl rfl hl.1 rfl (lv_room (Nat.le_of_ble_eq_true rfl)) dX11_execute_80 ⟨Nat.le_of_ble_eq_true rfl, Nat.le_of_ble_eq_true rfl⟩) hS (fun q _ h => hFc q h) hFc (fun u t H_41 locs ht hvm hw hB hz1 hk1 hS2 => ?_)
          obtain ⟨hP1, -, hD1⟩ := hB
          rw [ht] at hP1
          replace hD := hD1.weaken (fun _ _ _ h => hFc _ h)
          replace hP := hP1
          replace hS := hS2
          clear hP1 hD1 hS2 hFc hfc hz1 hk1 hvm ht
          refine lv_goto (tgt := 91) hx hb dX11_execute_83 (by decide) ?_
          exact B91 (z_39) ls H_41 locs ⟨lv_sub hl [1, 2, 3, 4] rfl, hP, hD, hS⟩ hf
      · skip
        rw [if_neg c_23] at hf
        refine lv_aload_n hx hb dX11_execute_48 rfl (lv_at hl 1 rfl) ?_
        refine lv_iconst (v := 3) hx hb dX11_execute_49 (by decide) ?_
        refine lv_iload hx hb dX11_execute_50 (lv_at hl 0 rfl) ?_
        refine lv_i2l (v := (r_19 : Int32).toInt64) hx hb dX11_execute_52 rfl ?_
        refine lv_iconst (v := 0) hx hb dX11_execute_53 (by decide) ?_
        obtain ⟨g_43, hf⟩ := grd_some hf
        obtain ⟨kg_43, sg_43⟩ := okO_at g_43
        obtain ⟨z_42, _u, hfc, hf⟩ := cal_some hf
        have hFc := de_free hD hS hA
        refine va_callv (va_runV (As := [.int 3, .long ((r_19 : Int32).toInt64), .int 0]) (rest := []) ⟨hx, hb, hml, hown, hts⟩ (de_X8_end l dC dI cy a sh n H_20.size F z_18 k_17 3 ((r_19 : Int32).toInt64) 0 hfc) (cwV 3 hts gX11_execute_X8_end rfl rfl rfl (by decide +kernel) ⟨Nat.le_of_ble_eq_true rfl, Nat.le_of_ble_eq_true rfl⟩) ⟨fun a U g mk q => by obtain ⟨q0, q1, qP, qK, qD, qN⟩ := q; exact ⟨q0, q1, qP, va_K.moved (u := U) (U := U.calling g mk a) (Vm.Alike.refl U.vm) qK, qD, qN.same rfl⟩, va_recv hK hP (ci := 8) (q0 := k_17) rfl (Wd_ob kg_43 sg_43 (by decide)), fun U hU hW => ⟨rfl, by rw [hU], by rw [hU]; exact hP, va_K.moved hW.alike hK, hD.weaken (fun _ _ _ _ => trivial), hN.warm hW⟩⟩ rfl rfl hl.1 rfl (lv_room (Nat.le_of_ble_eq_true rfl)) dX11_execute_54 ⟨Nat.le_of_ble_eq_true rfl, Nat.le_of_ble_eq_true rfl⟩) hS (fun q _ h => hFc q h) hFc (fun u t H_44 locs ht hvm hw hB hz1 hk1 hS2 => ?_)
        obtain ⟨hP1, -, hD1⟩ := hB
        rw [ht] at hP1
        replace hD := hD1.weaken (fun _ _ _ h => hFc _ h)
        replace hP := hP1
        replace hS := hS2
        clear hP1 hD1 hS2 hFc hfc hz1 hk1 hvm ht
        refine lv_goto (tgt := 109) hx hb dX11_execute_57 (by decide) ?_
        exact B109 (z_42, p_4) ls H_44 locs ⟨lv_sub hl [3, 2, 4] rfl, hP, hD, hS⟩ hf
  · skip
    rw [if_neg c_2] at hf
    refine lv_bipush (v := (-2)) hx hb dX11_execute_11 (by decide) ?_
    obtain ⟨h8, h9⟩ := ret_some hf
    rw [h8, h9]
    exact W.iret (v := (-2)) hx hb hr (fun t ht hW => ⟨⟨(-2), (), rfl, rfl, by rw [ht]; exact hP, va_K.moved hW.alike hK, hD⟩, hS.F ht⟩) hS.2.2 dX11_execute_13

theorem md_X13_operate_5 : (.constantLong RX13 185 (5) : Cond) ∈ wsX13_operate := List.mem_of_getElem? (i := 5) rfl
theorem md_X13_operate_4 : (.constantLong RX13 126 (3) : Cond) ∈ wsX13_operate := List.mem_of_getElem? (i := 4) rfl
theorem md_X13_operate_3 : (.fieldLink RX13 92 "ResourceLedgerModel$Looker" "height" "I" : Cond) ∈ wsX13_operate := List.mem_of_getElem? (i := 3) rfl
theorem iwd_X13_operate_X13 : ∀ w ∈ wsX130, w ∈ wsX13_operate := fun _ h => List.mem_cons_of_mem _ (List.mem_append_left _ (List.mem_append_right _ h))
theorem md_X13_operate_1 : (.fieldLink RX13 48 "ResourceLedgerModel$Looker" "fault" "I" : Cond) ∈ wsX13_operate := List.mem_of_getElem? (i := 1) rfl
theorem md_X13_operate_2 : (.fieldLink RX13 99 "ResourceLedgerModel$Looker" "taken" "J" : Cond) ∈ wsX13_operate := List.mem_of_getElem? (i := 2) rfl
set_option maxHeartbeats 4000000 in
set_option maxRecDepth 100000 in
theorem de_X13_operate (l : Launch) (dC : Nat → ClassId) (dI : Nat → Nat → Nat) (cy : Nat → ClassId) (a : Nat → Nat) (sh : Nat → Nat × Nat) (n sz : Nat) (F : Nat) (z : St) (h0 : Nat) (x0 : Int32) (x1 : Int32) (x2 : Int32) {z8 : St} {r8 : Unit} (hf : fn_X13_operate F sh n z h0 x0 x1 x2 = some (z8, r8)) : Met l yX13_operate wsX13_operate ({ frames := 7, cells := 0, slots := 0, locals := 171 }) (va_Pc [.ref (a h0), .int x0, .int x1, .int x2] (fun U => U.heap.size = sz ∧ va_P (dC, dI) vwCl (Wd cy a sh n z) U.heap ∧ va_K (dC, dI) vwCl (TYS cy) U ∧ va_D (fun _ => True) (Wd cy a sh n z) ∧ NK U)) (va_Qv (fun u : Unit => True) (fun u t => va_P (dC, dI) vwCl (Wd cy a sh n z8) t.heap ∧ va_K (dC, dI) vwCl (TYS cy) t ∧ va_D (va_A (Wd cy a sh n z) sz) (Wd cy a sh n z8)) (va_A (Wd cy a sh n z) sz)) 0 0 (va_A (Wd cy a sh n z) sz) := by
  refine Met.ofW (cc := cX13_operate) (maxL := 4) (ret := none) (by decide) rfl ?_
  intro p e s m args below meth c s₁ B hml hv
  obtain ⟨rfl, hsz, hP, hK, hD0, hN⟩ := hv
  have hx := B.exec
  have hb := B.bytes
  have hr := B.returns
  have hts := atoms_spec (ws := wsX13_operate) B.pre
  have hown : s.vm.findClass RX13 = some m.cls := findClass_of_methodNamed B.named
  have hlocks := B.notSynchronized
  subst hsz
  have hD := hD0.self (sz := s.heap.size)
  clear hD0
  generalize hAe : va_A (Wd cy a sh n z) s.heap.size = A at hD ⊢
  have hA : ∀ q : Nat, s.heap.size ≤ q → A q := fun q h => by rw [← hAe]; exact Or.inr h
  clear hAe
  have hS : va_S A s.heap s.heap [] := va_S.rf
  have hl := lv_entry ([.ref (a h0), .int x0, .int x1, .int x2]) (n := 4) (Nat.le_of_ble_eq_true rfl)
  rw [lg_entry_eq]
  generalize (lg_sl ([.ref (a h0), .int x0, .int x1, .int x2]) ++ List.replicate (4 - (lg_sl ([.ref (a h0), .int x0, .int x1, .int x2])).length) Slot.unset).toArray = ls at hl ⊢
  replace hl : lv_has ls 4 [(0, .ref (a h0)), (1, .int x0), (2, .int x1), (3, .int x2)] := hl
  unfold fn_X13_operate at hf
  refine de_start hS hP (fun H locs hS hP => ?_)
  refine lv_iload_n hx hb dX13_operate_0 rfl (lv_at hl 1 rfl) ?_
  refine lv_if_ne (tgt := 32) hx hb dX13_operate_1 (by decide) (fun c_1 => ?_) (fun c_1 => ?_)
  · skip
    rw [if_neg c_1] at hf
    refine lv_iload_n hx hb dX13_operate_32 rfl (lv_at hl 1 rfl) ?_
    refine lv_iconst (v := 1) hx hb dX13_operate_33 (by decide) ?_
    refine lv_icmp_ne (tgt := 44) hx hb dX13_operate_34 (by decide) (fun c_2 => ?_) (fun c_2 => ?_)
    · skip
      rw [if_neg c_2] at hf
      refine lv_iload_n hx hb dX13_operate_44 rfl (lv_at hl 1 rfl) ?_
      refine lv_iconst (v := 5) hx hb dX13_operate_45 (by decide) ?_
      refine lv_icmp_ge (tgt := 80) hx hb dX13_operate_46 (by decide) (fun c_3 => ?_) (fun c_3 => ?_)
      · skip
        rw [if_pos c_3] at hf
        refine lv_iload_n hx hb dX13_operate_80 rfl (lv_at hl 1 rfl) ?_
        refine lv_bipush (v := 11) hx hb dX13_operate_81 (by decide) ?_
        refine lv_icmp_ge (tgt := 121) hx hb dX13_operate_83 (by decide) (fun c_4 => ?_) (fun c_4 => ?_)
        · skip
          rw [if_pos c_4] at hf
          refine lv_iload_n hx hb dX13_operate_121 rfl (lv_at hl 1 rfl) ?_
          refine lv_bipush (v := 16) hx hb dX13_operate_122 (by decide) ?_
          refine lv_icmp_ge (tgt := 136) hx hb dX13_operate_124 (by decide) (fun c_5 => ?_) (fun c_5 => ?_)
          · skip
            rw [if_pos c_5] at hf
            refine lv_iload_n hx hb dX13_operate_136 rfl (lv_at hl 1 rfl) ?_
            refine lv_bipush (v := 21) hx hb dX13_operate_137 (by decide) ?_
            refine lv_icmp_ge (tgt := 152) hx hb dX13_operate_139 (by decide) (fun c_6 => ?_) (fun c_6 => ?_)
            · skip
              rw [if_pos c_6] at hf
              refine lv_iload_n hx hb dX13_operate_152 rfl (lv_at hl 1 rfl) ?_
              refine lv_bipush (v := 23) hx hb dX13_operate_153 (by decide) ?_
              refine lv_icmp_ge (tgt := 177) hx hb dX13_operate_155 (by decide) (fun c_7 => ?_) (fun c_7 => ?_)
              · skip
                rw [if_pos c_7] at hf
                refine lv_iload_n hx hb dX13_operate_177 rfl (lv_at hl 1 rfl) ?_
                refine lv_bipush (v := 23) hx hb dX13_operate_178 (by decide) ?_
                refine lv_icmp_ne (tgt := 191) hx hb dX13_operate_180 (by decide) (fun c_8 => ?_) (fun c_8 => ?_)
                · skip
                  rw [if_neg c_8] at hf
                  refine lv_iload_n hx hb dX13_operate_191 rfl (lv_at hl 1 rfl) ?_
                  refine lv_bipush (v := 35) hx hb dX13_operate_192 (by decide) ?_
                  refine lv_icmp_ne (tgt := 198) hx hb dX13_operate_194 (by decide) (fun c_9 => ?_) (fun c_9 => ?_)
                  · skip
                    rw [if_neg c_9] at hf
                    refine lv_iload_n hx hb dX13_operate_198 rfl (lv_at hl 1 rfl) ?_
                    refine lv_bipush (v := 45) hx hb dX13_operate_199 (by decide) ?_
                    refine lv_icmp_ge (tgt := 212) hx hb dX13_operate_201 (by decide) (fun c_10 => ?_) (fun c_10 => ?_)
                    · skip
                      rw [if_pos c_10] at hf
                      refine lv_iload_n hx hb dX13_operate_212 rfl (lv_at hl 1 rfl) ?_
                      refine lv_bipush (v := 45) hx hb dX13_operate_213 (by decide) ?_
                      refine lv_icmp_ne (tgt := 228) hx hb dX13_operate_215 (by decide) (fun c_11 => ?_) (fun c_11 => ?_)
                      · skip
                        rw [if_neg c_11] at hf
                        refine lv_iload_n hx hb dX13_operate_228 rfl (lv_at hl 1 rfl) ?_
                        refine lv_bipush (v := 46) hx hb dX13_operate_229 (by decide) ?_
                        refine lv_icmp_ne (tgt := 244) hx hb dX13_operate_231 (by decide) (fun c_12 => ?_) (fun c_12 => ?_)
                        · skip
                          rw [if_neg c_12] at hf
                          refine lv_iload_n hx hb dX13_operate_244 rfl (lv_at hl 1 rfl) ?_
                          refine lv_bipush (v := 52) hx hb dX13_operate_245 (by decide) ?_
                          refine lv_icmp_ge (tgt := 259) hx hb dX13_operate_247 (by decide) (fun c_13 => ?_) (fun c_13 => ?_)
                          · skip
                            rw [if_pos c_13] at hf
                            refine lv_aload_n hx hb dX13_operate_259 rfl (lv_at hl 0 rfl) ?_
                            refine lv_iload_n hx hb dX13_operate_260 rfl (lv_at hl 1 rfl) ?_
                            refine lv_iload_n hx hb dX13_operate_261 rfl (lv_at hl 2 rfl) ?_
                            refine lv_iload_n hx hb dX13_operate_262 rfl (lv_at hl 3 rfl) ?_
                            obtain ⟨g_15, hf⟩ := grd_some hf
                            obtain ⟨kg_15, sg_15⟩ := okO_at g_15
                            obtain ⟨z_14, _u, hfc, hf⟩ := cal_some hf
                            have hFc := de_free hD hS hA
                            refine va_callv (va_runV (As := [.int x0, .int x1, .int x2]) (rest := []) ⟨hx, hb, hml, hown, hts⟩ (de_X13_onVector l dC dI cy a sh n H.size F z h0 x0 x1 x2 hfc) (cwV 3 hts gX13_operate_X13_onVector rfl rfl rfl (by decide +kernel) ⟨Nat.le_of_ble_eq_true rfl, Nat.le_of_ble_eq_true rfl⟩) ⟨fun a U g mk q => by obtain ⟨q0, q1, qP, qK, qD, qN⟩ := q; exact ⟨q0, q1, qP, va_K.moved (u := U) (U := U.calling g mk a) (Vm.Alike.refl U.vm) qK, qD, qN.same rfl⟩, va_recv hK hP (ci := 13) (q0 := h0) rfl (Wd_ob kg_15 sg_15 (by decide)), fun U hU hW => ⟨rfl, by rw [hU], by rw [hU]; exact hP, va_K.moved hW.alike hK, hD.weaken (fun _ _ _ _ => trivial), hN.warm hW⟩⟩ rfl rfl hl.1 rfl (lv_room (Nat.le_of_ble_eq_true rfl)) dX13_operate_263 ⟨Nat.le_of_ble_eq_true rfl, Nat.le_of_ble_eq_true rfl⟩) hS (fun q _ h => hFc q h) hFc (fun u t H_16 locs ht hvm hw hB hz1 hk1 hS2 => ?_)
                            obtain ⟨hP1, -, hD1⟩ := hB
                            rw [ht] at hP1
                            replace hD := hD1.weaken (fun _ _ _ h => hFc _ h)
                            replace hP := hP1
                            replace hS := hS2
                            clear hP1 hD1 hS2 hFc hfc hz1 hk1 hvm ht
                            obtain ⟨h8, h9⟩ := ret_some hf
                            rw [h8]
                            exact W.vret hx hb hr (fun t ht hW => ⟨⟨(), rfl, trivial, by rw [ht]; exact hP, va_K.moved hW.alike hK, hD⟩, hS.F ht⟩) hS.2.2 dX13_operate_266
                          · skip
                            rw [if_neg c_13] at hf
                            refine lv_aload_n hx hb dX13_operate_250 rfl (lv_at hl 0 rfl) ?_
                            refine lv_iload_n hx hb dX13_operate_251 rfl (lv_at hl 1 rfl) ?_
                            refine lv_iload_n hx hb dX13_operate_252 rfl (lv_at hl 2 rfl) ?_
                            obtain ⟨g_18, hf⟩ := grd_some hf
                            obtain ⟨kg_18, sg_18⟩ := okO_at g_18
                            obtain ⟨z_17, _u, hfc, hf⟩ := cal_some hf
                            have hFc := de_free hD hS hA
                            refine va_callv (va_runV (As := [.int x0, .int x1]) (rest := []) ⟨hx, hb, hml, hown, hts⟩ (de_X13_onResource l dC dI cy a sh n H.size F z h0 x0 x1 hfc) (cwV 2 hts gX13_operate_X13_onResource rfl rfl rfl (by decide +kernel) ⟨Nat.le_of_ble_eq_true rfl, Nat.le_of_ble_eq_true rfl⟩) ⟨fun a U g mk q => by obtain ⟨q0, q1, qP, qK, qD, qN⟩ := q; exact ⟨q0, q1, qP, va_K.moved (u := U) (U := U.calling g mk a) (Vm.Alike.refl U.vm) qK, qD, qN.same rfl⟩, va_recv hK hP (ci := 13) (q0 := h0) rfl (Wd_ob kg_18 sg_18 (by decide)), fun U hU hW => ⟨rfl, by rw [hU], by rw [hU]; exact hP, va_K.moved hW.alike hK, hD.weaken (fun _ _ _ _ => trivial), hN.warm hW⟩⟩ rfl rfl hl.1 rfl (lv_room (Nat.le_of_ble_eq_true rfl)) dX13_operate_253 ⟨Nat.le_of_ble_eq_true rfl, Nat.le_of_ble_eq_true rfl⟩) hS (fun q _ h => hFc q h) hFc (fun u t H_19 locs ht hvm hw hB hz1 hk1 hS2 => ?_)
                            obtain ⟨hP1, -, hD1⟩ := hB
                            rw [ht] at hP1
                            replace hD := hD1.weaken (fun _ _ _ h => hFc _ h)
                            replace hP := hP1
                            replace hS := hS2
                            clear hP1 hD1 hS2 hFc hfc hz1 hk1 hvm ht
                            refine lv_goto (tgt := 266) hx hb dX13_operate_256 (by decide) ?_
                            obtain ⟨h8, h9⟩ := ret_some hf
                            rw [h8]
                            exact W.vret hx hb hr (fun t ht hW => ⟨⟨(), rfl, trivial, by rw [ht]; exact hP, va_K.moved hW.alike hK, hD⟩, hS.F ht⟩) hS.2.2 dX13_operate_266
                        · skip
                          rw [if_pos c_12] at hf
                          refine lv_aload_n hx hb dX13_operate_234 rfl (lv_at hl 0 rfl) ?_
                          refine lv_ldc2 hx hb hown (hts _ md_X13_operate_5) dX13_operate_235 ?_
                          obtain ⟨g_21, hf⟩ := grd_some hf
                          obtain ⟨kg_21, sg_21⟩ := okO_at g_21
                          obtain ⟨z_20, _u, hfc, hf⟩ := cal_some hf
                          have hFc := de_free hD hS hA
                          refine va_callv (va_runV (As := [.long 5]) (rest := []) ⟨hx, hb, hml, hown, hts⟩ (de_X13_give l dC dI cy a sh n H.size F z h0 5 hfc) (cwV 1 hts gX13_operate_X13_give rfl rfl rfl (by decide +kernel) ⟨Nat.le_of_ble_eq_true rfl, Nat.le_of_ble_eq_true rfl⟩) ⟨fun a U g mk q => by obtain ⟨q0, q1, qP, qK, qD, qN⟩ := q; exact ⟨q0, q1, qP, va_K.moved (u := U) (U := U.calling g mk a) (Vm.Alike.refl U.vm) qK, qD, qN.same rfl⟩, va_recv hK hP (ci := 13) (q0 := h0) rfl (Wd_ob kg_21 sg_21 (by decide)), fun U hU hW => ⟨rfl, by rw [hU], by rw [hU]; exact hP, va_K.moved hW.alike hK, hD.weaken (fun _ _ _ _ => trivial), hN.warm hW⟩⟩ rfl rfl hl.1 rfl (lv_room (Nat.le_of_ble_eq_true rfl)) dX13_operate_238 ⟨Nat.le_of_ble_eq_true rfl, Nat.le_of_ble_eq_true rfl⟩) hS (fun q _ h => hFc q h) hFc (fun u t H_22 locs ht hvm hw hB hz1 hk1 hS2 => ?_)
                          obtain ⟨hP1, -, hD1⟩ := hB
                          rw [ht] at hP1
                          replace hD := hD1.weaken (fun _ _ _ h => hFc _ h)
                          replace hP := hP1
                          replace hS := hS2
                          clear hP1 hD1 hS2 hFc hfc hz1 hk1 hvm ht
                          refine lv_goto (tgt := 266) hx hb dX13_operate_241 (by decide) ?_
                          obtain ⟨h8, h9⟩ := ret_some hf
                          rw [h8]
                          exact W.vret hx hb hr (fun t ht hW => ⟨⟨(), rfl, trivial, by rw [ht]; exact hP, va_K.moved hW.alike hK, hD⟩, hS.F ht⟩) hS.2.2 dX13_operate_266
                      · skip
                        rw [if_pos c_11] at hf
                        refine lv_aload_n hx hb dX13_operate_218 rfl (lv_at hl 0 rfl) ?_
                        refine lv_ldc2 hx hb hown (hts _ md_X13_operate_4) dX13_operate_219 ?_
                        obtain ⟨g_24, hf⟩ := grd_some hf
                        obtain ⟨kg_24, sg_24⟩ := okO_at g_24
                        obtain ⟨z_23, _u, hfc, hf⟩ := cal_some hf
                        have hFc := de_free hD hS hA
                        refine va_callv (va_runV (As := [.long 3]) (rest := []) ⟨hx, hb, hml, hown, hts⟩ (de_X13_take_ l dC dI cy a sh n H.size F z h0 3 hfc) (cwV 1 hts gX13_operate_X13_take_ rfl rfl rfl (by decide +kernel) ⟨Nat.le_of_ble_eq_true rfl, Nat.le_of_ble_eq_true rfl⟩) ⟨fun a U g mk q => by obtain ⟨q0, q1, qP, qK, qD, qN⟩ := q; exact ⟨q0, q1, qP, va_K.moved (u := U) (U := U.calling g mk a) (Vm.Alike.refl U.vm) qK, qD, qN.same rfl⟩, va_recv hK hP (ci := 13) (q0 := h0) rfl (Wd_ob kg_24 sg_24 (by decide)), fun U hU hW => ⟨rfl, by rw [hU], by rw [hU]; exact hP, va_K.moved hW.alike hK, hD.weaken (fun _ _ _ _ => trivial), hN.warm hW⟩⟩ rfl rfl hl.1 rfl (lv_room (Nat.le_of_ble_eq_true rfl)) dX13_operate_222 ⟨Nat.le_of_ble_eq_true rfl, Nat.le_of_ble_eq_true rfl⟩) hS (fun q _ h => hFc q h) hFc (fun u t H_25 locs ht hvm hw hB hz1 hk1 hS2 => ?_)
                        obtain ⟨hP1, -, hD1⟩ := hB
                        rw [ht] at hP1
                        replace hD := hD1.weaken (fun _ _ _ h => hFc _ h)
                        replace hP := hP1
                        replace hS := hS2
                        clear hP1 hD1 hS2 hFc hfc hz1 hk1 hvm ht
                        refine lv_goto (tgt := 266) hx hb dX13_operate_225 (by decide) ?_
                        obtain ⟨h8, h9⟩ := ret_some hf
                        rw [h8]
                        exact W.vret hx hb hr (fun t ht hW => ⟨⟨(), rfl, trivial, by rw [ht]; exact hP, va_K.moved hW.alike hK, hD⟩, hS.F ht⟩) hS.2.2 dX13_operate_266
                    · skip
                      rw [if_neg c_10] at hf
                      refine lv_aload_n hx hb dX13_operate_204 rfl (lv_at hl 0 rfl) ?_
                      refine lv_iload_n hx hb dX13_operate_205 rfl (lv_at hl 1 rfl) ?_
                      obtain ⟨g_27, hf⟩ := grd_some hf
                      obtain ⟨kg_27, sg_27⟩ := okO_at g_27
                      obtain ⟨z_26, _u, hfc, hf⟩ := cal_some hf
                      have hFc := de_free hD hS hA
                      refine va_callv (va_runV (As := [.int x0]) (rest := []) ⟨hx, hb, hml, hown, hts⟩ (de_X13_onNumbers l dC dI cy a sh n H.size F z h0 x0 hfc) (cwV 1 hts gX13_operate_X13_onNumbers rfl rfl rfl (by decide +kernel) ⟨Nat.le_of_ble_eq_true rfl, Nat.le_of_ble_eq_true rfl⟩) ⟨fun a U g mk q => by obtain ⟨q0, q1, qP, qK, qD, qN⟩ := q; exact ⟨q0, q1, qP, va_K.moved (u := U) (U := U.calling g mk a) (Vm.Alike.refl U.vm) qK, qD, qN.same rfl⟩, va_recv hK hP (ci := 13) (q0 := h0) rfl (Wd_ob kg_27 sg_27 (by decide)), fun U hU hW => ⟨rfl, by rw [hU], by rw [hU]; exact hP, va_K.moved hW.alike hK, hD.weaken (fun _ _ _ _ => trivial), hN.warm hW⟩⟩ rfl rfl hl.1 rfl (lv_room (Nat.le_of_ble_eq_true rfl)) dX13_operate_206 ⟨Nat.le_of_ble_eq_true rfl, Nat.le_of_ble_eq_true rfl⟩) hS (fun q _ h => hFc q h) hFc (fun u t H_28 locs ht hvm hw hB hz1 hk1 hS2 => ?_)
                      obtain ⟨hP1, -, hD1⟩ := hB
                      rw [ht] at hP1
                      replace hD := hD1.weaken (fun _ _ _ h => hFc _ h)
                      replace hP := hP1
                      replace hS := hS2
                      clear hP1 hD1 hS2 hFc hfc hz1 hk1 hvm ht
                      refine lv_goto (tgt := 266) hx hb dX13_operate_209 (by decide) ?_
                      obtain ⟨h8, h9⟩ := ret_some hf
                      rw [h8]
                      exact W.vret hx hb hr (fun t ht hW => ⟨⟨(), rfl, trivial, by rw [ht]; exact hP, va_K.moved hW.alike hK, hD⟩, hS.F ht⟩) hS.2.2 dX13_operate_266
                  · skip
                    rw [if_pos c_9] at hf
                    obtain ⟨h8, h9⟩ := ret_some hf
                    rw [h8]
                    exact W.vret hx hb hr (fun t ht hW => ⟨⟨(), rfl, trivial, by rw [ht]; exact hP, va_K.moved hW.alike hK, hD⟩, hS.F ht⟩) hS.2.2 dX13_operate_197
                · skip
                  rw [if_pos c_8] at hf
                  refine lv_aload_n hx hb dX13_operate_183 rfl (lv_at hl 0 rfl) ?_
                  refine lv_iload_n hx hb dX13_operate_184 rfl (lv_at hl 2 rfl) ?_
                  obtain ⟨g_30, hf⟩ := grd_some hf
                  obtain ⟨kg_30, sg_30⟩ := okO_at g_30
                  obtain ⟨z_29, _u, hfc, hf⟩ := cal_some hf
                  have hFc := de_free hD hS hA
                  refine va_callv (va_runV (As := [.int x1]) (rest := []) ⟨hx, hb, hml, hown, hts⟩ (de_X13_call l dC dI cy a sh n H.size F z h0 x1 hfc) (cwV 1 hts gX13_operate_X13_call rfl rfl rfl (by decide +kernel) ⟨Nat.le_of_ble_eq_true rfl, Nat.le_of_ble_eq_true rfl⟩) ⟨fun a U g mk q => by obtain ⟨q0, q1, qP, qK, qD, qN⟩ := q; exact ⟨q0, q1, qP, va_K.moved (u := U) (U := U.calling g mk a) (Vm.Alike.refl U.vm) qK, qD, qN.same rfl⟩, va_recv hK hP (ci := 13) (q0 := h0) rfl (Wd_ob kg_30 sg_30 (by decide)), fun U hU hW => ⟨rfl, by rw [hU], by rw [hU]; exact hP, va_K.moved hW.alike hK, hD.weaken (fun _ _ _ _ => trivial), hN.warm hW⟩⟩ rfl rfl hl.1 rfl (lv_room (Nat.le_of_ble_eq_true rfl)) dX13_operate_185 ⟨Nat.le_of_ble_eq_true rfl, Nat.le_of_ble_eq_true rfl⟩) hS (fun q _ h => hFc q h) hFc (fun u t H_31 locs ht hvm hw hB hz1 hk1 hS2 => ?_)
                  obtain ⟨hP1, -, hD1⟩ := hB
                  rw [ht] at hP1
                  replace hD := hD1.weaken (fun _ _ _ h => hFc _ h)
                  replace hP := hP1
                  replace hS := hS2
                  clear hP1 hD1 hS2 hFc hfc hz1 hk1 hvm ht
                  refine lv_goto (tgt := 266) hx hb dX13_operate_188 (by decide) ?_
                  obtain ⟨h8, h9⟩ := ret_some hf
                  rw [h8]
                  exact W.vret hx hb hr (fun t ht hW => ⟨⟨(), rfl, trivial, by rw [ht]; exact hP, va_K.moved hW.alike hK, hD⟩, hS.F ht⟩) hS.2.2 dX13_operate_266
              · skip
                rw [if_neg c_7] at hf
                refine lv_aload_n hx hb dX13_operate_158 rfl (lv_at hl 0 rfl) ?_
                refine lv_iload_n hx hb dX13_operate_159 rfl (lv_at hl 1 rfl) ?_
                refine lv_bipush (v := 21) hx hb dX13_operate_160 (by decide) ?_
                refine lv_icmp_ne (tgt := 169) hx hb dX13_operate_162 (by decide) (fun c_32 => ?_) (fun c_32 => ?_)
                · skip
                  rw [if_neg c_32] at hf
                  refine lv_iconst (v := 0) hx hb dX13_operate_169 (by decide) ?_
                  refine lv_iload_n hx hb dX13_operate_170 rfl (lv_at hl 2 rfl) ?_
                  obtain ⟨g_34, hf⟩ := grd_some hf
                  obtain ⟨kg_34, sg_34⟩ := okO_at g_34
                  obtain ⟨z_33, _u, hfc, hf⟩ := cal_some hf
                  have hFc := de_free hD hS hA
                  refine va_callv (va_runV (As := [.int 0, .int x1]) (rest := []) ⟨hx, hb, hml, hown, hts⟩ (de_X13_pack l dC dI cy a sh n H.size F z h0 0 x1 hfc) (cwV 2 hts gX13_operate_X13_pack rfl rfl rfl (by decide +kernel) ⟨Nat.le_of_ble_eq_true rfl, Nat.le_of_ble_eq_true rfl⟩) ⟨fun a U g mk q => by obtain ⟨q0, q1, qP, qK, qD, qN⟩ := q; exact ⟨q0, q1, qP, va_K.moved (u := U) (U := U.calling g mk a) (Vm.Alike.refl U.vm) qK, qD, qN.same rfl⟩, va_recv hK hP (ci := 13) (q0 := h0) rfl (Wd_ob kg_34 sg_34 (by decide)), fun U hU hW => ⟨rfl, by rw [hU], by rw [hU]; exact hP, va_K.moved hW.alike hK, hD.weaken (fun _ _ _ _ => trivial), hN.warm hW⟩⟩ rfl rfl hl.1 rfl (lv_room (Nat.le_of_ble_eq_true rfl)) dX13_operate_171 ⟨Nat.le_of_ble_eq_true rfl, Nat.le_of_ble_eq_true rfl⟩) hS (fun q _ h => hFc q h) hFc (fun u t H_35 locs ht hvm hw hB hz1 hk1 hS2 => ?_)
                  obtain ⟨hP1, -, hD1⟩ := hB
                  rw [ht] at hP1
                  replace hD := hD1.weaken (fun _ _ _ h => hFc _ h)
                  replace hP := hP1
                  replace hS := hS2
                  clear hP1 hD1 hS2 hFc hfc hz1 hk1 hvm ht
                  refine lv_goto (tgt := 266) hx hb dX13_operate_174 (by decide) ?_
                  obtain ⟨h8, h9⟩ := ret_some hf
                  rw [h8]
                  exact W.vret hx hb hr (fun t ht hW => ⟨⟨(), rfl, trivial, by rw [ht]; exact hP, va_K.moved hW.alike hK, hD⟩, hS.F ht⟩) hS.2.2 dX13_operate_266
                · skip
                  rw [if_pos c_32] at hf
                  refine lv_iconst (v := 1) hx hb dX13_operate_165 (by decide) ?_
                  refine lv_goto (tgt := 170) hx hb dX13_operate_166 (by decide) ?_
                  refine lv_iload_n hx hb dX13_operate_170 rfl (lv_at hl 2 rfl) ?_
                  obtain ⟨g_37, hf⟩ := grd_some hf
                  obtain ⟨kg_37, sg_37⟩ := okO_at g_37
                  obtain ⟨z_36, _u, hfc, hf⟩ := cal_some hf
                  have hFc := de_free hD hS hA
                  refine va_callv (va_runV (As := [.int 1, .int x1]) (rest := []) ⟨hx, hb, hml, hown, hts⟩ (de_X13_pack l dC dI cy a sh n H.size F z h0 1 x1 hfc) (cwV 2 hts gX13_operate_X13_pack rfl rfl rfl (by decide +kernel) ⟨Nat.le_of_ble_eq_true rfl, Nat.le_of_ble_eq_true rfl⟩) ⟨fun a U g mk q => by obtain ⟨q0, q1, qP, qK, qD, qN⟩ := q; exact ⟨q0, q1, qP, va_K.moved (u := U) (U := U.calling g mk a) (Vm.Alike.refl U.vm) qK, qD, qN.same rfl⟩, va_recv hK hP (ci := 13) (q0 := h0) rfl (Wd_ob kg_37 sg_37 (by decide)), fun U hU hW => ⟨rfl, by rw [hU], by rw [hU]; exact hP, va_K.moved hW.alike hK, hD.weaken (fun _ _ _ _ => trivial), hN.warm hW⟩⟩ rfl rfl hl.1 rfl (lv_room (Nat.le_of_ble_eq_true rfl)) dX13_operate_171 ⟨Nat.le_of_ble_eq_true rfl, Nat.le_of_ble_eq_true rfl⟩) hS (fun q _ h => hFc q h) hFc (fun u t H_38 locs ht hvm hw hB hz1 hk1 hS2 => ?_)
                  obtain ⟨hP1, -, hD1⟩ := hB
                  rw [ht] at hP1
                  replace hD := hD1.weaken (fun _ _ _ h => hFc _ h)
                  replace hP := hP1
                  replace hS := hS2
                  clear hP1 hD1 hS2 hFc hfc hz1 hk1 hvm ht
                  refine lv_goto (tgt := 266) hx hb dX13_operate_174 (by decide) ?_
                  obtain ⟨h8, h9⟩ := ret_some hf
                  rw [h8]
                  exact W.vret hx hb hr (fun t ht hW => ⟨⟨(), rfl, trivial, by rw [ht]; exact hP, va_K.moved hW.alike hK, hD⟩, hS.F ht⟩) hS.2.2 dX13_operate_266
            · skip
              rw [if_neg c_6] at hf
              refine lv_aload_n hx hb dX13_operate_142 rfl (lv_at hl 0 rfl) ?_
              refine lv_iload_n hx hb dX13_operate_143 rfl (lv_at hl 1 rfl) ?_
              refine lv_iload_n hx hb dX13_operate_144 rfl (lv_at hl 2 rfl) ?_
              refine lv_iload_n hx hb dX13_operate_145 rfl (lv_at hl 3 rfl) ?_
              obtain ⟨g_40, hf⟩ := grd_some hf
              obtain ⟨kg_40, sg_40⟩ := okO_at g_40
              obtain ⟨z_39, _u, hfc, hf⟩ := cal_some hf
              have hFc := de_free hD hS hA
              refine va_callv (va_runV (As := [.int x0, .int x1, .int x2]) (rest := []) ⟨hx, hb, hml, hown, hts⟩ (de_X13_onReference l dC dI cy a sh n H.size F z h0 x0 x1 x2 hfc) (cwV 3 hts gX13_operate_X13_onReference rfl rfl rfl (by decide +kernel) ⟨Nat.le_of_ble_eq_true rfl, Nat.le_of_ble_eq_true rfl⟩) ⟨fun a U g mk q => by obtain ⟨q0, q1, qP, qK, qD, qN⟩ := q; exact ⟨q0, q1, qP, va_K.moved (u := U) (U := U.calling g mk a) (Vm.Alike.refl U.vm) qK, qD, qN.same rfl⟩, va_recv hK hP (ci := 13) (q0 := h0) rfl (Wd_ob kg_40 sg_40 (by decide)), fun U hU hW => ⟨rfl, by rw [hU], by rw [hU]; exact hP, va_K.moved hW.alike hK, hD.weaken (fun _ _ _ _ => trivial), hN.warm hW⟩⟩ rfl rfl hl.1 rfl (lv_room (Nat.le_of_ble_eq_true rfl)) dX13_operate_146 ⟨Nat.le_of_ble_eq_true rfl, Nat.le_of_ble_eq_true rfl⟩) hS (fun q _ h => hFc q h) hFc (fun u t H_41 locs ht hvm hw hB hz1 hk1 hS2 => ?_)
              obtain ⟨hP1, -, hD1⟩ := hB
              rw [ht] at hP1
              replace hD := hD1.weaken (fun _ _ _ h => hFc _ h)
              replace hP := hP1
              replace hS := hS2
              clear hP1 hD1 hS2 hFc hfc hz1 hk1 hvm ht
              refine lv_goto (tgt := 266) hx hb dX13_operate_149 (by decide) ?_
              obtain ⟨h8, h9⟩ := ret_some hf
              rw [h8]
              exact W.vret hx hb hr (fun t ht hW => ⟨⟨(), rfl, trivial, by rw [ht]; exact hP, va_K.moved hW.alike hK, hD⟩, hS.F ht⟩) hS.2.2 dX13_operate_266
          · skip
            rw [if_neg c_5] at hf
            refine lv_aload_n hx hb dX13_operate_127 rfl (lv_at hl 0 rfl) ?_
            refine lv_iload_n hx hb dX13_operate_128 rfl (lv_at hl 1 rfl) ?_
            refine lv_iload_n hx hb dX13_operate_129 rfl (lv_at hl 2 rfl) ?_
            obtain ⟨g_43, hf⟩ := grd_some hf
            obtain ⟨kg_43, sg_43⟩ := okO_at g_43
            obtain ⟨z_42, _u, hfc, hf⟩ := cal_some hf
            have hFc := de_free hD hS hA
            refine va_callv (va_runV (As := [.int x0, .int x1]) (rest := []) ⟨hx, hb, hml, hown, hts⟩ (de_X13_onLocal l dC dI cy a sh n H.size F z h0 x0 x1 hfc) (cwV 2 hts gX13_operate_X13_onLocal rfl rfl rfl (by decide +kernel) ⟨Nat.le_of_ble_eq_true rfl, Nat.le_of_ble_eq_true rfl⟩) ⟨fun a U g mk q => by obtain ⟨q0, q1, qP, qK, qD, qN⟩ := q; exact ⟨q0, q1, qP, va_K.moved (u := U) (U := U.calling g mk a) (Vm.Alike.refl U.vm) qK, qD, qN.same rfl⟩, va_recv hK hP (ci := 13) (q0 := h0) rfl (Wd_ob kg_43 sg_43 (by decide)), fun U hU hW => ⟨rfl, by rw [hU], by rw [hU]; exact hP, va_K.moved hW.alike hK, hD.weaken (fun _ _ _ _ => trivial), hN.warm hW⟩⟩ rfl rfl hl.1 rfl (lv_room (Nat.le_of_ble_eq_true rfl)) dX13_operate_130 ⟨Nat.le_of_ble_eq_true rfl, Nat.le_of_ble_eq_true rfl⟩) hS (fun q _ h => hFc q h) hFc (fun u t H_44 locs ht hvm hw hB hz1 hk1 hS2 => ?_)
            obtain ⟨hP1, -, hD1⟩ := hB
            rw [ht] at hP1
            replace hD := hD1.weaken (fun _ _ _ h => hFc _ h)
            replace hP := hP1
            replace hS := hS2
            clear hP1 hD1 hS2 hFc hfc hz1 hk1 hvm ht
            refine lv_goto (tgt := 266) hx hb dX13_operate_133 (by decide) ?_
            obtain ⟨h8, h9⟩ := ret_some hf
            rw [h8]
            exact W.vret hx hb hr (fun t ht hW => ⟨⟨(), rfl, trivial, by rw [ht]; exact hP, va_K.moved hW.alike hK, hD⟩, hS.F ht⟩) hS.2.2 dX13_operate_266
        · skip
          rw [if_neg c_4] at hf
          refine lv_aload_n hx hb dX13_operate_86 rfl (lv_at hl 0 rfl) ?_
          refine lv_iload_n hx hb dX13_operate_87 rfl (lv_at hl 1 rfl) ?_
          refine lv_bipush (v := 8) hx hb dX13_operate_88 (by decide) ?_
          refine lv_icmp_ge (tgt := 102) hx hb dX13_operate_90 (by decide) (fun c_45 => ?_) (fun c_45 => ?_)
          · skip
            rw [if_pos c_45] at hf
            refine lv_iload_n hx hb dX13_operate_102 rfl (lv_at hl 1 rfl) ?_
            refine lv_bipush (v := 10) hx hb dX13_operate_103 (by decide) ?_
            refine lv_icmp_ge (tgt := 112) hx hb dX13_operate_105 (by decide) (fun c_46 => ?_) (fun c_46 => ?_)
            · skip
              rw [if_pos c_46] at hf
              refine lv_ldc2 hx hb hown (hts _ md_X13_operate_5) dX13_operate_112 ?_
              obtain ⟨g_48, hf⟩ := grd_some hf
              obtain ⟨kg_48, sg_48⟩ := okO_at g_48
              obtain ⟨z_47, _u, hfc, hf⟩ := cal_some hf
              have hFc := de_free hD hS hA
              refine va_callv (va_runV (As := [.long 5]) (rest := []) ⟨hx, hb, hml, hown, hts⟩ (de_X13_give l dC dI cy a sh n H.size F z h0 5 hfc) (cwV 1 hts gX13_operate_X13_give rfl rfl rfl (by decide +kernel) ⟨Nat.le_of_ble_eq_true rfl, Nat.le_of_ble_eq_true rfl⟩) ⟨fun a U g mk q => by obtain ⟨q0, q1, qP, qK, qD, qN⟩ := q; exact ⟨q0, q1, qP, va_K.moved (u := U) (U := U.calling g mk a) (Vm.Alike.refl U.vm) qK, qD, qN.same rfl⟩, va_recv hK hP (ci := 13) (q0 := h0) rfl (Wd_ob kg_48 sg_48 (by decide)), fun U hU hW => ⟨rfl, by rw [hU], by rw [hU]; exact hP, va_K.moved hW.alike hK, hD.weaken (fun _ _ _ _ => trivial), hN.warm hW⟩⟩ rfl rfl hl.1 rfl (lv_room (Nat.le_of_ble_eq_true rfl)) dX13_operate_115 ⟨Nat.le_of_ble_eq_true rfl, Nat.le_of_ble_eq_true rfl⟩) hS (fun q _ h => hFc q h) hFc (fun u t H_49 locs ht hvm hw hB hz1 hk1 hS2 => ?_)
              obtain ⟨hP1, -, hD1⟩ := hB
              rw [ht] at hP1
              replace hD := hD1.weaken (fun _ _ _ h => hFc _ h)
              replace hP := hP1
              replace hS := hS2
              clear hP1 hD1 hS2 hFc hfc hz1 hk1 hvm ht
              refine lv_goto (tgt := 266) hx hb dX13_operate_118 (by decide) ?_
              obtain ⟨h8, h9⟩ := ret_some hf
              rw [h8]
              exact W.vret hx hb hr (fun t ht hW => ⟨⟨(), rfl, trivial, by rw [ht]; exact hP, va_K.moved hW.alike hK, hD⟩, hS.F ht⟩) hS.2.2 dX13_operate_266
            · skip
              rw [if_neg c_46] at hf
              refine lv_lconst (v := 1) hx hb dX13_operate_108 (by decide) ?_
              refine lv_goto (tgt := 115) hx hb dX13_operate_109 (by decide) ?_
              obtain ⟨g_51, hf⟩ := grd_some hf
              obtain ⟨kg_51, sg_51⟩ := okO_at g_51
              obtain ⟨z_50, _u, hfc, hf⟩ := cal_some hf
              have hFc := de_free hD hS hA
              refine va_callv (va_runV (As := [.long 1]) (rest := []) ⟨hx, hb, hml, hown, hts⟩ (de_X13_give l dC dI cy a sh n H.size F z h0 1 hfc) (cwV 1 hts gX13_operate_X13_give rfl rfl rfl (by decide +kernel) ⟨Nat.le_of_ble_eq_true rfl, Nat.le_of_ble_eq_true rfl⟩) ⟨fun a U g mk q => by obtain ⟨q0, q1, qP, qK, qD, qN⟩ := q; exact ⟨q0, q1, qP, va_K.moved (u := U) (U := U.calling g mk a) (Vm.Alike.refl U.vm) qK, qD, qN.same rfl⟩, va_recv hK hP (ci := 13) (q0 := h0) rfl (Wd_ob kg_51 sg_51 (by decide)), fun U hU hW => ⟨rfl, by rw [hU], by rw [hU]; exact hP, va_K.moved hW.alike hK, hD.weaken (fun _ _ _ _ => trivial), hN.warm hW⟩⟩ rfl rfl hl.1 rfl (lv_room (Nat.le_of_ble_eq_true rfl)) dX13_operate_115 ⟨Nat.le_of_ble_eq_true rfl, Nat.le_of_ble_eq_true rfl⟩) hS (fun q _ h => hFc q h) hFc (fun u t H_52 locs ht hvm hw hB hz1 hk1 hS2 => ?_)
              obtain ⟨hP1, -, hD1⟩ := hB
              rw [ht] at hP1
              replace hD := hD1.weaken (fun _ _ _ h => hFc _ h)
              replace hP := hP1
              replace hS := hS2
              clear hP1 hD1 hS2 hFc hfc hz1 hk1 hvm ht
              refine lv_goto (tgt := 266) hx hb dX13_operate_118 (by decide) ?_
              obtain ⟨h8, h9⟩ := ret_some hf
              rw [h8]
              exact W.vret hx hb hr (fun t ht hW => ⟨⟨(), rfl, trivial, by rw [ht]; exact hP, va_K.moved hW.alike hK, hD⟩, hS.F ht⟩) hS.2.2 dX13_operate_266
          · skip
            rw [if_neg c_45] at hf
            refine lv_iload_n hx hb dX13_operate_93 rfl (lv_at hl 1 rfl) ?_
            refine lv_i2l (v := (x0 : Int32).toInt64) hx hb dX13_operate_94 rfl ?_
            refine lv_ldc2 hx hb hown (hts _ md_X13_operate_4) dX13_operate_95 ?_
            refine lv_lsub hx hb dX13_operate_98 ?_
            refine lv_goto (tgt := 115) hx hb dX13_operate_99 (by decide) ?_
            obtain ⟨g_54, hf⟩ := grd_some hf
            obtain ⟨kg_54, sg_54⟩ := okO_at g_54
            obtain ⟨z_53, _u, hfc, hf⟩ := cal_some hf
            have hFc := de_free hD hS hA
            refine va_callv (va_runV (As := [.long (((x0 : Int32).toInt64) - 3)]) (rest := []) ⟨hx, hb, hml, hown, hts⟩ (de_X13_give l dC dI cy a sh n H.size F z h0 (((x0 : Int32).toInt64) - 3) hfc) (cwV 1 hts gX13_operate_X13_give rfl rfl rfl (by decide +kernel) ⟨Nat.le_of_ble_eq_true rfl, Nat.le_of_ble_eq_true rfl⟩) ⟨fun a U g mk q => by obtain ⟨q0, q1, qP, qK, qD, qN⟩ := q; exact ⟨q0, q1, qP, va_K.moved (u := U) (U := U.calling g mk a) (Vm.Alike.refl U.vm) qK, qD, qN.same rfl⟩, va_recv hK hP (ci := 13) (q0 := h0) rfl (Wd_ob kg_54 sg_54 (by decide)), fun U hU hW => ⟨rfl, by rw [hU], by rw [hU]; exact hP, va_K.moved hW.alike hK, hD.weaken (fun _ _ _ _ => trivial), hN.warm hW⟩⟩ rfl rfl hl.1 rfl (lv_room (Nat.le_of_ble_eq_true rfl)) dX13_operate_115 ⟨Nat.le_of_ble_eq_true rfl, Nat.le_of_ble_eq_true rfl⟩) hS (fun q _ h => hFc q h) hFc (fun u t H_55 locs ht hvm hw hB hz1 hk1 hS2 => ?_)
            obtain ⟨hP1, -, hD1⟩ := hB
            rw [ht] at hP1
            replace hD := hD1.weaken (fun _ _ _ h => hFc _ h)
            replace hP := hP1
            replace hS := hS2
            clear hP1 hD1 hS2 hFc hfc hz1 hk1 hvm ht
            refine lv_goto (tgt := 266) hx hb dX13_operate_118 (by decide) ?_
            obtain ⟨h8, h9⟩ := ret_some hf
            rw [h8]
            exact W.vret hx hb hr (fun t ht hW => ⟨⟨(), rfl, trivial, by rw [ht]; exact hP, va_K.moved hW.alike hK, hD⟩, hS.F ht⟩) hS.2.2 dX13_operate_266
      · skip
        rw [if_neg c_3] at hf
        refine lv_iload_n hx hb dX13_operate_49 rfl (lv_at hl 1 rfl) ?_
        refine lv_iconst (v := 2) hx hb dX13_operate_50 (by decide) ?_
        refine de_cut (h := 59) (fun (x : St) => []) (fun x ls H locs => lv_has ls 4 [(0, .ref (a h0))] ∧ va_P (dC, dI) vwCl (Wd cy a sh n x) H ∧ va_D A (Wd cy a sh n x) ∧ va_S A s.heap H locs) (fun x => fn_X13_operate_B59 F sh n h0 x) (z8, r8) ?_ (fun B59 => ?_)
        · intro x ls H locs hI hf
          obtain ⟨z_56, ez⟩ : ∃ w, w = x := ⟨_, rfl⟩
          subst ez
          obtain ⟨hl2, hP2, hD2, hS2⟩ := hI
          replace hl : lv_has ls 4 [(0, .ref (a h0))] := hl2
          replace hP := hP2
          replace hD := hD2
          replace hS := hS2
          clear hl2 hP2 hD2 hS2
          replace hf := fn_X13_operate_B59_s hf
          refine W.eq (g2 := F0 m 59 ls []) rfl ?_
          refine lv_aload_n hx hb dX13_operate_59 rfl (lv_at hl 0 rfl) ?_
          refine lv_aload_n hx hb dX13_operate_60 rfl (lv_at hl 0 rfl) ?_
          obtain ⟨g_57, hf⟩ := grd_some hf
          obtain ⟨kg_57, sg_57⟩ := okO_at g_57
          refine va_get (D := (dC, dI)) (ci := 13) (v := .int (z_56.1 h0 14)) (C := RX13) (T := TX13) (N := 22) hx hb hts iwd_X13_operate_X13 hown hK hP h0 (Wd_ob kg_57 sg_57 (by decide)) rfl 14 (by decide) (hts _ md_X13_operate_3) (fun _ h9 => h9) (fl_at (t := 0) rfl) dX13_operate_61 ?_
          refine lv_if_ne (tgt := 71) hx hb dX13_operate_64 (by decide) (fun c_58 => ?_) (fun c_58 => ?_)
          · skip
            rw [if_neg c_58] at hf
            refine lv_iconst (v := 0) hx hb dX13_operate_71 (by decide) ?_
            refine lv_bipush (v := 8) hx hb dX13_operate_72 (by decide) ?_
            obtain ⟨z_59, _u, hfc, hf⟩ := cal_some hf
            have hFc := de_free hD hS hA
            refine va_callv (va_runV (As := [.int 0, .int 8]) (rest := []) ⟨hx, hb, hml, hown, hts⟩ (de_X13_need l dC dI cy a sh n H.size F z_56 h0 0 8 hfc) (cwV 2 hts gX13_operate_X13_need rfl rfl rfl (by decide +kernel) ⟨Nat.le_of_ble_eq_true rfl, Nat.le_of_ble_eq_true rfl⟩) ⟨fun a U g mk q => by obtain ⟨q0, q1, qP, qK, qD, qN⟩ := q; exact ⟨q0, q1, qP, va_K.moved (u := U) (U := U.calling g mk a) (Vm.Alike.refl U.vm) qK, qD, qN.same rfl⟩, va_recv hK hP (ci := 13) (q0 := h0) rfl (Wd_ob kg_57 sg_57 (by decide)), fun U hU hW => ⟨rfl, by rw [hU], by rw [hU]; exact hP, va_K.moved hW.alike hK, hD.weaken (fun _ _ _ _ => trivial), hN.warm hW⟩⟩ rfl rfl hl.1 rfl (lv_room (Nat.le_of_ble_eq_true rfl)) dX13_operate_74 ⟨Nat.le_of_ble_eq_true rfl, Nat.le_of_ble_eq_true rfl⟩) hS (fun q _ h => hFc q h) hFc (fun u t H_60 locs ht hvm hw hB hz1 hk1 hS2 => ?_)
            obtain ⟨hP1, -, hD1⟩ := hB
            rw [ht] at hP1
            replace hD := hD1.weaken (fun _ _ _ h => hFc _ h)
            replace hP := hP1
            replace hS := hS2
            clear hP1 hD1 hS2 hFc hfc hz1 hk1 hvm ht
            refine lv_goto (tgt := 266) hx hb dX13_operate_77 (by decide) ?_
            obtain ⟨h8, h9⟩ := ret_some hf
            rw [h8]
            exact W.vret hx hb hr (fun t ht hW => ⟨⟨(), rfl, trivial, by rw [ht]; exact hP, va_K.moved hW.alike hK, hD⟩, hS.F ht⟩) hS.2.2 dX13_operate_266
          · skip
            rw [if_pos c_58] at hf
            refine lv_iconst (v := 1) hx hb dX13_operate_67 (by decide) ?_
            refine lv_goto (tgt := 72) hx hb dX13_operate_68 (by decide) ?_
            refine lv_bipush (v := 8) hx hb dX13_operate_72 (by decide) ?_
            obtain ⟨z_61, _u, hfc, hf⟩ := cal_some hf
            have hFc := de_free hD hS hA
            refine va_callv (va_runV (As := [.int 1, .int 8]) (rest := []) ⟨hx, hb, hml, hown, hts⟩ (de_X13_need l dC dI cy a sh n H.size F z_56 h0 1 8 hfc) (cwV 2 hts gX13_operate_X13_need rfl rfl rfl (by decide +kernel) ⟨Nat.le_of_ble_eq_true rfl, Nat.le_of_ble_eq_true rfl⟩) ⟨fun a U g mk q => by obtain ⟨q0, q1, qP, qK, qD, qN⟩ := q; exact ⟨q0, q1, qP, va_K.moved (u := U) (U := U.calling g mk a) (Vm.Alike.refl U.vm) qK, qD, qN.same rfl⟩, va_recv hK hP (ci := 13) (q0 := h0) rfl (Wd_ob kg_57 sg_57 (by decide)), fun U hU hW => ⟨rfl, by rw [hU], by rw [hU]; exact hP, va_K.moved hW.alike hK, hD.weaken (fun _ _ _ _ => trivial), hN.warm hW⟩⟩ rfl rfl hl.1 rfl (lv_room (Nat.le_of_ble_eq_true rfl)) dX13_operate_74 ⟨Nat.le_of_ble_eq_true rfl, Nat.le_of_ble_eq_true rfl⟩) hS (fun q _ h => hFc q h) hFc (fun u t H_62 locs ht hvm hw hB hz1 hk1 hS2 => ?_)
            obtain ⟨hP1, -, hD1⟩ := hB
            rw [ht] at hP1
            replace hD := hD1.weaken (fun _ _ _ h => hFc _ h)
            replace hP := hP1
            replace hS := hS2
            clear hP1 hD1 hS2 hFc hfc hz1 hk1 hvm ht
            refine lv_goto (tgt := 266) hx hb dX13_operate_77 (by decide) ?_
            obtain ⟨h8, h9⟩ := ret_some hf
            rw [h8]
            exact W.vret hx hb hr (fun t ht hW => ⟨⟨(), rfl, trivial, by rw [ht]; exact hP, va_K.moved hW.alike hK, hD⟩, hS.F ht⟩) hS.2.2 dX13_operate_266
        refine lv_icmp_le (tgt := 59) hx hb dX13_operate_51 (by decide) (fun c_63 => ?_) (fun c_63 => ?_)
        · skip
          rw [if_pos c_63] at hf
          exact B59 (z) ls H locs ⟨lv_sub hl [0] rfl, hP, hD, hS⟩ hf
        · skip
          rw [if_neg c_63] at hf
          refine lv_aload_n hx hb dX13_operate_54 rfl (lv_at hl 0 rfl) ?_
          refine lv_lconst (v := 1) hx hb dX13_operate_55 (by decide) ?_
          obtain ⟨g_65, hf⟩ := grd_some hf
          obtain ⟨kg_65, sg_65⟩ := okO_at g_65
          obtain ⟨z_64, _u, hfc, hf⟩ := cal_some hf
          have hFc := de_free hD hS hA
          refine va_callv (va_runV (As := [.long 1]) (rest := []) ⟨hx, hb, hml, hown, hts⟩ (de_X13_take_ l dC dI cy a sh n H.size F z h0 1 hfc) (cwV 1 hts gX13_operate_X13_take_ rfl rfl rfl (by decide +kernel) ⟨Nat.le_of_ble_eq_true rfl, Nat.le_of_ble_eq_true rfl⟩) ⟨fun a U g mk q => by obtain ⟨q0, q1, qP, qK, qD, qN⟩ := q; exact ⟨q0, q1, qP, va_K.moved (u := U) (U := U.calling g mk a) (Vm.Alike.refl U.vm) qK, qD, qN.same rfl⟩, va_recv hK hP (ci := 13) (q0 := h0) rfl (Wd_ob kg_65 sg_65 (by decide)), fun U hU hW => ⟨rfl, by rw [hU], by rw [hU]; exact hP, va_K.moved hW.alike hK, hD.weaken (fun _ _ _ _ => trivial), hN.warm hW⟩⟩ rfl rfl hl.1 rfl (lv_room (Nat.le_of_ble_eq_true rfl)) dX13_operate_56 ⟨Nat.le_of_ble_eq_true rfl, Nat.le_of_ble_eq_true rfl⟩) hS (fun q _ h => hFc q h) hFc (fun u t H_66 locs ht hvm hw hB hz1 hk1 hS2 => ?_)
          obtain ⟨hP1, -, hD1⟩ := hB
          rw [ht] at hP1
          replace hD := hD1.weaken (fun _ _ _ h => hFc _ h)
          replace hP := hP1
          replace hS := hS2
          clear hP1 hD1 hS2 hFc hfc hz1 hk1 hvm ht
          exact B59 (z_64) ls H_66 locs ⟨lv_sub hl [0] rfl, hP, hD, hS⟩ hf
    · skip
      rw [if_pos c_2] at hf
      refine lv_aload_n hx hb dX13_operate_37 rfl (lv_at hl 0 rfl) ?_
      obtain ⟨g_68, hf⟩ := grd_some hf
      obtain ⟨kg_68, sg_68⟩ := okO_at g_68
      obtain ⟨z_67, _u, hfc, hf⟩ := cal_some hf
      have hFc := de_free hD hS hA
      refine va_callv (va_runV (As := []) (rest := []) ⟨hx, hb, hml, hown, hts⟩ (de_X13_giveBack l dC dI cy a sh n H.size F z h0 hfc) (cwV 0 hts gX13_operate_X13_giveBack rfl rfl rfl (by decide +kernel) ⟨Nat.le_of_ble_eq_true rfl, Nat.le_of_ble_eq_true rfl⟩) ⟨fun a U g mk q => by obtain ⟨q0, q1, qP, qK, qD, qN⟩ := q; exact ⟨q0, q1, qP, va_K.moved (u := U) (U := U.calling g mk a) (Vm.Alike.refl U.vm) qK, qD, qN.same rfl⟩, va_recv hK hP (ci := 13) (q0 := h0) rfl (Wd_ob kg_68 sg_68 (by decide)), fun U hU hW => ⟨rfl, by rw [hU], by rw [hU]; exact hP, va_K.moved hW.alike hK, hD.weaken (fun _ _ _ _ => trivial), hN.warm hW⟩⟩ rfl rfl hl.1 rfl (lv_room (Nat.le_of_ble_eq_true rfl)) dX13_operate_38 ⟨Nat.le_of_ble_eq_true rfl, Nat.le_of_ble_eq_true rfl⟩) hS (fun q _ h => hFc q h) hFc (fun u t H_69 locs ht hvm hw hB hz1 hk1 hS2 => ?_)
      obtain ⟨hP1, -, hD1⟩ := hB
      rw [ht] at hP1
      replace hD := hD1.weaken (fun _ _ _ h => hFc _ h)
      replace hP := hP1
      replace hS := hS2
      clear hP1 hD1 hS2 hFc hfc hz1 hk1 hvm ht
      refine lv_goto (tgt := 266) hx hb dX13_operate_41 (by decide) ?_
      obtain ⟨h8, h9⟩ := ret_some hf
      rw [h8]
      exact W.vret hx hb hr (fun t ht hW => ⟨⟨(), rfl, trivial, by rw [ht]; exact hP, va_K.moved hW.alike hK, hD⟩, hS.F ht⟩) hS.2.2 dX13_operate_266
  · skip
    rw [if_pos c_1] at hf
    refine lv_aload_n hx hb dX13_operate_4 rfl (lv_at hl 0 rfl) ?_
    obtain ⟨g_71, hf⟩ := grd_some hf
    obtain ⟨kg_71, sg_71⟩ := okO_at g_71
    obtain ⟨z_70, _u, hfc, hf⟩ := cal_some hf
    have hFc := de_free hD hS hA
    refine va_callv (va_runV (As := []) (rest := []) ⟨hx, hb, hml, hown, hts⟩ (de_X13_take l dC dI cy a sh n H.size F z h0 hfc) (cwV 0 hts gX13_operate_X13_take rfl rfl rfl (by decide +kernel) ⟨Nat.le_of_ble_eq_true rfl, Nat.le_of_ble_eq_true rfl⟩) ⟨fun a U g mk q => by obtain ⟨q0, q1, qP, qK, qD, qN⟩ := q; exact ⟨q0, q1, qP, va_K.moved (u := U) (U := U.calling g mk a) (Vm.Alike.refl U.vm) qK, qD, qN.same rfl⟩, va_recv hK hP (ci := 13) (q0 := h0) rfl (Wd_ob kg_71 sg_71 (by decide)), fun U hU hW => ⟨rfl, by rw [hU], by rw [hU]; exact hP, va_K.moved hW.alike hK, hD.weaken (fun _ _ _ _ => trivial), hN.warm hW⟩⟩ rfl rfl hl.1 rfl (lv_room (Nat.le_of_ble_eq_true rfl)) dX13_operate_5 ⟨Nat.le_of_ble_eq_true rfl, Nat.le_of_ble_eq_true rfl⟩) hS (fun q _ h => hFc q h) hFc (fun u t H_72 locs ht hvm hw hB hz1 hk1 hS2 => ?_)
    obtain ⟨hP1, -, hD1⟩ := hB
    rw [ht] at hP1
    replace hD := hD1.weaken (fun _ _ _ h => hFc _ h)
    replace hP := hP1
    replace hS := hS2
    clear hP1 hD1 hS2 hFc hfc hz1 hk1 hvm ht
    refine lv_aload_n hx hb dX13_operate_8 rfl (lv_at hl 0 rfl) ?_
    refine va_get (D := (dC, dI)) (ci := 13) (v := .int (z_70.1 h0 18)) (C := RX13) (T := TX13) (N := 22) hx hb hts iwd_X13_operate_X13 hown hK hP h0 (Wd_ob kg_71 sg_71 (by decide)) rfl 18 (by decide) (hts _ md_X13_operate_1) (fun _ h9 => h9) (fl_at (t := 0) rfl) dX13_operate_9 ?_
    refine lv_if_ne (tgt := 266) hx hb dX13_operate_12 (by decide) (fun c_73 => ?_) (fun c_73 => ?_)
    · skip
      rw [if_neg c_73] at hf
      obtain ⟨h8, h9⟩ := ret_some hf
      rw [h8]
      exact W.vret hx hb hr (fun t ht hW => ⟨⟨(), rfl, trivial, by rw [ht]; exact hP, va_K.moved hW.alike hK, hD⟩, hS.F ht⟩) hS.2.2 dX13_operate_266
    · skip
      rw [if_pos c_73] at hf
      refine lv_aload_n hx hb dX13_operate_15 rfl (lv_at hl 0 rfl) ?_
      refine lv_aload_n hx hb dX13_operate_16 rfl (lv_at hl 0 rfl) ?_
      refine lv_aload_n hx hb dX13_operate_17 rfl (lv_at hl 0 rfl) ?_
      refine va_get (D := (dC, dI)) (ci := 13) (v := .long (z_70.2.1 h0 19)) (C := RX13) (T := TX13) (N := 22) hx hb hts iwd_X13_operate_X13 hown hK hP h0 (Wd_ob kg_71 sg_71 (by decide)) rfl 19 (by decide) (hts _ md_X13_operate_2) (fun _ h9 => h9) (fl_at (t := 1) rfl) dX13_operate_18 ?_
      refine lv_iconst (v := 2) hx hb dX13_operate_21 (by decide) ?_
      obtain ⟨z_74, r_75, hfc, hf⟩ := cal_some hf
      have hFc := de_free hD hS hA
      refine va_calli (va_runV (As := [.long (z_70.2.1 h0 19), .int 2]) (rest := [.ref (a h0)]) ⟨hx, hb, hml, hown, hts⟩ (de_X13_has l dC dI cy a sh n H_72.size F z_70 h0 (z_70.2.1 h0 19) 2 hfc) (cwV 2 hts gX13_operate_X13_has rfl rfl rfl (by decide +kernel) ⟨Nat.le_of_ble_eq_true rfl, Nat.le_of_ble_eq_true rfl⟩) ⟨fun a U g mk q => by obtain ⟨q0, q1, qP, qK, qD, qN⟩ := q; exact ⟨q0, q1, qP, va_K.moved (u := U) (U := U.calling g mk a) (Vm.Alike.refl U.vm) qK, qD, qN.same rfl⟩, va_recv hK hP (ci := 13) (q0 := h0) rfl (Wd_ob kg_71 sg_71 (by decide)), fun U hU hW => ⟨rfl, by rw [hU], by rw [hU]; exact hP, va_K.moved hW.alike hK, hD.weaken (fun _ _ _ _ => trivial), hN.warm hW⟩⟩ rfl rfl hl.1 rfl (lv_room (Nat.le_of_ble_eq_true rfl)) dX13_operate_22 ⟨Nat.le_of_ble_eq_true rfl, Nat.le_of_ble_eq_true rfl⟩) hS (fun q _ h => hFc q h) hFc (fun rr u t H_76 locs ht hvm hw hB hz1 hk1 hS2 => ?_)
      rw [hw]
      clear hw
      obtain ⟨hP1, -, hD1⟩ := hB
      rw [ht] at hP1
      replace hD := hD1.weaken (fun _ _ _ h => hFc _ h)
      replace hP := hP1
      replace hS := hS2
      clear hP1 hD1 hS2 hFc hfc hz1 hk1 hvm ht
      refine lv_iconst (v := 4) hx hb dX13_operate_25 (by decide) ?_
      obtain ⟨z_77, _u, hfc, hf⟩ := cal_some hf
      have hFc := de_free hD hS hA
      refine va_callv (va_runV (As := [.int r_75, .int 4]) (rest := []) ⟨hx, hb, hml, hown, hts⟩ (de_X13_need l dC dI cy a sh n H_76.size F z_74 h0 r_75 4 hfc) (cwV 2 hts gX13_operate_X13_need rfl rfl rfl (by decide +kernel) ⟨Nat.le_of_ble_eq_true rfl, Nat.le_of_ble_eq_true rfl⟩) ⟨fun a U g mk q => by obtain ⟨q0, q1, qP, qK, qD, qN⟩ := q; exact ⟨q0, q1, qP, va_K.moved (u := U) (U := U.calling g mk a) (Vm.Alike.refl U.vm) qK, qD, qN.same rfl⟩, va_recv hK hP (ci := 13) (q0 := h0) rfl (Wd_ob kg_71 sg_71 (by decide)), fun U hU hW => ⟨rfl, by rw [hU], by rw [hU]; exact hP, va_K.moved hW.alike hK, hD.weaken (fun _ _ _ _ => trivial), hN.warm hW⟩⟩ rfl rfl hl.1 rfl (lv_room (Nat.le_of_ble_eq_true rfl)) dX13_operate_26 ⟨Nat.le_of_ble_eq_true rfl, Nat.le_of_ble_eq_true rfl⟩) hS (fun q _ h => hFc q h) hFc (fun u t H_78 locs ht hvm hw hB hz1 hk1 hS2 => ?_)
      obtain ⟨hP1, -, hD1⟩ := hB
      rw [ht] at hP1
      replace hD := hD1.weaken (fun _ _ _ h => hFc _ h)
      replace hP := hP1
      replace hS := hS2
      clear hP1 hD1 hS2 hFc hfc hz1 hk1 hvm ht
      refine lv_goto (tgt := 266) hx hb dX13_operate_29 (by decide) ?_
      obtain ⟨h8, h9⟩ := ret_some hf
      rw [h8]
      exact W.vret hx hb hr (fun t ht hW => ⟨⟨(), rfl, trivial, by rw [ht]; exact hP, va_K.moved hW.alike hK, hD⟩, hS.F ht⟩) hS.2.2 dX13_operate_266

theorem md_X18_one_1 : (.fieldLink RX18 444 "ResourceLedgerModel" "frameFunctions" "[I" : Cond) ∈ wsX18_one := List.mem_of_getElem? (i := 1) rfl
theorem iwd_X18_one_X18 : ∀ w ∈ wsX180, w ∈ wsX18_one := fun _ h => List.mem_cons_of_mem _ (List.mem_append_left _ (List.mem_append_left _ (List.mem_append_left _ (List.mem_append_left _ (List.mem_append_right _ h)))))
theorem md_X18_one_2 : (.fieldLink RX18 328 "ResourceLedgerModel" "frames" "I" : Cond) ∈ wsX18_one := List.mem_of_getElem? (i := 2) rfl
theorem md_X18_one_3 : (.fieldLink RX18 447 "ResourceLedgerModel" "nexts" "[I" : Cond) ∈ wsX18_one := List.mem_of_getElem? (i := 3) rfl
theorem md_X18_one_4 : (.fieldLink RX18 17 "ResourceLedgerModel" "units" "[LResourceLedgerModel$Unit;" : Cond) ∈ wsX18_one := List.mem_of_getElem? (i := 4) rfl
theorem md_X18_one_5 : (.fieldLink RX18 441 "ResourceLedgerModel" "frameUnits" "[I" : Cond) ∈ wsX18_one := List.mem_of_getElem? (i := 5) rfl
theorem md_X18_one_6 : (.fieldLink RX18 369 "ResourceLedgerModel" "unit" "LResourceLedgerModel$Unit;" : Cond) ∈ wsX18_one := List.mem_of_getElem? (i := 6) rfl
theorem md_X18_one_9 : (.fieldLink RX18 40 "ResourceLedgerModel" "trees" "LResourceLedgerModel$Trees;" : Cond) ∈ wsX18_one := List.mem_of_getElem? (i := 9) rfl
theorem iwd_X18_one_X15 : ∀ w ∈ wsX150, w ∈ wsX18_one := fun _ h => List.mem_cons_of_mem _ (List.mem_append_left _ (List.mem_append_left _ (List.mem_append_left _ (List.mem_append_right _ h))))
theorem md_X18_one_7 : (.fieldLink RX18 312 "ResourceLedgerModel" "height" "I" : Cond) ∈ wsX18_one := List.mem_of_getElem? (i := 7) rfl
theorem md_X18_one_8 : (.fieldLink RX18 325 "ResourceLedgerModel" "bases" "[I" : Cond) ∈ wsX18_one := List.mem_of_getElem? (i := 8) rfl
set_option maxHeartbeats 4000000 in
set_option maxRecDepth 100000 in
theorem de_X18_one (l : Launch) (dC : Nat → ClassId) (dI : Nat → Nat → Nat) (cy : Nat → ClassId) (a : Nat → Nat) (sh : Nat → Nat × Nat) (n sz : Nat) (F : Nat) (sk : Nat → Nat) (z : St) (h0 : Nat) {z8 : St} {r8 : Unit} (hf : fn_X18_one F sh n z h0 = some (z8, r8)) : Met l yX18_one wsX18_one ({ frames := 54, cells := 0, slots := 0, locals := 1252 }) (va_Pc [.ref (a h0)] (fun U => U.heap.size = sz ∧ va_P (dC, dI) vwCl (Wd cy a sh n z) U.heap ∧ va_K (dC, dI) vwCl (TYS cy) U ∧ va_D (fun _ => True) (Wd cy a sh n z) ∧ NK U ∧ SKs sk (a CBK) (va_A (Wd cy a sh n z) sz) U U.heap)) (va_Qv (fun u : Unit => True) (fun u t => va_P (dC, dI) vwCl (Wd cy a sh n z8) t.heap ∧ va_K (dC, dI) vwCl (TYS cy) t ∧ va_D (va_A (Wd cy a sh n z) sz) (Wd cy a sh n z8)) (va_A (Wd cy a sh n z) sz)) 0 0 (va_A (Wd cy a sh n z) sz) := by
  refine Met.ofW (cc := cX18_one) (maxL := 8) (ret := none) (by decide) rfl ?_
  intro p e s m args below meth c s₁ B hml hv
  obtain ⟨rfl, hsz, hP, hK, hD0, hN, hSK⟩ := hv
  have hx := B.exec
  have hb := B.bytes
  have hr := B.returns
  have hts := atoms_spec (ws := wsX18_one) B.pre
  have hown : s.vm.findClass RX18 = some m.cls := findClass_of_methodNamed B.named
  have hlocks := B.notSynchronized
  subst hsz
  have hD := hD0.self (sz := s.heap.size)
  clear hD0
  generalize hAe : va_A (Wd cy a sh n z) s.heap.size = A at hD hSK ⊢
  have hA : ∀ q : Nat, s.heap.size ≤ q → A q := fun q h => by rw [← hAe]; exact Or.inr h
  clear hAe
  have hS : va_S A s.heap s.heap [] := va_S.rf
  have hl := lv_entry ([.ref (a h0)]) (n := 8) (Nat.le_of_ble_eq_true rfl)
  rw [lg_entry_eq]
  generalize (lg_sl ([.ref (a h0)]) ++ List.replicate (8 - (lg_sl ([.ref (a h0)])).length) Slot.unset).toArray = ls at hl ⊢
  replace hl : lv_has ls 8 [(0, .ref (a h0))] := hl
  unfold fn_X18_one at hf
  refine de_start hS hP (fun H locs hS hP => ?_)
  refine lv_aload_n hx hb dX18_one_0 rfl (lv_at hl 0 rfl) ?_
  obtain ⟨g_1, hf⟩ := grd_some hf
  obtain ⟨kg_1, sg_1⟩ := okO_at g_1
  obtain ⟨k_2, ek_2, hf⟩ := lnk_some hf
  refine va_get (D := (dC, dI)) (ci := 18) (v := .ref (a k_2)) (C := RX18) (T := TX18) (N := 78) hx hb hts iwd_X18_one_X18 hown hK hP h0 (Wd_ob kg_1 sg_1 (by decide)) rfl 38 (by decide) (hts _ md_X18_one_1) (fun _ h9 => h9) (fl_q rfl ek_2) dX18_one_1 ?_
  refine lv_aload_n hx hb dX18_one_4 rfl (lv_at hl 0 rfl) ?_
  refine va_get (D := (dC, dI)) (ci := 18) (v := .int (z.1 h0 36)) (C := RX18) (T := TX18) (N := 78) hx hb hts iwd_X18_one_X18 hown hK hP h0 (Wd_ob kg_1 sg_1 (by decide)) rfl 36 (by decide) (hts _ md_X18_one_2) (fun _ h9 => h9) (fl_at (t := 0) rfl) dX18_one_5 ?_
  refine lv_iconst (v := 1) hx hb dX18_one_8 (by decide) ?_
  refine lv_isub hx hb dX18_one_9 ?_
  obtain ⟨g_3, hf⟩ := grd_some hf
  obtain ⟨kg_3, sg_3, ig_3⟩ := okA_at g_3
  refine va_iald hx hb hK hP k_2 1 (Wd_ai kg_3 sg_3) rfl ig_3 dX18_one_10 ?_
  refine lv_topi (fun v_4 ev_4 => ?_)
  replace hf := lt_at ev_4 hf
  clear ev_4
  refine lv_istore_n (lv' := [(1, .int v_4), (0, .ref (a h0))]) hx hb dX18_one_11 rfl hl (by decide) rfl (fun ls hl2 => ?_)
  replace hl := hl2
  clear hl2
  refine lv_aload_n hx hb dX18_one_12 rfl (lv_at hl 1 rfl) ?_
  obtain ⟨k_5, ek_5, hf⟩ := lnk_some hf
  refine va_get (D := (dC, dI)) (ci := 18) (v := .ref (a k_5)) (C := RX18) (T := TX18) (N := 78) hx hb hts iwd_X18_one_X18 hown hK hP h0 (Wd_ob kg_1 sg_1 (by decide)) rfl 39 (by decide) (hts _ md_X18_one_3) (fun _ h9 => h9) (fl_q rfl ek_5) dX18_one_13 ?_
  refine lv_aload_n hx hb dX18_one_16 rfl (lv_at hl 1 rfl) ?_
  refine va_get (D := (dC, dI)) (ci := 18) (v := .int (z.1 h0 36)) (C := RX18) (T := TX18) (N := 78) hx hb hts iwd_X18_one_X18 hown hK hP h0 (Wd_ob kg_1 sg_1 (by decide)) rfl 36 (by decide) (hts _ md_X18_one_2) (fun _ h9 => h9) (fl_at (t := 0) rfl) dX18_one_17 ?_
  refine lv_iconst (v := 1) hx hb dX18_one_20 (by decide) ?_
  refine lv_isub hx hb dX18_one_21 ?_
  obtain ⟨g_6, hf⟩ := grd_some hf
  obtain ⟨kg_6, sg_6, ig_6⟩ := okA_at g_6
  refine va_iald hx hb hK hP k_5 1 (Wd_ai kg_6 sg_6) rfl ig_6 dX18_one_22 ?_
  refine lv_topi (fun v_7 ev_7 => ?_)
  replace hf := lt_at ev_7 hf
  clear ev_7
  refine lv_istore_n (lv' := [(2, .int v_7), (1, .int v_4), (0, .ref (a h0))]) hx hb dX18_one_23 rfl hl (by decide) rfl (fun ls hl2 => ?_)
  replace hl := hl2
  clear hl2
  refine lv_aload_n hx hb dX18_one_24 rfl (lv_at hl 2 rfl) ?_
  refine lv_aload_n hx hb dX18_one_25 rfl (lv_at hl 2 rfl) ?_
  obtain ⟨k_8, ek_8, hf⟩ := lnk_some hf
  refine va_get (D := (dC, dI)) (ci := 18) (v := .ref (a k_8)) (C := RX18) (T := TX18) (N := 78) hx hb hts iwd_X18_one_X18 hown hK hP h0 (Wd_ob kg_1 sg_1 (by decide)) rfl 4 (by decide) (hts _ md_X18_one_4) (fun _ h9 => h9) (fl_q rfl ek_8) dX18_one_26 ?_
  refine lv_aload_n hx hb dX18_one_29 rfl (lv_at hl 2 rfl) ?_
  obtain ⟨k_9, ek_9, hf⟩ := lnk_some hf
  refine va_get (D := (dC, dI)) (ci := 18) (v := .ref (a k_9)) (C := RX18) (T := TX18) (N := 78) hx hb hts iwd_X18_one_X18 hown hK hP h0 (Wd_ob kg_1 sg_1 (by decide)) rfl 37 (by decide) (hts _ md_X18_one_5) (fun _ h9 => h9) (fl_q rfl ek_9) dX18_one_30 ?_
  refine lv_aload_n hx hb dX18_one_33 rfl (lv_at hl 2 rfl) ?_
  refine va_get (D := (dC, dI)) (ci := 18) (v := .int (z.1 h0 36)) (C := RX18) (T := TX18) (N := 78) hx hb hts iwd_X18_one_X18 hown hK hP h0 (Wd_ob kg_1 sg_1 (by decide)) rfl 36 (by decide) (hts _ md_X18_one_2) (fun _ h9 => h9) (fl_at (t := 0) rfl) dX18_one_34 ?_
  refine lv_iconst (v := 1) hx hb dX18_one_37 (by decide) ?_
  refine lv_isub hx hb dX18_one_38 ?_
  obtain ⟨g_10, hf⟩ := grd_some hf
  obtain ⟨kg_10, sg_10, ig_10⟩ := okA_at g_10
  refine va_iald hx hb hK hP k_9 1 (Wd_ai kg_10 sg_10) rfl ig_10 dX18_one_39 ?_
  obtain ⟨g_11, hf⟩ := grd_some hf
  obtain ⟨kg_11, sg_11, ig_11⟩ := okA_at g_11
  obtain ⟨k_12, ek_12, hf⟩ := lnk_some hf
  refine va_aldq (C := RX16) hx hb hK hP k_8 6 (Wd_aq kg_11 sg_11 (by decide)) rfl ig_11 dX18_one_40 ?_
  refine W.eq (g2 := F0 m 41 ls [.ref (a k_12), .ref (a h0)]) (by rw [ek_12]; rfl) ?_
  refine va_put (D := (dC, dI)) (ci := 18) (v := .ref (a k_12)) (ty := .object "ResourceLedgerModel$Unit") (C := RX18) (T := TX18) (N := 78) hx hb hts iwd_X18_one_X18 tyX18 tyX18_ok nmX18 hown hK hP hD hS h0 (Wd_ob kg_1 sg_1 (by decide)) rfl 48 (by decide) (hts _ md_X18_one_6) (fun _ h9 => h9) rfl (by decide +kernel) rfl rfl (by rw [fl_len]; decide) dX18_one_41 (fun H_13 locs hP2 hD2 hS2 => ?_)
  rw [Wd_sq1 sg_1 (by decide) rfl] at hP2 hD2
  obtain ⟨z_14, ez_14⟩ : ∃ w, w = sq z h0 48 (some k_12) := ⟨_, rfl⟩
  rw [← ez_14] at hP2 hD2
  replace hf := lt_at ez_14 hf
  clear ez_14
  replace hP := hP2
  replace hD := hD2
  replace hS := hS2
  clear hP2 hD2 hS2
  refine lv_iload_n hx hb dX18_one_44 rfl (lv_at hl 0 rfl) ?_
  refine lv_aload_n hx hb dX18_one_45 rfl (lv_at hl 2 rfl) ?_
  obtain ⟨k_15, ek_15, hf⟩ := lnk_some hf
  refine va_get (D := (dC, dI)) (ci := 18) (v := .ref (a k_15)) (C := RX18) (T := TX18) (N := 78) hx hb hts iwd_X18_one_X18 hown hK hP h0 (Wd_ob kg_1 sg_1 (by decide)) rfl 48 (by decide) (hts _ md_X18_one_6) (fun _ h9 => h9) (fl_q rfl ek_15) dX18_one_46 ?_
  refine lv_iload_n hx hb dX18_one_49 rfl (lv_at hl 1 rfl) ?_
  obtain ⟨g_18, hf⟩ := grd_some hf
  obtain ⟨kg_18, sg_18⟩ := okO_at g_18
  obtain ⟨z_16, r_17, hfc, hf⟩ := cal_some hf
  have hFc := de_free hD hS hA
  refine va_calli (va_runV (As := [.int v_4]) (rest := [.int v_7]) ⟨hx, hb, hml, hown, hts⟩ (de_X16_instructions l dC dI cy a sh n H_13.size F z_14 k_15 v_4 hfc) (cwV 1 hts gX18_one_X16_instructions rfl rfl rfl (by decide +kernel) ⟨Nat.le_of_ble_eq_true rfl, Nat.le_of_ble_eq_true rfl⟩) ⟨fun a U g mk q => by obtain ⟨q0, q1, qP, qK, qD, qN⟩ := q; exact ⟨q0, q1, qP, va_K.moved (u := U) (U := U.calling g mk a) (Vm.Alike.refl U.vm) qK, qD, qN.same rfl⟩, va_recv hK hP (ci := 16) (q0 := k_15) rfl (Wd_ob kg_18 sg_18 (by decide)), fun U hU hW => ⟨rfl, by rw [hU], by rw [hU]; exact hP, va_K.moved hW.alike hK, hD.weaken (fun _ _ _ _ => trivial), hN.warm hW⟩⟩ rfl rfl hl.1 rfl (lv_room (Nat.le_of_ble_eq_true rfl)) dX18_one_50 ⟨Nat.le_of_ble_eq_true rfl, Nat.le_of_ble_eq_true rfl⟩) hS (fun q _ h => hFc q h) hFc (fun rr u t H_19 locs ht hvm hw hB hz1 hk1 hS2 => ?_)
  rw [hw]
  clear hw
  obtain ⟨hP1, -, hD1⟩ := hB
  rw [ht] at hP1
  replace hD := hD1.weaken (fun _ _ _ h => hFc _ h)
  replace hP := hP1
  replace hS := hS2
  clear hP1 hD1 hS2 hFc hfc hz1 hk1 hvm ht
  refine de_cut (h := 60) (fun (x : St) => []) (fun x ls H locs => lv_has ls 8 [(2, .int v_7), (1, .int v_4), (0, .ref (a h0))] ∧ va_P (dC, dI) vwCl (Wd cy a sh n x) H ∧ va_D A (Wd cy a sh n x) ∧ va_S A s.heap H locs) (fun x => fn_X18_one_B60 F sh n h0 v_7 v_4 x) (z8, r8) ?_ (fun B60 => ?_)
  · intro x ls H locs hI hf
    obtain ⟨z_20, ez⟩ : ∃ w, w = x := ⟨_, rfl⟩
    subst ez
    obtain ⟨hl2, hP2, hD2, hS2⟩ := hI
    replace hl : lv_has ls 8 [(2, .int v_7), (1, .int v_4), (0, .ref (a h0))] := hl2
    replace hP := hP2
    replace hD := hD2
    replace hS := hS2
    clear hl2 hP2 hD2 hS2
    replace hf := fn_X18_one_B60_s hf
    refine W.eq (g2 := F0 m 60 ls []) rfl ?_
    refine lv_aload_n hx hb dX18_one_60 rfl (lv_at hl 2 rfl) ?_
    refine lv_iconst (v := 1) hx hb dX18_one_61 (by decide) ?_
    obtain ⟨z_21, r_22, hfc, hf⟩ := cal_some hf
    have hFc := de_free hD hS hA
    refine va_calli (va_runV (As := [.int 1]) (rest := []) ⟨hx, hb, hml, hown, hts⟩ (de_X18_spend l dC dI cy a sh n H.size F z_20 h0 1 hfc) (cwV 1 hts gX18_one_X18_spend rfl rfl rfl (by decide +kernel) ⟨Nat.le_of_ble_eq_true rfl, Nat.le_of_ble_eq_true rfl⟩) ⟨fun a U g mk q => by obtain ⟨q0, q1, qP, qK, qD, qN⟩ := q; exact ⟨q0, q1, qP, va_K.moved (u := U) (U := U.calling g mk a) (Vm.Alike.refl U.vm) qK, qD, qN.same rfl⟩, va_recv hK hP (ci := 18) (q0 := h0) rfl (Wd_ob kg_1 sg_1 (by decide)), fun U hU hW => ⟨rfl, by rw [hU], by rw [hU]; exact hP, va_K.moved hW.alike hK, hD.weaken (fun _ _ _ _ => trivial), hN.warm hW⟩⟩ rfl rfl hl.1 rfl (lv_room (Nat.le_of_ble_eq_true rfl)) dX18_one_62 ⟨Nat.le_of_ble_eq_true rfl, Nat.le_of_ble_eq_true rfl⟩) hS (fun q _ h => hFc q h) hFc (fun rr u t H_23 locs ht hvm hw hB hz1 hk1 hS2 => ?_)
    rw [hw]
    clear hw
    obtain ⟨hP1, -, hD1⟩ := hB
    rw [ht] at hP1
    replace hD := hD1.weaken (fun _ _ _ h => hFc _ h)
    replace hP := hP1
    replace hS := hS2
    clear hP1 hD1 hS2 hFc hfc hz1 hk1 hvm ht
    refine lv_if_ne (tgt := 69) hx hb dX18_one_65 (by decide) (fun c_24 => ?_) (fun c_24 => ?_)
    · skip
      rw [if_neg c_24] at hf
      refine lv_aload_n hx hb dX18_one_69 rfl (lv_at hl 2 rfl) ?_
      obtain ⟨k_25, ek_25, hf⟩ := lnk_some hf
      refine va_get (D := (dC, dI)) (ci := 18) (v := .ref (a k_25)) (C := RX18) (T := TX18) (N := 78) hx hb hts iwd_X18_one_X18 hown hK hP h0 (Wd_ob kg_1 sg_1 (by decide)) rfl 39 (by decide) (hts _ md_X18_one_3) (fun _ h9 => h9) (fl_q rfl ek_25) dX18_one_70 ?_
      refine lv_aload_n hx hb dX18_one_73 rfl (lv_at hl 2 rfl) ?_
      refine va_get (D := (dC, dI)) (ci := 18) (v := .int (z_21.1 h0 36)) (C := RX18) (T := TX18) (N := 78) hx hb hts iwd_X18_one_X18 hown hK hP h0 (Wd_ob kg_1 sg_1 (by decide)) rfl 36 (by decide) (hts _ md_X18_one_2) (fun _ h9 => h9) (fl_at (t := 0) rfl) dX18_one_74 ?_
      refine lv_iconst (v := 1) hx hb dX18_one_77 (by decide) ?_
      refine lv_isub hx hb dX18_one_78 ?_
      refine lv_iload_n hx hb dX18_one_79 rfl (lv_at hl 0 rfl) ?_
      refine lv_iconst (v := 1) hx hb dX18_one_80 (by decide) ?_
      refine lv_iadd hx hb dX18_one_81 ?_
      obtain ⟨g_26, hf⟩ := grd_some hf
      obtain ⟨kg_26, sg_26, ig_26⟩ := okA_at g_26
      refine va_iast hx hb hK hP hD hS k_25 1 (Wd_ai kg_26 sg_26) rfl ig_26 dX18_one_82 (fun H_27 locs hP2 hD2 hS2 => ?_)
      rw [Wd_ti sg_26] at hP2 hD2
      obtain ⟨z_28, ez_28⟩ : ∃ w, w = si z_21 k_25 ((z_21.1 h0 36) - 1).toNatClampNeg (v_7 + 1) := ⟨_, rfl⟩
      rw [← ez_28] at hP2 hD2
      replace hf := lt_at ez_28 hf
      clear ez_28
      replace hP := hP2
      replace hD := hD2
      replace hS := hS2
      clear hP2 hD2 hS2
      refine lv_aload_n hx hb dX18_one_83 rfl (lv_at hl 2 rfl) ?_
      obtain ⟨k_29, ek_29, hf⟩ := lnk_some hf
      refine va_get (D := (dC, dI)) (ci := 18) (v := .ref (a k_29)) (C := RX18) (T := TX18) (N := 78) hx hb hts iwd_X18_one_X18 hown hK hP h0 (Wd_ob kg_1 sg_1 (by decide)) rfl 48 (by decide) (hts _ md_X18_one_6) (fun _ h9 => h9) (fl_q rfl ek_29) dX18_one_84 ?_
      refine lv_iload_n hx hb dX18_one_87 rfl (lv_at hl 1 rfl) ?_
      refine lv_iload_n hx hb dX18_one_88 rfl (lv_at hl 0 rfl) ?_
      obtain ⟨g_32, hf⟩ := grd_some hf
      obtain ⟨kg_32, sg_32⟩ := okO_at g_32
      obtain ⟨z_30, r_31, hfc, hf⟩ := cal_some hf
      have hFc := de_free hD hS hA
      refine va_calli (va_runV (As := [.int v_4, .int v_7]) (rest := []) ⟨hx, hb, hml, hown, hts⟩ (de_X16_operation l dC dI cy a sh n H_27.size F z_28 k_29 v_4 v_7 hfc) (cwV 2 hts gX18_one_X16_operation rfl rfl rfl (by decide +kernel) ⟨Nat.le_of_ble_eq_true rfl, Nat.le_of_ble_eq_true rfl⟩) ⟨fun a U g mk q => by obtain ⟨q0, q1, qP, qK, qD, qN⟩ := q; exact ⟨q0, q1, qP, va_K.moved (u := U) (U := U.calling g mk a) (Vm.Alike.refl U.vm) qK, qD, qN.same rfl⟩, va_recv hK hP (ci := 16) (q0 := k_29) rfl (Wd_ob kg_32 sg_32 (by decide)), fun U hU hW => ⟨rfl, by rw [hU], by rw [hU]; exact hP, va_K.moved hW.alike hK, hD.weaken (fun _ _ _ _ => trivial), hN.warm hW⟩⟩ rfl rfl hl.1 rfl (lv_room (Nat.le_of_ble_eq_true rfl)) dX18_one_89 ⟨Nat.le_of_ble_eq_true rfl, Nat.le_of_ble_eq_true rfl⟩) hS (fun q _ h => hFc q h) hFc (fun rr u t H_33 locs ht hvm hw hB hz1 hk1 hS2 => ?_)
      rw [hw]
      clear hw
      obtain ⟨hP1, -, hD1⟩ := hB
      rw [ht] at hP1
      replace hD := hD1.weaken (fun _ _ _ h => hFc _ h)
      replace hP := hP1
      replace hS := hS2
      clear hP1 hD1 hS2 hFc hfc hz1 hk1 hvm ht
      refine lv_istore_n (lv' := [(3, .int r_31), (2, .int v_7), (1, .int v_4), (0, .ref (a h0))]) hx hb dX18_one_92 rfl hl (by decide) rfl (fun ls hl2 => ?_)
      replace hl := hl2
      clear hl2
      refine lv_aload_n hx hb dX18_one_93 rfl (lv_at hl 3 rfl) ?_
      obtain ⟨k_34, ek_34, hf⟩ := lnk_some hf
      refine va_get (D := (dC, dI)) (ci := 18) (v := .ref (a k_34)) (C := RX18) (T := TX18) (N := 78) hx hb hts iwd_X18_one_X18 hown hK hP h0 (Wd_ob kg_1 sg_1 (by decide)) rfl 48 (by decide) (hts _ md_X18_one_6) (fun _ h9 => h9) (fl_q rfl ek_34) dX18_one_94 ?_
      refine lv_iload_n hx hb dX18_one_97 rfl (lv_at hl 2 rfl) ?_
      refine lv_iload_n hx hb dX18_one_98 rfl (lv_at hl 1 rfl) ?_
      refine lv_iconst (v := 0) hx hb dX18_one_99 (by decide) ?_
      obtain ⟨g_37, hf⟩ := grd_some hf
      obtain ⟨kg_37, sg_37⟩ := okO_at g_37
      obtain ⟨z_35, r_36, hfc, hf⟩ := cal_some hf
      have hFc := de_free hD hS hA
      refine va_calll (va_runV (As := [.int v_4, .int v_7, .int 0]) (rest := []) ⟨hx, hb, hml, hown, hts⟩ (de_X16_operand l dC dI cy a sh n H_33.size F z_30 k_34 v_4 v_7 0 hfc) (cwV 3 hts gX18_one_X16_operand rfl rfl rfl (by decide +kernel) ⟨Nat.le_of_ble_eq_true rfl, Nat.le_of_ble_eq_true rfl⟩) ⟨fun a U g mk q => by obtain ⟨q0, q1, qP, qK, qD, qN⟩ := q; exact ⟨q0, q1, qP, va_K.moved (u := U) (U := U.calling g mk a) (Vm.Alike.refl U.vm) qK, qD, qN.same rfl⟩, va_recv hK hP (ci := 16) (q0 := k_34) rfl (Wd_ob kg_37 sg_37 (by decide)), fun U hU hW => ⟨rfl, by rw [hU], by rw [hU]; exact hP, va_K.moved hW.alike hK, hD.weaken (fun _ _ _ _ => trivial), hN.warm hW⟩⟩ rfl rfl hl.1 rfl (lv_room (Nat.le_of_ble_eq_true rfl)) dX18_one_100 ⟨Nat.le_of_ble_eq_true rfl, Nat.le_of_ble_eq_true rfl⟩) hS (fun q _ h => hFc q h) hFc (fun rr u t H_38 locs ht hvm hw hB hz1 hk1 hS2 => ?_)
      rw [hw]
      clear hw
      obtain ⟨hP1, -, hD1⟩ := hB
      rw [ht] at hP1
      replace hD := hD1.weaken (fun _ _ _ h => hFc _ h)
      replace hP := hP1
      replace hS := hS2
      clear hP1 hD1 hS2 hFc hfc hz1 hk1 hvm ht
      refine lv_lstore (lv' := [(4, .long r_36), (3, .int r_31), (2, .int v_7), (1, .int v_4), (0, .ref (a h0))]) hx hb dX18_one_103 hl (by decide) rfl (fun ls hl2 => ?_)
      replace hl := hl2
      clear hl2
      refine lv_aload_n hx hb dX18_one_105 rfl (lv_at hl 4 rfl) ?_
      obtain ⟨k_39, ek_39, hf⟩ := lnk_some hf
      refine va_get (D := (dC, dI)) (ci := 18) (v := .ref (a k_39)) (C := RX18) (T := TX18) (N := 78) hx hb hts iwd_X18_one_X18 hown hK hP h0 (Wd_ob kg_1 sg_1 (by decide)) rfl 48 (by decide) (hts _ md_X18_one_6) (fun _ h9 => h9) (fl_q rfl ek_39) dX18_one_106 ?_
      refine lv_iload_n hx hb dX18_one_109 rfl (lv_at hl 3 rfl) ?_
      refine lv_iload_n hx hb dX18_one_110 rfl (lv_at hl 2 rfl) ?_
      refine lv_iconst (v := 1) hx hb dX18_one_111 (by decide) ?_
      obtain ⟨g_42, hf⟩ := grd_some hf
      obtain ⟨kg_42, sg_42⟩ := okO_at g_42
      obtain ⟨z_40, r_41, hfc, hf⟩ := cal_some hf
      have hFc := de_free hD hS hA
      refine va_calll (va_runV (As := [.int v_4, .int v_7, .int 1]) (rest := []) ⟨hx, hb, hml, hown, hts⟩ (de_X16_operand l dC dI cy a sh n H_38.size F z_35 k_39 v_4 v_7 1 hfc) (cwV 3 hts gX18_one_X16_operand rfl rfl rfl (by decide +kernel) ⟨Nat.le_of_ble_eq_true rfl, Nat.le_of_ble_eq_true rfl⟩) ⟨fun a U g mk q => by obtain ⟨q0, q1, qP, qK, qD, qN⟩ := q; exact ⟨q0, q1, qP, va_K.moved (u := U) (U := U.calling g mk a) (Vm.Alike.refl U.vm) qK, qD, qN.same rfl⟩, va_recv hK hP (ci := 16) (q0 := k_39) rfl (Wd_ob kg_42 sg_42 (by decide)), fun U hU hW => ⟨rfl, by rw [hU], by rw [hU]; exact hP, va_K.moved hW.alike hK, hD.weaken (fun _ _ _ _ => trivial), hN.warm hW⟩⟩ rfl rfl hl.1 rfl (lv_room (Nat.le_of_ble_eq_true rfl)) dX18_one_112 ⟨Nat.le_of_ble_eq_true rfl, Nat.le_of_ble_eq_true rfl⟩) hS (fun q _ h => hFc q h) hFc (fun rr u t H_43 locs ht hvm hw hB hz1 hk1 hS2 => ?_)
      rw [hw]
      clear hw
      obtain ⟨hP1, -, hD1⟩ := hB
      rw [ht] at hP1
      replace hD := hD1.weaken (fun _ _ _ h => hFc _ h)
      replace hP := hP1
      replace hS := hS2
      clear hP1 hD1 hS2 hFc hfc hz1 hk1 hvm ht
      refine lv_lstore (lv' := [(6, .long r_41), (4, .long r_36), (3, .int r_31), (2, .int v_7), (1, .int v_4), (0, .ref (a h0))]) hx hb dX18_one_115 hl (by decide) rfl (fun ls hl2 => ?_)
      replace hl := hl2
      clear hl2
      refine lv_iload_n hx hb dX18_one_117 rfl (lv_at hl 2 rfl) ?_
      refine lv_if_ne (tgt := 159) hx hb dX18_one_118 (by decide) (fun c_44 => ?_) (fun c_44 => ?_)
      · skip
        rw [if_neg c_44] at hf
        refine lv_iload_n hx hb dX18_one_159 rfl (lv_at hl 2 rfl) ?_
        refine lv_iconst (v := 1) hx hb dX18_one_160 (by decide) ?_
        refine lv_icmp_ne (tgt := 171) hx hb dX18_one_161 (by decide) (fun c_45 => ?_) (fun c_45 => ?_)
        · skip
          rw [if_neg c_45] at hf
          refine lv_iload_n hx hb dX18_one_171 rfl (lv_at hl 2 rfl) ?_
          refine lv_iconst (v := 5) hx hb dX18_one_172 (by decide) ?_
          refine lv_icmp_ge (tgt := 187) hx hb dX18_one_173 (by decide) (fun c_46 => ?_) (fun c_46 => ?_)
          · skip
            rw [if_pos c_46] at hf
            refine lv_iload_n hx hb dX18_one_187 rfl (lv_at hl 2 rfl) ?_
            refine lv_bipush (v := 11) hx hb dX18_one_188 (by decide) ?_
            refine lv_icmp_lt (tgt := 199) hx hb dX18_one_190 (by decide) (fun c_47 => ?_) (fun c_47 => ?_)
            · skip
              rw [if_pos c_47] at hf
              refine lv_aload_n hx hb dX18_one_199 rfl (lv_at hl 5 rfl) ?_
              refine lv_iload_n hx hb dX18_one_200 rfl (lv_at hl 2 rfl) ?_
              refine lv_lload hx hb dX18_one_201 (lv_at hl 1 rfl) ?_
              refine lv_lload hx hb dX18_one_203 (lv_at hl 0 rfl) ?_
              obtain ⟨z_48, _u, hfc, hf⟩ := cal_some hf
              have hFc := de_free hD hS hA
              refine va_callv (va_runV (As := [.int r_31, .long r_36, .long r_41]) (rest := []) ⟨hx, hb, hml, hown, hts⟩ (de_X18_constant l dC dI cy a sh n H_43.size F z_40 h0 r_31 r_36 r_41 hfc) (cwV 3 hts gX18_one_X18_constant rfl rfl rfl (by decide +kernel) ⟨Nat.le_of_ble_eq_true rfl, Nat.le_of_ble_eq_true rfl⟩) ⟨fun a U g mk q => by obtain ⟨q0, q1, qP, qK, qD, qN⟩ := q; exact ⟨q0, q1, qP, va_K.moved (u := U) (U := U.calling g mk a) (Vm.Alike.refl U.vm) qK, qD, qN.same rfl⟩, va_recv hK hP (ci := 18) (q0 := h0) rfl (Wd_ob kg_1 sg_1 (by decide)), fun U hU hW => ⟨rfl, by rw [hU], by rw [hU]; exact hP, va_K.moved hW.alike hK, hD.weaken (fun _ _ _ _ => trivial), hN.warm hW⟩⟩ rfl rfl hl.1 rfl (lv_room (Nat.le_of_ble_eq_true rfl)) dX18_one_205 ⟨Nat.le_of_ble_eq_true rfl, Nat.le_of_ble_eq_true rfl⟩) hS (fun q _ h => hFc q h) hFc (fun u t H_49 locs ht hvm hw hB hz1 hk1 hS2 => ?_)
              obtain ⟨hP1, -, hD1⟩ := hB
              rw [ht] at hP1
              replace hD := hD1.weaken (fun _ _ _ h => hFc _ h)
              replace hP := hP1
              replace hS := hS2
              clear hP1 hD1 hS2 hFc hfc hz1 hk1 hvm ht
              refine lv_goto (tgt := 457) hx hb dX18_one_208 (by decide) ?_
              obtain ⟨h8, h9⟩ := ret_some hf
              rw [h8]
              exact W.vret hx hb hr (fun t ht hW => ⟨⟨(), rfl, trivial, by rw [ht]; exact hP, va_K.moved hW.alike hK, hD⟩, hS.F ht⟩) hS.2.2 dX18_one_457
            · skip
              rw [if_neg c_47] at hf
              refine lv_iload_n hx hb dX18_one_193 rfl (lv_at hl 2 rfl) ?_
              refine lv_bipush (v := 46) hx hb dX18_one_194 (by decide) ?_
              refine lv_icmp_ne (tgt := 211) hx hb dX18_one_196 (by decide) (fun c_50 => ?_) (fun c_50 => ?_)
              · skip
                rw [if_neg c_50] at hf
                refine lv_iload_n hx hb dX18_one_211 rfl (lv_at hl 2 rfl) ?_
                refine lv_bipush (v := 16) hx hb dX18_one_212 (by decide) ?_
                refine lv_icmp_ge (tgt := 228) hx hb dX18_one_214 (by decide) (fun c_51 => ?_) (fun c_51 => ?_)
                · skip
                  rw [if_pos c_51] at hf
                  refine lv_iload_n hx hb dX18_one_228 rfl (lv_at hl 2 rfl) ?_
                  refine lv_bipush (v := 21) hx hb dX18_one_229 (by decide) ?_
                  refine lv_icmp_ge (tgt := 245) hx hb dX18_one_231 (by decide) (fun c_52 => ?_) (fun c_52 => ?_)
                  · skip
                    rw [if_pos c_52] at hf
                    refine lv_iload_n hx hb dX18_one_245 rfl (lv_at hl 2 rfl) ?_
                    refine lv_bipush (v := 21) hx hb dX18_one_246 (by decide) ?_
                    refine lv_icmp_ne (tgt := 261) hx hb dX18_one_248 (by decide) (fun c_53 => ?_) (fun c_53 => ?_)
                    · skip
                      rw [if_neg c_53] at hf
                      refine lv_iload_n hx hb dX18_one_261 rfl (lv_at hl 2 rfl) ?_
                      refine lv_bipush (v := 22) hx hb dX18_one_262 (by decide) ?_
                      refine lv_icmp_ne (tgt := 277) hx hb dX18_one_264 (by decide) (fun c_54 => ?_) (fun c_54 => ?_)
                      · skip
                        rw [if_neg c_54] at hf
                        refine lv_iload_n hx hb dX18_one_277 rfl (lv_at hl 2 rfl) ?_
                        refine lv_bipush (v := 23) hx hb dX18_one_278 (by decide) ?_
                        refine lv_icmp_ne (tgt := 293) hx hb dX18_one_280 (by decide) (fun c_55 => ?_) (fun c_55 => ?_)
                        · skip
                          rw [if_neg c_55] at hf
                          refine lv_iload_n hx hb dX18_one_293 rfl (lv_at hl 2 rfl) ?_
                          refine lv_bipush (v := 32) hx hb dX18_one_294 (by decide) ?_
                          refine de_cut (h := 305) (fun (x : St) => []) (fun x ls H locs => lv_has ls 8 [(3, .int r_31), (0, .ref (a h0))] ∧ va_P (dC, dI) vwCl (Wd cy a sh n x) H ∧ va_D A (Wd cy a sh n x) ∧ va_S A s.heap H locs) (fun x => fn_X18_one_B305 F sh n r_31 h0 x) (z8, r8) ?_ (fun B305 => ?_)
                          · intro x ls H locs hI hf
                            obtain ⟨z_56, ez⟩ : ∃ w, w = x := ⟨_, rfl⟩
                            subst ez
                            obtain ⟨hl2, hP2, hD2, hS2⟩ := hI
                            replace hl : lv_has ls 8 [(3, .int r_31), (0, .ref (a h0))] := hl2
                            replace hP := hP2
                            replace hD := hD2
                            replace hS := hS2
                            clear hl2 hP2 hD2 hS2
                            replace hf := fn_X18_one_B305_s hf
                            refine W.eq (g2 := F0 m 305 ls []) rfl ?_
                            refine lv_aload_n hx hb dX18_one_305 rfl (lv_at hl 1 rfl) ?_
                            refine lv_iload_n hx hb dX18_one_306 rfl (lv_at hl 0 rfl) ?_
                            refine lv_bipush (v := 32) hx hb dX18_one_307 (by decide) ?_
                            refine lv_icmp_ne (tgt := 316) hx hb dX18_one_309 (by decide) (fun c_57 => ?_) (fun c_57 => ?_)
                            · skip
                              rw [if_neg c_57] at hf
                              refine lv_iconst (v := 0) hx hb dX18_one_316 (by decide) ?_
                              obtain ⟨z_58, _u, hfc, hf⟩ := cal_some hf
                              have hFc := de_free hD hS hA
                              refine va_callv (va_runV (As := [.int 0]) (rest := []) ⟨hx, hb, hml, hown, hts⟩ (de_X18_shift l dC dI cy a sh n H.size F z_56 h0 0 hfc) (cwV 1 hts gX18_one_X18_shift rfl rfl rfl (by decide +kernel) ⟨Nat.le_of_ble_eq_true rfl, Nat.le_of_ble_eq_true rfl⟩) ⟨fun a U g mk q => by obtain ⟨q0, q1, qP, qK, qD, qN⟩ := q; exact ⟨q0, q1, qP, va_K.moved (u := U) (U := U.calling g mk a) (Vm.Alike.refl U.vm) qK, qD, qN.same rfl⟩, va_recv hK hP (ci := 18) (q0 := h0) rfl (Wd_ob kg_1 sg_1 (by decide)), fun U hU hW => ⟨rfl, by rw [hU], by rw [hU]; exact hP, va_K.moved hW.alike hK, hD.weaken (fun _ _ _ _ => trivial), hN.warm hW⟩⟩ rfl rfl hl.1 rfl (lv_room (Nat.le_of_ble_eq_true rfl)) dX18_one_317 ⟨Nat.le_of_ble_eq_true rfl, Nat.le_of_ble_eq_true rfl⟩) hS (fun q _ h => hFc q h) hFc (fun u t H_59 locs ht hvm hw hB hz1 hk1 hS2 => ?_)
                              obtain ⟨hP1, -, hD1⟩ := hB
                              rw [ht] at hP1
                              replace hD := hD1.weaken (fun _ _ _ h => hFc _ h)
                              replace hP := hP1
                              replace hS := hS2
                              clear hP1 hD1 hS2 hFc hfc hz1 hk1 hvm ht
                              refine lv_goto (tgt := 457) hx hb dX18_one_320 (by decide) ?_
                              obtain ⟨h8, h9⟩ := ret_some hf
                              rw [h8]
                              exact W.vret hx hb hr (fun t ht hW => ⟨⟨(), rfl, trivial, by rw [ht]; exact hP, va_K.moved hW.alike hK, hD⟩, hS.F ht⟩) hS.2.2 dX18_one_457
                            · skip
                              rw [if_pos c_57] at hf
                              refine lv_iconst (v := 1) hx hb dX18_one_312 (by decide) ?_
                              refine lv_goto (tgt := 317) hx hb dX18_one_313 (by decide) ?_
                              obtain ⟨z_60, _u, hfc, hf⟩ := cal_some hf
                              have hFc := de_free hD hS hA
                              refine va_callv (va_runV (As := [.int 1]) (rest := []) ⟨hx, hb, hml, hown, hts⟩ (de_X18_shift l dC dI cy a sh n H.size F z_56 h0 1 hfc) (cwV 1 hts gX18_one_X18_shift rfl rfl rfl (by decide +kernel) ⟨Nat.le_of_ble_eq_true rfl, Nat.le_of_ble_eq_true rfl⟩) ⟨fun a U g mk q => by obtain ⟨q0, q1, qP, qK, qD, qN⟩ := q; exact ⟨q0, q1, qP, va_K.moved (u := U) (U := U.calling g mk a) (Vm.Alike.refl U.vm) qK, qD, qN.same rfl⟩, va_recv hK hP (ci := 18) (q0 := h0) rfl (Wd_ob kg_1 sg_1 (by decide)), fun U hU hW => ⟨rfl, by rw [hU], by rw [hU]; exact hP, va_K.moved hW.alike hK, hD.weaken (fun _ _ _ _ => trivial), hN.warm hW⟩⟩ rfl rfl hl.1 rfl (lv_room (Nat.le_of_ble_eq_true rfl)) dX18_one_317 ⟨Nat.le_of_ble_eq_true rfl, Nat.le_of_ble_eq_true rfl⟩) hS (fun q _ h => hFc q h) hFc (fun u t H_61 locs ht hvm hw hB hz1 hk1 hS2 => ?_)
                              obtain ⟨hP1, -, hD1⟩ := hB
                              rw [ht] at hP1
                              replace hD := hD1.weaken (fun _ _ _ h => hFc _ h)
                              replace hP := hP1
                              replace hS := hS2
                              clear hP1 hD1 hS2 hFc hfc hz1 hk1 hvm ht
                              refine lv_goto (tgt := 457) hx hb dX18_one_320 (by decide) ?_
                              obtain ⟨h8, h9⟩ := ret_some hf
                              rw [h8]
                              exact W.vret hx hb hr (fun t ht hW => ⟨⟨(), rfl, trivial, by rw [ht]; exact hP, va_K.moved hW.alike hK, hD⟩, hS.F ht⟩) hS.2.2 dX18_one_457
                          refine lv_icmp_eq (tgt := 305) hx hb dX18_one_296 (by decide) (fun c_62 => ?_) (fun c_62 => ?_)
                          · skip
                            rw [if_pos c_62] at hf
                            exact B305 (z_40) ls H_43 locs ⟨lv_sub hl [2, 5] rfl, hP, hD, hS⟩ hf
                          · skip
                            rw [if_neg c_62] at hf
                            refine lv_iload_n hx hb dX18_one_299 rfl (lv_at hl 2 rfl) ?_
                            refine lv_bipush (v := 33) hx hb dX18_one_300 (by decide) ?_
                            refine lv_icmp_ne (tgt := 323) hx hb dX18_one_302 (by decide) (fun c_63 => ?_) (fun c_63 => ?_)
                            · skip
                              rw [if_neg c_63] at hf
                              refine lv_iload_n hx hb dX18_one_323 rfl (lv_at hl 2 rfl) ?_
                              refine lv_bipush (v := 34) hx hb dX18_one_324 (by decide) ?_
                              refine lv_icmp_ne (tgt := 353) hx hb dX18_one_326 (by decide) (fun c_64 => ?_) (fun c_64 => ?_)
                              · skip
                                rw [if_neg c_64] at hf
                                refine lv_iload_n hx hb dX18_one_353 rfl (lv_at hl 2 rfl) ?_
                                refine lv_bipush (v := 35) hx hb dX18_one_354 (by decide) ?_
                                refine lv_icmp_lt (tgt := 371) hx hb dX18_one_356 (by decide) (fun c_65 => ?_) (fun c_65 => ?_)
                                · skip
                                  rw [if_pos c_65] at hf
                                  refine lv_aload_n hx hb dX18_one_371 rfl (lv_at hl 5 rfl) ?_
                                  refine lv_iload_n hx hb dX18_one_372 rfl (lv_at hl 2 rfl) ?_
                                  obtain ⟨z_66, _u, hfc, hf⟩ := cal_some hf
                                  have hFc := de_free hD hS hA
                                  refine va_callv (va_runV (As := [.int r_31]) (rest := []) ⟨hx, hb, hml, hown, hts⟩ (de_X18_reckon l dC dI cy a sh n H_43.size F z_40 h0 r_31 hfc) (cwV 1 hts gX18_one_X18_reckon rfl rfl rfl (by decide +kernel) ⟨Nat.le_of_ble_eq_true rfl, Nat.le_of_ble_eq_true rfl⟩) ⟨fun a U g mk q => by obtain ⟨q0, q1, qP, qK, qD, qN⟩ := q; exact ⟨q0, q1, qP, va_K.moved (u := U) (U := U.calling g mk a) (Vm.Alike.refl U.vm) qK, qD, qN.same rfl⟩, va_recv hK hP (ci := 18) (q0 := h0) rfl (Wd_ob kg_1 sg_1 (by decide)), fun U hU hW => ⟨rfl, by rw [hU], by rw [hU]; exact hP, va_K.moved hW.alike hK, hD.weaken (fun _ _ _ _ => trivial), hN.warm hW⟩⟩ rfl rfl hl.1 rfl (lv_room (Nat.le_of_ble_eq_true rfl)) dX18_one_373 ⟨Nat.le_of_ble_eq_true rfl, Nat.le_of_ble_eq_true rfl⟩) hS (fun q _ h => hFc q h) hFc (fun u t H_67 locs ht hvm hw hB hz1 hk1 hS2 => ?_)
                                  obtain ⟨hP1, -, hD1⟩ := hB
                                  rw [ht] at hP1
                                  replace hD := hD1.weaken (fun _ _ _ h => hFc _ h)
                                  replace hP := hP1
                                  replace hS := hS2
                                  clear hP1 hD1 hS2 hFc hfc hz1 hk1 hvm ht
                                  refine lv_goto (tgt := 457) hx hb dX18_one_376 (by decide) ?_
                                  obtain ⟨h8, h9⟩ := ret_some hf
                                  rw [h8]
                                  exact W.vret hx hb hr (fun t ht hW => ⟨⟨(), rfl, trivial, by rw [ht]; exact hP, va_K.moved hW.alike hK, hD⟩, hS.F ht⟩) hS.2.2 dX18_one_457
                                · skip
                                  rw [if_neg c_65] at hf
                                  refine lv_iload_n hx hb dX18_one_359 rfl (lv_at hl 2 rfl) ?_
                                  refine lv_bipush (v := 35) hx hb dX18_one_360 (by decide) ?_
                                  refine de_cut (h := 379) (fun (x : St) => []) (fun x ls H locs => lv_has ls 8 [(6, .long r_41), (4, .long r_36), (3, .int r_31), (0, .ref (a h0))] ∧ va_P (dC, dI) vwCl (Wd cy a sh n x) H ∧ va_D A (Wd cy a sh n x) ∧ va_S A s.heap H locs) (fun x => fn_X18_one_B379 F sh n r_31 h0 r_41 r_36 x) (z8, r8) ?_ (fun B379 => ?_)
                                  · intro x ls H locs hI hf
                                    obtain ⟨z_68, ez⟩ : ∃ w, w = x := ⟨_, rfl⟩
                                    subst ez
                                    obtain ⟨hl2, hP2, hD2, hS2⟩ := hI
                                    replace hl : lv_has ls 8 [(6, .long r_41), (4, .long r_36), (3, .int r_31), (0, .ref (a h0))] := hl2
                                    replace hP := hP2
                                    replace hD := hD2
                                    replace hS := hS2
                                    clear hl2 hP2 hD2 hS2
                                    replace hf := fn_X18_one_B379_s hf
                                    refine W.eq (g2 := F0 m 379 ls []) rfl ?_
                                    refine lv_iload_n hx hb dX18_one_379 rfl (lv_at hl 2 rfl) ?_
                                    refine lv_bipush (v := 41) hx hb dX18_one_380 (by decide) ?_
                                    refine de_cut (h := 402) (fun (x : St) => []) (fun x ls H locs => lv_has ls 8 [(6, .long r_41), (4, .long r_36), (3, .int r_31), (0, .ref (a h0))] ∧ va_P (dC, dI) vwCl (Wd cy a sh n x) H ∧ va_D A (Wd cy a sh n x) ∧ va_S A s.heap H locs) (fun x => fn_X18_one_B402 F sh n r_31 h0 r_41 r_36 x) (z8, r8) ?_ (fun B402 => ?_)
                                    · intro x ls H locs hI hf
                                      obtain ⟨z_69, ez⟩ : ∃ w, w = x := ⟨_, rfl⟩
                                      subst ez
                                      obtain ⟨hl2, hP2, hD2, hS2⟩ := hI
                                      replace hl : lv_has ls 8 [(6, .long r_41), (4, .long r_36), (3, .int r_31), (0, .ref (a h0))] := hl2
                                      replace hP := hP2
                                      replace hD := hD2
                                      replace hS := hS2
                                      clear hl2 hP2 hD2 hS2
                                      replace hf := fn_X18_one_B402_s hf
                                      refine W.eq (g2 := F0 m 402 ls []) rfl ?_
                                      refine lv_iload_n hx hb dX18_one_402 rfl (lv_at hl 2 rfl) ?_
                                      refine lv_bipush (v := 45) hx hb dX18_one_403 (by decide) ?_
                                      refine lv_icmp_ne (tgt := 420) hx hb dX18_one_405 (by decide) (fun c_70 => ?_) (fun c_70 => ?_)
                                      · skip
                                        rw [if_neg c_70] at hf
                                        refine lv_iload_n hx hb dX18_one_420 rfl (lv_at hl 2 rfl) ?_
                                        refine lv_bipush (v := 46) hx hb dX18_one_421 (by decide) ?_
                                        refine de_cut (h := 443) (fun (x : St) => []) (fun x ls H locs => lv_has ls 8 [(6, .long r_41), (3, .int r_31), (0, .ref (a h0))] ∧ va_P (dC, dI) vwCl (Wd cy a sh n x) H ∧ va_D A (Wd cy a sh n x) ∧ va_S A s.heap H locs) (fun x => fn_X18_one_B443 F sh n r_31 h0 r_41 x) (z8, r8) ?_ (fun B443 => ?_)
                                        · intro x ls H locs hI hf
                                          obtain ⟨z_71, ez⟩ : ∃ w, w = x := ⟨_, rfl⟩
                                          subst ez
                                          obtain ⟨hl2, hP2, hD2, hS2⟩ := hI
                                          replace hl : lv_has ls 8 [(6, .long r_41), (3, .int r_31), (0, .ref (a h0))] := hl2
                                          replace hP := hP2
                                          replace hD := hD2
                                          replace hS := hS2
                                          clear hl2 hP2 hD2 hS2
                                          replace hf := fn_X18_one_B443_s hf
                                          refine W.eq (g2 := F0 m 443 ls []) rfl ?_
                                          refine lv_iload_n hx hb dX18_one_443 rfl (lv_at hl 1 rfl) ?_
                                          refine lv_bipush (v := 51) hx hb dX18_one_444 (by decide) ?_
                                          refine lv_icmp_le (tgt := 457) hx hb dX18_one_446 (by decide) (fun c_72 => ?_) (fun c_72 => ?_)
                                          · skip
                                            rw [if_pos c_72] at hf
                                            obtain ⟨h8, h9⟩ := ret_some hf
                                            rw [h8]
                                            exact W.vret hx hb hr (fun t ht hW => ⟨⟨(), rfl, trivial, by rw [ht]; exact hP, va_K.moved hW.alike hK, hD⟩, hS.F ht⟩) hS.2.2 dX18_one_457
                                          · skip
                                            rw [if_neg c_72] at hf
                                            refine lv_aload_n hx hb dX18_one_449 rfl (lv_at hl 2 rfl) ?_
                                            refine lv_iload_n hx hb dX18_one_450 rfl (lv_at hl 1 rfl) ?_
                                            refine lv_lload hx hb dX18_one_451 (lv_at hl 0 rfl) ?_
                                            refine lv_l2i (v := (r_41 : Int64).toInt32) hx hb dX18_one_453 rfl ?_
                                            obtain ⟨z_73, _u, hfc, hf⟩ := cal_some hf
                                            have hFc := de_free hD hS hA
                                            refine va_callv (va_runV (As := [.int r_31, .int ((r_41 : Int64).toInt32)]) (rest := []) ⟨hx, hb, hml, hown, hts⟩ (de_X18_onVector l dC dI cy a sh n H.size F sk z_71 h0 r_31 ((r_41 : Int64).toInt32) hfc) (cwV 2 hts gX18_one_X18_onVector rfl rfl rfl (by decide +kernel) ⟨Nat.le_of_ble_eq_true rfl, Nat.le_of_ble_eq_true rfl⟩) ⟨fun a U g mk q => by obtain ⟨q0, q1, qP, qK, qD, qN, qS⟩ := q; exact ⟨q0, q1, qP, va_K.moved (u := U) (U := U.calling g mk a) (Vm.Alike.refl U.vm) qK, qD, qN.same rfl, SKs.moved (u := U) (U := U.calling g mk a) (Vm.Alike.refl U.vm) qS⟩, va_recv hK hP (ci := 18) (q0 := h0) rfl (Wd_ob kg_1 sg_1 (by decide)), fun U hU hW => ⟨rfl, by rw [hU], by rw [hU]; exact hP, va_K.moved hW.alike hK, hD.weaken (fun _ _ _ _ => trivial), hN.warm hW, by rw [hU]; exact ((hSK.kept hS.2.1).narrow hFc).moved hW.alike⟩⟩ rfl rfl hl.1 rfl (lv_room (Nat.le_of_ble_eq_true rfl)) dX18_one_454 ⟨Nat.le_of_ble_eq_true rfl, Nat.le_of_ble_eq_true rfl⟩) hS (fun q _ h => hFc q h) hFc (fun u t H_74 locs ht hvm hw hB hz1 hk1 hS2 => ?_)
                                            obtain ⟨hP1, -, hD1⟩ := hB
                                            rw [ht] at hP1
                                            replace hD := hD1.weaken (fun _ _ _ h => hFc _ h)
                                            replace hP := hP1
                                            replace hS := hS2
                                            clear hP1 hD1 hS2 hFc hfc hz1 hk1 hvm ht
                                            obtain ⟨h8, h9⟩ := ret_some hf
                                            rw [h8]
                                            exact W.vret hx hb hr (fun t ht hW => ⟨⟨(), rfl, trivial, by rw [ht]; exact hP, va_K.moved hW.alike hK, hD⟩, hS.F ht⟩) hS.2.2 dX18_one_457
                                        refine lv_icmp_le (tgt := 443) hx hb dX18_one_423 (by decide) (fun c_75 => ?_) (fun c_75 => ?_)
                                        · skip
                                          rw [if_pos c_75] at hf
                                          exact B443 (z_69) ls H locs ⟨lv_sub hl [0, 2, 3] rfl, hP, hD, hS⟩ hf
                                        · skip
                                          rw [if_neg c_75] at hf
                                          refine lv_iload_n hx hb dX18_one_426 rfl (lv_at hl 2 rfl) ?_
                                          refine lv_bipush (v := 52) hx hb dX18_one_427 (by decide) ?_
                                          refine lv_icmp_ge (tgt := 443) hx hb dX18_one_429 (by decide) (fun c_76 => ?_) (fun c_76 => ?_)
                                          · skip
                                            rw [if_pos c_76] at hf
                                            exact B443 (z_69) ls H locs ⟨lv_sub hl [0, 2, 3] rfl, hP, hD, hS⟩ hf
                                          · skip
                                            rw [if_neg c_76] at hf
                                            refine lv_aload_n hx hb dX18_one_432 rfl (lv_at hl 3 rfl) ?_
                                            refine lv_iload_n hx hb dX18_one_433 rfl (lv_at hl 2 rfl) ?_
                                            refine lv_lload hx hb dX18_one_434 (lv_at hl 1 rfl) ?_
                                            refine lv_l2i (v := (r_36 : Int64).toInt32) hx hb dX18_one_436 rfl ?_
                                            obtain ⟨z_77, _u, hfc, hf⟩ := cal_some hf
                                            have hFc := de_free hD hS hA
                                            refine va_callv (va_runV (As := [.int r_31, .int ((r_36 : Int64).toInt32)]) (rest := []) ⟨hx, hb, hml, hown, hts⟩ (de_X18_onResource l dC dI cy a sh n H.size F z_69 h0 r_31 ((r_36 : Int64).toInt32) hfc) (cwV 2 hts gX18_one_X18_onResource rfl rfl rfl (by decide +kernel) ⟨Nat.le_of_ble_eq_true rfl, Nat.le_of_ble_eq_true rfl⟩) ⟨fun a U g mk q => by obtain ⟨q0, q1, qP, qK, qD, qN⟩ := q; exact ⟨q0, q1, qP, va_K.moved (u := U) (U := U.calling g mk a) (Vm.Alike.refl U.vm) qK, qD, qN.same rfl⟩, va_recv hK hP (ci := 18) (q0 := h0) rfl (Wd_ob kg_1 sg_1 (by decide)), fun U hU hW => ⟨rfl, by rw [hU], by rw [hU]; exact hP, va_K.moved hW.alike hK, hD.weaken (fun _ _ _ _ => trivial), hN.warm hW⟩⟩ rfl rfl hl.1 rfl (lv_room (Nat.le_of_ble_eq_true rfl)) dX18_one_437 ⟨Nat.le_of_ble_eq_true rfl, Nat.le_of_ble_eq_true rfl⟩) hS (fun q _ h => hFc q h) hFc (fun u t H_78 locs ht hvm hw hB hz1 hk1 hS2 => ?_)
                                            obtain ⟨hP1, -, hD1⟩ := hB
                                            rw [ht] at hP1
                                            replace hD := hD1.weaken (fun _ _ _ h => hFc _ h)
                                            replace hP := hP1
                                            replace hS := hS2
                                            clear hP1 hD1 hS2 hFc hfc hz1 hk1 hvm ht
                                            refine lv_goto (tgt := 457) hx hb dX18_one_440 (by decide) ?_
                                            obtain ⟨h8, h9⟩ := ret_some hf
                                            rw [h8]
                                            exact W.vret hx hb hr (fun t ht hW => ⟨⟨(), rfl, trivial, by rw [ht]; exact hP, va_K.moved hW.alike hK, hD⟩, hS.F ht⟩) hS.2.2 dX18_one_457
                                      · skip
                                        rw [if_pos c_70] at hf
                                        refine lv_aload_n hx hb dX18_one_408 rfl (lv_at hl 3 rfl) ?_
                                        refine lv_iconst (v := 1) hx hb dX18_one_409 (by decide) ?_
                                        refine lv_aload_n hx hb dX18_one_410 rfl (lv_at hl 3 rfl) ?_
                                        obtain ⟨z_79, r_80, hfc, hf⟩ := cal_some hf
                                        have hFc := de_free hD hS hA
                                        refine va_calll (va_runV (As := []) (rest := [.int 1, .ref (a h0)]) ⟨hx, hb, hml, hown, hts⟩ (de_X18_takeLong l dC dI cy a sh n H.size F z_69 h0 hfc) (cwV 0 hts gX18_one_X18_takeLong rfl rfl rfl (by decide +kernel) ⟨Nat.le_of_ble_eq_true rfl, Nat.le_of_ble_eq_true rfl⟩) ⟨fun a U g mk q => by obtain ⟨q0, q1, qP, qK, qD, qN⟩ := q; exact ⟨q0, q1, qP, va_K.moved (u := U) (U := U.calling g mk a) (Vm.Alike.refl U.vm) qK, qD, qN.same rfl⟩, va_recv hK hP (ci := 18) (q0 := h0) rfl (Wd_ob kg_1 sg_1 (by decide)), fun U hU hW => ⟨rfl, by rw [hU], by rw [hU]; exact hP, va_K.moved hW.alike hK, hD.weaken (fun _ _ _ _ => trivial), hN.warm hW⟩⟩ rfl rfl hl.1 rfl (lv_room (Nat.le_of_ble_eq_true rfl)) dX18_one_411 ⟨Nat.le_of_ble_eq_true rfl, Nat.le_of_ble_eq_true rfl⟩) hS (fun q _ h => hFc q h) hFc (fun rr u t H_81 locs ht hvm hw hB hz1 hk1 hS2 => ?_)
                                        rw [hw]
                                        clear hw
                                        obtain ⟨hP1, -, hD1⟩ := hB
                                        rw [ht] at hP1
                                        replace hD := hD1.weaken (fun _ _ _ h => hFc _ h)
                                        replace hP := hP1
                                        replace hS := hS2
                                        clear hP1 hD1 hS2 hFc hfc hz1 hk1 hvm ht
                                        obtain ⟨z_82, _u, hfc, hf⟩ := cal_some hf
                                        have hFc := de_free hD hS hA
                                        refine va_callv (va_runV (As := [.int 1, .long r_80]) (rest := []) ⟨hx, hb, hml, hown, hts⟩ (de_X18_end l dC dI cy a sh n H_81.size F z_79 h0 1 r_80 hfc) (cwV 2 hts gX18_one_X18_end rfl rfl rfl (by decide +kernel) ⟨Nat.le_of_ble_eq_true rfl, Nat.le_of_ble_eq_true rfl⟩) ⟨fun a U g mk q => by obtain ⟨q0, q1, qP, qK, qD, qN⟩ := q; exact ⟨q0, q1, qP, va_K.moved (u := U) (U := U.calling g mk a) (Vm.Alike.refl U.vm) qK, qD, qN.same rfl⟩, va_recv hK hP (ci := 18) (q0 := h0) rfl (Wd_ob kg_1 sg_1 (by decide)), fun U hU hW => ⟨rfl, by rw [hU], by rw [hU]; exact hP, va_K.moved hW.alike hK, hD.weaken (fun _ _ _ _ => trivial), hN.warm hW⟩⟩ rfl rfl hl.1 rfl (lv_room (Nat.le_of_ble_eq_true rfl)) dX18_one_414 ⟨Nat.le_of_ble_eq_true rfl, Nat.le_of_ble_eq_true rfl⟩) hS (fun q _ h => hFc q h) hFc (fun u t H_83 locs ht hvm hw hB hz1 hk1 hS2 => ?_)
                                        obtain ⟨hP1, -, hD1⟩ := hB
                                        rw [ht] at hP1
                                        replace hD := hD1.weaken (fun _ _ _ h => hFc _ h)
                                        replace hP := hP1
                                        replace hS := hS2
                                        clear hP1 hD1 hS2 hFc hfc hz1 hk1 hvm ht
                                        refine lv_goto (tgt := 457) hx hb dX18_one_417 (by decide) ?_
                                        obtain ⟨h8, h9⟩ := ret_some hf
                                        rw [h8]
                                        exact W.vret hx hb hr (fun t ht hW => ⟨⟨(), rfl, trivial, by rw [ht]; exact hP, va_K.moved hW.alike hK, hD⟩, hS.F ht⟩) hS.2.2 dX18_one_457
                                    refine lv_icmp_le (tgt := 402) hx hb dX18_one_382 (by decide) (fun c_84 => ?_) (fun c_84 => ?_)
                                    · skip
                                      rw [if_pos c_84] at hf
                                      exact B402 (z_68) ls H locs ⟨lv_sub hl [0, 1, 2, 3] rfl, hP, hD, hS⟩ hf
                                    · skip
                                      rw [if_neg c_84] at hf
                                      refine lv_iload_n hx hb dX18_one_385 rfl (lv_at hl 2 rfl) ?_
                                      refine lv_bipush (v := 45) hx hb dX18_one_386 (by decide) ?_
                                      refine lv_icmp_ge (tgt := 402) hx hb dX18_one_388 (by decide) (fun c_85 => ?_) (fun c_85 => ?_)
                                      · skip
                                        rw [if_pos c_85] at hf
                                        exact B402 (z_68) ls H locs ⟨lv_sub hl [0, 1, 2, 3] rfl, hP, hD, hS⟩ hf
                                      · skip
                                        rw [if_neg c_85] at hf
                                        refine lv_aload_n hx hb dX18_one_391 rfl (lv_at hl 3 rfl) ?_
                                        refine lv_iload_n hx hb dX18_one_392 rfl (lv_at hl 2 rfl) ?_
                                        refine lv_bipush (v := 40) hx hb dX18_one_393 (by decide) ?_
                                        refine lv_isub hx hb dX18_one_395 ?_
                                        obtain ⟨z_86, _u, hfc, hf⟩ := cal_some hf
                                        have hFc := de_free hD hS hA
                                        refine va_callv (va_runV (As := [.int (r_31 - 40)]) (rest := []) ⟨hx, hb, hml, hown, hts⟩ (de_X18_convert l dC dI cy a sh n H.size F z_68 h0 (r_31 - 40) hfc) (cwV 1 hts gX18_one_X18_convert rfl rfl rfl (by decide +kernel) ⟨Nat.le_of_ble_eq_true rfl, Nat.le_of_ble_eq_true rfl⟩) ⟨fun a U g mk q => by obtain ⟨q0, q1, qP, qK, qD, qN⟩ := q; exact ⟨q0, q1, qP, va_K.moved (u := U) (U := U.calling g mk a) (Vm.Alike.refl U.vm) qK, qD, qN.same rfl⟩, va_recv hK hP (ci := 18) (q0 := h0) rfl (Wd_ob kg_1 sg_1 (by decide)), fun U hU hW => ⟨rfl, by rw [hU], by rw [hU]; exact hP, va_K.moved hW.alike hK, hD.weaken (fun _ _ _ _ => trivial), hN.warm hW⟩⟩ rfl rfl hl.1 rfl (lv_room (Nat.le_of_ble_eq_true rfl)) dX18_one_396 ⟨Nat.le_of_ble_eq_true rfl, Nat.le_of_ble_eq_true rfl⟩) hS (fun q _ h => hFc q h) hFc (fun u t H_87 locs ht hvm hw hB hz1 hk1 hS2 => ?_)
                                        obtain ⟨hP1, -, hD1⟩ := hB
                                        rw [ht] at hP1
                                        replace hD := hD1.weaken (fun _ _ _ h => hFc _ h)
                                        replace hP := hP1
                                        replace hS := hS2
                                        clear hP1 hD1 hS2 hFc hfc hz1 hk1 hvm ht
                                        refine lv_goto (tgt := 457) hx hb dX18_one_399 (by decide) ?_
                                        obtain ⟨h8, h9⟩ := ret_some hf
                                        rw [h8]
                                        exact W.vret hx hb hr (fun t ht hW => ⟨⟨(), rfl, trivial, by rw [ht]; exact hP, va_K.moved hW.alike hK, hD⟩, hS.F ht⟩) hS.2.2 dX18_one_457
                                  refine lv_icmp_le (tgt := 379) hx hb dX18_one_362 (by decide) (fun c_88 => ?_) (fun c_88 => ?_)
                                  · skip
                                    rw [if_pos c_88] at hf
                                    exact B379 (z_40) ls H_43 locs ⟨lv_sub hl [0, 1, 2, 5] rfl, hP, hD, hS⟩ hf
                                  · skip
                                    rw [if_neg c_88] at hf
                                    refine lv_iload_n hx hb dX18_one_365 rfl (lv_at hl 2 rfl) ?_
                                    refine lv_bipush (v := 42) hx hb dX18_one_366 (by decide) ?_
                                    refine lv_icmp_ge (tgt := 379) hx hb dX18_one_368 (by decide) (fun c_89 => ?_) (fun c_89 => ?_)
                                    · skip
                                      rw [if_pos c_89] at hf
                                      exact B379 (z_40) ls H_43 locs ⟨lv_sub hl [0, 1, 2, 5] rfl, hP, hD, hS⟩ hf
                                    · skip
                                      rw [if_neg c_89] at hf
                                      refine lv_aload_n hx hb dX18_one_371 rfl (lv_at hl 5 rfl) ?_
                                      refine lv_iload_n hx hb dX18_one_372 rfl (lv_at hl 2 rfl) ?_
                                      obtain ⟨z_90, _u, hfc, hf⟩ := cal_some hf
                                      have hFc := de_free hD hS hA
                                      refine va_callv (va_runV (As := [.int r_31]) (rest := []) ⟨hx, hb, hml, hown, hts⟩ (de_X18_reckon l dC dI cy a sh n H_43.size F z_40 h0 r_31 hfc) (cwV 1 hts gX18_one_X18_reckon rfl rfl rfl (by decide +kernel) ⟨Nat.le_of_ble_eq_true rfl, Nat.le_of_ble_eq_true rfl⟩) ⟨fun a U g mk q => by obtain ⟨q0, q1, qP, qK, qD, qN⟩ := q; exact ⟨q0, q1, qP, va_K.moved (u := U) (U := U.calling g mk a) (Vm.Alike.refl U.vm) qK, qD, qN.same rfl⟩, va_recv hK hP (ci := 18) (q0 := h0) rfl (Wd_ob kg_1 sg_1 (by decide)), fun U hU hW => ⟨rfl, by rw [hU], by rw [hU]; exact hP, va_K.moved hW.alike hK, hD.weaken (fun _ _ _ _ => trivial), hN.warm hW⟩⟩ rfl rfl hl.1 rfl (lv_room (Nat.le_of_ble_eq_true rfl)) dX18_one_373 ⟨Nat.le_of_ble_eq_true rfl, Nat.le_of_ble_eq_true rfl⟩) hS (fun q _ h => hFc q h) hFc (fun u t H_91 locs ht hvm hw hB hz1 hk1 hS2 => ?_)
                                      obtain ⟨hP1, -, hD1⟩ := hB
                                      rw [ht] at hP1
                                      replace hD := hD1.weaken (fun _ _ _ h => hFc _ h)
                                      replace hP := hP1
                                      replace hS := hS2
                                      clear hP1 hD1 hS2 hFc hfc hz1 hk1 hvm ht
                                      refine lv_goto (tgt := 457) hx hb dX18_one_376 (by decide) ?_
                                      obtain ⟨h8, h9⟩ := ret_some hf
                                      rw [h8]
                                      exact W.vret hx hb hr (fun t ht hW => ⟨⟨(), rfl, trivial, by rw [ht]; exact hP, va_K.moved hW.alike hK, hD⟩, hS.F ht⟩) hS.2.2 dX18_one_457
                              · skip
                                rw [if_pos c_64] at hf
                                refine lv_aload_n hx hb dX18_one_329 rfl (lv_at hl 5 rfl) ?_
                                refine lv_iconst (v := 1) hx hb dX18_one_330 (by decide) ?_
                                refine lv_lconst (v := 0) hx hb dX18_one_331 (by decide) ?_
                                refine lv_lconst (v := 1) hx hb dX18_one_332 (by decide) ?_
                                refine lv_aload_n hx hb dX18_one_333 rfl (lv_at hl 5 rfl) ?_
                                obtain ⟨k_92, ek_92, hf⟩ := lnk_some hf
                                refine va_get (D := (dC, dI)) (ci := 18) (v := .ref (a k_92)) (C := RX18) (T := TX18) (N := 78) hx hb hts iwd_X18_one_X18 hown hK hP h0 (Wd_ob kg_1 sg_1 (by decide)) rfl 15 (by decide) (hts _ md_X18_one_9) (fun _ h9 => h9) (fl_q rfl ek_92) dX18_one_334 ?_
                                obtain ⟨g_93, hf⟩ := grd_some hf
                                obtain ⟨kg_93, sg_93⟩ := okO_at g_93
                                obtain ⟨k_94, ek_94, hf⟩ := lnk_some hf
                                refine va_getN (D := (dC, dI)) (ci := 15) (v := .ref (a k_94)) (C := RX15) (T := TX15) (N := 6) hx hb hts iwd_X18_one_X15 hown hK hP k_92 (Wd_ob kg_93 sg_93 (by decide)) rfl 2 (by decide) (va_Nw.use rfl (NK_f_X18_77 hN)) (fun _ h9 => h9) (fl_q rfl ek_94) dX18_one_337 ?_
                                refine lv_aload_n hx hb dX18_one_340 rfl (lv_at hl 5 rfl) ?_
                                refine lv_iconst (v := 1) hx hb dX18_one_341 (by decide) ?_
                                obtain ⟨z_95, r_96, hfc, hf⟩ := cal_some hf
                                have hFc := de_free hD hS hA
                                refine va_calli (va_runV (As := [.int 1]) (rest := [.ref (a k_94), .long 1, .long 0, .int 1, .ref (a h0)]) ⟨hx, hb, hml, hown, hts⟩ (de_X18_take l dC dI cy a sh n H_43.size F z_40 h0 1 hfc) (cwV 1 hts gX18_one_X18_take rfl rfl rfl (by decide +kernel) ⟨Nat.le_of_ble_eq_true rfl, Nat.le_of_ble_eq_true rfl⟩) ⟨fun a U g mk q => by obtain ⟨q0, q1, qP, qK, qD, qN⟩ := q; exact ⟨q0, q1, qP, va_K.moved (u := U) (U := U.calling g mk a) (Vm.Alike.refl U.vm) qK, qD, qN.same rfl⟩, va_recv hK hP (ci := 18) (q0 := h0) rfl (Wd_ob kg_1 sg_1 (by decide)), fun U hU hW => ⟨rfl, by rw [hU], by rw [hU]; exact hP, va_K.moved hW.alike hK, hD.weaken (fun _ _ _ _ => trivial), hN.warm hW⟩⟩ rfl rfl hl.1 rfl (lv_room (Nat.le_of_ble_eq_true rfl)) dX18_one_342 ⟨Nat.le_of_ble_eq_true rfl, Nat.le_of_ble_eq_true rfl⟩) hS (fun q _ h => hFc q h) hFc (fun rr u t H_97 locs ht hvm hw hB hz1 hk1 hS2 => ?_)
                                rw [hw]
                                clear hw
                                obtain ⟨hP1, -, hD1⟩ := hB
                                rw [ht] at hP1
                                replace hD := hD1.weaken (fun _ _ _ h => hFc _ h)
                                replace hP := hP1
                                replace hS := hS2
                                clear hP1 hD1 hS2 hFc hfc hz1 hk1 hvm ht
                                obtain ⟨g_98, hf⟩ := grd_some hf
                                obtain ⟨kg_98, sg_98, ig_98⟩ := okA_at g_98
                                refine va_lald hx hb hK hP k_94 2 (Wd_al kg_98 sg_98) rfl ig_98 dX18_one_345 ?_
                                refine lv_lsub hx hb dX18_one_346 ?_
                                obtain ⟨z_99, _u, hfc, hf⟩ := cal_some hf
                                have hFc := de_free hD hS hA
                                refine va_callv (va_runV (As := [.int 1, .long 0, .long (1 - (z_95.2.1 k_94 r_96.toNatClampNeg))]) (rest := []) ⟨hx, hb, hml, hown, hts⟩ (de_X18_make l dC dI cy a sh n H_97.size F z_95 h0 1 0 (1 - (z_95.2.1 k_94 r_96.toNatClampNeg)) hfc) (cwV 3 hts gX18_one_X18_make rfl rfl rfl (by decide +kernel) ⟨Nat.le_of_ble_eq_true rfl, Nat.le_of_ble_eq_true rfl⟩) ⟨fun a U g mk q => by obtain ⟨q0, q1, qP, qK, qD, qN⟩ := q; exact ⟨q0, q1, qP, va_K.moved (u := U) (U := U.calling g mk a) (Vm.Alike.refl U.vm) qK, qD, qN.same rfl⟩, va_recv hK hP (ci := 18) (q0 := h0) rfl (Wd_ob kg_1 sg_1 (by decide)), fun U hU hW => ⟨rfl, by rw [hU], by rw [hU]; exact hP, va_K.moved hW.alike hK, hD.weaken (fun _ _ _ _ => trivial), hN.warm hW⟩⟩ rfl rfl hl.1 rfl (lv_room (Nat.le_of_ble_eq_true rfl)) dX18_one_347 ⟨Nat.le_of_ble_eq_true rfl, Nat.le_of_ble_eq_true rfl⟩) hS (fun q _ h => hFc q h) hFc (fun u t H_100 locs ht hvm hw hB hz1 hk1 hS2 => ?_)
                                obtain ⟨hP1, -, hD1⟩ := hB
                                rw [ht] at hP1
                                replace hD := hD1.weaken (fun _ _ _ h => hFc _ h)
                                replace hP := hP1
                                replace hS := hS2
                                clear hP1 hD1 hS2 hFc hfc hz1 hk1 hvm ht
                                refine lv_goto (tgt := 457) hx hb dX18_one_350 (by decide) ?_
                                obtain ⟨h8, h9⟩ := ret_some hf
                                rw [h8]
                                exact W.vret hx hb hr (fun t ht hW => ⟨⟨(), rfl, trivial, by rw [ht]; exact hP, va_K.moved hW.alike hK, hD⟩, hS.F ht⟩) hS.2.2 dX18_one_457
                            · skip
                              rw [if_pos c_63] at hf
                              exact B305 (z_40) ls H_43 locs ⟨lv_sub hl [2, 5] rfl, hP, hD, hS⟩ hf
                        · skip
                          rw [if_pos c_55] at hf
                          refine lv_aload_n hx hb dX18_one_283 rfl (lv_at hl 5 rfl) ?_
                          refine lv_lload hx hb dX18_one_284 (lv_at hl 1 rfl) ?_
                          refine lv_l2i (v := (r_36 : Int64).toInt32) hx hb dX18_one_286 rfl ?_
                          obtain ⟨z_101, _u, hfc, hf⟩ := cal_some hf
                          have hFc := de_free hD hS hA
                          refine va_callv (va_runV (As := [.int ((r_36 : Int64).toInt32)]) (rest := []) ⟨hx, hb, hml, hown, hts⟩ (de_X18_enterCall l dC dI cy a sh n H_43.size F z_40 h0 ((r_36 : Int64).toInt32) hfc) (cwV 1 hts gX18_one_X18_enterCall rfl rfl rfl (by decide +kernel) ⟨Nat.le_of_ble_eq_true rfl, Nat.le_of_ble_eq_true rfl⟩) ⟨fun a U g mk q => by obtain ⟨q0, q1, qP, qK, qD, qN⟩ := q; exact ⟨q0, q1, qP, va_K.moved (u := U) (U := U.calling g mk a) (Vm.Alike.refl U.vm) qK, qD, qN.same rfl⟩, va_recv hK hP (ci := 18) (q0 := h0) rfl (Wd_ob kg_1 sg_1 (by decide)), fun U hU hW => ⟨rfl, by rw [hU], by rw [hU]; exact hP, va_K.moved hW.alike hK, hD.weaken (fun _ _ _ _ => trivial), hN.warm hW⟩⟩ rfl rfl hl.1 rfl (lv_room (Nat.le_of_ble_eq_true rfl)) dX18_one_287 ⟨Nat.le_of_ble_eq_true rfl, Nat.le_of_ble_eq_true rfl⟩) hS (fun q _ h => hFc q h) hFc (fun u t H_102 locs ht hvm hw hB hz1 hk1 hS2 => ?_)
                          obtain ⟨hP1, -, hD1⟩ := hB
                          rw [ht] at hP1
                          replace hD := hD1.weaken (fun _ _ _ h => hFc _ h)
                          replace hP := hP1
                          replace hS := hS2
                          clear hP1 hD1 hS2 hFc hfc hz1 hk1 hvm ht
                          refine lv_goto (tgt := 457) hx hb dX18_one_290 (by decide) ?_
                          obtain ⟨h8, h9⟩ := ret_some hf
                          rw [h8]
                          exact W.vret hx hb hr (fun t ht hW => ⟨⟨(), rfl, trivial, by rw [ht]; exact hP, va_K.moved hW.alike hK, hD⟩, hS.F ht⟩) hS.2.2 dX18_one_457
                      · skip
                        rw [if_pos c_54] at hf
                        refine lv_aload_n hx hb dX18_one_267 rfl (lv_at hl 5 rfl) ?_
                        refine lv_lload hx hb dX18_one_268 (lv_at hl 1 rfl) ?_
                        refine lv_l2i (v := (r_36 : Int64).toInt32) hx hb dX18_one_270 rfl ?_
                        obtain ⟨z_103, _u, hfc, hf⟩ := cal_some hf
                        have hFc := de_free hD hS hA
                        refine va_callv (va_runV (As := [.int ((r_36 : Int64).toInt32)]) (rest := []) ⟨hx, hb, hml, hown, hts⟩ (de_X18_unpack l dC dI cy a sh n H_43.size F z_40 h0 ((r_36 : Int64).toInt32) hfc) (cwV 1 hts gX18_one_X18_unpack rfl rfl rfl (by decide +kernel) ⟨Nat.le_of_ble_eq_true rfl, Nat.le_of_ble_eq_true rfl⟩) ⟨fun a U g mk q => by obtain ⟨q0, q1, qP, qK, qD, qN⟩ := q; exact ⟨q0, q1, qP, va_K.moved (u := U) (U := U.calling g mk a) (Vm.Alike.refl U.vm) qK, qD, qN.same rfl⟩, va_recv hK hP (ci := 18) (q0 := h0) rfl (Wd_ob kg_1 sg_1 (by decide)), fun U hU hW => ⟨rfl, by rw [hU], by rw [hU]; exact hP, va_K.moved hW.alike hK, hD.weaken (fun _ _ _ _ => trivial), hN.warm hW⟩⟩ rfl rfl hl.1 rfl (lv_room (Nat.le_of_ble_eq_true rfl)) dX18_one_271 ⟨Nat.le_of_ble_eq_true rfl, Nat.le_of_ble_eq_true rfl⟩) hS (fun q _ h => hFc q h) hFc (fun u t H_104 locs ht hvm hw hB hz1 hk1 hS2 => ?_)
                        obtain ⟨hP1, -, hD1⟩ := hB
                        rw [ht] at hP1
                        replace hD := hD1.weaken (fun _ _ _ h => hFc _ h)
                        replace hP := hP1
                        replace hS := hS2
                        clear hP1 hD1 hS2 hFc hfc hz1 hk1 hvm ht
                        refine lv_goto (tgt := 457) hx hb dX18_one_274 (by decide) ?_
                        obtain ⟨h8, h9⟩ := ret_some hf
                        rw [h8]
                        exact W.vret hx hb hr (fun t ht hW => ⟨⟨(), rfl, trivial, by rw [ht]; exact hP, va_K.moved hW.alike hK, hD⟩, hS.F ht⟩) hS.2.2 dX18_one_457
                    · skip
                      rw [if_pos c_53] at hf
                      refine lv_aload_n hx hb dX18_one_251 rfl (lv_at hl 5 rfl) ?_
                      refine lv_lload hx hb dX18_one_252 (lv_at hl 1 rfl) ?_
                      refine lv_l2i (v := (r_36 : Int64).toInt32) hx hb dX18_one_254 rfl ?_
                      obtain ⟨z_105, _u, hfc, hf⟩ := cal_some hf
                      have hFc := de_free hD hS hA
                      refine va_callv (va_runV (As := [.int ((r_36 : Int64).toInt32)]) (rest := []) ⟨hx, hb, hml, hown, hts⟩ (de_X18_pack l dC dI cy a sh n H_43.size F z_40 h0 ((r_36 : Int64).toInt32) hfc) (cwV 1 hts gX18_one_X18_pack rfl rfl rfl (by decide +kernel) ⟨Nat.le_of_ble_eq_true rfl, Nat.le_of_ble_eq_true rfl⟩) ⟨fun a U g mk q => by obtain ⟨q0, q1, qP, qK, qD, qN⟩ := q; exact ⟨q0, q1, qP, va_K.moved (u := U) (U := U.calling g mk a) (Vm.Alike.refl U.vm) qK, qD, qN.same rfl⟩, va_recv hK hP (ci := 18) (q0 := h0) rfl (Wd_ob kg_1 sg_1 (by decide)), fun U hU hW => ⟨rfl, by rw [hU], by rw [hU]; exact hP, va_K.moved hW.alike hK, hD.weaken (fun _ _ _ _ => trivial), hN.warm hW⟩⟩ rfl rfl hl.1 rfl (lv_room (Nat.le_of_ble_eq_true rfl)) dX18_one_255 ⟨Nat.le_of_ble_eq_true rfl, Nat.le_of_ble_eq_true rfl⟩) hS (fun q _ h => hFc q h) hFc (fun u t H_106 locs ht hvm hw hB hz1 hk1 hS2 => ?_)
                      obtain ⟨hP1, -, hD1⟩ := hB
                      rw [ht] at hP1
                      replace hD := hD1.weaken (fun _ _ _ h => hFc _ h)
                      replace hP := hP1
                      replace hS := hS2
                      clear hP1 hD1 hS2 hFc hfc hz1 hk1 hvm ht
                      refine lv_goto (tgt := 457) hx hb dX18_one_258 (by decide) ?_
                      obtain ⟨h8, h9⟩ := ret_some hf
                      rw [h8]
                      exact W.vret hx hb hr (fun t ht hW => ⟨⟨(), rfl, trivial, by rw [ht]; exact hP, va_K.moved hW.alike hK, hD⟩, hS.F ht⟩) hS.2.2 dX18_one_457
                  · skip
                    rw [if_neg c_52] at hf
                    refine lv_aload_n hx hb dX18_one_234 rfl (lv_at hl 5 rfl) ?_
                    refine lv_iload_n hx hb dX18_one_235 rfl (lv_at hl 2 rfl) ?_
                    refine lv_lload hx hb dX18_one_236 (lv_at hl 0 rfl) ?_
                    refine lv_l2i (v := (r_41 : Int64).toInt32) hx hb dX18_one_238 rfl ?_
                    obtain ⟨z_107, _u, hfc, hf⟩ := cal_some hf
                    have hFc := de_free hD hS hA
                    refine va_callv (va_runV (As := [.int r_31, .int ((r_41 : Int64).toInt32)]) (rest := []) ⟨hx, hb, hml, hown, hts⟩ (de_X18_onReference l dC dI cy a sh n H_43.size F z_40 h0 r_31 ((r_41 : Int64).toInt32) hfc) (cwV 2 hts gX18_one_X18_onReference rfl rfl rfl (by decide +kernel) ⟨Nat.le_of_ble_eq_true rfl, Nat.le_of_ble_eq_true rfl⟩) ⟨fun a U g mk q => by obtain ⟨q0, q1, qP, qK, qD, qN⟩ := q; exact ⟨q0, q1, qP, va_K.moved (u := U) (U := U.calling g mk a) (Vm.Alike.refl U.vm) qK, qD, qN.same rfl⟩, va_recv hK hP (ci := 18) (q0 := h0) rfl (Wd_ob kg_1 sg_1 (by decide)), fun U hU hW => ⟨rfl, by rw [hU], by rw [hU]; exact hP, va_K.moved hW.alike hK, hD.weaken (fun _ _ _ _ => trivial), hN.warm hW⟩⟩ rfl rfl hl.1 rfl (lv_room (Nat.le_of_ble_eq_true rfl)) dX18_one_239 ⟨Nat.le_of_ble_eq_true rfl, Nat.le_of_ble_eq_true rfl⟩) hS (fun q _ h => hFc q h) hFc (fun u t H_108 locs ht hvm hw hB hz1 hk1 hS2 => ?_)
                    obtain ⟨hP1, -, hD1⟩ := hB
                    rw [ht] at hP1
                    replace hD := hD1.weaken (fun _ _ _ h => hFc _ h)
                    replace hP := hP1
                    replace hS := hS2
                    clear hP1 hD1 hS2 hFc hfc hz1 hk1 hvm ht
                    refine lv_goto (tgt := 457) hx hb dX18_one_242 (by decide) ?_
                    obtain ⟨h8, h9⟩ := ret_some hf
                    rw [h8]
                    exact W.vret hx hb hr (fun t ht hW => ⟨⟨(), rfl, trivial, by rw [ht]; exact hP, va_K.moved hW.alike hK, hD⟩, hS.F ht⟩) hS.2.2 dX18_one_457
                · skip
                  rw [if_neg c_51] at hf
                  refine lv_aload_n hx hb dX18_one_217 rfl (lv_at hl 5 rfl) ?_
                  refine lv_iload_n hx hb dX18_one_218 rfl (lv_at hl 2 rfl) ?_
                  refine lv_lload hx hb dX18_one_219 (lv_at hl 1 rfl) ?_
                  refine lv_l2i (v := (r_36 : Int64).toInt32) hx hb dX18_one_221 rfl ?_
                  obtain ⟨z_109, _u, hfc, hf⟩ := cal_some hf
                  have hFc := de_free hD hS hA
                  refine va_callv (va_runV (As := [.int r_31, .int ((r_36 : Int64).toInt32)]) (rest := []) ⟨hx, hb, hml, hown, hts⟩ (de_X18_onLocal l dC dI cy a sh n H_43.size F z_40 h0 r_31 ((r_36 : Int64).toInt32) hfc) (cwV 2 hts gX18_one_X18_onLocal rfl rfl rfl (by decide +kernel) ⟨Nat.le_of_ble_eq_true rfl, Nat.le_of_ble_eq_true rfl⟩) ⟨fun a U g mk q => by obtain ⟨q0, q1, qP, qK, qD, qN⟩ := q; exact ⟨q0, q1, qP, va_K.moved (u := U) (U := U.calling g mk a) (Vm.Alike.refl U.vm) qK, qD, qN.same rfl⟩, va_recv hK hP (ci := 18) (q0 := h0) rfl (Wd_ob kg_1 sg_1 (by decide)), fun U hU hW => ⟨rfl, by rw [hU], by rw [hU]; exact hP, va_K.moved hW.alike hK, hD.weaken (fun _ _ _ _ => trivial), hN.warm hW⟩⟩ rfl rfl hl.1 rfl (lv_room (Nat.le_of_ble_eq_true rfl)) dX18_one_222 ⟨Nat.le_of_ble_eq_true rfl, Nat.le_of_ble_eq_true rfl⟩) hS (fun q _ h => hFc q h) hFc (fun u t H_110 locs ht hvm hw hB hz1 hk1 hS2 => ?_)
                  obtain ⟨hP1, -, hD1⟩ := hB
                  rw [ht] at hP1
                  replace hD := hD1.weaken (fun _ _ _ h => hFc _ h)
                  replace hP := hP1
                  replace hS := hS2
                  clear hP1 hD1 hS2 hFc hfc hz1 hk1 hvm ht
                  refine lv_goto (tgt := 457) hx hb dX18_one_225 (by decide) ?_
                  obtain ⟨h8, h9⟩ := ret_some hf
                  rw [h8]
                  exact W.vret hx hb hr (fun t ht hW => ⟨⟨(), rfl, trivial, by rw [ht]; exact hP, va_K.moved hW.alike hK, hD⟩, hS.F ht⟩) hS.2.2 dX18_one_457
              · skip
                rw [if_pos c_50] at hf
                refine lv_aload_n hx hb dX18_one_199 rfl (lv_at hl 5 rfl) ?_
                refine lv_iload_n hx hb dX18_one_200 rfl (lv_at hl 2 rfl) ?_
                refine lv_lload hx hb dX18_one_201 (lv_at hl 1 rfl) ?_
                refine lv_lload hx hb dX18_one_203 (lv_at hl 0 rfl) ?_
                obtain ⟨z_111, _u, hfc, hf⟩ := cal_some hf
                have hFc := de_free hD hS hA
                refine va_callv (va_runV (As := [.int r_31, .long r_36, .long r_41]) (rest := []) ⟨hx, hb, hml, hown, hts⟩ (de_X18_constant l dC dI cy a sh n H_43.size F z_40 h0 r_31 r_36 r_41 hfc) (cwV 3 hts gX18_one_X18_constant rfl rfl rfl (by decide +kernel) ⟨Nat.le_of_ble_eq_true rfl, Nat.le_of_ble_eq_true rfl⟩) ⟨fun a U g mk q => by obtain ⟨q0, q1, qP, qK, qD, qN⟩ := q; exact ⟨q0, q1, qP, va_K.moved (u := U) (U := U.calling g mk a) (Vm.Alike.refl U.vm) qK, qD, qN.same rfl⟩, va_recv hK hP (ci := 18) (q0 := h0) rfl (Wd_ob kg_1 sg_1 (by decide)), fun U hU hW => ⟨rfl, by rw [hU], by rw [hU]; exact hP, va_K.moved hW.alike hK, hD.weaken (fun _ _ _ _ => trivial), hN.warm hW⟩⟩ rfl rfl hl.1 rfl (lv_room (Nat.le_of_ble_eq_true rfl)) dX18_one_205 ⟨Nat.le_of_ble_eq_true rfl, Nat.le_of_ble_eq_true rfl⟩) hS (fun q _ h => hFc q h) hFc (fun u t H_112 locs ht hvm hw hB hz1 hk1 hS2 => ?_)
                obtain ⟨hP1, -, hD1⟩ := hB
                rw [ht] at hP1
                replace hD := hD1.weaken (fun _ _ _ h => hFc _ h)
                replace hP := hP1
                replace hS := hS2
                clear hP1 hD1 hS2 hFc hfc hz1 hk1 hvm ht
                refine lv_goto (tgt := 457) hx hb dX18_one_208 (by decide) ?_
                obtain ⟨h8, h9⟩ := ret_some hf
                rw [h8]
                exact W.vret hx hb hr (fun t ht hW => ⟨⟨(), rfl, trivial, by rw [ht]; exact hP, va_K.moved hW.alike hK, hD⟩, hS.F ht⟩) hS.2.2 dX18_one_457
          · skip
            rw [if_neg c_46] at hf
            refine lv_aload_n hx hb dX18_one_176 rfl (lv_at hl 5 rfl) ?_
            refine lv_iload_n hx hb dX18_one_177 rfl (lv_at hl 2 rfl) ?_
            refine lv_lload hx hb dX18_one_178 (lv_at hl 1 rfl) ?_
            refine lv_l2i (v := (r_36 : Int64).toInt32) hx hb dX18_one_180 rfl ?_
            obtain ⟨z_113, _u, hfc, hf⟩ := cal_some hf
            have hFc := de_free hD hS hA
            refine va_callv (va_runV (As := [.int r_31, .int ((r_36 : Int64).toInt32)]) (rest := []) ⟨hx, hb, hml, hown, hts⟩ (de_X18_branch l dC dI cy a sh n H_43.size F z_40 h0 r_31 ((r_36 : Int64).toInt32) hfc) (cwV 2 hts gX18_one_X18_branch rfl rfl rfl (by decide +kernel) ⟨Nat.le_of_ble_eq_true rfl, Nat.le_of_ble_eq_true rfl⟩) ⟨fun a U g mk q => by obtain ⟨q0, q1, qP, qK, qD, qN⟩ := q; exact ⟨q0, q1, qP, va_K.moved (u := U) (U := U.calling g mk a) (Vm.Alike.refl U.vm) qK, qD, qN.same rfl⟩, va_recv hK hP (ci := 18) (q0 := h0) rfl (Wd_ob kg_1 sg_1 (by decide)), fun U hU hW => ⟨rfl, by rw [hU], by rw [hU]; exact hP, va_K.moved hW.alike hK, hD.weaken (fun _ _ _ _ => trivial), hN.warm hW⟩⟩ rfl rfl hl.1 rfl (lv_room (Nat.le_of_ble_eq_true rfl)) dX18_one_181 ⟨Nat.le_of_ble_eq_true rfl, Nat.le_of_ble_eq_true rfl⟩) hS (fun q _ h => hFc q h) hFc (fun u t H_114 locs ht hvm hw hB hz1 hk1 hS2 => ?_)
            obtain ⟨hP1, -, hD1⟩ := hB
            rw [ht] at hP1
            replace hD := hD1.weaken (fun _ _ _ h => hFc _ h)
            replace hP := hP1
            replace hS := hS2
            clear hP1 hD1 hS2 hFc hfc hz1 hk1 hvm ht
            refine lv_goto (tgt := 457) hx hb dX18_one_184 (by decide) ?_
            obtain ⟨h8, h9⟩ := ret_some hf
            rw [h8]
            exact W.vret hx hb hr (fun t ht hW => ⟨⟨(), rfl, trivial, by rw [ht]; exact hP, va_K.moved hW.alike hK, hD⟩, hS.F ht⟩) hS.2.2 dX18_one_457
        · skip
          rw [if_pos c_45] at hf
          refine lv_aload_n hx hb dX18_one_164 rfl (lv_at hl 5 rfl) ?_
          obtain ⟨z_115, _u, hfc, hf⟩ := cal_some hf
          have hFc := de_free hD hS hA
          refine va_callv (va_runV (As := []) (rest := []) ⟨hx, hb, hml, hown, hts⟩ (de_X18_giveBack l dC dI cy a sh n H_43.size F z_40 h0 hfc) (cwV 0 hts gX18_one_X18_giveBack rfl rfl rfl (by decide +kernel) ⟨Nat.le_of_ble_eq_true rfl, Nat.le_of_ble_eq_true rfl⟩) ⟨fun a U g mk q => by obtain ⟨q0, q1, qP, qK, qD, qN⟩ := q; exact ⟨q0, q1, qP, va_K.moved (u := U) (U := U.calling g mk a) (Vm.Alike.refl U.vm) qK, qD, qN.same rfl⟩, va_recv hK hP (ci := 18) (q0 := h0) rfl (Wd_ob kg_1 sg_1 (by decide)), fun U hU hW => ⟨rfl, by rw [hU], by rw [hU]; exact hP, va_K.moved hW.alike hK, hD.weaken (fun _ _ _ _ => trivial), hN.warm hW⟩⟩ rfl rfl hl.1 rfl (lv_room (Nat.le_of_ble_eq_true rfl)) dX18_one_165 ⟨Nat.le_of_ble_eq_true rfl, Nat.le_of_ble_eq_true rfl⟩) hS (fun q _ h => hFc q h) hFc (fun u t H_116 locs ht hvm hw hB hz1 hk1 hS2 => ?_)
          obtain ⟨hP1, -, hD1⟩ := hB
          rw [ht] at hP1
          replace hD := hD1.weaken (fun _ _ _ h => hFc _ h)
          replace hP := hP1
          replace hS := hS2
          clear hP1 hD1 hS2 hFc hfc hz1 hk1 hvm ht
          refine lv_goto (tgt := 457) hx hb dX18_one_168 (by decide) ?_
          obtain ⟨h8, h9⟩ := ret_some hf
          rw [h8]
          exact W.vret hx hb hr (fun t ht hW => ⟨⟨(), rfl, trivial, by rw [ht]; exact hP, va_K.moved hW.alike hK, hD⟩, hS.F ht⟩) hS.2.2 dX18_one_457
      · skip
        rw [if_pos c_44] at hf
        refine lv_aload_n hx hb dX18_one_121 rfl (lv_at hl 5 rfl) ?_
        refine va_get (D := (dC, dI)) (ci := 18) (v := .int (z_40.1 h0 45)) (C := RX18) (T := TX18) (N := 78) hx hb hts iwd_X18_one_X18 hown hK hP h0 (Wd_ob kg_1 sg_1 (by decide)) rfl 45 (by decide) (hts _ md_X18_one_7) (fun _ h9 => h9) (fl_at (t := 0) rfl) dX18_one_122 ?_
        refine lv_aload_n hx hb dX18_one_125 rfl (lv_at hl 5 rfl) ?_
        obtain ⟨k_117, ek_117, hf⟩ := lnk_some hf
        refine va_get (D := (dC, dI)) (ci := 18) (v := .ref (a k_117)) (C := RX18) (T := TX18) (N := 78) hx hb hts iwd_X18_one_X18 hown hK hP h0 (Wd_ob kg_1 sg_1 (by decide)) rfl 40 (by decide) (hts _ md_X18_one_8) (fun _ h9 => h9) (fl_q rfl ek_117) dX18_one_126 ?_
        refine lv_aload_n hx hb dX18_one_129 rfl (lv_at hl 5 rfl) ?_
        refine va_get (D := (dC, dI)) (ci := 18) (v := .int (z_40.1 h0 36)) (C := RX18) (T := TX18) (N := 78) hx hb hts iwd_X18_one_X18 hown hK hP h0 (Wd_ob kg_1 sg_1 (by decide)) rfl 36 (by decide) (hts _ md_X18_one_2) (fun _ h9 => h9) (fl_at (t := 0) rfl) dX18_one_130 ?_
        refine lv_iconst (v := 1) hx hb dX18_one_133 (by decide) ?_
        refine lv_isub hx hb dX18_one_134 ?_
        obtain ⟨g_118, hf⟩ := grd_some hf
        obtain ⟨kg_118, sg_118, ig_118⟩ := okA_at g_118
        refine va_iald hx hb hK hP k_117 1 (Wd_ai kg_118 sg_118) rfl ig_118 dX18_one_135 ?_
        refine lv_icmp_ne (tgt := 146) hx hb dX18_one_136 (by decide) (fun c_119 => ?_) (fun c_119 => ?_)
        · skip
          rw [if_neg c_119] at hf
          refine lv_aload_n hx hb dX18_one_146 rfl (lv_at hl 5 rfl) ?_
          refine lv_dup hx hb dX18_one_147 rfl ?_
          refine va_get (D := (dC, dI)) (ci := 18) (v := .int (z_40.1 h0 45)) (C := RX18) (T := TX18) (N := 78) hx hb hts iwd_X18_one_X18 hown hK hP h0 (Wd_ob kg_1 sg_1 (by decide)) rfl 45 (by decide) (hts _ md_X18_one_7) (fun _ h9 => h9) (fl_at (t := 0) rfl) dX18_one_148 ?_
          refine lv_iconst (v := 1) hx hb dX18_one_151 (by decide) ?_
          refine lv_isub hx hb dX18_one_152 ?_
          refine va_put (D := (dC, dI)) (ci := 18) (v := .int ((z_40.1 h0 45) - 1)) (ty := .int) (C := RX18) (T := TX18) (N := 78) hx hb hts iwd_X18_one_X18 tyX18 tyX18_ok nmX18 hown hK hP hD hS h0 (Wd_ob kg_1 sg_1 (by decide)) rfl 45 (by decide) (hts _ md_X18_one_7) (fun _ h9 => h9) rfl (by decide +kernel) rfl rfl (by rw [fl_len]; decide) dX18_one_153 (fun H_120 locs hP2 hD2 hS2 => ?_)
          rw [Wd_si sg_1 (by decide) rfl] at hP2 hD2
          obtain ⟨z_121, ez_121⟩ : ∃ w, w = si z_40 h0 45 ((z_40.1 h0 45) - 1) := ⟨_, rfl⟩
          rw [← ez_121] at hP2 hD2
          replace hf := lt_at ez_121 hf
          clear ez_121
          replace hP := hP2
          replace hD := hD2
          replace hS := hS2
          clear hP2 hD2 hS2
          refine lv_goto (tgt := 457) hx hb dX18_one_156 (by decide) ?_
          obtain ⟨h8, h9⟩ := ret_some hf
          rw [h8]
          exact W.vret hx hb hr (fun t ht hW => ⟨⟨(), rfl, trivial, by rw [ht]; exact hP, va_K.moved hW.alike hK, hD⟩, hS.F ht⟩) hS.2.2 dX18_one_457
        · skip
          rw [if_pos c_119] at hf
          refine lv_aload_n hx hb dX18_one_139 rfl (lv_at hl 5 rfl) ?_
          obtain ⟨z_122, _u, hfc, hf⟩ := cal_some hf
          have hFc := de_free hD hS hA
          refine va_callv (va_runV (As := []) (rest := []) ⟨hx, hb, hml, hown, hts⟩ (de_X18_slip l dC dI cy a sh n H_43.size F z_40 h0 hfc) (cwV 0 hts gX18_one_X18_slip rfl rfl rfl (by decide +kernel) ⟨Nat.le_of_ble_eq_true rfl, Nat.le_of_ble_eq_true rfl⟩) ⟨fun a U g mk q => by obtain ⟨q0, q1, qP, qK, qD, qN⟩ := q; exact ⟨q0, q1, qP, va_K.moved (u := U) (U := U.calling g mk a) (Vm.Alike.refl U.vm) qK, qD, qN.same rfl⟩, va_recv hK hP (ci := 18) (q0 := h0) rfl (Wd_ob kg_1 sg_1 (by decide)), fun U hU hW => ⟨rfl, by rw [hU], by rw [hU]; exact hP, va_K.moved hW.alike hK, hD.weaken (fun _ _ _ _ => trivial), hN.warm hW⟩⟩ rfl rfl hl.1 rfl (lv_room (Nat.le_of_ble_eq_true rfl)) dX18_one_140 ⟨Nat.le_of_ble_eq_true rfl, Nat.le_of_ble_eq_true rfl⟩) hS (fun q _ h => hFc q h) hFc (fun u t H_123 locs ht hvm hw hB hz1 hk1 hS2 => ?_)
          obtain ⟨hP1, -, hD1⟩ := hB
          rw [ht] at hP1
          replace hD := hD1.weaken (fun _ _ _ h => hFc _ h)
          replace hP := hP1
          replace hS := hS2
          clear hP1 hD1 hS2 hFc hfc hz1 hk1 hvm ht
          refine lv_goto (tgt := 457) hx hb dX18_one_143 (by decide) ?_
          obtain ⟨h8, h9⟩ := ret_some hf
          rw [h8]
          exact W.vret hx hb hr (fun t ht hW => ⟨⟨(), rfl, trivial, by rw [ht]; exact hP, va_K.moved hW.alike hK, hD⟩, hS.F ht⟩) hS.2.2 dX18_one_457
    · skip
      rw [if_pos c_24] at hf
      obtain ⟨h8, h9⟩ := ret_some hf
      rw [h8]
      exact W.vret hx hb hr (fun t ht hW => ⟨⟨(), rfl, trivial, by rw [ht]; exact hP, va_K.moved hW.alike hK, hD⟩, hS.F ht⟩) hS.2.2 dX18_one_68
  refine lv_icmp_lt (tgt := 60) hx hb dX18_one_53 (by decide) (fun c_124 => ?_) (fun c_124 => ?_)
  · skip
    rw [if_pos c_124] at hf
    exact B60 (z_16) ls H_19 locs ⟨lv_sub hl [0, 1, 2] rfl, hP, hD, hS⟩ hf
  · skip
    rw [if_neg c_124] at hf
    refine lv_aload_n hx hb dX18_one_56 rfl (lv_at hl 2 rfl) ?_
    obtain ⟨z_125, _u, hfc, hf⟩ := cal_some hf
    have hFc := de_free hD hS hA
    refine va_callv (va_runV (As := []) (rest := []) ⟨hx, hb, hml, hown, hts⟩ (de_X18_slip l dC dI cy a sh n H_19.size F z_16 h0 hfc) (cwV 0 hts gX18_one_X18_slip rfl rfl rfl (by decide +kernel) ⟨Nat.le_of_ble_eq_true rfl, Nat.le_of_ble_eq_true rfl⟩) ⟨fun a U g mk q => by obtain ⟨q0, q1, qP, qK, qD, qN⟩ := q; exact ⟨q0, q1, qP, va_K.moved (u := U) (U := U.calling g mk a) (Vm.Alike.refl U.vm) qK, qD, qN.same rfl⟩, va_recv hK hP (ci := 18) (q0 := h0) rfl (Wd_ob kg_1 sg_1 (by decide)), fun U hU hW => ⟨rfl, by rw [hU], by rw [hU]; exact hP, va_K.moved hW.alike hK, hD.weaken (fun _ _ _ _ => trivial), hN.warm hW⟩⟩ rfl rfl hl.1 rfl (lv_room (Nat.le_of_ble_eq_true rfl)) dX18_one_57 ⟨Nat.le_of_ble_eq_true rfl, Nat.le_of_ble_eq_true rfl⟩) hS (fun q _ h => hFc q h) hFc (fun u t H_126 locs ht hvm hw hB hz1 hk1 hS2 => ?_)
    obtain ⟨hP1, -, hD1⟩ := hB
    rw [ht] at hP1
    replace hD := hD1.weaken (fun _ _ _ h => hFc _ h)
    replace hP := hP1
    replace hS := hS2
    clear hP1 hD1 hS2 hFc hfc hz1 hk1 hvm ht
    exact B60 (z_125) ls H_126 locs ⟨lv_sub hl [0, 1, 2] rfl, hP, hD, hS⟩ hf

set_option maxHeartbeats 4000000 in
set_option maxRecDepth 100000 in
theorem de_X18_isFunctionAs (l : Launch) (dC : Nat → ClassId) (dI : Nat → Nat → Nat) (cy : Nat → ClassId) (a : Nat → Nat) (sh : Nat → Nat × Nat) (n sz : Nat) (F : Nat) (z : St) (h0 : Nat) (x0 : Nat) (x1 : Int32) {z8 : St} {r8 : Int32} (hf : fn_X18_isFunctionAs F sh n z h0 x0 x1 = some (z8, r8)) : Met l yX18_isFunctionAs wsX18_isFunctionAs ({ frames := 8, cells := 0, slots := 0, locals := 191 }) (va_Pc [.ref (a h0), .ref (a x0), .int x1] (fun U => U.heap.size = sz ∧ va_P (dC, dI) vwCl (Wd cy a sh n z) U.heap ∧ va_K (dC, dI) vwCl (TYS cy) U ∧ va_D (fun _ => True) (Wd cy a sh n z) ∧ NK U)) (va_Qi (fun (r9 : Int32) (u : Unit) => r9 = r8) (fun u t => va_P (dC, dI) vwCl (Wd cy a sh n z8) t.heap ∧ va_K (dC, dI) vwCl (TYS cy) t ∧ va_D (va_A (Wd cy a sh n z) sz) (Wd cy a sh n z8)) (va_A (Wd cy a sh n z) sz)) 0 0 (va_A (Wd cy a sh n z) sz) := by
  refine Met.ofW (cc := cX18_isFunctionAs) (maxL := 6) (ret := (some .boolean)) (by decide) rfl ?_
  intro p e s m args below meth c s₁ B hml hv
  obtain ⟨rfl, hsz, hP, hK, hD0, hN⟩ := hv
  have hx := B.exec
  have hb := B.bytes
  have hr := B.returns
  have hts := atoms_spec (ws := wsX18_isFunctionAs) B.pre
  have hown : s.vm.findClass RX18 = some m.cls := findClass_of_methodNamed B.named
  have hlocks := B.notSynchronized
  subst hsz
  have hD := hD0.self (sz := s.heap.size)
  clear hD0
  generalize hAe : va_A (Wd cy a sh n z) s.heap.size = A at hD ⊢
  have hA : ∀ q : Nat, s.heap.size ≤ q → A q := fun q h => by rw [← hAe]; exact Or.inr h
  clear hAe
  have hS : va_S A s.heap s.heap [] := va_S.rf
  have hl := lv_entry ([.ref (a h0), .ref (a x0), .int x1]) (n := 6) (Nat.le_of_ble_eq_true rfl)
  rw [lg_entry_eq]
  generalize (lg_sl ([.ref (a h0), .ref (a x0), .int x1]) ++ List.replicate (6 - (lg_sl ([.ref (a h0), .ref (a x0), .int x1])).length) Slot.unset).toArray = ls at hl ⊢
  replace hl : lv_has ls 6 [(0, .ref (a h0)), (1, .ref (a x0)), (2, .int x1)] := hl
  unfold fn_X18_isFunctionAs at hf
  refine de_start hS hP (fun H locs hS hP => ?_)
  refine lv_aload_n hx hb dX18_isFunctionAs_0 rfl (lv_at hl 1 rfl) ?_
  refine lv_iload_n hx hb dX18_isFunctionAs_1 rfl (lv_at hl 2 rfl) ?_
  obtain ⟨g_3, hf⟩ := grd_some hf
  obtain ⟨kg_3, sg_3⟩ := okO_at g_3
  obtain ⟨z_1, r_2, hfc, hf⟩ := cal_some hf
  have hFc := de_free hD hS hA
  refine va_calli (va_runV (As := [.int x1]) (rest := []) ⟨hx, hb, hml, hown, hts⟩ (de_X16_foreignModule l dC dI cy a sh n H.size F z x0 x1 hfc) (cwV 1 hts gX18_isFunctionAs_X16_foreignModule rfl rfl rfl (by decide +kernel) ⟨Nat.le_of_ble_eq_true rfl, Nat.le_of_ble_eq_true rfl⟩) ⟨fun a U g mk q => by obtain ⟨q0, q1, qP, qK, qD, qN⟩ := q; exact ⟨q0, q1, qP, va_K.moved (u := U) (U := U.calling g mk a) (Vm.Alike.refl U.vm) qK, qD, qN.same rfl⟩, va_recv hK hP (ci := 16) (q0 := x0) rfl (Wd_ob kg_3 sg_3 (by decide)), fun U hU hW => ⟨rfl, by rw [hU], by rw [hU]; exact hP, va_K.moved hW.alike hK, hD.weaken (fun _ _ _ _ => trivial), hN.warm hW⟩⟩ rfl rfl hl.1 rfl (lv_room (Nat.le_of_ble_eq_true rfl)) dX18_isFunctionAs_2 ⟨Nat.le_of_ble_eq_true rfl, Nat.le_of_ble_eq_true rfl⟩) hS (fun q _ h => hFc q h) hFc (fun rr u t H_4 locs ht hvm hw hB hz1 hk1 hS2 => ?_)
  rw [hw]
  clear hw
  obtain ⟨hP1, -, hD1⟩ := hB
  rw [ht] at hP1
  replace hD := hD1.weaken (fun _ _ _ h => hFc _ h)
  replace hP := hP1
  replace hS := hS2
  clear hP1 hD1 hS2 hFc hfc hz1 hk1 hvm ht
  refine lv_istore_n (lv' := [(3, .int r_2), (0, .ref (a h0)), (1, .ref (a x0)), (2, .int x1)]) hx hb dX18_isFunctionAs_5 rfl hl (by decide) rfl (fun ls hl2 => ?_)
  replace hl := hl2
  clear hl2
  refine lv_aload_n hx hb dX18_isFunctionAs_6 rfl (lv_at hl 2 rfl) ?_
  refine lv_iload_n hx hb dX18_isFunctionAs_7 rfl (lv_at hl 3 rfl) ?_
  obtain ⟨z_5, r_6, hfc, hf⟩ := cal_some hf
  have hFc := de_free hD hS hA
  refine va_calli (va_runV (As := [.int x1]) (rest := []) ⟨hx, hb, hml, hown, hts⟩ (de_X16_foreignNumber l dC dI cy a sh n H_4.size F z_1 x0 x1 hfc) (cwV 1 hts gX18_isFunctionAs_X16_foreignNumber rfl rfl rfl (by decide +kernel) ⟨Nat.le_of_ble_eq_true rfl, Nat.le_of_ble_eq_true rfl⟩) ⟨fun a U g mk q => by obtain ⟨q0, q1, qP, qK, qD, qN⟩ := q; exact ⟨q0, q1, qP, va_K.moved (u := U) (U := U.calling g mk a) (Vm.Alike.refl U.vm) qK, qD, qN.same rfl⟩, va_recv hK hP (ci := 16) (q0 := x0) rfl (Wd_ob kg_3 sg_3 (by decide)), fun U hU hW => ⟨rfl, by rw [hU], by rw [hU]; exact hP, va_K.moved hW.alike hK, hD.weaken (fun _ _ _ _ => trivial), hN.warm hW⟩⟩ rfl rfl hl.1 rfl (lv_room (Nat.le_of_ble_eq_true rfl)) dX18_isFunctionAs_8 ⟨Nat.le_of_ble_eq_true rfl, Nat.le_of_ble_eq_true rfl⟩) hS (fun q _ h => hFc q h) hFc (fun rr u t H_7 locs ht hvm hw hB hz1 hk1 hS2 => ?_)
  rw [hw]
  clear hw
  obtain ⟨hP1, -, hD1⟩ := hB
  rw [ht] at hP1
  replace hD := hD1.weaken (fun _ _ _ h => hFc _ h)
  replace hP := hP1
  replace hS := hS2
  clear hP1 hD1 hS2 hFc hfc hz1 hk1 hvm ht
  refine lv_istore (lv' := [(4, .int r_6), (3, .int r_2), (0, .ref (a h0)), (1, .ref (a x0)), (2, .int x1)]) hx hb dX18_isFunctionAs_11 hl (by decide) rfl (fun ls hl2 => ?_)
  replace hl := hl2
  clear hl2
  refine lv_aload_n hx hb dX18_isFunctionAs_13 rfl (lv_at hl 2 rfl) ?_
  refine lv_iload_n hx hb dX18_isFunctionAs_14 rfl (lv_at hl 1 rfl) ?_
  refine lv_iload hx hb dX18_isFunctionAs_15 (lv_at hl 0 rfl) ?_
  refine lv_iconst (v := 0) hx hb dX18_isFunctionAs_17 (by decide) ?_
  obtain ⟨g_10, hf⟩ := grd_some hf
  obtain ⟨kg_10, sg_10⟩ := okO_at g_10
  obtain ⟨z_8, r_9, hfc, hf⟩ := cal_some hf
  have hFc := de_free hD hS hA
  refine va_calli (va_runV (As := [.int r_2, .int r_6, .int 0]) (rest := []) ⟨hx, hb, hml, hown, hts⟩ (de_X18_isThere l dC dI cy a sh n H_7.size F z_5 h0 r_2 r_6 0 hfc) (cwV 3 hts gX18_isFunctionAs_X18_isThere rfl rfl rfl (by decide +kernel) ⟨Nat.le_of_ble_eq_true rfl, Nat.le_of_ble_eq_true rfl⟩) ⟨fun a U g mk q => by obtain ⟨q0, q1, qP, qK, qD, qN⟩ := q; exact ⟨q0, q1, qP, va_K.moved (u := U) (U := U.calling g mk a) (Vm.Alike.refl U.vm) qK, qD, qN.same rfl⟩, va_recv hK hP (ci := 18) (q0 := h0) rfl (Wd_ob kg_10 sg_10 (by decide)), fun U hU hW => ⟨rfl, by rw [hU], by rw [hU]; exact hP, va_K.moved hW.alike hK, hD.weaken (fun _ _ _ _ => trivial), hN.warm hW⟩⟩ rfl rfl hl.1 rfl (lv_room (Nat.le_of_ble_eq_true rfl)) dX18_isFunctionAs_18 ⟨Nat.le_of_ble_eq_true rfl, Nat.le_of_ble_eq_true rfl⟩) hS (fun q _ h => hFc q h) hFc (fun rr u t H_11 locs ht hvm hw hB hz1 hk1 hS2 => ?_)
  rw [hw]
  clear hw
  obtain ⟨hP1, -, hD1⟩ := hB
  rw [ht] at hP1
  replace hD := hD1.weaken (fun _ _ _ h => hFc _ h)
  replace hP := hP1
  replace hS := hS2
  clear hP1 hD1 hS2 hFc hfc hz1 hk1 hvm ht
  refine lv_if_ne (tgt := 26) hx hb dX18_isFunctionAs_21 (by decide) (fun c_12 => ?_) (fun c_12 => ?_)
  · skip
    rw [if_neg c_12] at hf
    refine lv_aload_n hx hb dX18_isFunctionAs_26 rfl (lv_at hl 2 rfl) ?_
    refine lv_iload_n hx hb dX18_isFunctionAs_27 rfl (lv_at hl 1 rfl) ?_
    refine lv_iload hx hb dX18_isFunctionAs_28 (lv_at hl 0 rfl) ?_
    obtain ⟨z_13, r_14, hfc, hf⟩ := cal_some hf
    have hFc := de_free hD hS hA
    refine va_calli (va_runV (As := [.int r_2, .int r_6]) (rest := []) ⟨hx, hb, hml, hown, hts⟩ (de_X18_flagsThere l dC dI cy a sh n H_11.size F z_8 h0 r_2 r_6 hfc) (cwV 2 hts gX18_isFunctionAs_X18_flagsThere rfl rfl rfl (by decide +kernel) ⟨Nat.le_of_ble_eq_true rfl, Nat.le_of_ble_eq_true rfl⟩) ⟨fun a U g mk q => by obtain ⟨q0, q1, qP, qK, qD, qN⟩ := q; exact ⟨q0, q1, qP, va_K.moved (u := U) (U := U.calling g mk a) (Vm.Alike.refl U.vm) qK, qD, qN.same rfl⟩, va_recv hK hP (ci := 18) (q0 := h0) rfl (Wd_ob kg_10 sg_10 (by decide)), fun U hU hW => ⟨rfl, by rw [hU], by rw [hU]; exact hP, va_K.moved hW.alike hK, hD.weaken (fun _ _ _ _ => trivial), hN.warm hW⟩⟩ rfl rfl hl.1 rfl (lv_room (Nat.le_of_ble_eq_true rfl)) dX18_isFunctionAs_30 ⟨Nat.le_of_ble_eq_true rfl, Nat.le_of_ble_eq_true rfl⟩) hS (fun q _ h => hFc q h) hFc (fun rr u t H_15 locs ht hvm hw hB hz1 hk1 hS2 => ?_)
    rw [hw]
    clear hw
    obtain ⟨hP1, -, hD1⟩ := hB
    rw [ht] at hP1
    replace hD := hD1.weaken (fun _ _ _ h => hFc _ h)
    replace hP := hP1
    replace hS := hS2
    clear hP1 hD1 hS2 hFc hfc hz1 hk1 hvm ht
    refine lv_istore (lv' := [(5, .int r_14), (4, .int r_6), (3, .int r_2), (0, .ref (a h0)), (1, .ref (a x0)), (2, .int x1)]) hx hb dX18_isFunctionAs_33 hl (by decide) rfl (fun ls hl2 => ?_)
    replace hl := hl2
    clear hl2
    refine lv_iload hx hb dX18_isFunctionAs_35 (lv_at hl 0 rfl) ?_
    refine lv_iconst (v := 1) hx hb dX18_isFunctionAs_37 (by decide) ?_
    refine lv_iand hx hb dX18_isFunctionAs_38 ?_
    refine lv_iconst (v := 1) hx hb dX18_isFunctionAs_39 (by decide) ?_
    refine lv_icmp_ne (tgt := 87) hx hb dX18_isFunctionAs_40 (by decide) (fun c_16 => ?_) (fun c_16 => ?_)
    · skip
      rw [if_neg c_16] at hf
      refine lv_iconst (v := 0) hx hb dX18_isFunctionAs_87 (by decide) ?_
      obtain ⟨h8, h9⟩ := ret_some hf
      rw [h8, h9]
      exact W.zret (v := 0) hx hb hr rfl (fun t ht hW => ⟨⟨0, (), rfl, rfl, by rw [ht]; exact hP, va_K.moved hW.alike hK, hD⟩, hS.F ht⟩) hS.2.2 dX18_isFunctionAs_88
    · skip
      rw [if_pos c_16] at hf
      refine lv_iload hx hb dX18_isFunctionAs_43 (lv_at hl 0 rfl) ?_
      refine lv_iconst (v := 4) hx hb dX18_isFunctionAs_45 (by decide) ?_
      refine lv_iand hx hb dX18_isFunctionAs_46 ?_
      refine lv_aload_n hx hb dX18_isFunctionAs_47 rfl (lv_at hl 4 rfl) ?_
      refine lv_iload_n hx hb dX18_isFunctionAs_48 rfl (lv_at hl 5 rfl) ?_
      obtain ⟨z_17, r_18, hfc, hf⟩ := cal_some hf
      have hFc := de_free hD hS hA
      refine va_calli (va_runV (As := [.int x1]) (rest := [.int (r_14 &&& 4)]) ⟨hx, hb, hml, hown, hts⟩ (de_X16_flags l dC dI cy a sh n H_15.size F z_13 x0 x1 hfc) (cwV 1 hts gX18_isFunctionAs_X16_flags rfl rfl rfl (by decide +kernel) ⟨Nat.le_of_ble_eq_true rfl, Nat.le_of_ble_eq_true rfl⟩) ⟨fun a U g mk q => by obtain ⟨q0, q1, qP, qK, qD, qN⟩ := q; exact ⟨q0, q1, qP, va_K.moved (u := U) (U := U.calling g mk a) (Vm.Alike.refl U.vm) qK, qD, qN.same rfl⟩, va_recv hK hP (ci := 16) (q0 := x0) rfl (Wd_ob kg_3 sg_3 (by decide)), fun U hU hW => ⟨rfl, by rw [hU], by rw [hU]; exact hP, va_K.moved hW.alike hK, hD.weaken (fun _ _ _ _ => trivial), hN.warm hW⟩⟩ rfl rfl hl.1 rfl (lv_room (Nat.le_of_ble_eq_true rfl)) dX18_isFunctionAs_49 ⟨Nat.le_of_ble_eq_true rfl, Nat.le_of_ble_eq_true rfl⟩) hS (fun q _ h => hFc q h) hFc (fun rr u t H_19 locs ht hvm hw hB hz1 hk1 hS2 => ?_)
      rw [hw]
      clear hw
      obtain ⟨hP1, -, hD1⟩ := hB
      rw [ht] at hP1
      replace hD := hD1.weaken (fun _ _ _ h => hFc _ h)
      replace hP := hP1
      replace hS := hS2
      clear hP1 hD1 hS2 hFc hfc hz1 hk1 hvm ht
      refine lv_iconst (v := 4) hx hb dX18_isFunctionAs_52 (by decide) ?_
      refine lv_iand hx hb dX18_isFunctionAs_53 ?_
      refine lv_icmp_ne (tgt := 87) hx hb dX18_isFunctionAs_54 (by decide) (fun c_20 => ?_) (fun c_20 => ?_)
      · skip
        rw [if_neg c_20] at hf
        refine lv_iconst (v := 0) hx hb dX18_isFunctionAs_87 (by decide) ?_
        obtain ⟨h8, h9⟩ := ret_some hf
        rw [h8, h9]
        exact W.zret (v := 0) hx hb hr rfl (fun t ht hW => ⟨⟨0, (), rfl, rfl, by rw [ht]; exact hP, va_K.moved hW.alike hK, hD⟩, hS.F ht⟩) hS.2.2 dX18_isFunctionAs_88
      · skip
        rw [if_pos c_20] at hf
        refine lv_aload_n hx hb dX18_isFunctionAs_57 rfl (lv_at hl 3 rfl) ?_
        refine lv_aload_n hx hb dX18_isFunctionAs_58 rfl (lv_at hl 4 rfl) ?_
        refine lv_iload_n hx hb dX18_isFunctionAs_59 rfl (lv_at hl 5 rfl) ?_
        refine lv_iload_n hx hb dX18_isFunctionAs_60 rfl (lv_at hl 2 rfl) ?_
        refine lv_iload hx hb dX18_isFunctionAs_61 (lv_at hl 1 rfl) ?_
        refine lv_iconst (v := 0) hx hb dX18_isFunctionAs_63 (by decide) ?_
        obtain ⟨z_21, r_22, hfc, hf⟩ := cal_some hf
        have hFc := de_free hD hS hA
        refine va_calli (va_runV (As := [.ref (a x0), .int x1, .int r_2, .int r_6, .int 0]) (rest := []) ⟨hx, hb, hml, hown, hts⟩ (de_X18_isSameList l dC dI cy a sh n H_19.size F z_17 h0 x0 x1 r_2 r_6 0 hfc) (cwV 5 hts gX18_isFunctionAs_X18_isSameList rfl rfl rfl (by decide +kernel) ⟨Nat.le_of_ble_eq_true rfl, Nat.le_of_ble_eq_true rfl⟩) ⟨fun a U g mk q => by obtain ⟨q0, q1, qP, qK, qD, qN⟩ := q; exact ⟨q0, q1, qP, va_K.moved (u := U) (U := U.calling g mk a) (Vm.Alike.refl U.vm) qK, qD, qN.same rfl⟩, va_recv hK hP (ci := 18) (q0 := h0) rfl (Wd_ob kg_10 sg_10 (by decide)), fun U hU hW => ⟨rfl, by rw [hU], by rw [hU]; exact hP, va_K.moved hW.alike hK, hD.weaken (fun _ _ _ _ => trivial), hN.warm hW⟩⟩ rfl rfl hl.1 rfl (lv_room (Nat.le_of_ble_eq_true rfl)) dX18_isFunctionAs_64 ⟨Nat.le_of_ble_eq_true rfl, Nat.le_of_ble_eq_true rfl⟩) hS (fun q _ h => hFc q h) hFc (fun rr u t H_23 locs ht hvm hw hB hz1 hk1 hS2 => ?_)
        rw [hw]
        clear hw
        obtain ⟨hP1, -, hD1⟩ := hB
        rw [ht] at hP1
        replace hD := hD1.weaken (fun _ _ _ h => hFc _ h)
        replace hP := hP1
        replace hS := hS2
        clear hP1 hD1 hS2 hFc hfc hz1 hk1 hvm ht
        refine lv_if_eq (tgt := 87) hx hb dX18_isFunctionAs_67 (by decide) (fun c_24 => ?_) (fun c_24 => ?_)
        · skip
          rw [if_pos c_24] at hf
          refine lv_iconst (v := 0) hx hb dX18_isFunctionAs_87 (by decide) ?_
          obtain ⟨h8, h9⟩ := ret_some hf
          rw [h8, h9]
          exact W.zret (v := 0) hx hb hr rfl (fun t ht hW => ⟨⟨0, (), rfl, rfl, by rw [ht]; exact hP, va_K.moved hW.alike hK, hD⟩, hS.F ht⟩) hS.2.2 dX18_isFunctionAs_88
        · skip
          rw [if_neg c_24] at hf
          refine lv_aload_n hx hb dX18_isFunctionAs_70 rfl (lv_at hl 3 rfl) ?_
          refine lv_aload_n hx hb dX18_isFunctionAs_71 rfl (lv_at hl 4 rfl) ?_
          refine lv_iload_n hx hb dX18_isFunctionAs_72 rfl (lv_at hl 5 rfl) ?_
          refine lv_iload_n hx hb dX18_isFunctionAs_73 rfl (lv_at hl 2 rfl) ?_
          refine lv_iload hx hb dX18_isFunctionAs_74 (lv_at hl 1 rfl) ?_
          refine lv_iconst (v := 1) hx hb dX18_isFunctionAs_76 (by decide) ?_
          obtain ⟨z_25, r_26, hfc, hf⟩ := cal_some hf
          have hFc := de_free hD hS hA
          refine va_calli (va_runV (As := [.ref (a x0), .int x1, .int r_2, .int r_6, .int 1]) (rest := []) ⟨hx, hb, hml, hown, hts⟩ (de_X18_isSameList l dC dI cy a sh n H_23.size F z_21 h0 x0 x1 r_2 r_6 1 hfc) (cwV 5 hts gX18_isFunctionAs_X18_isSameList rfl rfl rfl (by decide +kernel) ⟨Nat.le_of_ble_eq_true rfl, Nat.le_of_ble_eq_true rfl⟩) ⟨fun a U g mk q => by obtain ⟨q0, q1, qP, qK, qD, qN⟩ := q; exact ⟨q0, q1, qP, va_K.moved (u := U) (U := U.calling g mk a) (Vm.Alike.refl U.vm) qK, qD, qN.same rfl⟩, va_recv hK hP (ci := 18) (q0 := h0) rfl (Wd_ob kg_10 sg_10 (by decide)), fun U hU hW => ⟨rfl, by rw [hU], by rw [hU]; exact hP, va_K.moved hW.alike hK, hD.weaken (fun _ _ _ _ => trivial), hN.warm hW⟩⟩ rfl rfl hl.1 rfl (lv_room (Nat.le_of_ble_eq_true rfl)) dX18_isFunctionAs_77 ⟨Nat.le_of_ble_eq_true rfl, Nat.le_of_ble_eq_true rfl⟩) hS (fun q _ h => hFc q h) hFc (fun rr u t H_27 locs ht hvm hw hB hz1 hk1 hS2 => ?_)
          rw [hw]
          clear hw
          obtain ⟨hP1, -, hD1⟩ := hB
          rw [ht] at hP1
          replace hD := hD1.weaken (fun _ _ _ h => hFc _ h)
          replace hP := hP1
          replace hS := hS2
          clear hP1 hD1 hS2 hFc hfc hz1 hk1 hvm ht
          refine lv_if_eq (tgt := 87) hx hb dX18_isFunctionAs_80 (by decide) (fun c_28 => ?_) (fun c_28 => ?_)
          · skip
            rw [if_pos c_28] at hf
            refine lv_iconst (v := 0) hx hb dX18_isFunctionAs_87 (by decide) ?_
            obtain ⟨h8, h9⟩ := ret_some hf
            rw [h8, h9]
            exact W.zret (v := 0) hx hb hr rfl (fun t ht hW => ⟨⟨0, (), rfl, rfl, by rw [ht]; exact hP, va_K.moved hW.alike hK, hD⟩, hS.F ht⟩) hS.2.2 dX18_isFunctionAs_88
          · skip
            rw [if_neg c_28] at hf
            refine lv_iconst (v := 1) hx hb dX18_isFunctionAs_83 (by decide) ?_
            refine lv_goto (tgt := 88) hx hb dX18_isFunctionAs_84 (by decide) ?_
            obtain ⟨h8, h9⟩ := ret_some hf
            rw [h8, h9]
            exact W.zret (v := 1) hx hb hr rfl (fun t ht hW => ⟨⟨1, (), rfl, rfl, by rw [ht]; exact hP, va_K.moved hW.alike hK, hD⟩, hS.F ht⟩) hS.2.2 dX18_isFunctionAs_88
  · skip
    rw [if_pos c_12] at hf
    refine lv_iconst (v := 0) hx hb dX18_isFunctionAs_24 (by decide) ?_
    obtain ⟨h8, h9⟩ := ret_some hf
    rw [h8, h9]
    exact W.zret (v := 0) hx hb hr rfl (fun t ht hW => ⟨⟨0, (), rfl, rfl, by rw [ht]; exact hP, va_K.moved hW.alike hK, hD⟩, hS.F ht⟩) hS.2.2 dX18_isFunctionAs_25

theorem md_X13_look_1 : (.fieldLink RX13 13 "ResourceLedgerModel$Looker" "came" "[Z" : Cond) ∈ wsX13_look := List.mem_of_getElem? (i := 1) rfl
theorem iwd_X13_look_X13 : ∀ w ∈ wsX130, w ∈ wsX13_look := fun _ h => List.mem_cons_of_mem _ (List.mem_append_left _ (List.mem_append_right _ h))
theorem md_X13_look_2 : (.fieldLink RX13 17 "ResourceLedgerModel$Looker" "led" "[Z" : Cond) ∈ wsX13_look := List.mem_of_getElem? (i := 2) rfl
theorem md_X13_look_4 : (.fieldLink RX13 48 "ResourceLedgerModel$Looker" "fault" "I" : Cond) ∈ wsX13_look := List.mem_of_getElem? (i := 4) rfl
theorem md_X13_look_5 : (.fieldLink RX13 136 "ResourceLedgerModel$Looker" "locals" "I" : Cond) ∈ wsX13_look := List.mem_of_getElem? (i := 5) rfl
theorem md_X13_look_12 : (.fieldLink RX13 72 "ResourceLedgerModel$Looker" "unit" "LResourceLedgerModel$Unit;" : Cond) ∈ wsX13_look := List.mem_of_getElem? (i := 12) rfl
theorem md_X13_look_13 : (.fieldLink RX13 176 "ResourceLedgerModel$Looker" "now" "I" : Cond) ∈ wsX13_look := List.mem_of_getElem? (i := 13) rfl
theorem md_X13_look_3 : (.fieldLink RX13 92 "ResourceLedgerModel$Looker" "height" "I" : Cond) ∈ wsX13_look := List.mem_of_getElem? (i := 3) rfl
theorem md_X13_look_14 : (.fieldLink RX13 231 "ResourceLedgerModel$Looker" "many" "I" : Cond) ∈ wsX13_look := List.mem_of_getElem? (i := 14) rfl
theorem md_X13_look_6 : (.fieldLink RX13 39 "ResourceLedgerModel$Looker" "there" "[Z" : Cond) ∈ wsX13_look := List.mem_of_getElem? (i := 6) rfl
theorem md_X13_look_7 : (.fieldLink RX13 21 "ResourceLedgerModel$Looker" "thereAt" "[Z" : Cond) ∈ wsX13_look := List.mem_of_getElem? (i := 7) rfl
theorem md_X13_look_8 : (.fieldLink RX13 42 "ResourceLedgerModel$Looker" "points" "[J" : Cond) ∈ wsX13_look := List.mem_of_getElem? (i := 8) rfl
theorem md_X13_look_9 : (.fieldLink RX13 24 "ResourceLedgerModel$Looker" "originsAt" "[J" : Cond) ∈ wsX13_look := List.mem_of_getElem? (i := 9) rfl
theorem md_X13_look_10 : (.fieldLink RX13 45 "ResourceLedgerModel$Looker" "within" "[Z" : Cond) ∈ wsX13_look := List.mem_of_getElem? (i := 10) rfl
theorem md_X13_look_11 : (.fieldLink RX13 27 "ResourceLedgerModel$Looker" "insideAt" "[Z" : Cond) ∈ wsX13_look := List.mem_of_getElem? (i := 11) rfl
set_option maxHeartbeats 4000000 in
set_option maxRecDepth 100000 in
theorem de_X13_look (l : Launch) (dC : Nat → ClassId) (dI : Nat → Nat → Nat) (cy : Nat → ClassId) (a : Nat → Nat) (sh : Nat → Nat × Nat) (n sz : Nat) (F : Nat) (z : St) (h0 : Nat) (x0 : Int32) {z8 : St} {r8 : Unit} (hf : fn_X13_look F sh n z h0 x0 = some (z8, r8)) : Met l yX13_look wsX13_look ({ frames := 8, cells := 0, slots := 0, locals := 194 }) (va_Pc [.ref (a h0), .int x0] (fun U => U.heap.size = sz ∧ va_P (dC, dI) vwCl (Wd cy a sh n z) U.heap ∧ va_K (dC, dI) vwCl (TYS cy) U ∧ va_D (fun _ => True) (Wd cy a sh n z) ∧ NK U)) (va_Qv (fun u : Unit => True) (fun u t => va_P (dC, dI) vwCl (Wd cy a sh n z8) t.heap ∧ va_K (dC, dI) vwCl (TYS cy) t ∧ va_D (va_A (Wd cy a sh n z) sz) (Wd cy a sh n z8)) (va_A (Wd cy a sh n z) sz)) 0 0 (va_A (Wd cy a sh n z) sz) := by
  refine Met.ofW (cc := cX13_look) (maxL := 4) (ret := none) (by decide) rfl ?_
  intro p e s m args below meth c s₁ B hml hv
  obtain ⟨rfl, hsz, hP, hK, hD0, hN⟩ := hv
  have hx := B.exec
  have hb := B.bytes
  have hr := B.returns
  have hts := atoms_spec (ws := wsX13_look) B.pre
  have hown : s.vm.findClass RX13 = some m.cls := findClass_of_methodNamed B.named
  have hlocks := B.notSynchronized
  subst hsz
  have hD := hD0.self (sz := s.heap.size)
  clear hD0
  generalize hAe : va_A (Wd cy a sh n z) s.heap.size = A at hD ⊢
  have hA : ∀ q : Nat, s.heap.size ≤ q → A q := fun q h => by rw [← hAe]; exact Or.inr h
  clear hAe
  have hS : va_S A s.heap s.heap [] := va_S.rf
  have hl := lv_entry ([.ref (a h0), .int x0]) (n := 4) (Nat.le_of_ble_eq_true rfl)
  rw [lg_entry_eq]
  generalize (lg_sl ([.ref (a h0), .int x0]) ++ List.replicate (4 - (lg_sl ([.ref (a h0), .int x0])).length) Slot.unset).toArray = ls at hl ⊢
  replace hl : lv_has ls 4 [(0, .ref (a h0)), (1, .int x0)] := hl
  unfold fn_X13_look at hf
  refine de_start hS hP (fun H locs hS hP => ?_)
  refine lv_aload_n hx hb dX13_look_0 rfl (lv_at hl 0 rfl) ?_
  refine lv_aload_n hx hb dX13_look_1 rfl (lv_at hl 0 rfl) ?_
  obtain ⟨g_1, hf⟩ := grd_some hf
  obtain ⟨kg_1, sg_1⟩ := okO_at g_1
  obtain ⟨k_2, ek_2, hf⟩ := lnk_some hf
  refine va_get (D := (dC, dI)) (ci := 13) (v := .ref (a k_2)) (C := RX13) (T := TX13) (N := 22) hx hb hts iwd_X13_look_X13 hown hK hP h0 (Wd_ob kg_1 sg_1 (by decide)) rfl 6 (by decide) (hts _ md_X13_look_1) (fun _ h9 => h9) (fl_q rfl ek_2) dX13_look_2 ?_
  refine lv_iload_n hx hb dX13_look_5 rfl (lv_at hl 1 rfl) ?_
  obtain ⟨g_3, hf⟩ := grd_some hf
  obtain ⟨kg_3, sg_3, ig_3⟩ := okA_at g_3
  refine va_zald hx hb hK hP k_2 3 (Wd_az kg_3 sg_3) rfl ig_3 dX13_look_6 ?_
  refine lv_bipush (v := 10) hx hb dX13_look_7 (by decide) ?_
  obtain ⟨z_4, _u, hfc, hf⟩ := cal_some hf
  have hFc := de_free hD hS hA
  refine va_callv (va_runV (As := [.int (z.1 k_2 x0.toNatClampNeg), .int 10]) (rest := []) ⟨hx, hb, hml, hown, hts⟩ (de_X13_need l dC dI cy a sh n H.size F z h0 (z.1 k_2 x0.toNatClampNeg) 10 hfc) (cwV 2 hts gX13_look_X13_need rfl rfl rfl (by decide +kernel) ⟨Nat.le_of_ble_eq_true rfl, Nat.le_of_ble_eq_true rfl⟩) ⟨fun a U g mk q => by obtain ⟨q0, q1, qP, qK, qD, qN⟩ := q; exact ⟨q0, q1, qP, va_K.moved (u := U) (U := U.calling g mk a) (Vm.Alike.refl U.vm) qK, qD, qN.same rfl⟩, va_recv hK hP (ci := 13) (q0 := h0) rfl (Wd_ob kg_1 sg_1 (by decide)), fun U hU hW => ⟨rfl, by rw [hU], by rw [hU]; exact hP, va_K.moved hW.alike hK, hD.weaken (fun _ _ _ _ => trivial), hN.warm hW⟩⟩ rfl rfl hl.1 rfl (lv_room (Nat.le_of_ble_eq_true rfl)) dX13_look_9 ⟨Nat.le_of_ble_eq_true rfl, Nat.le_of_ble_eq_true rfl⟩) hS (fun q _ h => hFc q h) hFc (fun u t H_5 locs ht hvm hw hB hz1 hk1 hS2 => ?_)
  obtain ⟨hP1, -, hD1⟩ := hB
  rw [ht] at hP1
  replace hD := hD1.weaken (fun _ _ _ h => hFc _ h)
  replace hP := hP1
  replace hS := hS2
  clear hP1 hD1 hS2 hFc hfc hz1 hk1 hvm ht
  refine lv_aload_n hx hb dX13_look_12 rfl (lv_at hl 0 rfl) ?_
  refine lv_aload_n hx hb dX13_look_13 rfl (lv_at hl 0 rfl) ?_
  obtain ⟨k_6, ek_6, hf⟩ := lnk_some hf
  refine va_get (D := (dC, dI)) (ci := 13) (v := .ref (a k_6)) (C := RX13) (T := TX13) (N := 22) hx hb hts iwd_X13_look_X13 hown hK hP h0 (Wd_ob kg_1 sg_1 (by decide)) rfl 7 (by decide) (hts _ md_X13_look_2) (fun _ h9 => h9) (fl_q rfl ek_6) dX13_look_14 ?_
  refine lv_iload_n hx hb dX13_look_17 rfl (lv_at hl 1 rfl) ?_
  obtain ⟨g_7, hf⟩ := grd_some hf
  obtain ⟨kg_7, sg_7, ig_7⟩ := okA_at g_7
  refine va_zald hx hb hK hP k_6 3 (Wd_az kg_7 sg_7) rfl ig_7 dX13_look_18 ?_
  refine de_cut (h := 34) (fun (x : St × Int32) => [.int x.2, .ref (a h0)]) (fun x ls H locs => lv_has ls 4 [(0, .ref (a h0)), (1, .int x0)] ∧ va_P (dC, dI) vwCl (Wd cy a sh n x.1) H ∧ va_D A (Wd cy a sh n x.1) ∧ va_S A s.heap H locs) (fun x => fn_X13_look_B34 F sh n h0 x0 x.1 x.2) (z8, r8) ?_ (fun B34 => ?_)
  · intro x ls H locs hI hf
    obtain ⟨z_9, p_8⟩ := x
    obtain ⟨hl2, hP2, hD2, hS2⟩ := hI
    replace hl : lv_has ls 4 [(0, .ref (a h0)), (1, .int x0)] := hl2
    replace hP := hP2
    replace hD := hD2
    replace hS := hS2
    clear hl2 hP2 hD2 hS2
    replace hf := fn_X13_look_B34_s hf
    refine W.eq (g2 := F0 m 34 ls [.int p_8, .ref (a h0)]) rfl ?_
    refine lv_bipush (v := 8) hx hb dX13_look_34 (by decide) ?_
    obtain ⟨z_10, _u, hfc, hf⟩ := cal_some hf
    have hFc := de_free hD hS hA
    refine va_callv (va_runV (As := [.int p_8, .int 8]) (rest := []) ⟨hx, hb, hml, hown, hts⟩ (de_X13_need l dC dI cy a sh n H.size F z_9 h0 p_8 8 hfc) (cwV 2 hts gX13_look_X13_need rfl rfl rfl (by decide +kernel) ⟨Nat.le_of_ble_eq_true rfl, Nat.le_of_ble_eq_true rfl⟩) ⟨fun a U g mk q => by obtain ⟨q0, q1, qP, qK, qD, qN⟩ := q; exact ⟨q0, q1, qP, va_K.moved (u := U) (U := U.calling g mk a) (Vm.Alike.refl U.vm) qK, qD, qN.same rfl⟩, va_recv hK hP (ci := 13) (q0 := h0) rfl (Wd_ob kg_1 sg_1 (by decide)), fun U hU hW => ⟨rfl, by rw [hU], by rw [hU]; exact hP, va_K.moved hW.alike hK, hD.weaken (fun _ _ _ _ => trivial), hN.warm hW⟩⟩ rfl rfl hl.1 rfl (lv_room (Nat.le_of_ble_eq_true rfl)) dX13_look_36 ⟨Nat.le_of_ble_eq_true rfl, Nat.le_of_ble_eq_true rfl⟩) hS (fun q _ h => hFc q h) hFc (fun u t H_11 locs ht hvm hw hB hz1 hk1 hS2 => ?_)
    obtain ⟨hP1, -, hD1⟩ := hB
    rw [ht] at hP1
    replace hD := hD1.weaken (fun _ _ _ h => hFc _ h)
    replace hP := hP1
    replace hS := hS2
    clear hP1 hD1 hS2 hFc hfc hz1 hk1 hvm ht
    refine lv_aload_n hx hb dX13_look_39 rfl (lv_at hl 0 rfl) ?_
    refine va_get (D := (dC, dI)) (ci := 13) (v := .int (z_10.1 h0 18)) (C := RX13) (T := TX13) (N := 22) hx hb hts iwd_X13_look_X13 hown hK hP h0 (Wd_ob kg_1 sg_1 (by decide)) rfl 18 (by decide) (hts _ md_X13_look_4) (fun _ h9 => h9) (fl_at (t := 0) rfl) dX13_look_40 ?_
    refine lv_if_eq (tgt := 47) hx hb dX13_look_43 (by decide) (fun c_12 => ?_) (fun c_12 => ?_)
    · skip
      rw [if_pos c_12] at hf
      refine lv_iconst (v := 0) hx hb dX13_look_47 (by decide) ?_
      refine lv_istore_n (lv' := [(2, .int 0), (0, .ref (a h0)), (1, .int x0)]) hx hb dX13_look_48 rfl hl (by decide) rfl (fun ls hl2 => ?_)
      replace hl := hl2
      clear hl2
      have hl0 : lv_has ls 4 [(2, .int 0), (0, .ref (a h0)), (1, .int x0)] := lv_sub hl [0, 1, 2] rfl
      refine de_loop (h := 49) (fun (x : St × Int32) ls H locs => lv_has ls 4 [(2, .int x.2), (0, .ref (a h0)), (1, .int x0)] ∧ va_P (dC, dI) vwCl (Wd cy a sh n x.1) H ∧ va_D A (Wd cy a sh n x.1) ∧ va_S A s.heap H locs) (fun f x => fn_X13_look_L49 F sh n h0 x0 f x.1 x.2) (z8, r8) ?_ (fun _ => rfl) F (z_10, 0) ls H_11 locs ⟨hl0, hP, hD, hS⟩ hf
      intro f_15 x ls H locs ih49 hI hf
      obtain ⟨z_14, p_13⟩ := x
      obtain ⟨hl2, hP2, hD2, hS2⟩ := hI
      replace hl : lv_has ls 4 [(2, .int p_13), (0, .ref (a h0)), (1, .int x0)] := hl2
      replace hP := hP2
      replace hD := hD2
      replace hS := hS2
      clear hl2 hP2 hD2 hS2 hl0
      replace hf := fn_X13_look_L49_s hf
      refine lv_iload_n hx hb dX13_look_49 rfl (lv_at hl 0 rfl) ?_
      refine lv_aload_n hx hb dX13_look_50 rfl (lv_at hl 1 rfl) ?_
      refine va_get (D := (dC, dI)) (ci := 13) (v := .int (z_14.1 h0 2)) (C := RX13) (T := TX13) (N := 22) hx hb hts iwd_X13_look_X13 hown hK hP h0 (Wd_ob kg_1 sg_1 (by decide)) rfl 2 (by decide) (hts _ md_X13_look_5) (fun _ h9 => h9) (fl_at (t := 0) rfl) dX13_look_51 ?_
      refine lv_icmp_ge (tgt := 114) hx hb dX13_look_54 (by decide) (fun c_16 => ?_) (fun c_16 => ?_)
      · skip
        rw [if_pos c_16] at hf
        refine lv_aload_n hx hb dX13_look_114 rfl (lv_at hl 1 rfl) ?_
        obtain ⟨k_17, ek_17, hf⟩ := lnk_some hf
        refine va_get (D := (dC, dI)) (ci := 13) (v := .ref (a k_17)) (C := RX13) (T := TX13) (N := 22) hx hb hts iwd_X13_look_X13 hown hK hP h0 (Wd_ob kg_1 sg_1 (by decide)) rfl 0 (by decide) (hts _ md_X13_look_12) (fun _ h9 => h9) (fl_q rfl ek_17) dX13_look_115 ?_
        refine lv_aload_n hx hb dX13_look_118 rfl (lv_at hl 1 rfl) ?_
        refine va_get (D := (dC, dI)) (ci := 13) (v := .int (z_14.1 h0 1)) (C := RX13) (T := TX13) (N := 22) hx hb hts iwd_X13_look_X13 hown hK hP h0 (Wd_ob kg_1 sg_1 (by decide)) rfl 1 (by decide) (hts _ md_X13_look_13) (fun _ h9 => h9) (fl_at (t := 0) rfl) dX13_look_119 ?_
        refine lv_iload_n hx hb dX13_look_122 rfl (lv_at hl 2 rfl) ?_
        obtain ⟨g_20, hf⟩ := grd_some hf
        obtain ⟨kg_20, sg_20⟩ := okO_at g_20
        obtain ⟨z_18, r_19, hfc, hf⟩ := cal_some hf
        have hFc := de_free hD hS hA
        refine va_calli (va_runV (As := [.int (z_14.1 h0 1), .int x0]) (rest := []) ⟨hx, hb, hml, hown, hts⟩ (de_X16_operation l dC dI cy a sh n H.size F z_14 k_17 (z_14.1 h0 1) x0 hfc) (cwV 2 hts gX13_look_X16_operation rfl rfl rfl (by decide +kernel) ⟨Nat.le_of_ble_eq_true rfl, Nat.le_of_ble_eq_true rfl⟩) ⟨fun a U g mk q => by obtain ⟨q0, q1, qP, qK, qD, qN⟩ := q; exact ⟨q0, q1, qP, va_K.moved (u := U) (U := U.calling g mk a) (Vm.Alike.refl U.vm) qK, qD, qN.same rfl⟩, va_recv hK hP (ci := 16) (q0 := k_17) rfl (Wd_ob kg_20 sg_20 (by decide)), fun U hU hW => ⟨rfl, by rw [hU], by rw [hU]; exact hP, va_K.moved hW.alike hK, hD.weaken (fun _ _ _ _ => trivial), hN.warm hW⟩⟩ rfl rfl hl.1 rfl (lv_room (Nat.le_of_ble_eq_true rfl)) dX13_look_123 ⟨Nat.le_of_ble_eq_true rfl, Nat.le_of_ble_eq_true rfl⟩) hS (fun q _ h => hFc q h) hFc (fun rr u t H_21 locs ht hvm hw hB hz1 hk1 hS2 => ?_)
        rw [hw]
        clear hw
        obtain ⟨hP1, -, hD1⟩ := hB
        rw [ht] at hP1
        replace hD := hD1.weaken (fun _ _ _ h => hFc _ h)
        replace hP := hP1
        replace hS := hS2
        clear hP1 hD1 hS2 hFc hfc hz1 hk1 hvm ht
        refine lv_istore_n (lv' := [(2, .int r_19), (0, .ref (a h0)), (1, .int x0)]) hx hb dX13_look_126 rfl hl (by decide) rfl (fun ls hl2 => ?_)
        replace hl := hl2
        clear hl2
        refine lv_aload_n hx hb dX13_look_127 rfl (lv_at hl 1 rfl) ?_
        obtain ⟨k_22, ek_22, hf⟩ := lnk_some hf
        refine va_get (D := (dC, dI)) (ci := 13) (v := .ref (a k_22)) (C := RX13) (T := TX13) (N := 22) hx hb hts iwd_X13_look_X13 hown hK hP h0 (Wd_ob kg_1 sg_1 (by decide)) rfl 0 (by decide) (hts _ md_X13_look_12) (fun _ h9 => h9) (fl_q rfl ek_22) dX13_look_128 ?_
        refine lv_aload_n hx hb dX13_look_131 rfl (lv_at hl 1 rfl) ?_
        refine va_get (D := (dC, dI)) (ci := 13) (v := .int (z_18.1 h0 1)) (C := RX13) (T := TX13) (N := 22) hx hb hts iwd_X13_look_X13 hown hK hP h0 (Wd_ob kg_1 sg_1 (by decide)) rfl 1 (by decide) (hts _ md_X13_look_13) (fun _ h9 => h9) (fl_at (t := 0) rfl) dX13_look_132 ?_
        refine lv_iload_n hx hb dX13_look_135 rfl (lv_at hl 2 rfl) ?_
        refine lv_iconst (v := 0) hx hb dX13_look_136 (by decide) ?_
        obtain ⟨g_25, hf⟩ := grd_some hf
        obtain ⟨kg_25, sg_25⟩ := okO_at g_25
        obtain ⟨z_23, r_24, hfc, hf⟩ := cal_some hf
        have hFc := de_free hD hS hA
        refine va_calll (va_runV (As := [.int (z_18.1 h0 1), .int x0, .int 0]) (rest := []) ⟨hx, hb, hml, hown, hts⟩ (de_X16_operand l dC dI cy a sh n H_21.size F z_18 k_22 (z_18.1 h0 1) x0 0 hfc) (cwV 3 hts gX13_look_X16_operand rfl rfl rfl (by decide +kernel) ⟨Nat.le_of_ble_eq_true rfl, Nat.le_of_ble_eq_true rfl⟩) ⟨fun a U g mk q => by obtain ⟨q0, q1, qP, qK, qD, qN⟩ := q; exact ⟨q0, q1, qP, va_K.moved (u := U) (U := U.calling g mk a) (Vm.Alike.refl U.vm) qK, qD, qN.same rfl⟩, va_recv hK hP (ci := 16) (q0 := k_22) rfl (Wd_ob kg_25 sg_25 (by decide)), fun U hU hW => ⟨rfl, by rw [hU], by rw [hU]; exact hP, va_K.moved hW.alike hK, hD.weaken (fun _ _ _ _ => trivial), hN.warm hW⟩⟩ rfl rfl hl.1 rfl (lv_room (Nat.le_of_ble_eq_true rfl)) dX13_look_137 ⟨Nat.le_of_ble_eq_true rfl, Nat.le_of_ble_eq_true rfl⟩) hS (fun q _ h => hFc q h) hFc (fun rr u t H_26 locs ht hvm hw hB hz1 hk1 hS2 => ?_)
        rw [hw]
        clear hw
        obtain ⟨hP1, -, hD1⟩ := hB
        rw [ht] at hP1
        replace hD := hD1.weaken (fun _ _ _ h => hFc _ h)
        replace hP := hP1
        replace hS := hS2
        clear hP1 hD1 hS2 hFc hfc hz1 hk1 hvm ht
        refine lv_l2i (v := (r_24 : Int64).toInt32) hx hb dX13_look_140 rfl ?_
        refine lv_topi (fun v_27 ev_27 => ?_)
        replace hf := lt_at ev_27 hf
        clear ev_27
        refine lv_istore_n (lv' := [(3, .int v_27), (2, .int r_19), (0, .ref (a h0)), (1, .int x0)]) hx hb dX13_look_141 rfl hl (by decide) rfl (fun ls hl2 => ?_)
        replace hl := hl2
        clear hl2
        refine lv_aload_n hx hb dX13_look_142 rfl (lv_at hl 2 rfl) ?_
        refine lv_iload_n hx hb dX13_look_143 rfl (lv_at hl 1 rfl) ?_
        refine lv_iload_n hx hb dX13_look_144 rfl (lv_at hl 0 rfl) ?_
        refine lv_aload_n hx hb dX13_look_145 rfl (lv_at hl 2 rfl) ?_
        obtain ⟨k_28, ek_28, hf⟩ := lnk_some hf
        refine va_get (D := (dC, dI)) (ci := 13) (v := .ref (a k_28)) (C := RX13) (T := TX13) (N := 22) hx hb hts iwd_X13_look_X13 hown hK hP h0 (Wd_ob kg_1 sg_1 (by decide)) rfl 0 (by decide) (hts _ md_X13_look_12) (fun _ h9 => h9) (fl_q rfl ek_28) dX13_look_146 ?_
        refine lv_aload_n hx hb dX13_look_149 rfl (lv_at hl 2 rfl) ?_
        refine va_get (D := (dC, dI)) (ci := 13) (v := .int (z_23.1 h0 1)) (C := RX13) (T := TX13) (N := 22) hx hb hts iwd_X13_look_X13 hown hK hP h0 (Wd_ob kg_1 sg_1 (by decide)) rfl 1 (by decide) (hts _ md_X13_look_13) (fun _ h9 => h9) (fl_at (t := 0) rfl) dX13_look_150 ?_
        refine lv_iload_n hx hb dX13_look_153 rfl (lv_at hl 3 rfl) ?_
        refine lv_iconst (v := 1) hx hb dX13_look_154 (by decide) ?_
        obtain ⟨g_31, hf⟩ := grd_some hf
        obtain ⟨kg_31, sg_31⟩ := okO_at g_31
        obtain ⟨z_29, r_30, hfc, hf⟩ := cal_some hf
        have hFc := de_free hD hS hA
        refine va_calll (va_runV (As := [.int (z_23.1 h0 1), .int x0, .int 1]) (rest := [.int v_27, .int r_19, .ref (a h0)]) ⟨hx, hb, hml, hown, hts⟩ (de_X16_operand l dC dI cy a sh n H_26.size F z_23 k_28 (z_23.1 h0 1) x0 1 hfc) (cwV 3 hts gX13_look_X16_operand rfl rfl rfl (by decide +kernel) ⟨Nat.le_of_ble_eq_true rfl, Nat.le_of_ble_eq_true rfl⟩) ⟨fun a U g mk q => by obtain ⟨q0, q1, qP, qK, qD, qN⟩ := q; exact ⟨q0, q1, qP, va_K.moved (u := U) (U := U.calling g mk a) (Vm.Alike.refl U.vm) qK, qD, qN.same rfl⟩, va_recv hK hP (ci := 16) (q0 := k_28) rfl (Wd_ob kg_31 sg_31 (by decide)), fun U hU hW => ⟨rfl, by rw [hU], by rw [hU]; exact hP, va_K.moved hW.alike hK, hD.weaken (fun _ _ _ _ => trivial), hN.warm hW⟩⟩ rfl rfl hl.1 rfl (lv_room (Nat.le_of_ble_eq_true rfl)) dX13_look_155 ⟨Nat.le_of_ble_eq_true rfl, Nat.le_of_ble_eq_true rfl⟩) hS (fun q _ h => hFc q h) hFc (fun rr u t H_32 locs ht hvm hw hB hz1 hk1 hS2 => ?_)
        rw [hw]
        clear hw
        obtain ⟨hP1, -, hD1⟩ := hB
        rw [ht] at hP1
        replace hD := hD1.weaken (fun _ _ _ h => hFc _ h)
        replace hP := hP1
        replace hS := hS2
        clear hP1 hD1 hS2 hFc hfc hz1 hk1 hvm ht
        refine lv_l2i (v := (r_30 : Int64).toInt32) hx hb dX13_look_158 rfl ?_
        obtain ⟨z_33, _u, hfc, hf⟩ := cal_some hf
        have hFc := de_free hD hS hA
        refine va_callv (va_runV (As := [.int r_19, .int v_27, .int ((r_30 : Int64).toInt32)]) (rest := []) ⟨hx, hb, hml, hown, hts⟩ (de_X13_operate l dC dI cy a sh n H_32.size F z_29 h0 r_19 v_27 ((r_30 : Int64).toInt32) hfc) (cwV 3 hts gX13_look_X13_operate rfl rfl rfl (by decide +kernel) ⟨Nat.le_of_ble_eq_true rfl, Nat.le_of_ble_eq_true rfl⟩) ⟨fun a U g mk q => by obtain ⟨q0, q1, qP, qK, qD, qN⟩ := q; exact ⟨q0, q1, qP, va_K.moved (u := U) (U := U.calling g mk a) (Vm.Alike.refl U.vm) qK, qD, qN.same rfl⟩, va_recv hK hP (ci := 13) (q0 := h0) rfl (Wd_ob kg_1 sg_1 (by decide)), fun U hU hW => ⟨rfl, by rw [hU], by rw [hU]; exact hP, va_K.moved hW.alike hK, hD.weaken (fun _ _ _ _ => trivial), hN.warm hW⟩⟩ rfl rfl hl.1 rfl (lv_room (Nat.le_of_ble_eq_true rfl)) dX13_look_159 ⟨Nat.le_of_ble_eq_true rfl, Nat.le_of_ble_eq_true rfl⟩) hS (fun q _ h => hFc q h) hFc (fun u t H_34 locs ht hvm hw hB hz1 hk1 hS2 => ?_)
        obtain ⟨hP1, -, hD1⟩ := hB
        rw [ht] at hP1
        replace hD := hD1.weaken (fun _ _ _ h => hFc _ h)
        replace hP := hP1
        replace hS := hS2
        clear hP1 hD1 hS2 hFc hfc hz1 hk1 hvm ht
        refine lv_iload_n hx hb dX13_look_162 rfl (lv_at hl 1 rfl) ?_
        refine lv_iconst (v := 1) hx hb dX13_look_163 (by decide) ?_
        refine de_cut (h := 178) (fun (x : St) => []) (fun x ls H locs => lv_has ls 4 [(2, .int r_19), (0, .ref (a h0)), (1, .int x0)] ∧ va_P (dC, dI) vwCl (Wd cy a sh n x) H ∧ va_D A (Wd cy a sh n x) ∧ va_S A s.heap H locs) (fun x => fn_X13_look_B178 F sh n r_19 h0 x0 x) (z8, r8) ?_ (fun B178 => ?_)
        · intro x ls H locs hI hf
          obtain ⟨z_35, ez⟩ : ∃ w, w = x := ⟨_, rfl⟩
          subst ez
          obtain ⟨hl2, hP2, hD2, hS2⟩ := hI
          replace hl : lv_has ls 4 [(2, .int r_19), (0, .ref (a h0)), (1, .int x0)] := hl2
          replace hP := hP2
          replace hD := hD2
          replace hS := hS2
          clear hl2 hP2 hD2 hS2
          replace hf := fn_X13_look_B178_s hf
          refine W.eq (g2 := F0 m 178 ls []) rfl ?_
          refine lv_iload_n hx hb dX13_look_178 rfl (lv_at hl 0 rfl) ?_
          refine lv_iconst (v := 1) hx hb dX13_look_179 (by decide) ?_
          refine lv_icmp_eq (tgt := 194) hx hb dX13_look_180 (by decide) (fun c_36 => ?_) (fun c_36 => ?_)
          · skip
            rw [if_pos c_36] at hf
            refine lv_aload_n hx hb dX13_look_194 rfl (lv_at hl 1 rfl) ?_
            refine lv_iconst (v := 0) hx hb dX13_look_195 (by decide) ?_
            refine va_put (D := (dC, dI)) (ci := 13) (v := .int 0) (ty := .int) (C := RX13) (T := TX13) (N := 22) hx hb hts iwd_X13_look_X13 tyX13 tyX13_ok nmX13 hown hK hP hD hS h0 (Wd_ob kg_1 sg_1 (by decide)) rfl 14 (by decide) (hts _ md_X13_look_3) (fun _ h9 => h9) rfl (by decide +kernel) rfl rfl (by rw [fl_len]; decide) dX13_look_196 (fun H_37 locs hP2 hD2 hS2 => ?_)
            rw [Wd_si sg_1 (by decide) rfl] at hP2 hD2
            obtain ⟨z_38, ez_38⟩ : ∃ w, w = si z_35 h0 14 0 := ⟨_, rfl⟩
            rw [← ez_38] at hP2 hD2
            replace hf := lt_at ez_38 hf
            clear ez_38
            replace hP := hP2
            replace hD := hD2
            replace hS := hS2
            clear hP2 hD2 hS2
            obtain ⟨h8, h9⟩ := ret_some hf
            rw [h8]
            exact W.vret hx hb hr (fun t ht hW => ⟨⟨(), rfl, trivial, by rw [ht]; exact hP, va_K.moved hW.alike hK, hD⟩, hS.F ht⟩) hS.2.2 dX13_look_199
          · skip
            rw [if_neg c_36] at hf
            refine lv_iload_n hx hb dX13_look_183 rfl (lv_at hl 0 rfl) ?_
            refine lv_iconst (v := 2) hx hb dX13_look_184 (by decide) ?_
            refine lv_icmp_eq (tgt := 194) hx hb dX13_look_185 (by decide) (fun c_39 => ?_) (fun c_39 => ?_)
            · skip
              rw [if_pos c_39] at hf
              refine lv_aload_n hx hb dX13_look_194 rfl (lv_at hl 1 rfl) ?_
              refine lv_iconst (v := 0) hx hb dX13_look_195 (by decide) ?_
              refine va_put (D := (dC, dI)) (ci := 13) (v := .int 0) (ty := .int) (C := RX13) (T := TX13) (N := 22) hx hb hts iwd_X13_look_X13 tyX13 tyX13_ok nmX13 hown hK hP hD hS h0 (Wd_ob kg_1 sg_1 (by decide)) rfl 14 (by decide) (hts _ md_X13_look_3) (fun _ h9 => h9) rfl (by decide +kernel) rfl rfl (by rw [fl_len]; decide) dX13_look_196 (fun H_40 locs hP2 hD2 hS2 => ?_)
              rw [Wd_si sg_1 (by decide) rfl] at hP2 hD2
              obtain ⟨z_41, ez_41⟩ : ∃ w, w = si z_35 h0 14 0 := ⟨_, rfl⟩
              rw [← ez_41] at hP2 hD2
              replace hf := lt_at ez_41 hf
              clear ez_41
              replace hP := hP2
              replace hD := hD2
              replace hS := hS2
              clear hP2 hD2 hS2
              obtain ⟨h8, h9⟩ := ret_some hf
              rw [h8]
              exact W.vret hx hb hr (fun t ht hW => ⟨⟨(), rfl, trivial, by rw [ht]; exact hP, va_K.moved hW.alike hK, hD⟩, hS.F ht⟩) hS.2.2 dX13_look_199
            · skip
              rw [if_neg c_39] at hf
              refine lv_iload_n hx hb dX13_look_188 rfl (lv_at hl 0 rfl) ?_
              refine lv_bipush (v := 45) hx hb dX13_look_189 (by decide) ?_
              refine lv_icmp_ne (tgt := 200) hx hb dX13_look_191 (by decide) (fun c_42 => ?_) (fun c_42 => ?_)
              · skip
                rw [if_neg c_42] at hf
                refine lv_aload_n hx hb dX13_look_200 rfl (lv_at hl 1 rfl) ?_
                refine lv_iload_n hx hb dX13_look_201 rfl (lv_at hl 2 rfl) ?_
                refine lv_iconst (v := 1) hx hb dX13_look_202 (by decide) ?_
                refine lv_iadd hx hb dX13_look_203 ?_
                refine lv_aload_n hx hb dX13_look_204 rfl (lv_at hl 1 rfl) ?_
                refine va_get (D := (dC, dI)) (ci := 13) (v := .int (z_35.1 h0 4)) (C := RX13) (T := TX13) (N := 22) hx hb hts iwd_X13_look_X13 hown hK hP h0 (Wd_ob kg_1 sg_1 (by decide)) rfl 4 (by decide) (hts _ md_X13_look_14) (fun _ h9 => h9) (fl_at (t := 0) rfl) dX13_look_205 ?_
                refine de_cut (h := 216) (fun (x : St × Int32) => [.int x.2, .ref (a h0)]) (fun x ls H locs => lv_has ls 4 [(0, .ref (a h0)), (1, .int x0)] ∧ va_P (dC, dI) vwCl (Wd cy a sh n x.1) H ∧ va_D A (Wd cy a sh n x.1) ∧ va_S A s.heap H locs) (fun x => fn_X13_look_B216 F sh n h0 x0 x.1 x.2) (z8, r8) ?_ (fun B216 => ?_)
                · intro x ls H locs hI hf
                  obtain ⟨z_44, p_43⟩ := x
                  obtain ⟨hl2, hP2, hD2, hS2⟩ := hI
                  replace hl : lv_has ls 4 [(0, .ref (a h0)), (1, .int x0)] := hl2
                  replace hP := hP2
                  replace hD := hD2
                  replace hS := hS2
                  clear hl2 hP2 hD2 hS2
                  replace hf := fn_X13_look_B216_s hf
                  refine W.eq (g2 := F0 m 216 ls [.int p_43, .ref (a h0)]) rfl ?_
                  refine lv_bipush (v := 11) hx hb dX13_look_216 (by decide) ?_
                  obtain ⟨z_45, _u, hfc, hf⟩ := cal_some hf
                  have hFc := de_free hD hS hA
                  refine va_callv (va_runV (As := [.int p_43, .int 11]) (rest := []) ⟨hx, hb, hml, hown, hts⟩ (de_X13_need l dC dI cy a sh n H.size F z_44 h0 p_43 11 hfc) (cwV 2 hts gX13_look_X13_need rfl rfl rfl (by decide +kernel) ⟨Nat.le_of_ble_eq_true rfl, Nat.le_of_ble_eq_true rfl⟩) ⟨fun a U g mk q => by obtain ⟨q0, q1, qP, qK, qD, qN⟩ := q; exact ⟨q0, q1, qP, va_K.moved (u := U) (U := U.calling g mk a) (Vm.Alike.refl U.vm) qK, qD, qN.same rfl⟩, va_recv hK hP (ci := 13) (q0 := h0) rfl (Wd_ob kg_1 sg_1 (by decide)), fun U hU hW => ⟨rfl, by rw [hU], by rw [hU]; exact hP, va_K.moved hW.alike hK, hD.weaken (fun _ _ _ _ => trivial), hN.warm hW⟩⟩ rfl rfl hl.1 rfl (lv_room (Nat.le_of_ble_eq_true rfl)) dX13_look_218 ⟨Nat.le_of_ble_eq_true rfl, Nat.le_of_ble_eq_true rfl⟩) hS (fun q _ h => hFc q h) hFc (fun u t H_46 locs ht hvm hw hB hz1 hk1 hS2 => ?_)
                  obtain ⟨hP1, -, hD1⟩ := hB
                  rw [ht] at hP1
                  replace hD := hD1.weaken (fun _ _ _ h => hFc _ h)
                  replace hP := hP1
                  replace hS := hS2
                  clear hP1 hD1 hS2 hFc hfc hz1 hk1 hvm ht
                  refine lv_aload_n hx hb dX13_look_221 rfl (lv_at hl 0 rfl) ?_
                  refine lv_iload_n hx hb dX13_look_222 rfl (lv_at hl 1 rfl) ?_
                  refine lv_iload_n hx hb dX13_look_223 rfl (lv_at hl 1 rfl) ?_
                  refine lv_iconst (v := 1) hx hb dX13_look_224 (by decide) ?_
                  refine lv_iadd hx hb dX13_look_225 ?_
                  obtain ⟨z_47, _u, hfc, hf⟩ := cal_some hf
                  have hFc := de_free hD hS hA
                  refine va_callv (va_runV (As := [.int x0, .int (x0 + 1)]) (rest := []) ⟨hx, hb, hml, hown, hts⟩ (de_X13_come l dC dI cy a sh n H_46.size F z_45 h0 x0 (x0 + 1) hfc) (cwV 2 hts gX13_look_X13_come rfl rfl rfl (by decide +kernel) ⟨Nat.le_of_ble_eq_true rfl, Nat.le_of_ble_eq_true rfl⟩) ⟨fun a U g mk q => by obtain ⟨q0, q1, qP, qK, qD, qN⟩ := q; exact ⟨q0, q1, qP, va_K.moved (u := U) (U := U.calling g mk a) (Vm.Alike.refl U.vm) qK, qD, qN.same rfl⟩, va_recv hK hP (ci := 13) (q0 := h0) rfl (Wd_ob kg_1 sg_1 (by decide)), fun U hU hW => ⟨rfl, by rw [hU], by rw [hU]; exact hP, va_K.moved hW.alike hK, hD.weaken (fun _ _ _ _ => trivial), hN.warm hW⟩⟩ rfl rfl hl.1 rfl (lv_room (Nat.le_of_ble_eq_true rfl)) dX13_look_226 ⟨Nat.le_of_ble_eq_true rfl, Nat.le_of_ble_eq_true rfl⟩) hS (fun q _ h => hFc q h) hFc (fun u t H_48 locs ht hvm hw hB hz1 hk1 hS2 => ?_)
                  obtain ⟨hP1, -, hD1⟩ := hB
                  rw [ht] at hP1
                  replace hD := hD1.weaken (fun _ _ _ h => hFc _ h)
                  replace hP := hP1
                  replace hS := hS2
                  clear hP1 hD1 hS2 hFc hfc hz1 hk1 hvm ht
                  obtain ⟨h8, h9⟩ := ret_some hf
                  rw [h8]
                  exact W.vret hx hb hr (fun t ht hW => ⟨⟨(), rfl, trivial, by rw [ht]; exact hP, va_K.moved hW.alike hK, hD⟩, hS.F ht⟩) hS.2.2 dX13_look_229
                refine lv_icmp_ge (tgt := 215) hx hb dX13_look_208 (by decide) (fun c_49 => ?_) (fun c_49 => ?_)
                · skip
                  rw [if_pos c_49] at hf
                  refine lv_iconst (v := 0) hx hb dX13_look_215 (by decide) ?_
                  exact B216 (z_35, 0) ls H locs ⟨lv_sub hl [1, 2] rfl, hP, hD, hS⟩ hf
                · skip
                  rw [if_neg c_49] at hf
                  refine lv_iconst (v := 1) hx hb dX13_look_211 (by decide) ?_
                  refine lv_goto (tgt := 216) hx hb dX13_look_212 (by decide) ?_
                  exact B216 (z_35, 1) ls H locs ⟨lv_sub hl [1, 2] rfl, hP, hD, hS⟩ hf
              · skip
                rw [if_pos c_42] at hf
                refine lv_aload_n hx hb dX13_look_194 rfl (lv_at hl 1 rfl) ?_
                refine lv_iconst (v := 0) hx hb dX13_look_195 (by decide) ?_
                refine va_put (D := (dC, dI)) (ci := 13) (v := .int 0) (ty := .int) (C := RX13) (T := TX13) (N := 22) hx hb hts iwd_X13_look_X13 tyX13 tyX13_ok nmX13 hown hK hP hD hS h0 (Wd_ob kg_1 sg_1 (by decide)) rfl 14 (by decide) (hts _ md_X13_look_3) (fun _ h9 => h9) rfl (by decide +kernel) rfl rfl (by rw [fl_len]; decide) dX13_look_196 (fun H_50 locs hP2 hD2 hS2 => ?_)
                rw [Wd_si sg_1 (by decide) rfl] at hP2 hD2
                obtain ⟨z_51, ez_51⟩ : ∃ w, w = si z_35 h0 14 0 := ⟨_, rfl⟩
                rw [← ez_51] at hP2 hD2
                replace hf := lt_at ez_51 hf
                clear ez_51
                replace hP := hP2
                replace hD := hD2
                replace hS := hS2
                clear hP2 hD2 hS2
                obtain ⟨h8, h9⟩ := ret_some hf
                rw [h8]
                exact W.vret hx hb hr (fun t ht hW => ⟨⟨(), rfl, trivial, by rw [ht]; exact hP, va_K.moved hW.alike hK, hD⟩, hS.F ht⟩) hS.2.2 dX13_look_199
        refine lv_icmp_le (tgt := 178) hx hb dX13_look_164 (by decide) (fun c_52 => ?_) (fun c_52 => ?_)
        · skip
          rw [if_pos c_52] at hf
          exact B178 (z_33) ls H_34 locs ⟨lv_sub hl [1, 2, 3] rfl, hP, hD, hS⟩ hf
        · skip
          rw [if_neg c_52] at hf
          refine lv_iload_n hx hb dX13_look_167 rfl (lv_at hl 1 rfl) ?_
          refine lv_iconst (v := 5) hx hb dX13_look_168 (by decide) ?_
          refine lv_icmp_ge (tgt := 178) hx hb dX13_look_169 (by decide) (fun c_53 => ?_) (fun c_53 => ?_)
          · skip
            rw [if_pos c_53] at hf
            exact B178 (z_33) ls H_34 locs ⟨lv_sub hl [1, 2, 3] rfl, hP, hD, hS⟩ hf
          · skip
            rw [if_neg c_53] at hf
            refine lv_aload_n hx hb dX13_look_172 rfl (lv_at hl 2 rfl) ?_
            refine lv_iload_n hx hb dX13_look_173 rfl (lv_at hl 3 rfl) ?_
            refine lv_iload_n hx hb dX13_look_174 rfl (lv_at hl 0 rfl) ?_
            obtain ⟨z_54, _u, hfc, hf⟩ := cal_some hf
            have hFc := de_free hD hS hA
            refine va_callv (va_runV (As := [.int x0, .int v_27]) (rest := []) ⟨hx, hb, hml, hown, hts⟩ (de_X13_come l dC dI cy a sh n H_34.size F z_33 h0 x0 v_27 hfc) (cwV 2 hts gX13_look_X13_come rfl rfl rfl (by decide +kernel) ⟨Nat.le_of_ble_eq_true rfl, Nat.le_of_ble_eq_true rfl⟩) ⟨fun a U g mk q => by obtain ⟨q0, q1, qP, qK, qD, qN⟩ := q; exact ⟨q0, q1, qP, va_K.moved (u := U) (U := U.calling g mk a) (Vm.Alike.refl U.vm) qK, qD, qN.same rfl⟩, va_recv hK hP (ci := 13) (q0 := h0) rfl (Wd_ob kg_1 sg_1 (by decide)), fun U hU hW => ⟨rfl, by rw [hU], by rw [hU]; exact hP, va_K.moved hW.alike hK, hD.weaken (fun _ _ _ _ => trivial), hN.warm hW⟩⟩ rfl rfl hl.1 rfl (lv_room (Nat.le_of_ble_eq_true rfl)) dX13_look_175 ⟨Nat.le_of_ble_eq_true rfl, Nat.le_of_ble_eq_true rfl⟩) hS (fun q _ h => hFc q h) hFc (fun u t H_55 locs ht hvm hw hB hz1 hk1 hS2 => ?_)
            obtain ⟨hP1, -, hD1⟩ := hB
            rw [ht] at hP1
            replace hD := hD1.weaken (fun _ _ _ h => hFc _ h)
            replace hP := hP1
            replace hS := hS2
            clear hP1 hD1 hS2 hFc hfc hz1 hk1 hvm ht
            exact B178 (z_54) ls H_55 locs ⟨lv_sub hl [1, 2, 3] rfl, hP, hD, hS⟩ hf
      · skip
        rw [if_neg c_16] at hf
        refine lv_aload_n hx hb dX13_look_57 rfl (lv_at hl 1 rfl) ?_
        obtain ⟨k_56, ek_56, hf⟩ := lnk_some hf
        refine va_get (D := (dC, dI)) (ci := 13) (v := .ref (a k_56)) (C := RX13) (T := TX13) (N := 22) hx hb hts iwd_X13_look_X13 hown hK hP h0 (Wd_ob kg_1 sg_1 (by decide)) rfl 15 (by decide) (hts _ md_X13_look_6) (fun _ h9 => h9) (fl_q rfl ek_56) dX13_look_58 ?_
        refine lv_iload_n hx hb dX13_look_61 rfl (lv_at hl 0 rfl) ?_
        refine lv_aload_n hx hb dX13_look_62 rfl (lv_at hl 1 rfl) ?_
        obtain ⟨k_57, ek_57, hf⟩ := lnk_some hf
        refine va_get (D := (dC, dI)) (ci := 13) (v := .ref (a k_57)) (C := RX13) (T := TX13) (N := 22) hx hb hts iwd_X13_look_X13 hown hK hP h0 (Wd_ob kg_1 sg_1 (by decide)) rfl 8 (by decide) (hts _ md_X13_look_7) (fun _ h9 => h9) (fl_q rfl ek_57) dX13_look_63 ?_
        refine lv_bipush (v := 40) hx hb dX13_look_66 (by decide) ?_
        refine lv_iload_n hx hb dX13_look_68 rfl (lv_at hl 2 rfl) ?_
        refine lv_imul hx hb dX13_look_69 ?_
        refine lv_iload_n hx hb dX13_look_70 rfl (lv_at hl 0 rfl) ?_
        refine lv_iadd hx hb dX13_look_71 ?_
        obtain ⟨g_58, hf⟩ := grd_some hf
        obtain ⟨kg_58, sg_58, ig_58⟩ := okA_at g_58
        refine va_zald hx hb hK hP k_57 3 (Wd_az kg_58 sg_58) rfl ig_58 dX13_look_72 ?_
        obtain ⟨g_59, hf⟩ := grd_some hf
        obtain ⟨kg_59, sg_59, ig_59⟩ := okA_at g_59
        refine va_zast hx hb hK hP hD hS k_56 3 (Wd_az kg_59 sg_59) rfl ig_59 dX13_look_73 (fun H_60 locs hP2 hD2 hS2 => ?_)
        rw [Wd_tz sg_59] at hP2 hD2
        obtain ⟨z_61, ez_61⟩ : ∃ w, w = si z_14 k_56 p_13.toNatClampNeg (vp_nar .boolean (z_14.1 k_57 ((40 * x0) + p_13).toNatClampNeg)) := ⟨_, rfl⟩
        rw [← ez_61] at hP2 hD2
        replace hf := lt_at ez_61 hf
        clear ez_61
        replace hP := hP2
        replace hD := hD2
        replace hS := hS2
        clear hP2 hD2 hS2
        refine lv_aload_n hx hb dX13_look_74 rfl (lv_at hl 1 rfl) ?_
        obtain ⟨k_62, ek_62, hf⟩ := lnk_some hf
        refine va_get (D := (dC, dI)) (ci := 13) (v := .ref (a k_62)) (C := RX13) (T := TX13) (N := 22) hx hb hts iwd_X13_look_X13 hown hK hP h0 (Wd_ob kg_1 sg_1 (by decide)) rfl 16 (by decide) (hts _ md_X13_look_8) (fun _ h9 => h9) (fl_q rfl ek_62) dX13_look_75 ?_
        refine lv_iload_n hx hb dX13_look_78 rfl (lv_at hl 0 rfl) ?_
        refine lv_aload_n hx hb dX13_look_79 rfl (lv_at hl 1 rfl) ?_
        obtain ⟨k_63, ek_63, hf⟩ := lnk_some hf
        refine va_get (D := (dC, dI)) (ci := 13) (v := .ref (a k_63)) (C := RX13) (T := TX13) (N := 22) hx hb hts iwd_X13_look_X13 hown hK hP h0 (Wd_ob kg_1 sg_1 (by decide)) rfl 9 (by decide) (hts _ md_X13_look_9) (fun _ h9 => h9) (fl_q rfl ek_63) dX13_look_80 ?_
        refine lv_bipush (v := 40) hx hb dX13_look_83 (by decide) ?_
        refine lv_iload_n hx hb dX13_look_85 rfl (lv_at hl 2 rfl) ?_
        refine lv_imul hx hb dX13_look_86 ?_
        refine lv_iload_n hx hb dX13_look_87 rfl (lv_at hl 0 rfl) ?_
        refine lv_iadd hx hb dX13_look_88 ?_
        obtain ⟨g_64, hf⟩ := grd_some hf
        obtain ⟨kg_64, sg_64, ig_64⟩ := okA_at g_64
        refine va_lald hx hb hK hP k_63 2 (Wd_al kg_64 sg_64) rfl ig_64 dX13_look_89 ?_
        obtain ⟨g_65, hf⟩ := grd_some hf
        obtain ⟨kg_65, sg_65, ig_65⟩ := okA_at g_65
        refine va_last hx hb hK hP hD hS k_62 2 (Wd_al kg_65 sg_65) rfl ig_65 dX13_look_90 (fun H_66 locs hP2 hD2 hS2 => ?_)
        rw [Wd_tl sg_65] at hP2 hD2
        obtain ⟨z_67, ez_67⟩ : ∃ w, w = sl z_61 k_62 p_13.toNatClampNeg (z_61.2.1 k_63 ((40 * x0) + p_13).toNatClampNeg) := ⟨_, rfl⟩
        rw [← ez_67] at hP2 hD2
        replace hf := lt_at ez_67 hf
        clear ez_67
        replace hP := hP2
        replace hD := hD2
        replace hS := hS2
        clear hP2 hD2 hS2
        refine lv_aload_n hx hb dX13_look_91 rfl (lv_at hl 1 rfl) ?_
        obtain ⟨k_68, ek_68, hf⟩ := lnk_some hf
        refine va_get (D := (dC, dI)) (ci := 13) (v := .ref (a k_68)) (C := RX13) (T := TX13) (N := 22) hx hb hts iwd_X13_look_X13 hown hK hP h0 (Wd_ob kg_1 sg_1 (by decide)) rfl 17 (by decide) (hts _ md_X13_look_10) (fun _ h9 => h9) (fl_q rfl ek_68) dX13_look_92 ?_
        refine lv_iload_n hx hb dX13_look_95 rfl (lv_at hl 0 rfl) ?_
        refine lv_aload_n hx hb dX13_look_96 rfl (lv_at hl 1 rfl) ?_
        obtain ⟨k_69, ek_69, hf⟩ := lnk_some hf
        refine va_get (D := (dC, dI)) (ci := 13) (v := .ref (a k_69)) (C := RX13) (T := TX13) (N := 22) hx hb hts iwd_X13_look_X13 hown hK hP h0 (Wd_ob kg_1 sg_1 (by decide)) rfl 10 (by decide) (hts _ md_X13_look_11) (fun _ h9 => h9) (fl_q rfl ek_69) dX13_look_97 ?_
        refine lv_bipush (v := 40) hx hb dX13_look_100 (by decide) ?_
        refine lv_iload_n hx hb dX13_look_102 rfl (lv_at hl 2 rfl) ?_
        refine lv_imul hx hb dX13_look_103 ?_
        refine lv_iload_n hx hb dX13_look_104 rfl (lv_at hl 0 rfl) ?_
        refine lv_iadd hx hb dX13_look_105 ?_
        obtain ⟨g_70, hf⟩ := grd_some hf
        obtain ⟨kg_70, sg_70, ig_70⟩ := okA_at g_70
        refine va_zald hx hb hK hP k_69 3 (Wd_az kg_70 sg_70) rfl ig_70 dX13_look_106 ?_
        obtain ⟨g_71, hf⟩ := grd_some hf
        obtain ⟨kg_71, sg_71, ig_71⟩ := okA_at g_71
        refine va_zast hx hb hK hP hD hS k_68 3 (Wd_az kg_71 sg_71) rfl ig_71 dX13_look_107 (fun H_72 locs hP2 hD2 hS2 => ?_)
        rw [Wd_tz sg_71] at hP2 hD2
        obtain ⟨z_73, ez_73⟩ : ∃ w, w = si z_67 k_68 p_13.toNatClampNeg (vp_nar .boolean (z_67.1 k_69 ((40 * x0) + p_13).toNatClampNeg)) := ⟨_, rfl⟩
        rw [← ez_73] at hP2 hD2
        replace hf := lt_at ez_73 hf
        clear ez_73
        replace hP := hP2
        replace hD := hD2
        replace hS := hS2
        clear hP2 hD2 hS2
        refine lv_iinc (v := (p_13 + 1)) (lv' := [(2, .int (p_13 + 1)), (0, .ref (a h0)), (1, .int x0)]) hx hb dX13_look_108 hl (k := 0) rfl rfl (by decide) rfl (fun ls hl2 => ?_)
        replace hl := hl2
        clear hl2
        refine lv_goto (tgt := 49) hx hb dX13_look_111 (by decide) ?_
        exact ih49 (z_73, (p_13 + 1)) ls H_72 locs ⟨lv_sub hl [0, 1, 2] rfl, hP, hD, hS⟩ hf
    · skip
      rw [if_neg c_12] at hf
      obtain ⟨h8, h9⟩ := ret_some hf
      rw [h8]
      exact W.vret hx hb hr (fun t ht hW => ⟨⟨(), rfl, trivial, by rw [ht]; exact hP, va_K.moved hW.alike hK, hD⟩, hS.F ht⟩) hS.2.2 dX13_look_46
  refine de_cut (h := 29) (fun (x : St) => [.ref (a h0)]) (fun x ls H locs => lv_has ls 4 [(0, .ref (a h0)), (1, .int x0)] ∧ va_P (dC, dI) vwCl (Wd cy a sh n x) H ∧ va_D A (Wd cy a sh n x) ∧ va_S A s.heap H locs) (fun x => fn_X13_look_B29 F sh n h0 x0 x) (z8, r8) ?_ (fun B29 => ?_)
  · intro x ls H locs hI hf
    obtain ⟨z_74, ez⟩ : ∃ w, w = x := ⟨_, rfl⟩
    subst ez
    obtain ⟨hl2, hP2, hD2, hS2⟩ := hI
    replace hl : lv_has ls 4 [(0, .ref (a h0)), (1, .int x0)] := hl2
    replace hP := hP2
    replace hD := hD2
    replace hS := hS2
    clear hl2 hP2 hD2 hS2
    replace hf := fn_X13_look_B29_s hf
    refine W.eq (g2 := F0 m 29 ls [.ref (a h0)]) rfl ?_
    refine lv_iconst (v := 1) hx hb dX13_look_29 (by decide) ?_
    refine lv_goto (tgt := 34) hx hb dX13_look_30 (by decide) ?_
    exact B34 (z_74, 1) ls H locs ⟨lv_sub hl [0, 1] rfl, hP, hD, hS⟩ hf
  refine lv_if_eq (tgt := 29) hx hb dX13_look_19 (by decide) (fun c_75 => ?_) (fun c_75 => ?_)
  · skip
    rw [if_pos c_75] at hf
    exact B29 (z_4) ls H_5 locs ⟨lv_sub hl [0, 1] rfl, hP, hD, hS⟩ hf
  · skip
    rw [if_neg c_75] at hf
    refine lv_aload_n hx hb dX13_look_22 rfl (lv_at hl 0 rfl) ?_
    refine va_get (D := (dC, dI)) (ci := 13) (v := .int (z_4.1 h0 14)) (C := RX13) (T := TX13) (N := 22) hx hb hts iwd_X13_look_X13 hown hK hP h0 (Wd_ob kg_1 sg_1 (by decide)) rfl 14 (by decide) (hts _ md_X13_look_3) (fun _ h9 => h9) (fl_at (t := 0) rfl) dX13_look_23 ?_
    refine lv_if_ne (tgt := 33) hx hb dX13_look_26 (by decide) (fun c_76 => ?_) (fun c_76 => ?_)
    · skip
      rw [if_neg c_76] at hf
      refine lv_iconst (v := 0) hx hb dX13_look_33 (by decide) ?_
      exact B34 (z_4, 0) ls H_5 locs ⟨lv_sub hl [0, 1] rfl, hP, hD, hS⟩ hf
    · skip
      rw [if_pos c_76] at hf
      exact B29 (z_4) ls H_5 locs ⟨lv_sub hl [0, 1] rfl, hP, hD, hS⟩ hf

theorem md_X18_callOne_1 : (.fieldLink RX18 40 "ResourceLedgerModel" "trees" "LResourceLedgerModel$Trees;" : Cond) ∈ wsX18_callOne := List.mem_of_getElem? (i := 1) rfl
theorem iwd_X18_callOne_X18 : ∀ w ∈ wsX180, w ∈ wsX18_callOne := fun _ h => List.mem_cons_of_mem _ (List.mem_append_left _ (List.mem_append_left _ (List.mem_append_left _ (List.mem_append_left _ (List.mem_append_right _ h)))))
theorem iwd_X18_callOne_X15 : ∀ w ∈ wsX150, w ∈ wsX18_callOne := fun _ h => List.mem_cons_of_mem _ (List.mem_append_left _ (List.mem_append_left _ (List.mem_append_left _ (List.mem_append_right _ h))))
theorem md_X18_callOne_2 : (.fieldLink RX18 271 "ResourceLedgerModel" "asked" "I" : Cond) ∈ wsX18_callOne := List.mem_of_getElem? (i := 2) rfl
theorem md_X18_callOne_3 : (.fieldLink RX18 411 "ResourceLedgerModel" "sender" "J" : Cond) ∈ wsX18_callOne := List.mem_of_getElem? (i := 3) rfl
theorem md_X18_callOne_4 : (.fieldLink RX18 300 "ResourceLedgerModel" "askedBalances" "[J" : Cond) ∈ wsX18_callOne := List.mem_of_getElem? (i := 4) rfl
theorem md_X18_callOne_5 : (.fieldLink RX18 264 "ResourceLedgerModel" "limit" "I" : Cond) ∈ wsX18_callOne := List.mem_of_getElem? (i := 5) rfl
theorem md_X18_callOne_6 : (.fieldLink RX18 550 "ResourceLedgerModel" "modulesCalled" "[I" : Cond) ∈ wsX18_callOne := List.mem_of_getElem? (i := 6) rfl
theorem md_X18_callOne_7 : (.fieldLink RX18 328 "ResourceLedgerModel" "frames" "I" : Cond) ∈ wsX18_callOne := List.mem_of_getElem? (i := 7) rfl
theorem md_X18_callOne_8 : (.fieldLink RX18 312 "ResourceLedgerModel" "height" "I" : Cond) ∈ wsX18_callOne := List.mem_of_getElem? (i := 8) rfl
theorem md_X18_callOne_9 : (.fieldLink RX18 556 "ResourceLedgerModel" "argumentCounts" "[I" : Cond) ∈ wsX18_callOne := List.mem_of_getElem? (i := 9) rfl
theorem md_X18_callOne_13 : (.fieldLink RX18 553 "ResourceLedgerModel" "functionsCalled" "[I" : Cond) ∈ wsX18_callOne := List.mem_of_getElem? (i := 13) rfl
theorem md_X18_callOne_14 : (.fieldLink RX18 250 "ResourceLedgerModel" "outcome" "I" : Cond) ∈ wsX18_callOne := List.mem_of_getElem? (i := 14) rfl
theorem md_X18_callOne_21 : (.fieldLink RX18 587 "ResourceLedgerModel" "resultCounts" "[I" : Cond) ∈ wsX18_callOne := List.mem_of_getElem? (i := 21) rfl
theorem md_X18_callOne_17 : (.fieldLink RX18 590 "ResourceLedgerModel" "resultTypes" "[B" : Cond) ∈ wsX18_callOne := List.mem_of_getElem? (i := 17) rfl
theorem md_X18_callOne_18 : (.fieldLink RX18 309 "ResourceLedgerModel" "stack" "[I" : Cond) ∈ wsX18_callOne := List.mem_of_getElem? (i := 18) rfl
theorem md_X18_callOne_19 : (.fieldLink RX18 593 "ResourceLedgerModel" "resultHighs" "[J" : Cond) ∈ wsX18_callOne := List.mem_of_getElem? (i := 19) rfl
theorem md_X18_callOne_20 : (.fieldLink RX18 596 "ResourceLedgerModel" "resultLows" "[J" : Cond) ∈ wsX18_callOne := List.mem_of_getElem? (i := 20) rfl
theorem md_X18_callOne_15 : (.constantLong RX18 283 (4) : Cond) ∈ wsX18_callOne := List.mem_of_getElem? (i := 15) rfl
theorem md_X18_callOne_16 : (.fieldLink RX18 253 "ResourceLedgerModel" "code" "J" : Cond) ∈ wsX18_callOne := List.mem_of_getElem? (i := 16) rfl
theorem md_X18_callOne_10 : (.fieldLink RX18 559 "ResourceLedgerModel" "argumentTypes" "[B" : Cond) ∈ wsX18_callOne := List.mem_of_getElem? (i := 10) rfl
theorem md_X18_callOne_11 : (.fieldLink RX18 562 "ResourceLedgerModel" "argumentHighs" "[J" : Cond) ∈ wsX18_callOne := List.mem_of_getElem? (i := 11) rfl
theorem md_X18_callOne_12 : (.fieldLink RX18 565 "ResourceLedgerModel" "argumentLows" "[J" : Cond) ∈ wsX18_callOne := List.mem_of_getElem? (i := 12) rfl
set_option maxHeartbeats 4000000 in
set_option maxRecDepth 100000 in
theorem de_X18_callOne (l : Launch) (dC : Nat → ClassId) (dI : Nat → Nat → Nat) (cy : Nat → ClassId) (a : Nat → Nat) (sh : Nat → Nat × Nat) (n sz : Nat) (F : Nat) (sk : Nat → Nat) (z : St) (h0 : Nat) (x0 : Int32) (x1 : Int32) (x2 : Int32) {z8 : St} {r8 : Unit} (hf : fn_X18_callOne F sh n z h0 x0 x1 x2 = some (z8, r8)) : Met l yX18_callOne wsX18_callOne ({ frames := 55, cells := 0, slots := 0, locals := 1279 }) (va_Pc [.ref (a h0), .int x0, .int x1, .int x2] (fun U => U.heap.size = sz ∧ va_P (dC, dI) vwCl (Wd cy a sh n z) U.heap ∧ va_K (dC, dI) vwCl (TYS cy) U ∧ va_D (fun _ => True) (Wd cy a sh n z) ∧ NK U ∧ SKs sk (a CBK) (va_A (Wd cy a sh n z) sz) U U.heap)) (va_Qv (fun u : Unit => True) (fun u t => va_P (dC, dI) vwCl (Wd cy a sh n z8) t.heap ∧ va_K (dC, dI) vwCl (TYS cy) t ∧ va_D (va_A (Wd cy a sh n z) sz) (Wd cy a sh n z8)) (va_A (Wd cy a sh n z) sz)) 0 0 (va_A (Wd cy a sh n z) sz) := by
  refine Met.ofW (cc := cX18_callOne) (maxL := 6) (ret := none) (by decide) rfl ?_
  intro p e s m args below meth c s₁ B hml hv
  obtain ⟨rfl, hsz, hP, hK, hD0, hN, hSK⟩ := hv
  have hx := B.exec
  have hb := B.bytes
  have hr := B.returns
  have hts := atoms_spec (ws := wsX18_callOne) B.pre
  have hown : s.vm.findClass RX18 = some m.cls := findClass_of_methodNamed B.named
  have hlocks := B.notSynchronized
  subst hsz
  have hD := hD0.self (sz := s.heap.size)
  clear hD0
  generalize hAe : va_A (Wd cy a sh n z) s.heap.size = A at hD hSK ⊢
  have hA : ∀ q : Nat, s.heap.size ≤ q → A q := fun q h => by rw [← hAe]; exact Or.inr h
  clear hAe
  have hS : va_S A s.heap s.heap [] := va_S.rf
  have hl := lv_entry ([.ref (a h0), .int x0, .int x1, .int x2]) (n := 6) (Nat.le_of_ble_eq_true rfl)
  rw [lg_entry_eq]
  generalize (lg_sl ([.ref (a h0), .int x0, .int x1, .int x2]) ++ List.replicate (6 - (lg_sl ([.ref (a h0), .int x0, .int x1, .int x2])).length) Slot.unset).toArray = ls at hl ⊢
  replace hl : lv_has ls 6 [(0, .ref (a h0)), (1, .int x0), (2, .int x1), (3, .int x2)] := hl
  unfold fn_X18_callOne at hf
  refine de_start hS hP (fun H locs hS hP => ?_)
  refine lv_aload_n hx hb dX18_callOne_0 rfl (lv_at hl 0 rfl) ?_
  obtain ⟨g_1, hf⟩ := grd_some hf
  obtain ⟨kg_1, sg_1⟩ := okO_at g_1
  obtain ⟨k_2, ek_2, hf⟩ := lnk_some hf
  refine va_get (D := (dC, dI)) (ci := 18) (v := .ref (a k_2)) (C := RX18) (T := TX18) (N := 78) hx hb hts iwd_X18_callOne_X18 hown hK hP h0 (Wd_ob kg_1 sg_1 (by decide)) rfl 15 (by decide) (hts _ md_X18_callOne_1) (fun _ h9 => h9) (fl_q rfl ek_2) dX18_callOne_1 ?_
  refine lv_iconst (v := 0) hx hb dX18_callOne_4 (by decide) ?_
  obtain ⟨g_3, hf⟩ := grd_some hf
  obtain ⟨kg_3, sg_3⟩ := okO_at g_3
  refine va_putN (D := (dC, dI)) (ci := 15) (v := .int 0) (ty := .int) (C := RX15) (T := TX15) (N := 6) hx hb hts iwd_X18_callOne_X15 tyX15 tyX15_ok nmX15 hown hK hP hD hS k_2 (Wd_ob kg_3 sg_3 (by decide)) rfl 5 (by decide) (va_Nw.use rfl (NK_f_X18_659 hN)) (fun _ h9 => h9) rfl (by decide +kernel) rfl rfl (by rw [fl_len]; decide) dX18_callOne_5 (fun H_4 locs hP2 hD2 hS2 => ?_)
  rw [Wd_si sg_3 (by decide) rfl] at hP2 hD2
  obtain ⟨z_5, ez_5⟩ : ∃ w, w = si z k_2 5 0 := ⟨_, rfl⟩
  rw [← ez_5] at hP2 hD2
  replace hf := lt_at ez_5 hf
  clear ez_5
  replace hP := hP2
  replace hD := hD2
  replace hS := hS2
  clear hP2 hD2 hS2
  refine lv_aload_n hx hb dX18_callOne_8 rfl (lv_at hl 0 rfl) ?_
  refine lv_iconst (v := 0) hx hb dX18_callOne_9 (by decide) ?_
  refine va_put (D := (dC, dI)) (ci := 18) (v := .int 0) (ty := .int) (C := RX18) (T := TX18) (N := 78) hx hb hts iwd_X18_callOne_X18 tyX18 tyX18_ok nmX18 hown hK hP hD hS h0 (Wd_ob kg_1 sg_1 (by decide)) rfl 29 (by decide) (hts _ md_X18_callOne_2) (fun _ h9 => h9) rfl (by decide +kernel) rfl rfl (by rw [fl_len]; decide) dX18_callOne_10 (fun H_6 locs hP2 hD2 hS2 => ?_)
  rw [Wd_si sg_1 (by decide) rfl] at hP2 hD2
  obtain ⟨z_7, ez_7⟩ : ∃ w, w = si z_5 h0 29 0 := ⟨_, rfl⟩
  rw [← ez_7] at hP2 hD2
  replace hf := lt_at ez_7 hf
  clear ez_7
  replace hP := hP2
  replace hD := hD2
  replace hS := hS2
  clear hP2 hD2 hS2
  refine lv_aload_n hx hb dX18_callOne_13 rfl (lv_at hl 0 rfl) ?_
  refine lv_iconst (v := 1) hx hb dX18_callOne_14 (by decide) ?_
  refine lv_aload_n hx hb dX18_callOne_15 rfl (lv_at hl 0 rfl) ?_
  refine va_get (D := (dC, dI)) (ci := 18) (v := .long (z_7.2.1 h0 24)) (C := RX18) (T := TX18) (N := 78) hx hb hts iwd_X18_callOne_X18 hown hK hP h0 (Wd_ob kg_1 sg_1 (by decide)) rfl 24 (by decide) (hts _ md_X18_callOne_3) (fun _ h9 => h9) (fl_at (t := 1) rfl) dX18_callOne_16 ?_
  refine lv_iconst (v := 0) hx hb dX18_callOne_19 (by decide) ?_
  obtain ⟨z_8, r_9, hfc, hf⟩ := cal_some hf
  have hFc := de_free hD hS hA
  refine va_calli (va_runV (As := [.int 1, .long (z_7.2.1 h0 24), .int 0]) (rest := []) ⟨hx, hb, hml, hown, hts⟩ (de_X18_ask l dC dI cy a sh n H_6.size F z_7 h0 1 (z_7.2.1 h0 24) 0 hfc) (cwV 3 hts gX18_callOne_X18_ask rfl rfl rfl (by decide +kernel) ⟨Nat.le_of_ble_eq_true rfl, Nat.le_of_ble_eq_true rfl⟩) ⟨fun a U g mk q => by obtain ⟨q0, q1, qP, qK, qD, qN⟩ := q; exact ⟨q0, q1, qP, va_K.moved (u := U) (U := U.calling g mk a) (Vm.Alike.refl U.vm) qK, qD, qN.same rfl⟩, va_recv hK hP (ci := 18) (q0 := h0) rfl (Wd_ob kg_1 sg_1 (by decide)), fun U hU hW => ⟨rfl, by rw [hU], by rw [hU]; exact hP, va_K.moved hW.alike hK, hD.weaken (fun _ _ _ _ => trivial), hN.warm hW⟩⟩ rfl rfl hl.1 rfl (lv_room (Nat.le_of_ble_eq_true rfl)) dX18_callOne_20 ⟨Nat.le_of_ble_eq_true rfl, Nat.le_of_ble_eq_true rfl⟩) hS (fun q _ h => hFc q h) hFc (fun rr u t H_10 locs ht hvm hw hB hz1 hk1 hS2 => ?_)
  rw [hw]
  clear hw
  obtain ⟨hP1, -, hD1⟩ := hB
  rw [ht] at hP1
  replace hD := hD1.weaken (fun _ _ _ h => hFc _ h)
  replace hP := hP1
  replace hS := hS2
  clear hP1 hD1 hS2 hFc hfc hz1 hk1 hvm ht
  refine lv_pop hx hb dX18_callOne_23 rfl ?_
  refine lv_aload_n hx hb dX18_callOne_24 rfl (lv_at hl 0 rfl) ?_
  obtain ⟨k_11, ek_11, hf⟩ := lnk_some hf
  refine va_get (D := (dC, dI)) (ci := 18) (v := .ref (a k_11)) (C := RX18) (T := TX18) (N := 78) hx hb hts iwd_X18_callOne_X18 hown hK hP h0 (Wd_ob kg_1 sg_1 (by decide)) rfl 33 (by decide) (hts _ md_X18_callOne_4) (fun _ h9 => h9) (fl_q rfl ek_11) dX18_callOne_25 ?_
  refine lv_iconst (v := 0) hx hb dX18_callOne_28 (by decide) ?_
  refine lv_dup2_11 hx hb dX18_callOne_29 rfl rfl ?_
  obtain ⟨g_12, hf⟩ := grd_some hf
  obtain ⟨kg_12, sg_12, ig_12⟩ := okA_at g_12
  refine va_lald hx hb hK hP k_11 2 (Wd_al kg_12 sg_12) rfl ig_12 dX18_callOne_30 ?_
  refine lv_aload_n hx hb dX18_callOne_31 rfl (lv_at hl 0 rfl) ?_
  refine va_get (D := (dC, dI)) (ci := 18) (v := .int (z_8.1 h0 25)) (C := RX18) (T := TX18) (N := 78) hx hb hts iwd_X18_callOne_X18 hown hK hP h0 (Wd_ob kg_1 sg_1 (by decide)) rfl 25 (by decide) (hts _ md_X18_callOne_5) (fun _ h9 => h9) (fl_at (t := 0) rfl) dX18_callOne_32 ?_
  refine lv_i2l (v := ((z_8.1 h0 25) : Int32).toInt64) hx hb dX18_callOne_35 rfl ?_
  refine lv_lsub hx hb dX18_callOne_36 ?_
  obtain ⟨g_13, hf⟩ := grd_some hf
  obtain ⟨kg_13, sg_13, ig_13⟩ := okA_at g_13
  refine va_last hx hb hK hP hD hS k_11 2 (Wd_al kg_13 sg_13) rfl ig_13 dX18_callOne_37 (fun H_14 locs hP2 hD2 hS2 => ?_)
  rw [Wd_tl sg_13] at hP2 hD2
  obtain ⟨z_15, ez_15⟩ : ∃ w, w = sl z_8 k_11 (0 : Int32).toNatClampNeg ((z_8.2.1 k_11 (0 : Int32).toNatClampNeg) - (((z_8.1 h0 25) : Int32).toInt64)) := ⟨_, rfl⟩
  rw [← ez_15] at hP2 hD2
  replace hf := lt_at ez_15 hf
  clear ez_15
  replace hP := hP2
  replace hD := hD2
  replace hS := hS2
  clear hP2 hD2 hS2
  refine lv_aload_n hx hb dX18_callOne_38 rfl (lv_at hl 0 rfl) ?_
  refine lv_iconst (v := 2) hx hb dX18_callOne_39 (by decide) ?_
  refine lv_aload_n hx hb dX18_callOne_40 rfl (lv_at hl 0 rfl) ?_
  obtain ⟨k_16, ek_16, hf⟩ := lnk_some hf
  refine va_get (D := (dC, dI)) (ci := 18) (v := .ref (a k_16)) (C := RX18) (T := TX18) (N := 78) hx hb hts iwd_X18_callOne_X18 hown hK hP h0 (Wd_ob kg_1 sg_1 (by decide)) rfl 58 (by decide) (hts _ md_X18_callOne_6) (fun _ h9 => h9) (fl_q rfl ek_16) dX18_callOne_41 ?_
  refine lv_iload_n hx hb dX18_callOne_44 rfl (lv_at hl 1 rfl) ?_
  obtain ⟨g_17, hf⟩ := grd_some hf
  obtain ⟨kg_17, sg_17, ig_17⟩ := okA_at g_17
  refine va_iald hx hb hK hP k_16 1 (Wd_ai kg_17 sg_17) rfl ig_17 dX18_callOne_45 ?_
  refine lv_i2l (v := ((z_15.1 k_16 x0.toNatClampNeg) : Int32).toInt64) hx hb dX18_callOne_46 rfl ?_
  refine lv_iconst (v := 0) hx hb dX18_callOne_47 (by decide) ?_
  obtain ⟨z_18, r_19, hfc, hf⟩ := cal_some hf
  have hFc := de_free hD hS hA
  refine va_calli (va_runV (As := [.int 2, .long (((z_15.1 k_16 x0.toNatClampNeg) : Int32).toInt64), .int 0]) (rest := []) ⟨hx, hb, hml, hown, hts⟩ (de_X18_ask l dC dI cy a sh n H_14.size F z_15 h0 2 (((z_15.1 k_16 x0.toNatClampNeg) : Int32).toInt64) 0 hfc) (cwV 3 hts gX18_callOne_X18_ask rfl rfl rfl (by decide +kernel) ⟨Nat.le_of_ble_eq_true rfl, Nat.le_of_ble_eq_true rfl⟩) ⟨fun a U g mk q => by obtain ⟨q0, q1, qP, qK, qD, qN⟩ := q; exact ⟨q0, q1, qP, va_K.moved (u := U) (U := U.calling g mk a) (Vm.Alike.refl U.vm) qK, qD, qN.same rfl⟩, va_recv hK hP (ci := 18) (q0 := h0) rfl (Wd_ob kg_1 sg_1 (by decide)), fun U hU hW => ⟨rfl, by rw [hU], by rw [hU]; exact hP, va_K.moved hW.alike hK, hD.weaken (fun _ _ _ _ => trivial), hN.warm hW⟩⟩ rfl rfl hl.1 rfl (lv_room (Nat.le_of_ble_eq_true rfl)) dX18_callOne_48 ⟨Nat.le_of_ble_eq_true rfl, Nat.le_of_ble_eq_true rfl⟩) hS (fun q _ h => hFc q h) hFc (fun rr u t H_20 locs ht hvm hw hB hz1 hk1 hS2 => ?_)
  rw [hw]
  clear hw
  obtain ⟨hP1, -, hD1⟩ := hB
  rw [ht] at hP1
  replace hD := hD1.weaken (fun _ _ _ h => hFc _ h)
  replace hP := hP1
  replace hS := hS2
  clear hP1 hD1 hS2 hFc hfc hz1 hk1 hvm ht
  refine lv_pop hx hb dX18_callOne_51 rfl ?_
  refine lv_aload_n hx hb dX18_callOne_52 rfl (lv_at hl 0 rfl) ?_
  refine lv_iconst (v := 0) hx hb dX18_callOne_53 (by decide) ?_
  refine va_put (D := (dC, dI)) (ci := 18) (v := .int 0) (ty := .int) (C := RX18) (T := TX18) (N := 78) hx hb hts iwd_X18_callOne_X18 tyX18 tyX18_ok nmX18 hown hK hP hD hS h0 (Wd_ob kg_1 sg_1 (by decide)) rfl 36 (by decide) (hts _ md_X18_callOne_7) (fun _ h9 => h9) rfl (by decide +kernel) rfl rfl (by rw [fl_len]; decide) dX18_callOne_54 (fun H_21 locs hP2 hD2 hS2 => ?_)
  rw [Wd_si sg_1 (by decide) rfl] at hP2 hD2
  obtain ⟨z_22, ez_22⟩ : ∃ w, w = si z_18 h0 36 0 := ⟨_, rfl⟩
  rw [← ez_22] at hP2 hD2
  replace hf := lt_at ez_22 hf
  clear ez_22
  replace hP := hP2
  replace hD := hD2
  replace hS := hS2
  clear hP2 hD2 hS2
  refine lv_aload_n hx hb dX18_callOne_57 rfl (lv_at hl 0 rfl) ?_
  refine lv_iconst (v := 0) hx hb dX18_callOne_58 (by decide) ?_
  refine va_put (D := (dC, dI)) (ci := 18) (v := .int 0) (ty := .int) (C := RX18) (T := TX18) (N := 78) hx hb hts iwd_X18_callOne_X18 tyX18 tyX18_ok nmX18 hown hK hP hD hS h0 (Wd_ob kg_1 sg_1 (by decide)) rfl 45 (by decide) (hts _ md_X18_callOne_8) (fun _ h9 => h9) rfl (by decide +kernel) rfl rfl (by rw [fl_len]; decide) dX18_callOne_59 (fun H_23 locs hP2 hD2 hS2 => ?_)
  rw [Wd_si sg_1 (by decide) rfl] at hP2 hD2
  obtain ⟨z_24, ez_24⟩ : ∃ w, w = si z_22 h0 45 0 := ⟨_, rfl⟩
  rw [← ez_24] at hP2 hD2
  replace hf := lt_at ez_24 hf
  clear ez_24
  replace hP := hP2
  replace hD := hD2
  replace hS := hS2
  clear hP2 hD2 hS2
  refine lv_iconst (v := 0) hx hb dX18_callOne_62 (by decide) ?_
  refine lv_istore (lv' := [(4, .int 0), (0, .ref (a h0)), (1, .int x0), (2, .int x1), (3, .int x2)]) hx hb dX18_callOne_63 hl (by decide) rfl (fun ls hl2 => ?_)
  replace hl := hl2
  clear hl2
  have hl0 : lv_has ls 6 [(4, .int 0), (0, .ref (a h0)), (1, .int x0), (2, .int x1)] := lv_sub hl [0, 1, 2, 3] rfl
  refine de_loop (h := 65) (fun (x : St × Int32) ls H locs => lv_has ls 6 [(4, .int x.2), (0, .ref (a h0)), (1, .int x0), (2, .int x1)] ∧ va_P (dC, dI) vwCl (Wd cy a sh n x.1) H ∧ va_D A (Wd cy a sh n x.1) ∧ va_S A s.heap H locs) (fun f x => fn_X18_callOne_L65 F sh n h0 x0 x1 f x.1 x.2) (z8, r8) ?_ (fun _ => rfl) F (z_24, 0) ls H_23 locs ⟨hl0, hP, hD, hS⟩ hf
  intro f_27 x ls H locs ih65 hI hf
  obtain ⟨z_26, p_25⟩ := x
  obtain ⟨hl2, hP2, hD2, hS2⟩ := hI
  replace hl : lv_has ls 6 [(4, .int p_25), (0, .ref (a h0)), (1, .int x0), (2, .int x1)] := hl2
  replace hP := hP2
  replace hD := hD2
  replace hS := hS2
  clear hl2 hP2 hD2 hS2 hl0
  replace hf := fn_X18_callOne_L65_s hf
  refine lv_iload hx hb dX18_callOne_65 (lv_at hl 0 rfl) ?_
  refine lv_aload_n hx hb dX18_callOne_67 rfl (lv_at hl 1 rfl) ?_
  obtain ⟨k_28, ek_28, hf⟩ := lnk_some hf
  refine va_get (D := (dC, dI)) (ci := 18) (v := .ref (a k_28)) (C := RX18) (T := TX18) (N := 78) hx hb hts iwd_X18_callOne_X18 hown hK hP h0 (Wd_ob kg_1 sg_1 (by decide)) rfl 60 (by decide) (hts _ md_X18_callOne_9) (fun _ h9 => h9) (fl_q rfl ek_28) dX18_callOne_68 ?_
  refine lv_iload_n hx hb dX18_callOne_71 rfl (lv_at hl 2 rfl) ?_
  obtain ⟨g_29, hf⟩ := grd_some hf
  obtain ⟨kg_29, sg_29, ig_29⟩ := okA_at g_29
  refine va_iald hx hb hK hP k_28 1 (Wd_ai kg_29 sg_29) rfl ig_29 dX18_callOne_72 ?_
  refine lv_icmp_ge (tgt := 124) hx hb dX18_callOne_73 (by decide) (fun c_30 => ?_) (fun c_30 => ?_)
  · skip
    rw [if_pos c_30] at hf
    refine lv_aload_n hx hb dX18_callOne_124 rfl (lv_at hl 1 rfl) ?_
    refine lv_iload_n hx hb dX18_callOne_125 rfl (lv_at hl 3 rfl) ?_
    refine lv_aload_n hx hb dX18_callOne_126 rfl (lv_at hl 1 rfl) ?_
    obtain ⟨k_31, ek_31, hf⟩ := lnk_some hf
    refine va_get (D := (dC, dI)) (ci := 18) (v := .ref (a k_31)) (C := RX18) (T := TX18) (N := 78) hx hb hts iwd_X18_callOne_X18 hown hK hP h0 (Wd_ob kg_1 sg_1 (by decide)) rfl 59 (by decide) (hts _ md_X18_callOne_13) (fun _ h9 => h9) (fl_q rfl ek_31) dX18_callOne_127 ?_
    refine lv_iload_n hx hb dX18_callOne_130 rfl (lv_at hl 2 rfl) ?_
    obtain ⟨g_32, hf⟩ := grd_some hf
    obtain ⟨kg_32, sg_32, ig_32⟩ := okA_at g_32
    refine va_iald hx hb hK hP k_31 1 (Wd_ai kg_32 sg_32) rfl ig_32 dX18_callOne_131 ?_
    refine lv_aload_n hx hb dX18_callOne_132 rfl (lv_at hl 1 rfl) ?_
    obtain ⟨k_33, ek_33, hf⟩ := lnk_some hf
    refine va_get (D := (dC, dI)) (ci := 18) (v := .ref (a k_33)) (C := RX18) (T := TX18) (N := 78) hx hb hts iwd_X18_callOne_X18 hown hK hP h0 (Wd_ob kg_1 sg_1 (by decide)) rfl 60 (by decide) (hts _ md_X18_callOne_9) (fun _ h9 => h9) (fl_q rfl ek_33) dX18_callOne_133 ?_
    refine lv_iload_n hx hb dX18_callOne_136 rfl (lv_at hl 2 rfl) ?_
    obtain ⟨g_34, hf⟩ := grd_some hf
    obtain ⟨kg_34, sg_34, ig_34⟩ := okA_at g_34
    refine va_iald hx hb hK hP k_33 1 (Wd_ai kg_34 sg_34) rfl ig_34 dX18_callOne_137 ?_
    obtain ⟨z_35, _u, hfc, hf⟩ := cal_some hf
    have hFc := de_free hD hS hA
    refine va_callv (va_runV (As := [.int x1, .int (z_26.1 k_31 x0.toNatClampNeg), .int (z_26.1 k_33 x0.toNatClampNeg)]) (rest := []) ⟨hx, hb, hml, hown, hts⟩ (de_X18_enter l dC dI cy a sh n H.size F z_26 h0 x1 (z_26.1 k_31 x0.toNatClampNeg) (z_26.1 k_33 x0.toNatClampNeg) hfc) (cwV 3 hts gX18_callOne_X18_enter rfl rfl rfl (by decide +kernel) ⟨Nat.le_of_ble_eq_true rfl, Nat.le_of_ble_eq_true rfl⟩) ⟨fun a U g mk q => by obtain ⟨q0, q1, qP, qK, qD, qN⟩ := q; exact ⟨q0, q1, qP, va_K.moved (u := U) (U := U.calling g mk a) (Vm.Alike.refl U.vm) qK, qD, qN.same rfl⟩, va_recv hK hP (ci := 18) (q0 := h0) rfl (Wd_ob kg_1 sg_1 (by decide)), fun U hU hW => ⟨rfl, by rw [hU], by rw [hU]; exact hP, va_K.moved hW.alike hK, hD.weaken (fun _ _ _ _ => trivial), hN.warm hW⟩⟩ rfl rfl hl.1 rfl (lv_room (Nat.le_of_ble_eq_true rfl)) dX18_callOne_138 ⟨Nat.le_of_ble_eq_true rfl, Nat.le_of_ble_eq_true rfl⟩) hS (fun q _ h => hFc q h) hFc (fun u t H_36 locs ht hvm hw hB hz1 hk1 hS2 => ?_)
    obtain ⟨hP1, -, hD1⟩ := hB
    rw [ht] at hP1
    replace hD := hD1.weaken (fun _ _ _ h => hFc _ h)
    replace hP := hP1
    replace hS := hS2
    clear hP1 hD1 hS2 hFc hfc hz1 hk1 hvm ht
    have hl0 : lv_has ls 6 [(0, .ref (a h0)), (1, .int x0)] := lv_sub hl [1, 2] rfl
    refine de_loop (h := 141) (fun (x : St) ls H locs => lv_has ls 6 [(0, .ref (a h0)), (1, .int x0)] ∧ va_P (dC, dI) vwCl (Wd cy a sh n x) H ∧ va_D A (Wd cy a sh n x) ∧ va_S A s.heap H locs) (fun f x => fn_X18_callOne_L141 F sh n h0 x0 f x) (z8, r8) ?_ (fun _ => rfl) F (z_35) ls H_36 locs ⟨hl0, hP, hD, hS⟩ hf
    intro f_38 x ls H locs ih141 hI hf
    obtain ⟨z_37, ez⟩ : ∃ w, w = x := ⟨_, rfl⟩
    subst ez
    obtain ⟨hl2, hP2, hD2, hS2⟩ := hI
    replace hl : lv_has ls 6 [(0, .ref (a h0)), (1, .int x0)] := hl2
    replace hP := hP2
    replace hD := hD2
    replace hS := hS2
    clear hl2 hP2 hD2 hS2 hl0
    replace hf := fn_X18_callOne_L141_s hf
    refine lv_aload_n hx hb dX18_callOne_141 rfl (lv_at hl 0 rfl) ?_
    obtain ⟨z_39, r_40, hfc, hf⟩ := cal_some hf
    have hFc := de_free hD hS hA
    refine va_calli (va_runV (As := []) (rest := []) ⟨hx, hb, hml, hown, hts⟩ (de_X18_goesOn l dC dI cy a sh n H.size F z_37 h0 hfc) (cwV 0 hts gX18_callOne_X18_goesOn rfl rfl rfl (by decide +kernel) ⟨Nat.le_of_ble_eq_true rfl, Nat.le_of_ble_eq_true rfl⟩) ⟨fun a U g mk q => by obtain ⟨q0, q1, qP, qK, qD, qN⟩ := q; exact ⟨q0, q1, qP, va_K.moved (u := U) (U := U.calling g mk a) (Vm.Alike.refl U.vm) qK, qD, qN.same rfl⟩, va_recv hK hP (ci := 18) (q0 := h0) rfl (Wd_ob kg_1 sg_1 (by decide)), fun U hU hW => ⟨rfl, by rw [hU], by rw [hU]; exact hP, va_K.moved hW.alike hK, hD.weaken (fun _ _ _ _ => trivial), hN.warm hW⟩⟩ rfl rfl hl.1 rfl (lv_room (Nat.le_of_ble_eq_true rfl)) dX18_callOne_142 ⟨Nat.le_of_ble_eq_true rfl, Nat.le_of_ble_eq_true rfl⟩) hS (fun q _ h => hFc q h) hFc (fun rr u t H_41 locs ht hvm hw hB hz1 hk1 hS2 => ?_)
    rw [hw]
    clear hw
    obtain ⟨hP1, -, hD1⟩ := hB
    rw [ht] at hP1
    replace hD := hD1.weaken (fun _ _ _ h => hFc _ h)
    replace hP := hP1
    replace hS := hS2
    clear hP1 hD1 hS2 hFc hfc hz1 hk1 hvm ht
    refine lv_if_eq (tgt := 155) hx hb dX18_callOne_145 (by decide) (fun c_42 => ?_) (fun c_42 => ?_)
    · skip
      rw [if_pos c_42] at hf
      refine lv_aload_n hx hb dX18_callOne_155 rfl (lv_at hl 0 rfl) ?_
      refine va_get (D := (dC, dI)) (ci := 18) (v := .int (z_39.1 h0 27)) (C := RX18) (T := TX18) (N := 78) hx hb hts iwd_X18_callOne_X18 hown hK hP h0 (Wd_ob kg_1 sg_1 (by decide)) rfl 27 (by decide) (hts _ md_X18_callOne_14) (fun _ h9 => h9) (fl_at (t := 0) rfl) dX18_callOne_156 ?_
      refine de_cut (h := 181) (fun (x : St) => []) (fun x ls H locs => lv_has ls 6 [(0, .ref (a h0)), (1, .int x0)] ∧ va_P (dC, dI) vwCl (Wd cy a sh n x) H ∧ va_D A (Wd cy a sh n x) ∧ va_S A s.heap H locs) (fun x => fn_X18_callOne_B181 F sh n h0 x0 x) (z8, r8) ?_ (fun B181 => ?_)
      · intro x ls H locs hI hf
        obtain ⟨z_43, ez⟩ : ∃ w, w = x := ⟨_, rfl⟩
        subst ez
        obtain ⟨hl2, hP2, hD2, hS2⟩ := hI
        replace hl : lv_has ls 6 [(0, .ref (a h0)), (1, .int x0)] := hl2
        replace hP := hP2
        replace hD := hD2
        replace hS := hS2
        clear hl2 hP2 hD2 hS2
        replace hf := fn_X18_callOne_B181_s hf
        refine W.eq (g2 := F0 m 181 ls []) rfl ?_
        refine lv_aload_n hx hb dX18_callOne_181 rfl (lv_at hl 0 rfl) ?_
        refine va_get (D := (dC, dI)) (ci := 18) (v := .int (z_43.1 h0 27)) (C := RX18) (T := TX18) (N := 78) hx hb hts iwd_X18_callOne_X18 hown hK hP h0 (Wd_ob kg_1 sg_1 (by decide)) rfl 27 (by decide) (hts _ md_X18_callOne_14) (fun _ h9 => h9) (fl_at (t := 0) rfl) dX18_callOne_182 ?_
        refine lv_if_eq (tgt := 189) hx hb dX18_callOne_185 (by decide) (fun c_44 => ?_) (fun c_44 => ?_)
        · skip
          rw [if_pos c_44] at hf
          refine lv_iconst (v := 0) hx hb dX18_callOne_189 (by decide) ?_
          refine lv_istore (lv' := [(4, .int 0), (0, .ref (a h0)), (1, .int x0)]) hx hb dX18_callOne_190 hl (by decide) rfl (fun ls hl2 => ?_)
          replace hl := hl2
          clear hl2
          have hl0 : lv_has ls 6 [(4, .int 0), (0, .ref (a h0)), (1, .int x0)] := lv_sub hl [0, 1, 2] rfl
          refine de_loop (h := 192) (fun (x : St × Int32) ls H locs => lv_has ls 6 [(4, .int x.2), (0, .ref (a h0)), (1, .int x0)] ∧ va_P (dC, dI) vwCl (Wd cy a sh n x.1) H ∧ va_D A (Wd cy a sh n x.1) ∧ va_S A s.heap H locs) (fun f x => fn_X18_callOne_L192 F sh n h0 x0 f x.1 x.2) (z8, r8) ?_ (fun _ => rfl) F (z_43, 0) ls H locs ⟨hl0, hP, hD, hS⟩ hf
          intro f_47 x ls H locs ih192 hI hf
          obtain ⟨z_46, p_45⟩ := x
          obtain ⟨hl2, hP2, hD2, hS2⟩ := hI
          replace hl : lv_has ls 6 [(4, .int p_45), (0, .ref (a h0)), (1, .int x0)] := hl2
          replace hP := hP2
          replace hD := hD2
          replace hS := hS2
          clear hl2 hP2 hD2 hS2 hl0
          replace hf := fn_X18_callOne_L192_s hf
          refine lv_iload hx hb dX18_callOne_192 (lv_at hl 0 rfl) ?_
          refine lv_aload_n hx hb dX18_callOne_194 rfl (lv_at hl 1 rfl) ?_
          refine va_get (D := (dC, dI)) (ci := 18) (v := .int (z_46.1 h0 45)) (C := RX18) (T := TX18) (N := 78) hx hb hts iwd_X18_callOne_X18 hown hK hP h0 (Wd_ob kg_1 sg_1 (by decide)) rfl 45 (by decide) (hts _ md_X18_callOne_8) (fun _ h9 => h9) (fl_at (t := 0) rfl) dX18_callOne_195 ?_
          refine lv_icmp_ge (tgt := 282) hx hb dX18_callOne_198 (by decide) (fun c_48 => ?_) (fun c_48 => ?_)
          · skip
            rw [if_pos c_48] at hf
            refine lv_aload_n hx hb dX18_callOne_282 rfl (lv_at hl 1 rfl) ?_
            obtain ⟨k_49, ek_49, hf⟩ := lnk_some hf
            refine va_get (D := (dC, dI)) (ci := 18) (v := .ref (a k_49)) (C := RX18) (T := TX18) (N := 78) hx hb hts iwd_X18_callOne_X18 hown hK hP h0 (Wd_ob kg_1 sg_1 (by decide)) rfl 70 (by decide) (hts _ md_X18_callOne_21) (fun _ h9 => h9) (fl_q rfl ek_49) dX18_callOne_283 ?_
            refine lv_iload_n hx hb dX18_callOne_286 rfl (lv_at hl 2 rfl) ?_
            refine lv_aload_n hx hb dX18_callOne_287 rfl (lv_at hl 1 rfl) ?_
            refine va_get (D := (dC, dI)) (ci := 18) (v := .int (z_46.1 h0 45)) (C := RX18) (T := TX18) (N := 78) hx hb hts iwd_X18_callOne_X18 hown hK hP h0 (Wd_ob kg_1 sg_1 (by decide)) rfl 45 (by decide) (hts _ md_X18_callOne_8) (fun _ h9 => h9) (fl_at (t := 0) rfl) dX18_callOne_288 ?_
            obtain ⟨g_50, hf⟩ := grd_some hf
            obtain ⟨kg_50, sg_50, ig_50⟩ := okA_at g_50
            refine va_iast hx hb hK hP hD hS k_49 1 (Wd_ai kg_50 sg_50) rfl ig_50 dX18_callOne_291 (fun H_51 locs hP2 hD2 hS2 => ?_)
            rw [Wd_ti sg_50] at hP2 hD2
            obtain ⟨z_52, ez_52⟩ : ∃ w, w = si z_46 k_49 x0.toNatClampNeg (z_46.1 h0 45) := ⟨_, rfl⟩
            rw [← ez_52] at hP2 hD2
            replace hf := lt_at ez_52 hf
            clear ez_52
            replace hP := hP2
            replace hD := hD2
            replace hS := hS2
            clear hP2 hD2 hS2
            refine lv_aload_n hx hb dX18_callOne_292 rfl (lv_at hl 1 rfl) ?_
            obtain ⟨z_53, _u, hfc, hf⟩ := cal_some hf
            have hFc := de_free hD hS hA
            refine va_callv (va_runV (As := []) (rest := []) ⟨hx, hb, hml, hown, hts⟩ (de_X18_settle l dC dI cy a sh n H_51.size F z_52 h0 hfc) (cwV 0 hts gX18_callOne_X18_settle rfl rfl rfl (by decide +kernel) ⟨Nat.le_of_ble_eq_true rfl, Nat.le_of_ble_eq_true rfl⟩) ⟨fun a U g mk q => by obtain ⟨q0, q1, qP, qK, qD, qN⟩ := q; exact ⟨q0, q1, qP, va_K.moved (u := U) (U := U.calling g mk a) (Vm.Alike.refl U.vm) qK, qD, qN.same rfl⟩, va_recv hK hP (ci := 18) (q0 := h0) rfl (Wd_ob kg_1 sg_1 (by decide)), fun U hU hW => ⟨rfl, by rw [hU], by rw [hU]; exact hP, va_K.moved hW.alike hK, hD.weaken (fun _ _ _ _ => trivial), hN.warm hW⟩⟩ rfl rfl hl.1 rfl (lv_room (Nat.le_of_ble_eq_true rfl)) dX18_callOne_293 ⟨Nat.le_of_ble_eq_true rfl, Nat.le_of_ble_eq_true rfl⟩) hS (fun q _ h => hFc q h) hFc (fun u t H_54 locs ht hvm hw hB hz1 hk1 hS2 => ?_)
            obtain ⟨hP1, -, hD1⟩ := hB
            rw [ht] at hP1
            replace hD := hD1.weaken (fun _ _ _ h => hFc _ h)
            replace hP := hP1
            replace hS := hS2
            clear hP1 hD1 hS2 hFc hfc hz1 hk1 hvm ht
            obtain ⟨h8, h9⟩ := ret_some hf
            rw [h8]
            exact W.vret hx hb hr (fun t ht hW => ⟨⟨(), rfl, trivial, by rw [ht]; exact hP, va_K.moved hW.alike hK, hD⟩, hS.F ht⟩) hS.2.2 dX18_callOne_296
          · skip
            rw [if_neg c_48] at hf
            refine lv_bipush (v := 8) hx hb dX18_callOne_201 (by decide) ?_
            refine lv_iload_n hx hb dX18_callOne_203 rfl (lv_at hl 2 rfl) ?_
            refine lv_imul hx hb dX18_callOne_204 ?_
            refine lv_iload hx hb dX18_callOne_205 (lv_at hl 0 rfl) ?_
            refine lv_iadd hx hb dX18_callOne_207 ?_
            refine lv_topi (fun v_55 ev_55 => ?_)
            replace hf := lt_at ev_55 hf
            clear ev_55
            refine lv_istore (lv' := [(5, .int v_55), (4, .int p_45), (0, .ref (a h0)), (1, .int x0)]) hx hb dX18_callOne_208 hl (by decide) rfl (fun ls hl2 => ?_)
            replace hl := hl2
            clear hl2
            refine lv_aload_n hx hb dX18_callOne_210 rfl (lv_at hl 2 rfl) ?_
            obtain ⟨k_56, ek_56, hf⟩ := lnk_some hf
            refine va_get (D := (dC, dI)) (ci := 18) (v := .ref (a k_56)) (C := RX18) (T := TX18) (N := 78) hx hb hts iwd_X18_callOne_X18 hown hK hP h0 (Wd_ob kg_1 sg_1 (by decide)) rfl 71 (by decide) (hts _ md_X18_callOne_17) (fun _ h9 => h9) (fl_q rfl ek_56) dX18_callOne_211 ?_
            refine lv_iload hx hb dX18_callOne_214 (lv_at hl 0 rfl) ?_
            refine lv_aload_n hx hb dX18_callOne_216 rfl (lv_at hl 2 rfl) ?_
            obtain ⟨k_57, ek_57, hf⟩ := lnk_some hf
            refine va_get (D := (dC, dI)) (ci := 18) (v := .ref (a k_57)) (C := RX18) (T := TX18) (N := 78) hx hb hts iwd_X18_callOne_X18 hown hK hP h0 (Wd_ob kg_1 sg_1 (by decide)) rfl 15 (by decide) (hts _ md_X18_callOne_1) (fun _ h9 => h9) (fl_q rfl ek_57) dX18_callOne_217 ?_
            obtain ⟨g_58, hf⟩ := grd_some hf
            obtain ⟨kg_58, sg_58⟩ := okO_at g_58
            obtain ⟨k_59, ek_59, hf⟩ := lnk_some hf
            refine va_getN (D := (dC, dI)) (ci := 15) (v := .ref (a k_59)) (C := RX15) (T := TX15) (N := 6) hx hb hts iwd_X18_callOne_X15 hown hK hP k_57 (Wd_ob kg_58 sg_58 (by decide)) rfl 0 (by decide) (va_Nw.use rfl (NK_f_X18_71 hN)) (fun _ h9 => h9) (fl_q rfl ek_59) dX18_callOne_220 ?_
            refine lv_aload_n hx hb dX18_callOne_223 rfl (lv_at hl 2 rfl) ?_
            obtain ⟨k_60, ek_60, hf⟩ := lnk_some hf
            refine va_get (D := (dC, dI)) (ci := 18) (v := .ref (a k_60)) (C := RX18) (T := TX18) (N := 78) hx hb hts iwd_X18_callOne_X18 hown hK hP h0 (Wd_ob kg_1 sg_1 (by decide)) rfl 43 (by decide) (hts _ md_X18_callOne_18) (fun _ h9 => h9) (fl_q rfl ek_60) dX18_callOne_224 ?_
            refine lv_iload hx hb dX18_callOne_227 (lv_at hl 1 rfl) ?_
            obtain ⟨g_61, hf⟩ := grd_some hf
            obtain ⟨kg_61, sg_61, ig_61⟩ := okA_at g_61
            refine va_iald hx hb hK hP k_60 1 (Wd_ai kg_61 sg_61) rfl ig_61 dX18_callOne_229 ?_
            obtain ⟨g_62, hf⟩ := grd_some hf
            obtain ⟨kg_62, sg_62, ig_62⟩ := okA_at g_62
            refine va_bald hx hb hK hP k_59 0 (Wd_ab kg_62 sg_62) rfl ig_62 dX18_callOne_230 ?_
            obtain ⟨g_63, hf⟩ := grd_some hf
            obtain ⟨kg_63, sg_63, ig_63⟩ := okA_at g_63
            refine va_bast hx hb hK hP hD hS k_56 0 (Wd_ab kg_63 sg_63) rfl ig_63 dX18_callOne_231 (fun H_64 locs hP2 hD2 hS2 => ?_)
            rw [Wd_tb sg_63] at hP2 hD2
            obtain ⟨z_65, ez_65⟩ : ∃ w, w = si z_46 k_56 v_55.toNatClampNeg (vp_nar .byte (z_46.1 k_59 (z_46.1 k_60 p_45.toNatClampNeg).toNatClampNeg)) := ⟨_, rfl⟩
            rw [← ez_65] at hP2 hD2
            replace hf := lt_at ez_65 hf
            clear ez_65
            replace hP := hP2
            replace hD := hD2
            replace hS := hS2
            clear hP2 hD2 hS2
            refine lv_aload_n hx hb dX18_callOne_232 rfl (lv_at hl 2 rfl) ?_
            obtain ⟨k_66, ek_66, hf⟩ := lnk_some hf
            refine va_get (D := (dC, dI)) (ci := 18) (v := .ref (a k_66)) (C := RX18) (T := TX18) (N := 78) hx hb hts iwd_X18_callOne_X18 hown hK hP h0 (Wd_ob kg_1 sg_1 (by decide)) rfl 72 (by decide) (hts _ md_X18_callOne_19) (fun _ h9 => h9) (fl_q rfl ek_66) dX18_callOne_233 ?_
            refine lv_iload hx hb dX18_callOne_236 (lv_at hl 0 rfl) ?_
            refine lv_aload_n hx hb dX18_callOne_238 rfl (lv_at hl 2 rfl) ?_
            obtain ⟨k_67, ek_67, hf⟩ := lnk_some hf
            refine va_get (D := (dC, dI)) (ci := 18) (v := .ref (a k_67)) (C := RX18) (T := TX18) (N := 78) hx hb hts iwd_X18_callOne_X18 hown hK hP h0 (Wd_ob kg_1 sg_1 (by decide)) rfl 15 (by decide) (hts _ md_X18_callOne_1) (fun _ h9 => h9) (fl_q rfl ek_67) dX18_callOne_239 ?_
            obtain ⟨g_68, hf⟩ := grd_some hf
            obtain ⟨kg_68, sg_68⟩ := okO_at g_68
            obtain ⟨k_69, ek_69, hf⟩ := lnk_some hf
            refine va_getN (D := (dC, dI)) (ci := 15) (v := .ref (a k_69)) (C := RX15) (T := TX15) (N := 6) hx hb hts iwd_X18_callOne_X15 hown hK hP k_67 (Wd_ob kg_68 sg_68 (by decide)) rfl 1 (by decide) (va_Nw.use rfl (NK_f_X18_74 hN)) (fun _ h9 => h9) (fl_q rfl ek_69) dX18_callOne_242 ?_
            refine lv_aload_n hx hb dX18_callOne_245 rfl (lv_at hl 2 rfl) ?_
            obtain ⟨k_70, ek_70, hf⟩ := lnk_some hf
            refine va_get (D := (dC, dI)) (ci := 18) (v := .ref (a k_70)) (C := RX18) (T := TX18) (N := 78) hx hb hts iwd_X18_callOne_X18 hown hK hP h0 (Wd_ob kg_1 sg_1 (by decide)) rfl 43 (by decide) (hts _ md_X18_callOne_18) (fun _ h9 => h9) (fl_q rfl ek_70) dX18_callOne_246 ?_
            refine lv_iload hx hb dX18_callOne_249 (lv_at hl 1 rfl) ?_
            obtain ⟨g_71, hf⟩ := grd_some hf
            obtain ⟨kg_71, sg_71, ig_71⟩ := okA_at g_71
            refine va_iald hx hb hK hP k_70 1 (Wd_ai kg_71 sg_71) rfl ig_71 dX18_callOne_251 ?_
            obtain ⟨g_72, hf⟩ := grd_some hf
            obtain ⟨kg_72, sg_72, ig_72⟩ := okA_at g_72
            refine va_lald hx hb hK hP k_69 2 (Wd_al kg_72 sg_72) rfl ig_72 dX18_callOne_252 ?_
            obtain ⟨g_73, hf⟩ := grd_some hf
            obtain ⟨kg_73, sg_73, ig_73⟩ := okA_at g_73
            refine va_last hx hb hK hP hD hS k_66 2 (Wd_al kg_73 sg_73) rfl ig_73 dX18_callOne_253 (fun H_74 locs hP2 hD2 hS2 => ?_)
            rw [Wd_tl sg_73] at hP2 hD2
            obtain ⟨z_75, ez_75⟩ : ∃ w, w = sl z_65 k_66 v_55.toNatClampNeg (z_65.2.1 k_69 (z_65.1 k_70 p_45.toNatClampNeg).toNatClampNeg) := ⟨_, rfl⟩
            rw [← ez_75] at hP2 hD2
            replace hf := lt_at ez_75 hf
            clear ez_75
            replace hP := hP2
            replace hD := hD2
            replace hS := hS2
            clear hP2 hD2 hS2
            refine lv_aload_n hx hb dX18_callOne_254 rfl (lv_at hl 2 rfl) ?_
            obtain ⟨k_76, ek_76, hf⟩ := lnk_some hf
            refine va_get (D := (dC, dI)) (ci := 18) (v := .ref (a k_76)) (C := RX18) (T := TX18) (N := 78) hx hb hts iwd_X18_callOne_X18 hown hK hP h0 (Wd_ob kg_1 sg_1 (by decide)) rfl 73 (by decide) (hts _ md_X18_callOne_20) (fun _ h9 => h9) (fl_q rfl ek_76) dX18_callOne_255 ?_
            refine lv_iload hx hb dX18_callOne_258 (lv_at hl 0 rfl) ?_
            refine lv_aload_n hx hb dX18_callOne_260 rfl (lv_at hl 2 rfl) ?_
            obtain ⟨k_77, ek_77, hf⟩ := lnk_some hf
            refine va_get (D := (dC, dI)) (ci := 18) (v := .ref (a k_77)) (C := RX18) (T := TX18) (N := 78) hx hb hts iwd_X18_callOne_X18 hown hK hP h0 (Wd_ob kg_1 sg_1 (by decide)) rfl 15 (by decide) (hts _ md_X18_callOne_1) (fun _ h9 => h9) (fl_q rfl ek_77) dX18_callOne_261 ?_
            obtain ⟨g_78, hf⟩ := grd_some hf
            obtain ⟨kg_78, sg_78⟩ := okO_at g_78
            obtain ⟨k_79, ek_79, hf⟩ := lnk_some hf
            refine va_getN (D := (dC, dI)) (ci := 15) (v := .ref (a k_79)) (C := RX15) (T := TX15) (N := 6) hx hb hts iwd_X18_callOne_X15 hown hK hP k_77 (Wd_ob kg_78 sg_78 (by decide)) rfl 2 (by decide) (va_Nw.use rfl (NK_f_X18_77 hN)) (fun _ h9 => h9) (fl_q rfl ek_79) dX18_callOne_264 ?_
            refine lv_aload_n hx hb dX18_callOne_267 rfl (lv_at hl 2 rfl) ?_
            obtain ⟨k_80, ek_80, hf⟩ := lnk_some hf
            refine va_get (D := (dC, dI)) (ci := 18) (v := .ref (a k_80)) (C := RX18) (T := TX18) (N := 78) hx hb hts iwd_X18_callOne_X18 hown hK hP h0 (Wd_ob kg_1 sg_1 (by decide)) rfl 43 (by decide) (hts _ md_X18_callOne_18) (fun _ h9 => h9) (fl_q rfl ek_80) dX18_callOne_268 ?_
            refine lv_iload hx hb dX18_callOne_271 (lv_at hl 1 rfl) ?_
            obtain ⟨g_81, hf⟩ := grd_some hf
            obtain ⟨kg_81, sg_81, ig_81⟩ := okA_at g_81
            refine va_iald hx hb hK hP k_80 1 (Wd_ai kg_81 sg_81) rfl ig_81 dX18_callOne_273 ?_
            obtain ⟨g_82, hf⟩ := grd_some hf
            obtain ⟨kg_82, sg_82, ig_82⟩ := okA_at g_82
            refine va_lald hx hb hK hP k_79 2 (Wd_al kg_82 sg_82) rfl ig_82 dX18_callOne_274 ?_
            obtain ⟨g_83, hf⟩ := grd_some hf
            obtain ⟨kg_83, sg_83, ig_83⟩ := okA_at g_83
            refine va_last hx hb hK hP hD hS k_76 2 (Wd_al kg_83 sg_83) rfl ig_83 dX18_callOne_275 (fun H_84 locs hP2 hD2 hS2 => ?_)
            rw [Wd_tl sg_83] at hP2 hD2
            obtain ⟨z_85, ez_85⟩ : ∃ w, w = sl z_75 k_76 v_55.toNatClampNeg (z_75.2.1 k_79 (z_75.1 k_80 p_45.toNatClampNeg).toNatClampNeg) := ⟨_, rfl⟩
            rw [← ez_85] at hP2 hD2
            replace hf := lt_at ez_85 hf
            clear ez_85
            replace hP := hP2
            replace hD := hD2
            replace hS := hS2
            clear hP2 hD2 hS2
            refine lv_iinc (v := (p_45 + 1)) (lv' := [(4, .int (p_45 + 1)), (5, .int v_55), (0, .ref (a h0)), (1, .int x0)]) hx hb dX18_callOne_276 hl (k := 1) rfl rfl (by decide) rfl (fun ls hl2 => ?_)
            replace hl := hl2
            clear hl2
            refine lv_goto (tgt := 192) hx hb dX18_callOne_279 (by decide) ?_
            exact ih192 (z_85, (p_45 + 1)) ls H_84 locs ⟨lv_sub hl [0, 2, 3] rfl, hP, hD, hS⟩ hf
        · skip
          rw [if_neg c_44] at hf
          obtain ⟨h8, h9⟩ := ret_some hf
          rw [h8]
          exact W.vret hx hb hr (fun t ht hW => ⟨⟨(), rfl, trivial, by rw [ht]; exact hP, va_K.moved hW.alike hK, hD⟩, hS.F ht⟩) hS.2.2 dX18_callOne_188
      refine lv_if_ne (tgt := 181) hx hb dX18_callOne_159 (by decide) (fun c_86 => ?_) (fun c_86 => ?_)
      · skip
        rw [if_neg c_86] at hf
        exact B181 (z_39) ls H_41 locs ⟨lv_sub hl [0, 1] rfl, hP, hD, hS⟩ hf
      · skip
        rw [if_pos c_86] at hf
        refine lv_aload_n hx hb dX18_callOne_162 rfl (lv_at hl 0 rfl) ?_
        obtain ⟨z_87, r_88, hfc, hf⟩ := cal_some hf
        have hFc := de_free hD hS hA
        refine va_calli (va_runV (As := []) (rest := []) ⟨hx, hb, hml, hown, hts⟩ (de_X18_isTooMuch l dC dI cy a sh n H_41.size F z_39 h0 hfc) (cwV 0 hts gX18_callOne_X18_isTooMuch rfl rfl rfl (by decide +kernel) ⟨Nat.le_of_ble_eq_true rfl, Nat.le_of_ble_eq_true rfl⟩) ⟨fun a U g mk q => by obtain ⟨q0, q1, qP, qK, qD, qN⟩ := q; exact ⟨q0, q1, qP, va_K.moved (u := U) (U := U.calling g mk a) (Vm.Alike.refl U.vm) qK, qD, qN.same rfl⟩, va_recv hK hP (ci := 18) (q0 := h0) rfl (Wd_ob kg_1 sg_1 (by decide)), fun U hU hW => ⟨rfl, by rw [hU], by rw [hU]; exact hP, va_K.moved hW.alike hK, hD.weaken (fun _ _ _ _ => trivial), hN.warm hW⟩⟩ rfl rfl hl.1 rfl (lv_room (Nat.le_of_ble_eq_true rfl)) dX18_callOne_163 ⟨Nat.le_of_ble_eq_true rfl, Nat.le_of_ble_eq_true rfl⟩) hS (fun q _ h => hFc q h) hFc (fun rr u t H_89 locs ht hvm hw hB hz1 hk1 hS2 => ?_)
        rw [hw]
        clear hw
        obtain ⟨hP1, -, hD1⟩ := hB
        rw [ht] at hP1
        replace hD := hD1.weaken (fun _ _ _ h => hFc _ h)
        replace hP := hP1
        replace hS := hS2
        clear hP1 hD1 hS2 hFc hfc hz1 hk1 hvm ht
        refine lv_if_eq (tgt := 181) hx hb dX18_callOne_166 (by decide) (fun c_90 => ?_) (fun c_90 => ?_)
        · skip
          rw [if_pos c_90] at hf
          exact B181 (z_87) ls H_89 locs ⟨lv_sub hl [0, 1] rfl, hP, hD, hS⟩ hf
        · skip
          rw [if_neg c_90] at hf
          refine lv_aload_n hx hb dX18_callOne_169 rfl (lv_at hl 0 rfl) ?_
          refine lv_iconst (v := 2) hx hb dX18_callOne_170 (by decide) ?_
          refine va_put (D := (dC, dI)) (ci := 18) (v := .int 2) (ty := .int) (C := RX18) (T := TX18) (N := 78) hx hb hts iwd_X18_callOne_X18 tyX18 tyX18_ok nmX18 hown hK hP hD hS h0 (Wd_ob kg_1 sg_1 (by decide)) rfl 27 (by decide) (hts _ md_X18_callOne_14) (fun _ h9 => h9) rfl (by decide +kernel) rfl rfl (by rw [fl_len]; decide) dX18_callOne_171 (fun H_91 locs hP2 hD2 hS2 => ?_)
          rw [Wd_si sg_1 (by decide) rfl] at hP2 hD2
          obtain ⟨z_92, ez_92⟩ : ∃ w, w = si z_87 h0 27 2 := ⟨_, rfl⟩
          rw [← ez_92] at hP2 hD2
          replace hf := lt_at ez_92 hf
          clear ez_92
          replace hP := hP2
          replace hD := hD2
          replace hS := hS2
          clear hP2 hD2 hS2
          refine lv_aload_n hx hb dX18_callOne_174 rfl (lv_at hl 0 rfl) ?_
          refine lv_ldc2 hx hb hown (hts _ md_X18_callOne_15) dX18_callOne_175 ?_
          refine va_put (D := (dC, dI)) (ci := 18) (v := .long 4) (ty := .long) (C := RX18) (T := TX18) (N := 78) hx hb hts iwd_X18_callOne_X18 tyX18 tyX18_ok nmX18 hown hK hP hD hS h0 (Wd_ob kg_1 sg_1 (by decide)) rfl 28 (by decide) (hts _ md_X18_callOne_16) (fun _ h9 => h9) rfl (by decide +kernel) rfl rfl (by rw [fl_len]; decide) dX18_callOne_178 (fun H_93 locs hP2 hD2 hS2 => ?_)
          rw [Wd_sl sg_1 (by decide) rfl] at hP2 hD2
          obtain ⟨z_94, ez_94⟩ : ∃ w, w = sl z_92 h0 28 4 := ⟨_, rfl⟩
          rw [← ez_94] at hP2 hD2
          replace hf := lt_at ez_94 hf
          clear ez_94
          replace hP := hP2
          replace hD := hD2
          replace hS := hS2
          clear hP2 hD2 hS2
          exact B181 (z_94) ls H_93 locs ⟨lv_sub hl [0, 1] rfl, hP, hD, hS⟩ hf
    · skip
      rw [if_neg c_42] at hf
      refine lv_aload_n hx hb dX18_callOne_148 rfl (lv_at hl 0 rfl) ?_
      obtain ⟨z_95, _u, hfc, hf⟩ := cal_some hf
      have hFc := de_free hD hS hA
      refine va_callv (va_runV (As := []) (rest := []) ⟨hx, hb, hml, hown, hts⟩ (de_X18_one l dC dI cy a sh n H_41.size F sk z_39 h0 hfc) (cwV 0 hts gX18_callOne_X18_one rfl rfl rfl (by decide +kernel) ⟨Nat.le_of_ble_eq_true rfl, Nat.le_of_ble_eq_true rfl⟩) ⟨fun a U g mk q => by obtain ⟨q0, q1, qP, qK, qD, qN, qS⟩ := q; exact ⟨q0, q1, qP, va_K.moved (u := U) (U := U.calling g mk a) (Vm.Alike.refl U.vm) qK, qD, qN.same rfl, SKs.moved (u := U) (U := U.calling g mk a) (Vm.Alike.refl U.vm) qS⟩, va_recv hK hP (ci := 18) (q0 := h0) rfl (Wd_ob kg_1 sg_1 (by decide)), fun U hU hW => ⟨rfl, by rw [hU], by rw [hU]; exact hP, va_K.moved hW.alike hK, hD.weaken (fun _ _ _ _ => trivial), hN.warm hW, by rw [hU]; exact ((hSK.kept hS.2.1).narrow hFc).moved hW.alike⟩⟩ rfl rfl hl.1 rfl (lv_room (Nat.le_of_ble_eq_true rfl)) dX18_callOne_149 ⟨Nat.le_of_ble_eq_true rfl, Nat.le_of_ble_eq_true rfl⟩) hS (fun q _ h => hFc q h) hFc (fun u t H_96 locs ht hvm hw hB hz1 hk1 hS2 => ?_)
      obtain ⟨hP1, -, hD1⟩ := hB
      rw [ht] at hP1
      replace hD := hD1.weaken (fun _ _ _ h => hFc _ h)
      replace hP := hP1
      replace hS := hS2
      clear hP1 hD1 hS2 hFc hfc hz1 hk1 hvm ht
      refine lv_goto (tgt := 141) hx hb dX18_callOne_152 (by decide) ?_
      exact ih141 (z_95) ls H_96 locs ⟨lv_sub hl [0, 1] rfl, hP, hD, hS⟩ hf
  · skip
    rw [if_neg c_30] at hf
    refine lv_bipush (v := 8) hx hb dX18_callOne_76 (by decide) ?_
    refine lv_iload_n hx hb dX18_callOne_78 rfl (lv_at hl 2 rfl) ?_
    refine lv_imul hx hb dX18_callOne_79 ?_
    refine lv_iload hx hb dX18_callOne_80 (lv_at hl 0 rfl) ?_
    refine lv_iadd hx hb dX18_callOne_82 ?_
    refine lv_topi (fun v_97 ev_97 => ?_)
    replace hf := lt_at ev_97 hf
    clear ev_97
    refine lv_istore (lv' := [(5, .int v_97), (4, .int p_25), (0, .ref (a h0)), (1, .int x0), (2, .int x1)]) hx hb dX18_callOne_83 hl (by decide) rfl (fun ls hl2 => ?_)
    replace hl := hl2
    clear hl2
    refine lv_aload_n hx hb dX18_callOne_85 rfl (lv_at hl 2 rfl) ?_
    refine lv_aload_n hx hb dX18_callOne_86 rfl (lv_at hl 2 rfl) ?_
    obtain ⟨k_98, ek_98, hf⟩ := lnk_some hf
    refine va_get (D := (dC, dI)) (ci := 18) (v := .ref (a k_98)) (C := RX18) (T := TX18) (N := 78) hx hb hts iwd_X18_callOne_X18 hown hK hP h0 (Wd_ob kg_1 sg_1 (by decide)) rfl 15 (by decide) (hts _ md_X18_callOne_1) (fun _ h9 => h9) (fl_q rfl ek_98) dX18_callOne_87 ?_
    refine lv_aload_n hx hb dX18_callOne_90 rfl (lv_at hl 2 rfl) ?_
    obtain ⟨k_99, ek_99, hf⟩ := lnk_some hf
    refine va_get (D := (dC, dI)) (ci := 18) (v := .ref (a k_99)) (C := RX18) (T := TX18) (N := 78) hx hb hts iwd_X18_callOne_X18 hown hK hP h0 (Wd_ob kg_1 sg_1 (by decide)) rfl 61 (by decide) (hts _ md_X18_callOne_10) (fun _ h9 => h9) (fl_q rfl ek_99) dX18_callOne_91 ?_
    refine lv_iload hx hb dX18_callOne_94 (lv_at hl 0 rfl) ?_
    obtain ⟨g_100, hf⟩ := grd_some hf
    obtain ⟨kg_100, sg_100, ig_100⟩ := okA_at g_100
    refine va_bald hx hb hK hP k_99 0 (Wd_ab kg_100 sg_100) rfl ig_100 dX18_callOne_96 ?_
    refine lv_aload_n hx hb dX18_callOne_97 rfl (lv_at hl 2 rfl) ?_
    obtain ⟨k_101, ek_101, hf⟩ := lnk_some hf
    refine va_get (D := (dC, dI)) (ci := 18) (v := .ref (a k_101)) (C := RX18) (T := TX18) (N := 78) hx hb hts iwd_X18_callOne_X18 hown hK hP h0 (Wd_ob kg_1 sg_1 (by decide)) rfl 62 (by decide) (hts _ md_X18_callOne_11) (fun _ h9 => h9) (fl_q rfl ek_101) dX18_callOne_98 ?_
    refine lv_iload hx hb dX18_callOne_101 (lv_at hl 0 rfl) ?_
    obtain ⟨g_102, hf⟩ := grd_some hf
    obtain ⟨kg_102, sg_102, ig_102⟩ := okA_at g_102
    refine va_lald hx hb hK hP k_101 2 (Wd_al kg_102 sg_102) rfl ig_102 dX18_callOne_103 ?_
    refine lv_aload_n hx hb dX18_callOne_104 rfl (lv_at hl 2 rfl) ?_
    obtain ⟨k_103, ek_103, hf⟩ := lnk_some hf
    refine va_get (D := (dC, dI)) (ci := 18) (v := .ref (a k_103)) (C := RX18) (T := TX18) (N := 78) hx hb hts iwd_X18_callOne_X18 hown hK hP h0 (Wd_ob kg_1 sg_1 (by decide)) rfl 63 (by decide) (hts _ md_X18_callOne_12) (fun _ h9 => h9) (fl_q rfl ek_103) dX18_callOne_105 ?_
    refine lv_iload hx hb dX18_callOne_108 (lv_at hl 0 rfl) ?_
    obtain ⟨g_104, hf⟩ := grd_some hf
    obtain ⟨kg_104, sg_104, ig_104⟩ := okA_at g_104
    refine va_lald hx hb hK hP k_103 2 (Wd_al kg_104 sg_104) rfl ig_104 dX18_callOne_110 ?_
    obtain ⟨g_107, hf⟩ := grd_some hf
    obtain ⟨kg_107, sg_107⟩ := okO_at g_107
    obtain ⟨z_105, r_106, hfc, hf⟩ := cal_some hf
    have hFc := de_free hD hS hA
    refine va_calli (va_runV (As := [.int (z_26.1 k_99 v_97.toNatClampNeg), .long (z_26.2.1 k_101 v_97.toNatClampNeg), .long (z_26.2.1 k_103 v_97.toNatClampNeg)]) (rest := [.ref (a h0)]) ⟨hx, hb, hml, hown, hts⟩ (de_X15_make l dC dI cy a sh n H.size F z_26 k_98 (z_26.1 k_99 v_97.toNatClampNeg) (z_26.2.1 k_101 v_97.toNatClampNeg) (z_26.2.1 k_103 v_97.toNatClampNeg) hfc) (cwV 3 hts gX18_callOne_X15_make rfl rfl rfl (by decide +kernel) ⟨Nat.le_of_ble_eq_true rfl, Nat.le_of_ble_eq_true rfl⟩) ⟨fun a U g mk q => by obtain ⟨q0, q1, qP, qK, qD, qN⟩ := q; exact ⟨q0, q1, qP, va_K.moved (u := U) (U := U.calling g mk a) (Vm.Alike.refl U.vm) qK, qD, qN.same rfl⟩, va_recv hK hP (ci := 15) (q0 := k_98) rfl (Wd_ob kg_107 sg_107 (by decide)), fun U hU hW => ⟨rfl, by rw [hU], by rw [hU]; exact hP, va_K.moved hW.alike hK, hD.weaken (fun _ _ _ _ => trivial), hN.warm hW⟩⟩ rfl rfl hl.1 rfl (lv_room (Nat.le_of_ble_eq_true rfl)) dX18_callOne_111 ⟨Nat.le_of_ble_eq_true rfl, Nat.le_of_ble_eq_true rfl⟩) hS (fun q _ h => hFc q h) hFc (fun rr u t H_108 locs ht hvm hw hB hz1 hk1 hS2 => ?_)
    rw [hw]
    clear hw
    obtain ⟨hP1, -, hD1⟩ := hB
    rw [ht] at hP1
    replace hD := hD1.weaken (fun _ _ _ h => hFc _ h)
    replace hP := hP1
    replace hS := hS2
    clear hP1 hD1 hS2 hFc hfc hz1 hk1 hvm ht
    refine lv_iconst (v := 0) hx hb dX18_callOne_114 (by decide) ?_
    obtain ⟨z_109, _u, hfc, hf⟩ := cal_some hf
    have hFc := de_free hD hS hA
    refine va_callv (va_runV (As := [.int r_106, .int 0]) (rest := []) ⟨hx, hb, hml, hown, hts⟩ (de_X18_push l dC dI cy a sh n H_108.size F z_105 h0 r_106 0 hfc) (cwV 2 hts gX18_callOne_X18_push rfl rfl rfl (by decide +kernel) ⟨Nat.le_of_ble_eq_true rfl, Nat.le_of_ble_eq_true rfl⟩) ⟨fun a U g mk q => by obtain ⟨q0, q1, qP, qK, qD, qN⟩ := q; exact ⟨q0, q1, qP, va_K.moved (u := U) (U := U.calling g mk a) (Vm.Alike.refl U.vm) qK, qD, qN.same rfl⟩, va_recv hK hP (ci := 18) (q0 := h0) rfl (Wd_ob kg_1 sg_1 (by decide)), fun U hU hW => ⟨rfl, by rw [hU], by rw [hU]; exact hP, va_K.moved hW.alike hK, hD.weaken (fun _ _ _ _ => trivial), hN.warm hW⟩⟩ rfl rfl hl.1 rfl (lv_room (Nat.le_of_ble_eq_true rfl)) dX18_callOne_115 ⟨Nat.le_of_ble_eq_true rfl, Nat.le_of_ble_eq_true rfl⟩) hS (fun q _ h => hFc q h) hFc (fun u t H_110 locs ht hvm hw hB hz1 hk1 hS2 => ?_)
    obtain ⟨hP1, -, hD1⟩ := hB
    rw [ht] at hP1
    replace hD := hD1.weaken (fun _ _ _ h => hFc _ h)
    replace hP := hP1
    replace hS := hS2
    clear hP1 hD1 hS2 hFc hfc hz1 hk1 hvm ht
    refine lv_iinc (v := (p_25 + 1)) (lv' := [(4, .int (p_25 + 1)), (5, .int v_97), (0, .ref (a h0)), (1, .int x0), (2, .int x1)]) hx hb dX18_callOne_118 hl (k := 1) rfl rfl (by decide) rfl (fun ls hl2 => ?_)
    replace hl := hl2
    clear hl2
    refine lv_goto (tgt := 65) hx hb dX18_callOne_121 (by decide) ?_
    exact ih65 (z_109, (p_25 + 1)) ls H_110 locs ⟨lv_sub hl [0, 2, 3, 4] rfl, hP, hD, hS⟩ hf

theorem md_X13_check_1 : (.fieldLink RX13 72 "ResourceLedgerModel$Looker" "unit" "LResourceLedgerModel$Unit;" : Cond) ∈ wsX13_check := List.mem_of_getElem? (i := 1) rfl
theorem iwd_X13_check_X13 : ∀ w ∈ wsX130, w ∈ wsX13_check := fun _ h => List.mem_cons_of_mem _ (List.mem_append_left _ (List.mem_append_right _ h))
theorem md_X13_check_2 : (.fieldLink RX13 176 "ResourceLedgerModel$Looker" "now" "I" : Cond) ∈ wsX13_check := List.mem_of_getElem? (i := 2) rfl
theorem md_X13_check_3 : (.fieldLink RX13 231 "ResourceLedgerModel$Looker" "many" "I" : Cond) ∈ wsX13_check := List.mem_of_getElem? (i := 3) rfl
theorem md_X13_check_4 : (.fieldLink RX13 48 "ResourceLedgerModel$Looker" "fault" "I" : Cond) ∈ wsX13_check := List.mem_of_getElem? (i := 4) rfl
theorem md_X13_check_5 : (.fieldLink RX13 251 "ResourceLedgerModel$Looker" "found" "I" : Cond) ∈ wsX13_check := List.mem_of_getElem? (i := 5) rfl
set_option maxHeartbeats 4000000 in
set_option maxRecDepth 100000 in
theorem de_X13_check (l : Launch) (dC : Nat → ClassId) (dI : Nat → Nat → Nat) (cy : Nat → ClassId) (a : Nat → Nat) (sh : Nat → Nat × Nat) (n sz : Nat) (F : Nat) (z : St) (h0 : Nat) (x0 : Nat) (x1 : Int32) {z8 : St} {r8 : Int32} (hf : fn_X13_check F sh n z h0 x0 x1 = some (z8, r8)) : Met l yX13_check wsX13_check ({ frames := 9, cells := 0, slots := 0, locals := 217 }) (va_Pc [.ref (a h0), .ref (a x0), .int x1] (fun U => U.heap.size = sz ∧ va_P (dC, dI) vwCl (Wd cy a sh n z) U.heap ∧ va_K (dC, dI) vwCl (TYS cy) U ∧ va_D (fun _ => True) (Wd cy a sh n z) ∧ NK U)) (va_Qi (fun (r9 : Int32) (u : Unit) => r9 = r8) (fun u t => va_P (dC, dI) vwCl (Wd cy a sh n z8) t.heap ∧ va_K (dC, dI) vwCl (TYS cy) t ∧ va_D (va_A (Wd cy a sh n z) sz) (Wd cy a sh n z8)) (va_A (Wd cy a sh n z) sz)) 0 0 (va_A (Wd cy a sh n z) sz) := by
  refine Met.ofW (cc := cX13_check) (maxL := 4) (ret := (some .int)) (by decide) rfl ?_
  intro p e s m args below meth c s₁ B hml hv
  obtain ⟨rfl, hsz, hP, hK, hD0, hN⟩ := hv
  have hx := B.exec
  have hb := B.bytes
  have hr := B.returns
  have hts := atoms_spec (ws := wsX13_check) B.pre
  have hown : s.vm.findClass RX13 = some m.cls := findClass_of_methodNamed B.named
  have hlocks := B.notSynchronized
  subst hsz
  have hD := hD0.self (sz := s.heap.size)
  clear hD0
  generalize hAe : va_A (Wd cy a sh n z) s.heap.size = A at hD ⊢
  have hA : ∀ q : Nat, s.heap.size ≤ q → A q := fun q h => by rw [← hAe]; exact Or.inr h
  clear hAe
  have hS : va_S A s.heap s.heap [] := va_S.rf
  have hl := lv_entry ([.ref (a h0), .ref (a x0), .int x1]) (n := 4) (Nat.le_of_ble_eq_true rfl)
  rw [lg_entry_eq]
  generalize (lg_sl ([.ref (a h0), .ref (a x0), .int x1]) ++ List.replicate (4 - (lg_sl ([.ref (a h0), .ref (a x0), .int x1])).length) Slot.unset).toArray = ls at hl ⊢
  replace hl : lv_has ls 4 [(0, .ref (a h0)), (1, .ref (a x0)), (2, .int x1)] := hl
  unfold fn_X13_check at hf
  refine de_start hS hP (fun H locs hS hP => ?_)
  refine lv_aload_n hx hb dX13_check_0 rfl (lv_at hl 0 rfl) ?_
  refine lv_aload_n hx hb dX13_check_1 rfl (lv_at hl 1 rfl) ?_
  obtain ⟨g_1, hf⟩ := grd_some hf
  obtain ⟨kg_1, sg_1⟩ := okO_at g_1
  refine va_put (D := (dC, dI)) (ci := 13) (v := .ref (a x0)) (ty := .object "ResourceLedgerModel$Unit") (C := RX13) (T := TX13) (N := 22) hx hb hts iwd_X13_check_X13 tyX13 tyX13_ok nmX13 hown hK hP hD hS h0 (Wd_ob kg_1 sg_1 (by decide)) rfl 0 (by decide) (hts _ md_X13_check_1) (fun _ h9 => h9) rfl (by decide +kernel) rfl rfl (by rw [fl_len]; decide) dX13_check_2 (fun H_2 locs hP2 hD2 hS2 => ?_)
  rw [Wd_sq1 sg_1 (by decide) rfl] at hP2 hD2
  obtain ⟨z_3, ez_3⟩ : ∃ w, w = sq z h0 0 (some x0) := ⟨_, rfl⟩
  rw [← ez_3] at hP2 hD2
  replace hf := lt_at ez_3 hf
  clear ez_3
  replace hP := hP2
  replace hD := hD2
  replace hS := hS2
  clear hP2 hD2 hS2
  refine lv_aload_n hx hb dX13_check_5 rfl (lv_at hl 0 rfl) ?_
  refine lv_iload_n hx hb dX13_check_6 rfl (lv_at hl 2 rfl) ?_
  refine va_put (D := (dC, dI)) (ci := 13) (v := .int x1) (ty := .int) (C := RX13) (T := TX13) (N := 22) hx hb hts iwd_X13_check_X13 tyX13 tyX13_ok nmX13 hown hK hP hD hS h0 (Wd_ob kg_1 sg_1 (by decide)) rfl 1 (by decide) (hts _ md_X13_check_2) (fun _ h9 => h9) rfl (by decide +kernel) rfl rfl (by rw [fl_len]; decide) dX13_check_7 (fun H_4 locs hP2 hD2 hS2 => ?_)
  rw [Wd_si sg_1 (by decide) rfl] at hP2 hD2
  obtain ⟨z_5, ez_5⟩ : ∃ w, w = si z_3 h0 1 x1 := ⟨_, rfl⟩
  rw [← ez_5] at hP2 hD2
  replace hf := lt_at ez_5 hf
  clear ez_5
  replace hP := hP2
  replace hD := hD2
  replace hS := hS2
  clear hP2 hD2 hS2
  refine lv_aload_n hx hb dX13_check_10 rfl (lv_at hl 0 rfl) ?_
  obtain ⟨z_6, _u, hfc, hf⟩ := cal_some hf
  have hFc := de_free hD hS hA
  refine va_callv (va_runV (As := []) (rest := []) ⟨hx, hb, hml, hown, hts⟩ (de_X13_begin l dC dI cy a sh n H_4.size F z_5 h0 hfc) (cwV 0 hts gX13_check_X13_begin rfl rfl rfl (by decide +kernel) ⟨Nat.le_of_ble_eq_true rfl, Nat.le_of_ble_eq_true rfl⟩) ⟨fun a U g mk q => by obtain ⟨q0, q1, qP, qK, qD, qN⟩ := q; exact ⟨q0, q1, qP, va_K.moved (u := U) (U := U.calling g mk a) (Vm.Alike.refl U.vm) qK, qD, qN.same rfl⟩, va_recv hK hP (ci := 13) (q0 := h0) rfl (Wd_ob kg_1 sg_1 (by decide)), fun U hU hW => ⟨rfl, by rw [hU], by rw [hU]; exact hP, va_K.moved hW.alike hK, hD.weaken (fun _ _ _ _ => trivial), hN.warm hW⟩⟩ rfl rfl hl.1 rfl (lv_room (Nat.le_of_ble_eq_true rfl)) dX13_check_11 ⟨Nat.le_of_ble_eq_true rfl, Nat.le_of_ble_eq_true rfl⟩) hS (fun q _ h => hFc q h) hFc (fun u t H_7 locs ht hvm hw hB hz1 hk1 hS2 => ?_)
  obtain ⟨hP1, -, hD1⟩ := hB
  rw [ht] at hP1
  replace hD := hD1.weaken (fun _ _ _ h => hFc _ h)
  replace hP := hP1
  replace hS := hS2
  clear hP1 hD1 hS2 hFc hfc hz1 hk1 hvm ht
  refine lv_iconst (v := 0) hx hb dX13_check_14 (by decide) ?_
  refine lv_istore_n (lv' := [(3, .int 0), (0, .ref (a h0)), (1, .ref (a x0)), (2, .int x1)]) hx hb dX13_check_15 rfl hl (by decide) rfl (fun ls hl2 => ?_)
  replace hl := hl2
  clear hl2
  have hl0 : lv_has ls 4 [(3, .int 0), (0, .ref (a h0))] := lv_sub hl [0, 1] rfl
  refine de_loop (h := 16) (fun (x : St × Int32) ls H locs => lv_has ls 4 [(3, .int x.2), (0, .ref (a h0))] ∧ va_P (dC, dI) vwCl (Wd cy a sh n x.1) H ∧ va_D A (Wd cy a sh n x.1) ∧ va_S A s.heap H locs) (fun f x => fn_X13_check_L16 F sh n h0 f x.1 x.2) (z8, r8) ?_ (fun _ => rfl) F (z_6, 0) ls H_7 locs ⟨hl0, hP, hD, hS⟩ hf
  intro f_10 x ls H locs ih16 hI hf
  obtain ⟨z_9, p_8⟩ := x
  obtain ⟨hl2, hP2, hD2, hS2⟩ := hI
  replace hl : lv_has ls 4 [(3, .int p_8), (0, .ref (a h0))] := hl2
  replace hP := hP2
  replace hD := hD2
  replace hS := hS2
  clear hl2 hP2 hD2 hS2 hl0
  replace hf := fn_X13_check_L16_s hf
  refine lv_iload_n hx hb dX13_check_16 rfl (lv_at hl 0 rfl) ?_
  refine lv_aload_n hx hb dX13_check_17 rfl (lv_at hl 1 rfl) ?_
  refine va_get (D := (dC, dI)) (ci := 13) (v := .int (z_9.1 h0 4)) (C := RX13) (T := TX13) (N := 22) hx hb hts iwd_X13_check_X13 hown hK hP h0 (Wd_ob kg_1 sg_1 (by decide)) rfl 4 (by decide) (hts _ md_X13_check_3) (fun _ h9 => h9) (fl_at (t := 0) rfl) dX13_check_18 ?_
  refine lv_icmp_ge (tgt := 54) hx hb dX13_check_21 (by decide) (fun c_11 => ?_) (fun c_11 => ?_)
  · skip
    rw [if_pos c_11] at hf
    refine lv_aload_n hx hb dX13_check_54 rfl (lv_at hl 1 rfl) ?_
    refine va_get (D := (dC, dI)) (ci := 13) (v := .int (z_9.1 h0 18)) (C := RX13) (T := TX13) (N := 22) hx hb hts iwd_X13_check_X13 hown hK hP h0 (Wd_ob kg_1 sg_1 (by decide)) rfl 18 (by decide) (hts _ md_X13_check_4) (fun _ h9 => h9) (fl_at (t := 0) rfl) dX13_check_55 ?_
    obtain ⟨h8, h9⟩ := ret_some hf
    rw [h8, h9]
    exact W.iret (v := (z_9.1 h0 18)) hx hb hr (fun t ht hW => ⟨⟨(z_9.1 h0 18), (), rfl, rfl, by rw [ht]; exact hP, va_K.moved hW.alike hK, hD⟩, hS.F ht⟩) hS.2.2 dX13_check_58
  · skip
    rw [if_neg c_11] at hf
    refine lv_aload_n hx hb dX13_check_24 rfl (lv_at hl 1 rfl) ?_
    refine va_get (D := (dC, dI)) (ci := 13) (v := .int (z_9.1 h0 18)) (C := RX13) (T := TX13) (N := 22) hx hb hts iwd_X13_check_X13 hown hK hP h0 (Wd_ob kg_1 sg_1 (by decide)) rfl 18 (by decide) (hts _ md_X13_check_4) (fun _ h9 => h9) (fl_at (t := 0) rfl) dX13_check_25 ?_
    refine lv_if_ne (tgt := 54) hx hb dX13_check_28 (by decide) (fun c_12 => ?_) (fun c_12 => ?_)
    · skip
      rw [if_neg c_12] at hf
      refine lv_aload_n hx hb dX13_check_54 rfl (lv_at hl 1 rfl) ?_
      refine va_get (D := (dC, dI)) (ci := 13) (v := .int (z_9.1 h0 18)) (C := RX13) (T := TX13) (N := 22) hx hb hts iwd_X13_check_X13 hown hK hP h0 (Wd_ob kg_1 sg_1 (by decide)) rfl 18 (by decide) (hts _ md_X13_check_4) (fun _ h9 => h9) (fl_at (t := 0) rfl) dX13_check_55 ?_
      obtain ⟨h8, h9⟩ := ret_some hf
      rw [h8, h9]
      exact W.iret (v := (z_9.1 h0 18)) hx hb hr (fun t ht hW => ⟨⟨(z_9.1 h0 18), (), rfl, rfl, by rw [ht]; exact hP, va_K.moved hW.alike hK, hD⟩, hS.F ht⟩) hS.2.2 dX13_check_58
    · skip
      rw [if_pos c_12] at hf
      refine lv_aload_n hx hb dX13_check_31 rfl (lv_at hl 1 rfl) ?_
      refine lv_iload_n hx hb dX13_check_32 rfl (lv_at hl 0 rfl) ?_
      obtain ⟨z_13, _u, hfc, hf⟩ := cal_some hf
      have hFc := de_free hD hS hA
      refine va_callv (va_runV (As := [.int p_8]) (rest := []) ⟨hx, hb, hml, hown, hts⟩ (de_X13_look l dC dI cy a sh n H.size F z_9 h0 p_8 hfc) (cwV 1 hts gX13_check_X13_look rfl rfl rfl (by decide +kernel) ⟨Nat.le_of_ble_eq_true rfl, Nat.le_of_ble_eq_true rfl⟩) ⟨fun a U g mk q => by obtain ⟨q0, q1, qP, qK, qD, qN⟩ := q; exact ⟨q0, q1, qP, va_K.moved (u := U) (U := U.calling g mk a) (Vm.Alike.refl U.vm) qK, qD, qN.same rfl⟩, va_recv hK hP (ci := 13) (q0 := h0) rfl (Wd_ob kg_1 sg_1 (by decide)), fun U hU hW => ⟨rfl, by rw [hU], by rw [hU]; exact hP, va_K.moved hW.alike hK, hD.weaken (fun _ _ _ _ => trivial), hN.warm hW⟩⟩ rfl rfl hl.1 rfl (lv_room (Nat.le_of_ble_eq_true rfl)) dX13_check_33 ⟨Nat.le_of_ble_eq_true rfl, Nat.le_of_ble_eq_true rfl⟩) hS (fun q _ h => hFc q h) hFc (fun u t H_14 locs ht hvm hw hB hz1 hk1 hS2 => ?_)
      obtain ⟨hP1, -, hD1⟩ := hB
      rw [ht] at hP1
      replace hD := hD1.weaken (fun _ _ _ h => hFc _ h)
      replace hP := hP1
      replace hS := hS2
      clear hP1 hD1 hS2 hFc hfc hz1 hk1 hvm ht
      refine lv_aload_n hx hb dX13_check_36 rfl (lv_at hl 1 rfl) ?_
      refine va_get (D := (dC, dI)) (ci := 13) (v := .int (z_13.1 h0 18)) (C := RX13) (T := TX13) (N := 22) hx hb hts iwd_X13_check_X13 hown hK hP h0 (Wd_ob kg_1 sg_1 (by decide)) rfl 18 (by decide) (hts _ md_X13_check_4) (fun _ h9 => h9) (fl_at (t := 0) rfl) dX13_check_37 ?_
      refine de_cut (h := 48) (fun (x : St) => []) (fun x ls H locs => lv_has ls 4 [(3, .int p_8), (0, .ref (a h0))] ∧ va_P (dC, dI) vwCl (Wd cy a sh n x) H ∧ va_D A (Wd cy a sh n x) ∧ va_S A s.heap H locs) (fun x => fn_X13_check_B48 F sh n p_8 (fun z9 q3 => fn_X13_check_L16 F sh n h0 f_10 z9 q3) x) (z8, r8) ?_ (fun B48 => ?_)
      · intro x ls H locs hI hf
        obtain ⟨z_15, ez⟩ : ∃ w, w = x := ⟨_, rfl⟩
        subst ez
        obtain ⟨hl2, hP2, hD2, hS2⟩ := hI
        replace hl : lv_has ls 4 [(3, .int p_8), (0, .ref (a h0))] := hl2
        replace hP := hP2
        replace hD := hD2
        replace hS := hS2
        clear hl2 hP2 hD2 hS2
        replace hf := fn_X13_check_B48_s hf
        refine W.eq (g2 := F0 m 48 ls []) rfl ?_
        refine lv_iinc (v := (p_8 + 1)) (lv' := [(3, .int (p_8 + 1)), (0, .ref (a h0))]) hx hb dX13_check_48 hl (k := 0) rfl rfl (by decide) rfl (fun ls hl2 => ?_)
        replace hl := hl2
        clear hl2
        refine lv_goto (tgt := 16) hx hb dX13_check_51 (by decide) ?_
        exact ih16 (z_15, (p_8 + 1)) ls H locs ⟨lv_sub hl [0, 1] rfl, hP, hD, hS⟩ hf
      refine lv_if_eq (tgt := 48) hx hb dX13_check_40 (by decide) (fun c_16 => ?_) (fun c_16 => ?_)
      · skip
        rw [if_pos c_16] at hf
        exact B48 (z_13) ls H_14 locs ⟨lv_sub hl [0, 1] rfl, hP, hD, hS⟩ hf
      · skip
        rw [if_neg c_16] at hf
        refine lv_aload_n hx hb dX13_check_43 rfl (lv_at hl 1 rfl) ?_
        refine lv_iload_n hx hb dX13_check_44 rfl (lv_at hl 0 rfl) ?_
        refine va_put (D := (dC, dI)) (ci := 13) (v := .int p_8) (ty := .int) (C := RX13) (T := TX13) (N := 22) hx hb hts iwd_X13_check_X13 tyX13 tyX13_ok nmX13 hown hK hP hD hS h0 (Wd_ob kg_1 sg_1 (by decide)) rfl 5 (by decide) (hts _ md_X13_check_5) (fun _ h9 => h9) rfl (by decide +kernel) rfl rfl (by rw [fl_len]; decide) dX13_check_45 (fun H_17 locs hP2 hD2 hS2 => ?_)
        rw [Wd_si sg_1 (by decide) rfl] at hP2 hD2
        obtain ⟨z_18, ez_18⟩ : ∃ w, w = si z_13 h0 5 p_8 := ⟨_, rfl⟩
        rw [← ez_18] at hP2 hD2
        replace hf := lt_at ez_18 hf
        clear ez_18
        replace hP := hP2
        replace hD := hD2
        replace hS := hS2
        clear hP2 hD2 hS2
        exact B48 (z_18) ls H_17 locs ⟨lv_sub hl [0, 1] rfl, hP, hD, hS⟩ hf

theorem md_X18_takeModule_1 : (.fieldLink RX18 17 "ResourceLedgerModel" "units" "[LResourceLedgerModel$Unit;" : Cond) ∈ wsX18_takeModule := List.mem_of_getElem? (i := 1) rfl
theorem iwd_X18_takeModule_X18 : ∀ w ∈ wsX180, w ∈ wsX18_takeModule := fun _ h => List.mem_cons_of_mem _ (List.mem_append_left _ (List.mem_append_left _ (List.mem_append_right _ h)))
theorem md_X18_takeModule_2 : (.fieldLink RX18 215 "ResourceLedgerModel" "faultPlace" "I" : Cond) ∈ wsX18_takeModule := List.mem_of_getElem? (i := 2) rfl
theorem iwd_X18_takeModule_X16 : ∀ w ∈ wsX160, w ∈ wsX18_takeModule := fun _ h => List.mem_cons_of_mem _ (List.mem_append_left _ (List.mem_append_right _ h))
theorem md_X18_takeModule_3 : (.fieldLink RX18 231 "ResourceLedgerModel" "looker" "LResourceLedgerModel$Looker;" : Cond) ∈ wsX18_takeModule := List.mem_of_getElem? (i := 3) rfl
theorem iwd_X18_takeModule_X13 : ∀ w ∈ wsX130, w ∈ wsX18_takeModule := fun _ h => List.mem_cons_of_mem _ (List.mem_append_right _ h)
theorem md_X18_takeModule_4 : (.fieldLink RX18 189 "ResourceLedgerModel" "depths" "[I" : Cond) ∈ wsX18_takeModule := List.mem_of_getElem? (i := 4) rfl
set_option maxHeartbeats 4000000 in
set_option maxRecDepth 100000 in
theorem de_X18_takeModule (l : Launch) (dC : Nat → ClassId) (dI : Nat → Nat → Nat) (cy : Nat → ClassId) (a : Nat → Nat) (sh : Nat → Nat × Nat) (n sz : Nat) (F : Nat) (z : St) (h0 : Nat) (x0 : Nat) (x1 : Int32) (x2 : Int32) (x3 : Int32) {z8 : St} {r8 : Int32} (hf : fn_X18_takeModule F sh n z h0 x0 x1 x2 x3 = some (z8, r8)) : Met l yX18_takeModule wsX18_takeModule ({ frames := 10, cells := 0, slots := 0, locals := 240 }) (va_Pc [.ref (a h0), .ref (a x0), .int x1, .int x2, .int x3] (fun U => U.heap.size = sz ∧ va_P (dC, dI) vwCl (Wd cy a sh n z) U.heap ∧ va_K (dC, dI) vwCl (TYS cy) U ∧ va_D (fun _ => True) (Wd cy a sh n z) ∧ NK U)) (va_Qi (fun (r9 : Int32) (u : Unit) => r9 = r8) (fun u t => va_P (dC, dI) vwCl (Wd cy a sh n z8) t.heap ∧ va_K (dC, dI) vwCl (TYS cy) t ∧ va_D (va_A (Wd cy a sh n z) sz) (Wd cy a sh n z8)) (va_A (Wd cy a sh n z) sz)) 0 0 (va_A (Wd cy a sh n z) sz) := by
  refine Met.ofW (cc := cX18_takeModule) (maxL := 9) (ret := (some .int)) (by decide) rfl ?_
  intro p e s m args below meth c s₁ B hml hv
  obtain ⟨rfl, hsz, hP, hK, hD0, hN⟩ := hv
  have hx := B.exec
  have hb := B.bytes
  have hr := B.returns
  have hts := atoms_spec (ws := wsX18_takeModule) B.pre
  have hown : s.vm.findClass RX18 = some m.cls := findClass_of_methodNamed B.named
  have hlocks := B.notSynchronized
  subst hsz
  have hD := hD0.self (sz := s.heap.size)
  clear hD0
  generalize hAe : va_A (Wd cy a sh n z) s.heap.size = A at hD ⊢
  have hA : ∀ q : Nat, s.heap.size ≤ q → A q := fun q h => by rw [← hAe]; exact Or.inr h
  clear hAe
  have hS : va_S A s.heap s.heap [] := va_S.rf
  have hl := lv_entry ([.ref (a h0), .ref (a x0), .int x1, .int x2, .int x3]) (n := 9) (Nat.le_of_ble_eq_true rfl)
  rw [lg_entry_eq]
  generalize (lg_sl ([.ref (a h0), .ref (a x0), .int x1, .int x2, .int x3]) ++ List.replicate (9 - (lg_sl ([.ref (a h0), .ref (a x0), .int x1, .int x2, .int x3])).length) Slot.unset).toArray = ls at hl ⊢
  replace hl : lv_has ls 9 [(0, .ref (a h0)), (1, .ref (a x0)), (2, .int x1), (3, .int x2), (4, .int x3)] := hl
  unfold fn_X18_takeModule at hf
  refine de_start hS hP (fun H locs hS hP => ?_)
  refine lv_aload_n hx hb dX18_takeModule_0 rfl (lv_at hl 0 rfl) ?_
  obtain ⟨g_1, hf⟩ := grd_some hf
  obtain ⟨kg_1, sg_1⟩ := okO_at g_1
  obtain ⟨k_2, ek_2, hf⟩ := lnk_some hf
  refine va_get (D := (dC, dI)) (ci := 18) (v := .ref (a k_2)) (C := RX18) (T := TX18) (N := 78) hx hb hts iwd_X18_takeModule_X18 hown hK hP h0 (Wd_ob kg_1 sg_1 (by decide)) rfl 4 (by decide) (hts _ md_X18_takeModule_1) (fun _ h9 => h9) (fl_q rfl ek_2) dX18_takeModule_1 ?_
  refine lv_iload hx hb dX18_takeModule_4 (lv_at hl 4 rfl) ?_
  obtain ⟨g_3, hf⟩ := grd_some hf
  obtain ⟨kg_3, sg_3, ig_3⟩ := okA_at g_3
  obtain ⟨k_4, ek_4, hf⟩ := lnk_some hf
  refine va_aldq (C := RX16) hx hb hK hP k_2 6 (Wd_aq kg_3 sg_3 (by decide)) rfl ig_3 dX18_takeModule_6 ?_
  refine W.eq (g2 := F0 m 7 ls [.ref (a k_4)]) (by rw [ek_4]; rfl) ?_
  refine lv_astore (lv' := [(5, .ref (a k_4)), (0, .ref (a h0)), (1, .ref (a x0)), (2, .int x1), (3, .int x2), (4, .int x3)]) hx hb dX18_takeModule_7 hl (by decide) rfl (fun ls hl2 => ?_)
  replace hl := hl2
  clear hl2
  refine lv_aload hx hb dX18_takeModule_9 (lv_at hl 0 rfl) ?_
  refine lv_aload_n hx hb dX18_takeModule_11 rfl (lv_at hl 2 rfl) ?_
  refine lv_iload_n hx hb dX18_takeModule_12 rfl (lv_at hl 3 rfl) ?_
  refine lv_iload_n hx hb dX18_takeModule_13 rfl (lv_at hl 4 rfl) ?_
  obtain ⟨g_7, hf⟩ := grd_some hf
  obtain ⟨kg_7, sg_7⟩ := okO_at g_7
  obtain ⟨z_5, r_6, hfc, hf⟩ := cal_some hf
  have hFc := de_free hD hS hA
  refine va_calli (va_runV (As := [.ref (a x0), .int x1, .int x2]) (rest := []) ⟨hx, hb, hml, hown, hts⟩ (de_X16_read l dC dI cy a sh n H.size F z k_4 x0 x1 x2 hfc) (cwV 3 hts gX18_takeModule_X16_read rfl rfl rfl (by decide +kernel) ⟨Nat.le_of_ble_eq_true rfl, Nat.le_of_ble_eq_true rfl⟩) ⟨fun a U g mk q => by obtain ⟨q0, q1, qP, qK, qD, qN⟩ := q; exact ⟨q0, q1, qP, va_K.moved (u := U) (U := U.calling g mk a) (Vm.Alike.refl U.vm) qK, qD, qN.same rfl⟩, va_recv hK hP (ci := 16) (q0 := k_4) rfl (Wd_ob kg_7 sg_7 (by decide)), fun U hU hW => ⟨rfl, by rw [hU], by rw [hU]; exact hP, va_K.moved hW.alike hK, hD.weaken (fun _ _ _ _ => trivial), hN.warm hW⟩⟩ rfl rfl hl.1 rfl (lv_room (Nat.le_of_ble_eq_true rfl)) dX18_takeModule_14 ⟨Nat.le_of_ble_eq_true rfl, Nat.le_of_ble_eq_true rfl⟩) hS (fun q _ h => hFc q h) hFc (fun rr u t H_8 locs ht hvm hw hB hz1 hk1 hS2 => ?_)
  rw [hw]
  clear hw
  obtain ⟨hP1, -, hD1⟩ := hB
  rw [ht] at hP1
  replace hD := hD1.weaken (fun _ _ _ h => hFc _ h)
  replace hP := hP1
  replace hS := hS2
  clear hP1 hD1 hS2 hFc hfc hz1 hk1 hvm ht
  refine lv_istore (lv' := [(6, .int r_6), (5, .ref (a k_4)), (0, .ref (a h0)), (1, .ref (a x0)), (2, .int x1), (3, .int x2), (4, .int x3)]) hx hb dX18_takeModule_17 hl (by decide) rfl (fun ls hl2 => ?_)
  replace hl := hl2
  clear hl2
  refine lv_aload_n hx hb dX18_takeModule_19 rfl (lv_at hl 2 rfl) ?_
  refine lv_iload hx hb dX18_takeModule_20 (lv_at hl 0 rfl) ?_
  refine de_cut (h := 34) (fun (x : St × Int32) => [.int x.2, .ref (a h0)]) (fun x ls H locs => lv_has ls 9 [(6, .int r_6), (5, .ref (a k_4)), (0, .ref (a h0)), (4, .int x3)] ∧ va_P (dC, dI) vwCl (Wd cy a sh n x.1) H ∧ va_D A (Wd cy a sh n x.1) ∧ va_S A s.heap H locs) (fun x => fn_X18_takeModule_B34 F sh n h0 r_6 k_4 x3 x.1 x.2) (z8, r8) ?_ (fun B34 => ?_)
  · intro x ls H locs hI hf
    obtain ⟨z_10, p_9⟩ := x
    obtain ⟨hl2, hP2, hD2, hS2⟩ := hI
    replace hl : lv_has ls 9 [(6, .int r_6), (5, .ref (a k_4)), (0, .ref (a h0)), (4, .int x3)] := hl2
    replace hP := hP2
    replace hD := hD2
    replace hS := hS2
    clear hl2 hP2 hD2 hS2
    replace hf := fn_X18_takeModule_B34_s hf
    refine W.eq (g2 := F0 m 34 ls [.int p_9, .ref (a h0)]) rfl ?_
    refine va_put (D := (dC, dI)) (ci := 18) (v := .int p_9) (ty := .int) (C := RX18) (T := TX18) (N := 78) hx hb hts iwd_X18_takeModule_X18 tyX18 tyX18_ok nmX18 hown hK hP hD hS h0 (Wd_ob kg_1 sg_1 (by decide)) rfl 23 (by decide) (hts _ md_X18_takeModule_2) (fun _ h9 => h9) rfl (by decide +kernel) rfl rfl (by rw [fl_len]; decide) dX18_takeModule_34 (fun H_11 locs hP2 hD2 hS2 => ?_)
    rw [Wd_si sg_1 (by decide) rfl] at hP2 hD2
    obtain ⟨z_12, ez_12⟩ : ∃ w, w = si z_10 h0 23 p_9 := ⟨_, rfl⟩
    rw [← ez_12] at hP2 hD2
    replace hf := lt_at ez_12 hf
    clear ez_12
    replace hP := hP2
    replace hD := hD2
    replace hS := hS2
    clear hP2 hD2 hS2
    refine lv_iload hx hb dX18_takeModule_37 (lv_at hl 0 rfl) ?_
    refine lv_if_eq (tgt := 45) hx hb dX18_takeModule_39 (by decide) (fun c_13 => ?_) (fun c_13 => ?_)
    · skip
      rw [if_pos c_13] at hf
      refine lv_aload hx hb dX18_takeModule_45 (lv_at hl 1 rfl) ?_
      obtain ⟨z_14, r_15, hfc, hf⟩ := cal_some hf
      have hFc := de_free hD hS hA
      refine va_calli (va_runV (As := []) (rest := []) ⟨hx, hb, hml, hown, hts⟩ (de_X16_number l dC dI cy a sh n H_11.size F z_12 k_4 hfc) (cwV 0 hts gX18_takeModule_X16_number rfl rfl rfl (by decide +kernel) ⟨Nat.le_of_ble_eq_true rfl, Nat.le_of_ble_eq_true rfl⟩) ⟨fun a U g mk q => by obtain ⟨q0, q1, qP, qK, qD, qN⟩ := q; exact ⟨q0, q1, qP, va_K.moved (u := U) (U := U.calling g mk a) (Vm.Alike.refl U.vm) qK, qD, qN.same rfl⟩, va_recv hK hP (ci := 16) (q0 := k_4) rfl (Wd_ob kg_7 sg_7 (by decide)), fun U hU hW => ⟨rfl, by rw [hU], by rw [hU]; exact hP, va_K.moved hW.alike hK, hD.weaken (fun _ _ _ _ => trivial), hN.warm hW⟩⟩ rfl rfl hl.1 rfl (lv_room (Nat.le_of_ble_eq_true rfl)) dX18_takeModule_47 ⟨Nat.le_of_ble_eq_true rfl, Nat.le_of_ble_eq_true rfl⟩) hS (fun q _ h => hFc q h) hFc (fun rr u t H_16 locs ht hvm hw hB hz1 hk1 hS2 => ?_)
      rw [hw]
      clear hw
      obtain ⟨hP1, -, hD1⟩ := hB
      rw [ht] at hP1
      replace hD := hD1.weaken (fun _ _ _ h => hFc _ h)
      replace hP := hP1
      replace hS := hS2
      clear hP1 hD1 hS2 hFc hfc hz1 hk1 hvm ht
      refine lv_if_eq (tgt := 65) hx hb dX18_takeModule_50 (by decide) (fun c_17 => ?_) (fun c_17 => ?_)
      · skip
        rw [if_pos c_17] at hf
        refine lv_aload_n hx hb dX18_takeModule_65 rfl (lv_at hl 2 rfl) ?_
        refine lv_bipush (v := 21) hx hb dX18_takeModule_66 (by decide) ?_
        refine lv_iconst (v := 4) hx hb dX18_takeModule_68 (by decide) ?_
        obtain ⟨z_18, r_19, hfc, hf⟩ := cal_some hf
        have hFc := de_free hD hS hA
        refine va_calli (va_runV (As := [.int 21, .int 4]) (rest := []) ⟨hx, hb, hml, hown, hts⟩ (de_X18_tell l dC dI cy a sh n H_16.size F z_14 h0 21 4 hfc) (cwV 2 hts gX18_takeModule_X18_tell rfl rfl rfl (by decide +kernel) ⟨Nat.le_of_ble_eq_true rfl, Nat.le_of_ble_eq_true rfl⟩) ⟨fun a U g mk q => by obtain ⟨q0, q1, qP, qK, qD, qN⟩ := q; exact ⟨q0, q1, qP, va_K.moved (u := U) (U := U.calling g mk a) (Vm.Alike.refl U.vm) qK, qD, qN.same rfl⟩, va_recv hK hP (ci := 18) (q0 := h0) rfl (Wd_ob kg_1 sg_1 (by decide)), fun U hU hW => ⟨rfl, by rw [hU], by rw [hU]; exact hP, va_K.moved hW.alike hK, hD.weaken (fun _ _ _ _ => trivial), hN.warm hW⟩⟩ rfl rfl hl.1 rfl (lv_room (Nat.le_of_ble_eq_true rfl)) dX18_takeModule_69 ⟨Nat.le_of_ble_eq_true rfl, Nat.le_of_ble_eq_true rfl⟩) hS (fun q _ h => hFc q h) hFc (fun rr u t H_20 locs ht hvm hw hB hz1 hk1 hS2 => ?_)
        rw [hw]
        clear hw
        obtain ⟨hP1, -, hD1⟩ := hB
        rw [ht] at hP1
        replace hD := hD1.weaken (fun _ _ _ h => hFc _ h)
        replace hP := hP1
        replace hS := hS2
        clear hP1 hD1 hS2 hFc hfc hz1 hk1 hvm ht
        obtain ⟨h8, h9⟩ := ret_some hf
        rw [h8, h9]
        exact W.iret (v := r_19) hx hb hr (fun t ht hW => ⟨⟨r_19, (), rfl, rfl, by rw [ht]; exact hP, va_K.moved hW.alike hK, hD⟩, hS.F ht⟩) hS.2.2 dX18_takeModule_72
      · skip
        rw [if_neg c_17] at hf
        refine lv_aload_n hx hb dX18_takeModule_53 rfl (lv_at hl 2 rfl) ?_
        refine lv_aload hx hb dX18_takeModule_54 (lv_at hl 1 rfl) ?_
        obtain ⟨z_21, r_22, hfc, hf⟩ := cal_some hf
        have hFc := de_free hD hS hA
        refine va_calli (va_runV (As := []) (rest := [.ref (a h0)]) ⟨hx, hb, hml, hown, hts⟩ (de_X16_number l dC dI cy a sh n H_16.size F z_14 k_4 hfc) (cwV 0 hts gX18_takeModule_X16_number rfl rfl rfl (by decide +kernel) ⟨Nat.le_of_ble_eq_true rfl, Nat.le_of_ble_eq_true rfl⟩) ⟨fun a U g mk q => by obtain ⟨q0, q1, qP, qK, qD, qN⟩ := q; exact ⟨q0, q1, qP, va_K.moved (u := U) (U := U.calling g mk a) (Vm.Alike.refl U.vm) qK, qD, qN.same rfl⟩, va_recv hK hP (ci := 16) (q0 := k_4) rfl (Wd_ob kg_7 sg_7 (by decide)), fun U hU hW => ⟨rfl, by rw [hU], by rw [hU]; exact hP, va_K.moved hW.alike hK, hD.weaken (fun _ _ _ _ => trivial), hN.warm hW⟩⟩ rfl rfl hl.1 rfl (lv_room (Nat.le_of_ble_eq_true rfl)) dX18_takeModule_56 ⟨Nat.le_of_ble_eq_true rfl, Nat.le_of_ble_eq_true rfl⟩) hS (fun q _ h => hFc q h) hFc (fun rr u t H_23 locs ht hvm hw hB hz1 hk1 hS2 => ?_)
        rw [hw]
        clear hw
        obtain ⟨hP1, -, hD1⟩ := hB
        rw [ht] at hP1
        replace hD := hD1.weaken (fun _ _ _ h => hFc _ h)
        replace hP := hP1
        replace hS := hS2
        clear hP1 hD1 hS2 hFc hfc hz1 hk1 hvm ht
        obtain ⟨z_24, r_25, hfc, hf⟩ := cal_some hf
        have hFc := de_free hD hS hA
        refine va_calli (va_runV (As := [.int r_22]) (rest := []) ⟨hx, hb, hml, hown, hts⟩ (de_X18_findModule l dC dI cy a sh n H_23.size F z_21 h0 r_22 hfc) (cwV 1 hts gX18_takeModule_X18_findModule rfl rfl rfl (by decide +kernel) ⟨Nat.le_of_ble_eq_true rfl, Nat.le_of_ble_eq_true rfl⟩) ⟨fun a U g mk q => by obtain ⟨q0, q1, qP, qK, qD, qN⟩ := q; exact ⟨q0, q1, qP, va_K.moved (u := U) (U := U.calling g mk a) (Vm.Alike.refl U.vm) qK, qD, qN.same rfl⟩, va_recv hK hP (ci := 18) (q0 := h0) rfl (Wd_ob kg_1 sg_1 (by decide)), fun U hU hW => ⟨rfl, by rw [hU], by rw [hU]; exact hP, va_K.moved hW.alike hK, hD.weaken (fun _ _ _ _ => trivial), hN.warm hW⟩⟩ rfl rfl hl.1 rfl (lv_room (Nat.le_of_ble_eq_true rfl)) dX18_takeModule_59 ⟨Nat.le_of_ble_eq_true rfl, Nat.le_of_ble_eq_true rfl⟩) hS (fun q _ h => hFc q h) hFc (fun rr u t H_26 locs ht hvm hw hB hz1 hk1 hS2 => ?_)
        rw [hw]
        clear hw
        obtain ⟨hP1, -, hD1⟩ := hB
        rw [ht] at hP1
        replace hD := hD1.weaken (fun _ _ _ h => hFc _ h)
        replace hP := hP1
        replace hS := hS2
        clear hP1 hD1 hS2 hFc hfc hz1 hk1 hvm ht
        refine lv_if_le (tgt := 73) hx hb dX18_takeModule_62 (by decide) (fun c_27 => ?_) (fun c_27 => ?_)
        · skip
          rw [if_pos c_27] at hf
          refine lv_aload hx hb dX18_takeModule_73 (lv_at hl 1 rfl) ?_
          refine va_getN (D := (dC, dI)) (ci := 16) (v := .int (z_24.1 k_4 5)) (C := RX16) (T := TX16) (N := 18) hx hb hts iwd_X18_takeModule_X16 hown hK hP k_4 (Wd_ob kg_7 sg_7 (by decide)) rfl 5 (by decide) (va_Nw.use rfl (NK_f_X18_109 hN)) (fun _ h9 => h9) (fl_at (t := 0) rfl) dX18_takeModule_75 ?_
          refine lv_topi (fun v_28 ev_28 => ?_)
          replace hf := lt_at ev_28 hf
          clear ev_28
          refine lv_istore (lv' := [(7, .int v_28), (6, .int r_6), (5, .ref (a k_4)), (0, .ref (a h0)), (4, .int x3)]) hx hb dX18_takeModule_78 hl (by decide) rfl (fun ls hl2 => ?_)
          replace hl := hl2
          clear hl2
          have hl0 : lv_has ls 9 [(7, .int v_28), (5, .ref (a k_4)), (0, .ref (a h0)), (4, .int x3)] := lv_sub hl [0, 2, 3, 4] rfl
          refine de_loop (h := 80) (fun (x : St × Int32) ls H locs => lv_has ls 9 [(7, .int x.2), (5, .ref (a k_4)), (0, .ref (a h0)), (4, .int x3)] ∧ va_P (dC, dI) vwCl (Wd cy a sh n x.1) H ∧ va_D A (Wd cy a sh n x.1) ∧ va_S A s.heap H locs) (fun f x => fn_X18_takeModule_L80 F sh n k_4 h0 x3 f x.1 x.2) (z8, r8) ?_ (fun _ => rfl) F (z_24, v_28) ls H_26 locs ⟨hl0, hP, hD, hS⟩ hf
          intro f_31 x ls H locs ih80 hI hf
          obtain ⟨z_30, p_29⟩ := x
          obtain ⟨hl2, hP2, hD2, hS2⟩ := hI
          replace hl : lv_has ls 9 [(7, .int p_29), (5, .ref (a k_4)), (0, .ref (a h0)), (4, .int x3)] := hl2
          replace hP := hP2
          replace hD := hD2
          replace hS := hS2
          clear hl2 hP2 hD2 hS2 hl0
          replace hf := fn_X18_takeModule_L80_s hf
          refine lv_iload hx hb dX18_takeModule_80 (lv_at hl 0 rfl) ?_
          refine lv_aload hx hb dX18_takeModule_82 (lv_at hl 1 rfl) ?_
          obtain ⟨z_32, r_33, hfc, hf⟩ := cal_some hf
          have hFc := de_free hD hS hA
          refine va_calli (va_runV (As := []) (rest := [.int p_29]) ⟨hx, hb, hml, hown, hts⟩ (de_X16_structureCount l dC dI cy a sh n H.size F z_30 k_4 hfc) (cwV 0 hts gX18_takeModule_X16_structureCount rfl rfl rfl (by decide +kernel) ⟨Nat.le_of_ble_eq_true rfl, Nat.le_of_ble_eq_true rfl⟩) ⟨fun a U g mk q => by obtain ⟨q0, q1, qP, qK, qD, qN⟩ := q; exact ⟨q0, q1, qP, va_K.moved (u := U) (U := U.calling g mk a) (Vm.Alike.refl U.vm) qK, qD, qN.same rfl⟩, va_recv hK hP (ci := 16) (q0 := k_4) rfl (Wd_ob kg_7 sg_7 (by decide)), fun U hU hW => ⟨rfl, by rw [hU], by rw [hU]; exact hP, va_K.moved hW.alike hK, hD.weaken (fun _ _ _ _ => trivial), hN.warm hW⟩⟩ rfl rfl hl.1 rfl (lv_room (Nat.le_of_ble_eq_true rfl)) dX18_takeModule_84 ⟨Nat.le_of_ble_eq_true rfl, Nat.le_of_ble_eq_true rfl⟩) hS (fun q _ h => hFc q h) hFc (fun rr u t H_34 locs ht hvm hw hB hz1 hk1 hS2 => ?_)
          rw [hw]
          clear hw
          obtain ⟨hP1, -, hD1⟩ := hB
          rw [ht] at hP1
          replace hD := hD1.weaken (fun _ _ _ h => hFc _ h)
          replace hP := hP1
          replace hS := hS2
          clear hP1 hD1 hS2 hFc hfc hz1 hk1 hvm ht
          refine lv_icmp_ge (tgt := 164) hx hb dX18_takeModule_87 (by decide) (fun c_35 => ?_) (fun c_35 => ?_)
          · skip
            rw [if_pos c_35] at hf
            refine lv_aload hx hb dX18_takeModule_164 (lv_at hl 1 rfl) ?_
            refine va_getN (D := (dC, dI)) (ci := 16) (v := .int (z_32.1 k_4 9)) (C := RX16) (T := TX16) (N := 18) hx hb hts iwd_X18_takeModule_X16 hown hK hP k_4 (Wd_ob kg_7 sg_7 (by decide)) rfl 9 (by decide) (va_Nw.use rfl (NK_f_X18_112 hN)) (fun _ h9 => h9) (fl_at (t := 0) rfl) dX18_takeModule_166 ?_
            refine lv_topi (fun v_36 ev_36 => ?_)
            replace hf := lt_at ev_36 hf
            clear ev_36
            refine lv_istore (lv' := [(7, .int v_36), (5, .ref (a k_4)), (0, .ref (a h0)), (4, .int x3)]) hx hb dX18_takeModule_169 hl (by decide) rfl (fun ls hl2 => ?_)
            replace hl := hl2
            clear hl2
            have hl0 : lv_has ls 9 [(7, .int v_36), (5, .ref (a k_4)), (0, .ref (a h0)), (4, .int x3)] := lv_sub hl [0, 1, 2, 3] rfl
            refine de_loop (h := 171) (fun (x : St × Int32) ls H locs => lv_has ls 9 [(7, .int x.2), (5, .ref (a k_4)), (0, .ref (a h0)), (4, .int x3)] ∧ va_P (dC, dI) vwCl (Wd cy a sh n x.1) H ∧ va_D A (Wd cy a sh n x.1) ∧ va_S A s.heap H locs) (fun f x => fn_X18_takeModule_L171 F sh n k_4 h0 x3 f x.1 x.2) (z8, r8) ?_ (fun _ => rfl) F (z_32, v_36) ls H_34 locs ⟨hl0, hP, hD, hS⟩ hf
            intro f_39 x ls H locs ih171 hI hf
            obtain ⟨z_38, p_37⟩ := x
            obtain ⟨hl2, hP2, hD2, hS2⟩ := hI
            replace hl : lv_has ls 9 [(7, .int p_37), (5, .ref (a k_4)), (0, .ref (a h0)), (4, .int x3)] := hl2
            replace hP := hP2
            replace hD := hD2
            replace hS := hS2
            clear hl2 hP2 hD2 hS2 hl0
            replace hf := fn_X18_takeModule_L171_s hf
            refine lv_iload hx hb dX18_takeModule_171 (lv_at hl 0 rfl) ?_
            refine lv_aload hx hb dX18_takeModule_173 (lv_at hl 1 rfl) ?_
            obtain ⟨z_40, r_41, hfc, hf⟩ := cal_some hf
            have hFc := de_free hD hS hA
            refine va_calli (va_runV (As := []) (rest := [.int p_37]) ⟨hx, hb, hml, hown, hts⟩ (de_X16_functionCount l dC dI cy a sh n H.size F z_38 k_4 hfc) (cwV 0 hts gX18_takeModule_X16_functionCount rfl rfl rfl (by decide +kernel) ⟨Nat.le_of_ble_eq_true rfl, Nat.le_of_ble_eq_true rfl⟩) ⟨fun a U g mk q => by obtain ⟨q0, q1, qP, qK, qD, qN⟩ := q; exact ⟨q0, q1, qP, va_K.moved (u := U) (U := U.calling g mk a) (Vm.Alike.refl U.vm) qK, qD, qN.same rfl⟩, va_recv hK hP (ci := 16) (q0 := k_4) rfl (Wd_ob kg_7 sg_7 (by decide)), fun U hU hW => ⟨rfl, by rw [hU], by rw [hU]; exact hP, va_K.moved hW.alike hK, hD.weaken (fun _ _ _ _ => trivial), hN.warm hW⟩⟩ rfl rfl hl.1 rfl (lv_room (Nat.le_of_ble_eq_true rfl)) dX18_takeModule_175 ⟨Nat.le_of_ble_eq_true rfl, Nat.le_of_ble_eq_true rfl⟩) hS (fun q _ h => hFc q h) hFc (fun rr u t H_42 locs ht hvm hw hB hz1 hk1 hS2 => ?_)
            rw [hw]
            clear hw
            obtain ⟨hP1, -, hD1⟩ := hB
            rw [ht] at hP1
            replace hD := hD1.weaken (fun _ _ _ h => hFc _ h)
            replace hP := hP1
            replace hS := hS2
            clear hP1 hD1 hS2 hFc hfc hz1 hk1 hvm ht
            refine lv_icmp_ge (tgt := 213) hx hb dX18_takeModule_178 (by decide) (fun c_43 => ?_) (fun c_43 => ?_)
            · skip
              rw [if_pos c_43] at hf
              refine lv_iconst (v := 0) hx hb dX18_takeModule_213 (by decide) ?_
              refine lv_istore (lv' := [(7, .int 0), (5, .ref (a k_4)), (0, .ref (a h0)), (4, .int x3)]) hx hb dX18_takeModule_214 hl (by decide) rfl (fun ls hl2 => ?_)
              replace hl := hl2
              clear hl2
              have hl0 : lv_has ls 9 [(7, .int 0), (5, .ref (a k_4)), (0, .ref (a h0)), (4, .int x3)] := lv_sub hl [0, 1, 2, 3] rfl
              refine de_loop (h := 216) (fun (x : St × Int32) ls H locs => lv_has ls 9 [(7, .int x.2), (5, .ref (a k_4)), (0, .ref (a h0)), (4, .int x3)] ∧ va_P (dC, dI) vwCl (Wd cy a sh n x.1) H ∧ va_D A (Wd cy a sh n x.1) ∧ va_S A s.heap H locs) (fun f x => fn_X18_takeModule_L216 F sh n k_4 h0 x3 f x.1 x.2) (z8, r8) ?_ (fun _ => rfl) F (z_40, 0) ls H_42 locs ⟨hl0, hP, hD, hS⟩ hf
              intro f_46 x ls H locs ih216 hI hf
              obtain ⟨z_45, p_44⟩ := x
              obtain ⟨hl2, hP2, hD2, hS2⟩ := hI
              replace hl : lv_has ls 9 [(7, .int p_44), (5, .ref (a k_4)), (0, .ref (a h0)), (4, .int x3)] := hl2
              replace hP := hP2
              replace hD := hD2
              replace hS := hS2
              clear hl2 hP2 hD2 hS2 hl0
              replace hf := fn_X18_takeModule_L216_s hf
              refine lv_iload hx hb dX18_takeModule_216 (lv_at hl 0 rfl) ?_
              refine lv_aload hx hb dX18_takeModule_218 (lv_at hl 1 rfl) ?_
              refine va_getN (D := (dC, dI)) (ci := 16) (v := .int (z_45.1 k_4 5)) (C := RX16) (T := TX16) (N := 18) hx hb hts iwd_X18_takeModule_X16 hown hK hP k_4 (Wd_ob kg_7 sg_7 (by decide)) rfl 5 (by decide) (va_Nw.use rfl (NK_f_X18_109 hN)) (fun _ h9 => h9) (fl_at (t := 0) rfl) dX18_takeModule_220 ?_
              refine lv_icmp_ge (tgt := 255) hx hb dX18_takeModule_223 (by decide) (fun c_47 => ?_) (fun c_47 => ?_)
              · skip
                rw [if_pos c_47] at hf
                refine lv_aload_n hx hb dX18_takeModule_255 rfl (lv_at hl 2 rfl) ?_
                refine lv_iload hx hb dX18_takeModule_256 (lv_at hl 3 rfl) ?_
                obtain ⟨z_48, _u, hfc, hf⟩ := cal_some hf
                have hFc := de_free hD hS hA
                refine va_callv (va_runV (As := [.int x3]) (rest := []) ⟨hx, hb, hml, hown, hts⟩ (de_X18_measure l dC dI cy a sh n H.size F z_45 h0 x3 hfc) (cwV 1 hts gX18_takeModule_X18_measure rfl rfl rfl (by decide +kernel) ⟨Nat.le_of_ble_eq_true rfl, Nat.le_of_ble_eq_true rfl⟩) ⟨fun a U g mk q => by obtain ⟨q0, q1, qP, qK, qD, qN⟩ := q; exact ⟨q0, q1, qP, va_K.moved (u := U) (U := U.calling g mk a) (Vm.Alike.refl U.vm) qK, qD, qN.same rfl⟩, va_recv hK hP (ci := 18) (q0 := h0) rfl (Wd_ob kg_1 sg_1 (by decide)), fun U hU hW => ⟨rfl, by rw [hU], by rw [hU]; exact hP, va_K.moved hW.alike hK, hD.weaken (fun _ _ _ _ => trivial), hN.warm hW⟩⟩ rfl rfl hl.1 rfl (lv_room (Nat.le_of_ble_eq_true rfl)) dX18_takeModule_258 ⟨Nat.le_of_ble_eq_true rfl, Nat.le_of_ble_eq_true rfl⟩) hS (fun q _ h => hFc q h) hFc (fun u t H_49 locs ht hvm hw hB hz1 hk1 hS2 => ?_)
                obtain ⟨hP1, -, hD1⟩ := hB
                rw [ht] at hP1
                replace hD := hD1.weaken (fun _ _ _ h => hFc _ h)
                replace hP := hP1
                replace hS := hS2
                clear hP1 hD1 hS2 hFc hfc hz1 hk1 hvm ht
                refine lv_iconst (v := 0) hx hb dX18_takeModule_261 (by decide) ?_
                refine lv_istore (lv' := [(7, .int 0), (5, .ref (a k_4)), (0, .ref (a h0)), (4, .int x3)]) hx hb dX18_takeModule_262 hl (by decide) rfl (fun ls hl2 => ?_)
                replace hl := hl2
                clear hl2
                have hl0 : lv_has ls 9 [(7, .int 0), (5, .ref (a k_4)), (0, .ref (a h0)), (4, .int x3)] := lv_sub hl [0, 1, 2, 3] rfl
                refine de_loop (h := 264) (fun (x : St × Int32) ls H locs => lv_has ls 9 [(7, .int x.2), (5, .ref (a k_4)), (0, .ref (a h0)), (4, .int x3)] ∧ va_P (dC, dI) vwCl (Wd cy a sh n x.1) H ∧ va_D A (Wd cy a sh n x.1) ∧ va_S A s.heap H locs) (fun f x => fn_X18_takeModule_L264 F sh n k_4 h0 x3 f x.1 x.2) (z8, r8) ?_ (fun _ => rfl) F (z_48, 0) ls H_49 locs ⟨hl0, hP, hD, hS⟩ hf
                intro f_52 x ls H locs ih264 hI hf
                obtain ⟨z_51, p_50⟩ := x
                obtain ⟨hl2, hP2, hD2, hS2⟩ := hI
                replace hl : lv_has ls 9 [(7, .int p_50), (5, .ref (a k_4)), (0, .ref (a h0)), (4, .int x3)] := hl2
                replace hP := hP2
                replace hD := hD2
                replace hS := hS2
                clear hl2 hP2 hD2 hS2 hl0
                replace hf := fn_X18_takeModule_L264_s hf
                refine lv_iload hx hb dX18_takeModule_264 (lv_at hl 0 rfl) ?_
                refine lv_aload hx hb dX18_takeModule_266 (lv_at hl 1 rfl) ?_
                refine va_getN (D := (dC, dI)) (ci := 16) (v := .int (z_51.1 k_4 5)) (C := RX16) (T := TX16) (N := 18) hx hb hts iwd_X18_takeModule_X16 hown hK hP k_4 (Wd_ob kg_7 sg_7 (by decide)) rfl 5 (by decide) (va_Nw.use rfl (NK_f_X18_109 hN)) (fun _ h9 => h9) (fl_at (t := 0) rfl) dX18_takeModule_268 ?_
                refine lv_icmp_ge (tgt := 307) hx hb dX18_takeModule_271 (by decide) (fun c_53 => ?_) (fun c_53 => ?_)
                · skip
                  rw [if_pos c_53] at hf
                  refine lv_iconst (v := 0) hx hb dX18_takeModule_307 (by decide) ?_
                  refine lv_istore (lv' := [(7, .int 0), (5, .ref (a k_4)), (0, .ref (a h0)), (4, .int x3)]) hx hb dX18_takeModule_308 hl (by decide) rfl (fun ls hl2 => ?_)
                  replace hl := hl2
                  clear hl2
                  have hl0 : lv_has ls 9 [(7, .int 0), (5, .ref (a k_4)), (0, .ref (a h0))] := lv_sub hl [0, 1, 2] rfl
                  refine de_loop (h := 310) (fun (x : St × Int32) ls H locs => lv_has ls 9 [(7, .int x.2), (5, .ref (a k_4)), (0, .ref (a h0))] ∧ va_P (dC, dI) vwCl (Wd cy a sh n x.1) H ∧ va_D A (Wd cy a sh n x.1) ∧ va_S A s.heap H locs) (fun f x => fn_X18_takeModule_L310 F sh n k_4 h0 f x.1 x.2) (z8, r8) ?_ (fun _ => rfl) F (z_51, 0) ls H locs ⟨hl0, hP, hD, hS⟩ hf
                  intro f_56 x ls H locs ih310 hI hf
                  obtain ⟨z_55, p_54⟩ := x
                  obtain ⟨hl2, hP2, hD2, hS2⟩ := hI
                  replace hl : lv_has ls 9 [(7, .int p_54), (5, .ref (a k_4)), (0, .ref (a h0))] := hl2
                  replace hP := hP2
                  replace hD := hD2
                  replace hS := hS2
                  clear hl2 hP2 hD2 hS2 hl0
                  replace hf := fn_X18_takeModule_L310_s hf
                  refine lv_iload hx hb dX18_takeModule_310 (lv_at hl 0 rfl) ?_
                  refine lv_aload hx hb dX18_takeModule_312 (lv_at hl 1 rfl) ?_
                  refine va_getN (D := (dC, dI)) (ci := 16) (v := .int (z_55.1 k_4 9)) (C := RX16) (T := TX16) (N := 18) hx hb hts iwd_X18_takeModule_X16 hown hK hP k_4 (Wd_ob kg_7 sg_7 (by decide)) rfl 9 (by decide) (va_Nw.use rfl (NK_f_X18_112 hN)) (fun _ h9 => h9) (fl_at (t := 0) rfl) dX18_takeModule_314 ?_
                  refine lv_icmp_ge (tgt := 368) hx hb dX18_takeModule_317 (by decide) (fun c_57 => ?_) (fun c_57 => ?_)
                  · skip
                    rw [if_pos c_57] at hf
                    refine lv_iconst (v := 0) hx hb dX18_takeModule_368 (by decide) ?_
                    obtain ⟨h8, h9⟩ := ret_some hf
                    rw [h8, h9]
                    exact W.iret (v := 0) hx hb hr (fun t ht hW => ⟨⟨0, (), rfl, rfl, by rw [ht]; exact hP, va_K.moved hW.alike hK, hD⟩, hS.F ht⟩) hS.2.2 dX18_takeModule_369
                  · skip
                    rw [if_neg c_57] at hf
                    refine lv_aload_n hx hb dX18_takeModule_320 rfl (lv_at hl 2 rfl) ?_
                    obtain ⟨k_58, ek_58, hf⟩ := lnk_some hf
                    refine va_get (D := (dC, dI)) (ci := 18) (v := .ref (a k_58)) (C := RX18) (T := TX18) (N := 78) hx hb hts iwd_X18_takeModule_X18 hown hK hP h0 (Wd_ob kg_1 sg_1 (by decide)) rfl 16 (by decide) (hts _ md_X18_takeModule_3) (fun _ h9 => h9) (fl_q rfl ek_58) dX18_takeModule_321 ?_
                    refine lv_aload hx hb dX18_takeModule_324 (lv_at hl 1 rfl) ?_
                    refine lv_iload hx hb dX18_takeModule_326 (lv_at hl 0 rfl) ?_
                    obtain ⟨g_61, hf⟩ := grd_some hf
                    obtain ⟨kg_61, sg_61⟩ := okO_at g_61
                    obtain ⟨z_59, r_60, hfc, hf⟩ := cal_some hf
                    have hFc := de_free hD hS hA
                    refine va_calli (va_runV (As := [.ref (a k_4), .int p_54]) (rest := []) ⟨hx, hb, hml, hown, hts⟩ (de_X13_check l dC dI cy a sh n H.size F z_55 k_58 k_4 p_54 hfc) (cwV 2 hts gX18_takeModule_X13_check rfl rfl rfl (by decide +kernel) ⟨Nat.le_of_ble_eq_true rfl, Nat.le_of_ble_eq_true rfl⟩) ⟨fun a U g mk q => by obtain ⟨q0, q1, qP, qK, qD, qN⟩ := q; exact ⟨q0, q1, qP, va_K.moved (u := U) (U := U.calling g mk a) (Vm.Alike.refl U.vm) qK, qD, qN.same rfl⟩, va_recv hK hP (ci := 13) (q0 := k_58) rfl (Wd_ob kg_61 sg_61 (by decide)), fun U hU hW => ⟨rfl, by rw [hU], by rw [hU]; exact hP, va_K.moved hW.alike hK, hD.weaken (fun _ _ _ _ => trivial), hN.warm hW⟩⟩ rfl rfl hl.1 rfl (lv_room (Nat.le_of_ble_eq_true rfl)) dX18_takeModule_328 ⟨Nat.le_of_ble_eq_true rfl, Nat.le_of_ble_eq_true rfl⟩) hS (fun q _ h => hFc q h) hFc (fun rr u t H_62 locs ht hvm hw hB hz1 hk1 hS2 => ?_)
                    rw [hw]
                    clear hw
                    obtain ⟨hP1, -, hD1⟩ := hB
                    rw [ht] at hP1
                    replace hD := hD1.weaken (fun _ _ _ h => hFc _ h)
                    replace hP := hP1
                    replace hS := hS2
                    clear hP1 hD1 hS2 hFc hfc hz1 hk1 hvm ht
                    refine lv_istore (lv' := [(8, .int r_60), (7, .int p_54), (5, .ref (a k_4)), (0, .ref (a h0))]) hx hb dX18_takeModule_331 hl (by decide) rfl (fun ls hl2 => ?_)
                    replace hl := hl2
                    clear hl2
                    refine lv_iload hx hb dX18_takeModule_333 (lv_at hl 0 rfl) ?_
                    refine lv_if_eq (tgt := 362) hx hb dX18_takeModule_335 (by decide) (fun c_63 => ?_) (fun c_63 => ?_)
                    · skip
                      rw [if_pos c_63] at hf
                      refine lv_iinc (v := (p_54 + 1)) (lv' := [(7, .int (p_54 + 1)), (8, .int r_60), (5, .ref (a k_4)), (0, .ref (a h0))]) hx hb dX18_takeModule_362 hl (k := 1) rfl rfl (by decide) rfl (fun ls hl2 => ?_)
                      replace hl := hl2
                      clear hl2
                      refine lv_goto (tgt := 310) hx hb dX18_takeModule_365 (by decide) ?_
                      exact ih310 (z_59, (p_54 + 1)) ls H_62 locs ⟨lv_sub hl [0, 2, 3] rfl, hP, hD, hS⟩ hf
                    · skip
                      rw [if_neg c_63] at hf
                      refine lv_aload_n hx hb dX18_takeModule_338 rfl (lv_at hl 3 rfl) ?_
                      refine lv_bipush (v := 30) hx hb dX18_takeModule_339 (by decide) ?_
                      refine lv_iload hx hb dX18_takeModule_341 (lv_at hl 0 rfl) ?_
                      refine lv_iadd hx hb dX18_takeModule_343 ?_
                      refine lv_sipush (v := 1024) hx hb dX18_takeModule_344 (by decide) ?_
                      refine lv_iload hx hb dX18_takeModule_347 (lv_at hl 1 rfl) ?_
                      refine lv_imul hx hb dX18_takeModule_349 ?_
                      refine lv_aload_n hx hb dX18_takeModule_350 rfl (lv_at hl 3 rfl) ?_
                      obtain ⟨k_64, ek_64, hf⟩ := lnk_some hf
                      refine va_get (D := (dC, dI)) (ci := 18) (v := .ref (a k_64)) (C := RX18) (T := TX18) (N := 78) hx hb hts iwd_X18_takeModule_X18 hown hK hP h0 (Wd_ob kg_1 sg_1 (by decide)) rfl 16 (by decide) (hts _ md_X18_takeModule_3) (fun _ h9 => h9) (fl_q rfl ek_64) dX18_takeModule_351 ?_
                      obtain ⟨g_65, hf⟩ := grd_some hf
                      obtain ⟨kg_65, sg_65⟩ := okO_at g_65
                      refine va_getN (D := (dC, dI)) (ci := 13) (v := .int (z_59.1 k_64 5)) (C := RX13) (T := TX13) (N := 22) hx hb hts iwd_X18_takeModule_X13 hown hK hP k_64 (Wd_ob kg_65 sg_65 (by decide)) rfl 5 (by decide) (va_Nw.use rfl (NK_f_X18_247 hN)) (fun _ h9 => h9) (fl_at (t := 0) rfl) dX18_takeModule_354 ?_
                      refine lv_iadd hx hb dX18_takeModule_357 ?_
                      obtain ⟨z_66, r_67, hfc, hf⟩ := cal_some hf
                      have hFc := de_free hD hS hA
                      refine va_calli (va_runV (As := [.int (30 + r_60), .int ((1024 * p_54) + (z_59.1 k_64 5))]) (rest := []) ⟨hx, hb, hml, hown, hts⟩ (de_X18_tell l dC dI cy a sh n H_62.size F z_59 h0 (30 + r_60) ((1024 * p_54) + (z_59.1 k_64 5)) hfc) (cwV 2 hts gX18_takeModule_X18_tell rfl rfl rfl (by decide +kernel) ⟨Nat.le_of_ble_eq_true rfl, Nat.le_of_ble_eq_true rfl⟩) ⟨fun a U g mk q => by obtain ⟨q0, q1, qP, qK, qD, qN⟩ := q; exact ⟨q0, q1, qP, va_K.moved (u := U) (U := U.calling g mk a) (Vm.Alike.refl U.vm) qK, qD, qN.same rfl⟩, va_recv hK hP (ci := 18) (q0 := h0) rfl (Wd_ob kg_1 sg_1 (by decide)), fun U hU hW => ⟨rfl, by rw [hU], by rw [hU]; exact hP, va_K.moved hW.alike hK, hD.weaken (fun _ _ _ _ => trivial), hN.warm hW⟩⟩ rfl rfl hl.1 rfl (lv_room (Nat.le_of_ble_eq_true rfl)) dX18_takeModule_358 ⟨Nat.le_of_ble_eq_true rfl, Nat.le_of_ble_eq_true rfl⟩) hS (fun q _ h => hFc q h) hFc (fun rr u t H_68 locs ht hvm hw hB hz1 hk1 hS2 => ?_)
                      rw [hw]
                      clear hw
                      obtain ⟨hP1, -, hD1⟩ := hB
                      rw [ht] at hP1
                      replace hD := hD1.weaken (fun _ _ _ h => hFc _ h)
                      replace hP := hP1
                      replace hS := hS2
                      clear hP1 hD1 hS2 hFc hfc hz1 hk1 hvm ht
                      obtain ⟨h8, h9⟩ := ret_some hf
                      rw [h8, h9]
                      exact W.iret (v := r_67) hx hb hr (fun t ht hW => ⟨⟨r_67, (), rfl, rfl, by rw [ht]; exact hP, va_K.moved hW.alike hK, hD⟩, hS.F ht⟩) hS.2.2 dX18_takeModule_361
                · skip
                  rw [if_neg c_53] at hf
                  refine lv_aload_n hx hb dX18_takeModule_274 rfl (lv_at hl 2 rfl) ?_
                  obtain ⟨k_69, ek_69, hf⟩ := lnk_some hf
                  refine va_get (D := (dC, dI)) (ci := 18) (v := .ref (a k_69)) (C := RX18) (T := TX18) (N := 78) hx hb hts iwd_X18_takeModule_X18 hown hK hP h0 (Wd_ob kg_1 sg_1 (by decide)) rfl 6 (by decide) (hts _ md_X18_takeModule_4) (fun _ h9 => h9) (fl_q rfl ek_69) dX18_takeModule_275 ?_
                  refine lv_bipush (v := 64) hx hb dX18_takeModule_278 (by decide) ?_
                  refine lv_iload hx hb dX18_takeModule_280 (lv_at hl 3 rfl) ?_
                  refine lv_imul hx hb dX18_takeModule_282 ?_
                  refine lv_iload hx hb dX18_takeModule_283 (lv_at hl 0 rfl) ?_
                  refine lv_iadd hx hb dX18_takeModule_285 ?_
                  obtain ⟨g_70, hf⟩ := grd_some hf
                  obtain ⟨kg_70, sg_70, ig_70⟩ := okA_at g_70
                  refine va_iald hx hb hK hP k_69 1 (Wd_ai kg_70 sg_70) rfl ig_70 dX18_takeModule_286 ?_
                  refine lv_bipush (v := 24) hx hb dX18_takeModule_287 (by decide) ?_
                  refine lv_icmp_le (tgt := 301) hx hb dX18_takeModule_289 (by decide) (fun c_71 => ?_) (fun c_71 => ?_)
                  · skip
                    rw [if_pos c_71] at hf
                    refine lv_iinc (v := (p_50 + 1)) (lv' := [(7, .int (p_50 + 1)), (5, .ref (a k_4)), (0, .ref (a h0)), (4, .int x3)]) hx hb dX18_takeModule_301 hl (k := 0) rfl rfl (by decide) rfl (fun ls hl2 => ?_)
                    replace hl := hl2
                    clear hl2
                    refine lv_goto (tgt := 264) hx hb dX18_takeModule_304 (by decide) ?_
                    exact ih264 (z_51, (p_50 + 1)) ls H locs ⟨lv_sub hl [0, 1, 2, 3] rfl, hP, hD, hS⟩ hf
                  · skip
                    rw [if_neg c_71] at hf
                    refine lv_aload_n hx hb dX18_takeModule_292 rfl (lv_at hl 2 rfl) ?_
                    refine lv_bipush (v := 25) hx hb dX18_takeModule_293 (by decide) ?_
                    refine lv_iload hx hb dX18_takeModule_295 (lv_at hl 0 rfl) ?_
                    obtain ⟨z_72, r_73, hfc, hf⟩ := cal_some hf
                    have hFc := de_free hD hS hA
                    refine va_calli (va_runV (As := [.int 25, .int p_50]) (rest := []) ⟨hx, hb, hml, hown, hts⟩ (de_X18_tell l dC dI cy a sh n H.size F z_51 h0 25 p_50 hfc) (cwV 2 hts gX18_takeModule_X18_tell rfl rfl rfl (by decide +kernel) ⟨Nat.le_of_ble_eq_true rfl, Nat.le_of_ble_eq_true rfl⟩) ⟨fun a U g mk q => by obtain ⟨q0, q1, qP, qK, qD, qN⟩ := q; exact ⟨q0, q1, qP, va_K.moved (u := U) (U := U.calling g mk a) (Vm.Alike.refl U.vm) qK, qD, qN.same rfl⟩, va_recv hK hP (ci := 18) (q0 := h0) rfl (Wd_ob kg_1 sg_1 (by decide)), fun U hU hW => ⟨rfl, by rw [hU], by rw [hU]; exact hP, va_K.moved hW.alike hK, hD.weaken (fun _ _ _ _ => trivial), hN.warm hW⟩⟩ rfl rfl hl.1 rfl (lv_room (Nat.le_of_ble_eq_true rfl)) dX18_takeModule_297 ⟨Nat.le_of_ble_eq_true rfl, Nat.le_of_ble_eq_true rfl⟩) hS (fun q _ h => hFc q h) hFc (fun rr u t H_74 locs ht hvm hw hB hz1 hk1 hS2 => ?_)
                    rw [hw]
                    clear hw
                    obtain ⟨hP1, -, hD1⟩ := hB
                    rw [ht] at hP1
                    replace hD := hD1.weaken (fun _ _ _ h => hFc _ h)
                    replace hP := hP1
                    replace hS := hS2
                    clear hP1 hD1 hS2 hFc hfc hz1 hk1 hvm ht
                    obtain ⟨h8, h9⟩ := ret_some hf
                    rw [h8, h9]
                    exact W.iret (v := r_73) hx hb hr (fun t ht hW => ⟨⟨r_73, (), rfl, rfl, by rw [ht]; exact hP, va_K.moved hW.alike hK, hD⟩, hS.F ht⟩) hS.2.2 dX18_takeModule_300
              · skip
                rw [if_neg c_47] at hf
                refine lv_aload_n hx hb dX18_takeModule_226 rfl (lv_at hl 2 rfl) ?_
                obtain ⟨k_75, ek_75, hf⟩ := lnk_some hf
                refine va_get (D := (dC, dI)) (ci := 18) (v := .ref (a k_75)) (C := RX18) (T := TX18) (N := 78) hx hb hts iwd_X18_takeModule_X18 hown hK hP h0 (Wd_ob kg_1 sg_1 (by decide)) rfl 16 (by decide) (hts _ md_X18_takeModule_3) (fun _ h9 => h9) (fl_q rfl ek_75) dX18_takeModule_227 ?_
                refine lv_aload hx hb dX18_takeModule_230 (lv_at hl 1 rfl) ?_
                refine lv_iload hx hb dX18_takeModule_232 (lv_at hl 0 rfl) ?_
                obtain ⟨g_78, hf⟩ := grd_some hf
                obtain ⟨kg_78, sg_78⟩ := okO_at g_78
                obtain ⟨z_76, r_77, hfc, hf⟩ := cal_some hf
                have hFc := de_free hD hS hA
                refine va_calli (va_runV (As := [.ref (a k_4), .int p_44]) (rest := []) ⟨hx, hb, hml, hown, hts⟩ (de_X13_bears l dC dI cy a sh n H.size F z_45 k_75 k_4 p_44 hfc) (cwV 2 hts gX18_takeModule_X13_bears rfl rfl rfl (by decide +kernel) ⟨Nat.le_of_ble_eq_true rfl, Nat.le_of_ble_eq_true rfl⟩) ⟨fun a U g mk q => by obtain ⟨q0, q1, qP, qK, qD, qN⟩ := q; exact ⟨q0, q1, qP, va_K.moved (u := U) (U := U.calling g mk a) (Vm.Alike.refl U.vm) qK, qD, qN.same rfl⟩, va_recv hK hP (ci := 13) (q0 := k_75) rfl (Wd_ob kg_78 sg_78 (by decide)), fun U hU hW => ⟨rfl, by rw [hU], by rw [hU]; exact hP, va_K.moved hW.alike hK, hD.weaken (fun _ _ _ _ => trivial), hN.warm hW⟩⟩ rfl rfl hl.1 rfl (lv_room (Nat.le_of_ble_eq_true rfl)) dX18_takeModule_234 ⟨Nat.le_of_ble_eq_true rfl, Nat.le_of_ble_eq_true rfl⟩) hS (fun q _ h => hFc q h) hFc (fun rr u t H_79 locs ht hvm hw hB hz1 hk1 hS2 => ?_)
                rw [hw]
                clear hw
                obtain ⟨hP1, -, hD1⟩ := hB
                rw [ht] at hP1
                replace hD := hD1.weaken (fun _ _ _ h => hFc _ h)
                replace hP := hP1
                replace hS := hS2
                clear hP1 hD1 hS2 hFc hfc hz1 hk1 hvm ht
                refine lv_if_ne (tgt := 249) hx hb dX18_takeModule_237 (by decide) (fun c_80 => ?_) (fun c_80 => ?_)
                · skip
                  rw [if_neg c_80] at hf
                  refine lv_iinc (v := (p_44 + 1)) (lv' := [(7, .int (p_44 + 1)), (5, .ref (a k_4)), (0, .ref (a h0)), (4, .int x3)]) hx hb dX18_takeModule_249 hl (k := 0) rfl rfl (by decide) rfl (fun ls hl2 => ?_)
                  replace hl := hl2
                  clear hl2
                  refine lv_goto (tgt := 216) hx hb dX18_takeModule_252 (by decide) ?_
                  exact ih216 (z_76, (p_44 + 1)) ls H_79 locs ⟨lv_sub hl [0, 1, 2, 3] rfl, hP, hD, hS⟩ hf
                · skip
                  rw [if_pos c_80] at hf
                  refine lv_aload_n hx hb dX18_takeModule_240 rfl (lv_at hl 2 rfl) ?_
                  refine lv_bipush (v := 24) hx hb dX18_takeModule_241 (by decide) ?_
                  refine lv_iload hx hb dX18_takeModule_243 (lv_at hl 0 rfl) ?_
                  obtain ⟨z_81, r_82, hfc, hf⟩ := cal_some hf
                  have hFc := de_free hD hS hA
                  refine va_calli (va_runV (As := [.int 24, .int p_44]) (rest := []) ⟨hx, hb, hml, hown, hts⟩ (de_X18_tell l dC dI cy a sh n H_79.size F z_76 h0 24 p_44 hfc) (cwV 2 hts gX18_takeModule_X18_tell rfl rfl rfl (by decide +kernel) ⟨Nat.le_of_ble_eq_true rfl, Nat.le_of_ble_eq_true rfl⟩) ⟨fun a U g mk q => by obtain ⟨q0, q1, qP, qK, qD, qN⟩ := q; exact ⟨q0, q1, qP, va_K.moved (u := U) (U := U.calling g mk a) (Vm.Alike.refl U.vm) qK, qD, qN.same rfl⟩, va_recv hK hP (ci := 18) (q0 := h0) rfl (Wd_ob kg_1 sg_1 (by decide)), fun U hU hW => ⟨rfl, by rw [hU], by rw [hU]; exact hP, va_K.moved hW.alike hK, hD.weaken (fun _ _ _ _ => trivial), hN.warm hW⟩⟩ rfl rfl hl.1 rfl (lv_room (Nat.le_of_ble_eq_true rfl)) dX18_takeModule_245 ⟨Nat.le_of_ble_eq_true rfl, Nat.le_of_ble_eq_true rfl⟩) hS (fun q _ h => hFc q h) hFc (fun rr u t H_83 locs ht hvm hw hB hz1 hk1 hS2 => ?_)
                  rw [hw]
                  clear hw
                  obtain ⟨hP1, -, hD1⟩ := hB
                  rw [ht] at hP1
                  replace hD := hD1.weaken (fun _ _ _ h => hFc _ h)
                  replace hP := hP1
                  replace hS := hS2
                  clear hP1 hD1 hS2 hFc hfc hz1 hk1 hvm ht
                  obtain ⟨h8, h9⟩ := ret_some hf
                  rw [h8, h9]
                  exact W.iret (v := r_82) hx hb hr (fun t ht hW => ⟨⟨r_82, (), rfl, rfl, by rw [ht]; exact hP, va_K.moved hW.alike hK, hD⟩, hS.F ht⟩) hS.2.2 dX18_takeModule_248
            · skip
              rw [if_neg c_43] at hf
              refine lv_aload_n hx hb dX18_takeModule_181 rfl (lv_at hl 2 rfl) ?_
              refine lv_aload hx hb dX18_takeModule_182 (lv_at hl 1 rfl) ?_
              refine lv_iload hx hb dX18_takeModule_184 (lv_at hl 0 rfl) ?_
              obtain ⟨z_84, r_85, hfc, hf⟩ := cal_some hf
              have hFc := de_free hD hS hA
              refine va_calli (va_runV (As := [.ref (a k_4), .int p_37]) (rest := []) ⟨hx, hb, hml, hown, hts⟩ (de_X18_isFunctionAs l dC dI cy a sh n H_42.size F z_40 h0 k_4 p_37 hfc) (cwV 2 hts gX18_takeModule_X18_isFunctionAs rfl rfl rfl (by decide +kernel) ⟨Nat.le_of_ble_eq_true rfl, Nat.le_of_ble_eq_true rfl⟩) ⟨fun a U g mk q => by obtain ⟨q0, q1, qP, qK, qD, qN⟩ := q; exact ⟨q0, q1, qP, va_K.moved (u := U) (U := U.calling g mk a) (Vm.Alike.refl U.vm) qK, qD, qN.same rfl⟩, va_recv hK hP (ci := 18) (q0 := h0) rfl (Wd_ob kg_1 sg_1 (by decide)), fun U hU hW => ⟨rfl, by rw [hU], by rw [hU]; exact hP, va_K.moved hW.alike hK, hD.weaken (fun _ _ _ _ => trivial), hN.warm hW⟩⟩ rfl rfl hl.1 rfl (lv_room (Nat.le_of_ble_eq_true rfl)) dX18_takeModule_186 ⟨Nat.le_of_ble_eq_true rfl, Nat.le_of_ble_eq_true rfl⟩) hS (fun q _ h => hFc q h) hFc (fun rr u t H_86 locs ht hvm hw hB hz1 hk1 hS2 => ?_)
              rw [hw]
              clear hw
              obtain ⟨hP1, -, hD1⟩ := hB
              rw [ht] at hP1
              replace hD := hD1.weaken (fun _ _ _ h => hFc _ h)
              replace hP := hP1
              replace hS := hS2
              clear hP1 hD1 hS2 hFc hfc hz1 hk1 hvm ht
              refine lv_if_ne (tgt := 207) hx hb dX18_takeModule_189 (by decide) (fun c_87 => ?_) (fun c_87 => ?_)
              · skip
                rw [if_neg c_87] at hf
                refine lv_iinc (v := (p_37 + 1)) (lv' := [(7, .int (p_37 + 1)), (5, .ref (a k_4)), (0, .ref (a h0)), (4, .int x3)]) hx hb dX18_takeModule_207 hl (k := 0) rfl rfl (by decide) rfl (fun ls hl2 => ?_)
                replace hl := hl2
                clear hl2
                refine lv_goto (tgt := 171) hx hb dX18_takeModule_210 (by decide) ?_
                exact ih171 (z_84, (p_37 + 1)) ls H_86 locs ⟨lv_sub hl [0, 1, 2, 3] rfl, hP, hD, hS⟩ hf
              · skip
                rw [if_pos c_87] at hf
                refine lv_aload_n hx hb dX18_takeModule_192 rfl (lv_at hl 2 rfl) ?_
                refine lv_bipush (v := 23) hx hb dX18_takeModule_193 (by decide) ?_
                refine lv_iload hx hb dX18_takeModule_195 (lv_at hl 0 rfl) ?_
                refine lv_aload hx hb dX18_takeModule_197 (lv_at hl 1 rfl) ?_
                refine va_getN (D := (dC, dI)) (ci := 16) (v := .int (z_84.1 k_4 9)) (C := RX16) (T := TX16) (N := 18) hx hb hts iwd_X18_takeModule_X16 hown hK hP k_4 (Wd_ob kg_7 sg_7 (by decide)) rfl 9 (by decide) (va_Nw.use rfl (NK_f_X18_112 hN)) (fun _ h9 => h9) (fl_at (t := 0) rfl) dX18_takeModule_199 ?_
                refine lv_isub hx hb dX18_takeModule_202 ?_
                obtain ⟨z_88, r_89, hfc, hf⟩ := cal_some hf
                have hFc := de_free hD hS hA
                refine va_calli (va_runV (As := [.int 23, .int (p_37 - (z_84.1 k_4 9))]) (rest := []) ⟨hx, hb, hml, hown, hts⟩ (de_X18_tell l dC dI cy a sh n H_86.size F z_84 h0 23 (p_37 - (z_84.1 k_4 9)) hfc) (cwV 2 hts gX18_takeModule_X18_tell rfl rfl rfl (by decide +kernel) ⟨Nat.le_of_ble_eq_true rfl, Nat.le_of_ble_eq_true rfl⟩) ⟨fun a U g mk q => by obtain ⟨q0, q1, qP, qK, qD, qN⟩ := q; exact ⟨q0, q1, qP, va_K.moved (u := U) (U := U.calling g mk a) (Vm.Alike.refl U.vm) qK, qD, qN.same rfl⟩, va_recv hK hP (ci := 18) (q0 := h0) rfl (Wd_ob kg_1 sg_1 (by decide)), fun U hU hW => ⟨rfl, by rw [hU], by rw [hU]; exact hP, va_K.moved hW.alike hK, hD.weaken (fun _ _ _ _ => trivial), hN.warm hW⟩⟩ rfl rfl hl.1 rfl (lv_room (Nat.le_of_ble_eq_true rfl)) dX18_takeModule_203 ⟨Nat.le_of_ble_eq_true rfl, Nat.le_of_ble_eq_true rfl⟩) hS (fun q _ h => hFc q h) hFc (fun rr u t H_90 locs ht hvm hw hB hz1 hk1 hS2 => ?_)
                rw [hw]
                clear hw
                obtain ⟨hP1, -, hD1⟩ := hB
                rw [ht] at hP1
                replace hD := hD1.weaken (fun _ _ _ h => hFc _ h)
                replace hP := hP1
                replace hS := hS2
                clear hP1 hD1 hS2 hFc hfc hz1 hk1 hvm ht
                obtain ⟨h8, h9⟩ := ret_some hf
                rw [h8, h9]
                exact W.iret (v := r_89) hx hb hr (fun t ht hW => ⟨⟨r_89, (), rfl, rfl, by rw [ht]; exact hP, va_K.moved hW.alike hK, hD⟩, hS.F ht⟩) hS.2.2 dX18_takeModule_206
          · skip
            rw [if_neg c_35] at hf
            refine lv_aload hx hb dX18_takeModule_90 (lv_at hl 1 rfl) ?_
            refine lv_iload hx hb dX18_takeModule_92 (lv_at hl 0 rfl) ?_
            obtain ⟨z_91, r_92, hfc, hf⟩ := cal_some hf
            have hFc := de_free hD hS hA
            refine va_calli (va_runV (As := [.int p_29]) (rest := []) ⟨hx, hb, hml, hown, hts⟩ (de_X16_identity l dC dI cy a sh n H_34.size F z_32 k_4 p_29 hfc) (cwV 1 hts gX18_takeModule_X16_identity rfl rfl rfl (by decide +kernel) ⟨Nat.le_of_ble_eq_true rfl, Nat.le_of_ble_eq_true rfl⟩) ⟨fun a U g mk q => by obtain ⟨q0, q1, qP, qK, qD, qN⟩ := q; exact ⟨q0, q1, qP, va_K.moved (u := U) (U := U.calling g mk a) (Vm.Alike.refl U.vm) qK, qD, qN.same rfl⟩, va_recv hK hP (ci := 16) (q0 := k_4) rfl (Wd_ob kg_7 sg_7 (by decide)), fun U hU hW => ⟨rfl, by rw [hU], by rw [hU]; exact hP, va_K.moved hW.alike hK, hD.weaken (fun _ _ _ _ => trivial), hN.warm hW⟩⟩ rfl rfl hl.1 rfl (lv_room (Nat.le_of_ble_eq_true rfl)) dX18_takeModule_94 ⟨Nat.le_of_ble_eq_true rfl, Nat.le_of_ble_eq_true rfl⟩) hS (fun q _ h => hFc q h) hFc (fun rr u t H_93 locs ht hvm hw hB hz1 hk1 hS2 => ?_)
            rw [hw]
            clear hw
            obtain ⟨hP1, -, hD1⟩ := hB
            rw [ht] at hP1
            replace hD := hD1.weaken (fun _ _ _ h => hFc _ h)
            replace hP := hP1
            replace hS := hS2
            clear hP1 hD1 hS2 hFc hfc hz1 hk1 hvm ht
            refine lv_istore (lv' := [(8, .int r_92), (7, .int p_29), (5, .ref (a k_4)), (0, .ref (a h0)), (4, .int x3)]) hx hb dX18_takeModule_97 hl (by decide) rfl (fun ls hl2 => ?_)
            replace hl := hl2
            clear hl2
            refine lv_aload_n hx hb dX18_takeModule_99 rfl (lv_at hl 3 rfl) ?_
            refine lv_iload hx hb dX18_takeModule_100 (lv_at hl 0 rfl) ?_
            refine lv_bipush (v := 8) hx hb dX18_takeModule_102 (by decide) ?_
            refine lv_ishr hx hb dX18_takeModule_104 ?_
            refine lv_iload hx hb dX18_takeModule_105 (lv_at hl 0 rfl) ?_
            refine lv_sipush (v := 255) hx hb dX18_takeModule_107 (by decide) ?_
            refine lv_iand hx hb dX18_takeModule_110 ?_
            refine lv_iconst (v := 1) hx hb dX18_takeModule_111 (by decide) ?_
            obtain ⟨z_94, r_95, hfc, hf⟩ := cal_some hf
            have hFc := de_free hD hS hA
            refine va_calli (va_runV (As := [.int (r_92 >>> (8 &&& 31)), .int (r_92 &&& 255), .int 1]) (rest := []) ⟨hx, hb, hml, hown, hts⟩ (de_X18_isThere l dC dI cy a sh n H_93.size F z_91 h0 (r_92 >>> (8 &&& 31)) (r_92 &&& 255) 1 hfc) (cwV 3 hts gX18_takeModule_X18_isThere rfl rfl rfl (by decide +kernel) ⟨Nat.le_of_ble_eq_true rfl, Nat.le_of_ble_eq_true rfl⟩) ⟨fun a U g mk q => by obtain ⟨q0, q1, qP, qK, qD, qN⟩ := q; exact ⟨q0, q1, qP, va_K.moved (u := U) (U := U.calling g mk a) (Vm.Alike.refl U.vm) qK, qD, qN.same rfl⟩, va_recv hK hP (ci := 18) (q0 := h0) rfl (Wd_ob kg_1 sg_1 (by decide)), fun U hU hW => ⟨rfl, by rw [hU], by rw [hU]; exact hP, va_K.moved hW.alike hK, hD.weaken (fun _ _ _ _ => trivial), hN.warm hW⟩⟩ rfl rfl hl.1 rfl (lv_room (Nat.le_of_ble_eq_true rfl)) dX18_takeModule_112 ⟨Nat.le_of_ble_eq_true rfl, Nat.le_of_ble_eq_true rfl⟩) hS (fun q _ h => hFc q h) hFc (fun rr u t H_96 locs ht hvm hw hB hz1 hk1 hS2 => ?_)
            rw [hw]
            clear hw
            obtain ⟨hP1, -, hD1⟩ := hB
            rw [ht] at hP1
            replace hD := hD1.weaken (fun _ _ _ h => hFc _ h)
            replace hP := hP1
            replace hS := hS2
            clear hP1 hD1 hS2 hFc hfc hz1 hk1 hvm ht
            refine de_cut (h := 143) (fun (x : St) => []) (fun x ls H locs => lv_has ls 9 [(7, .int p_29), (5, .ref (a k_4)), (0, .ref (a h0))] ∧ va_P (dC, dI) vwCl (Wd cy a sh n x) H ∧ va_D A (Wd cy a sh n x) ∧ va_S A s.heap H locs) (fun x => fn_X18_takeModule_B143 F sh n h0 p_29 k_4 x) (z8, r8) ?_ (fun B143 => ?_)
            · intro x ls H locs hI hf
              obtain ⟨z_97, ez⟩ : ∃ w, w = x := ⟨_, rfl⟩
              subst ez
              obtain ⟨hl2, hP2, hD2, hS2⟩ := hI
              replace hl : lv_has ls 9 [(7, .int p_29), (5, .ref (a k_4)), (0, .ref (a h0))] := hl2
              replace hP := hP2
              replace hD := hD2
              replace hS := hS2
              clear hl2 hP2 hD2 hS2
              replace hf := fn_X18_takeModule_B143_s hf
              refine W.eq (g2 := F0 m 143 ls []) rfl ?_
              refine lv_aload_n hx hb dX18_takeModule_143 rfl (lv_at hl 2 rfl) ?_
              refine lv_bipush (v := 22) hx hb dX18_takeModule_144 (by decide) ?_
              refine lv_iload hx hb dX18_takeModule_146 (lv_at hl 0 rfl) ?_
              refine lv_aload hx hb dX18_takeModule_148 (lv_at hl 1 rfl) ?_
              refine va_getN (D := (dC, dI)) (ci := 16) (v := .int (z_97.1 k_4 5)) (C := RX16) (T := TX16) (N := 18) hx hb hts iwd_X18_takeModule_X16 hown hK hP k_4 (Wd_ob kg_7 sg_7 (by decide)) rfl 5 (by decide) (va_Nw.use rfl (NK_f_X18_109 hN)) (fun _ h9 => h9) (fl_at (t := 0) rfl) dX18_takeModule_150 ?_
              refine lv_isub hx hb dX18_takeModule_153 ?_
              obtain ⟨z_98, r_99, hfc, hf⟩ := cal_some hf
              have hFc := de_free hD hS hA
              refine va_calli (va_runV (As := [.int 22, .int (p_29 - (z_97.1 k_4 5))]) (rest := []) ⟨hx, hb, hml, hown, hts⟩ (de_X18_tell l dC dI cy a sh n H.size F z_97 h0 22 (p_29 - (z_97.1 k_4 5)) hfc) (cwV 2 hts gX18_takeModule_X18_tell rfl rfl rfl (by decide +kernel) ⟨Nat.le_of_ble_eq_true rfl, Nat.le_of_ble_eq_true rfl⟩) ⟨fun a U g mk q => by obtain ⟨q0, q1, qP, qK, qD, qN⟩ := q; exact ⟨q0, q1, qP, va_K.moved (u := U) (U := U.calling g mk a) (Vm.Alike.refl U.vm) qK, qD, qN.same rfl⟩, va_recv hK hP (ci := 18) (q0 := h0) rfl (Wd_ob kg_1 sg_1 (by decide)), fun U hU hW => ⟨rfl, by rw [hU], by rw [hU]; exact hP, va_K.moved hW.alike hK, hD.weaken (fun _ _ _ _ => trivial), hN.warm hW⟩⟩ rfl rfl hl.1 rfl (lv_room (Nat.le_of_ble_eq_true rfl)) dX18_takeModule_154 ⟨Nat.le_of_ble_eq_true rfl, Nat.le_of_ble_eq_true rfl⟩) hS (fun q _ h => hFc q h) hFc (fun rr u t H_100 locs ht hvm hw hB hz1 hk1 hS2 => ?_)
              rw [hw]
              clear hw
              obtain ⟨hP1, -, hD1⟩ := hB
              rw [ht] at hP1
              replace hD := hD1.weaken (fun _ _ _ h => hFc _ h)
              replace hP := hP1
              replace hS := hS2
              clear hP1 hD1 hS2 hFc hfc hz1 hk1 hvm ht
              obtain ⟨h8, h9⟩ := ret_some hf
              rw [h8, h9]
              exact W.iret (v := r_99) hx hb hr (fun t ht hW => ⟨⟨r_99, (), rfl, rfl, by rw [ht]; exact hP, va_K.moved hW.alike hK, hD⟩, hS.F ht⟩) hS.2.2 dX18_takeModule_157
            refine lv_if_eq (tgt := 143) hx hb dX18_takeModule_115 (by decide) (fun c_101 => ?_) (fun c_101 => ?_)
            · skip
              rw [if_pos c_101] at hf
              exact B143 (z_94) ls H_96 locs ⟨lv_sub hl [1, 2, 3] rfl, hP, hD, hS⟩ hf
            · skip
              rw [if_neg c_101] at hf
              refine lv_aload_n hx hb dX18_takeModule_118 rfl (lv_at hl 3 rfl) ?_
              refine lv_iload hx hb dX18_takeModule_119 (lv_at hl 0 rfl) ?_
              refine lv_bipush (v := 8) hx hb dX18_takeModule_121 (by decide) ?_
              refine lv_ishr hx hb dX18_takeModule_123 ?_
              refine lv_iload hx hb dX18_takeModule_124 (lv_at hl 0 rfl) ?_
              refine lv_sipush (v := 255) hx hb dX18_takeModule_126 (by decide) ?_
              refine lv_iand hx hb dX18_takeModule_129 ?_
              obtain ⟨z_102, r_103, hfc, hf⟩ := cal_some hf
              have hFc := de_free hD hS hA
              refine va_calli (va_runV (As := [.int (r_92 >>> (8 &&& 31)), .int (r_92 &&& 255)]) (rest := []) ⟨hx, hb, hml, hown, hts⟩ (de_X18_abilitiesThere l dC dI cy a sh n H_96.size F z_94 h0 (r_92 >>> (8 &&& 31)) (r_92 &&& 255) hfc) (cwV 2 hts gX18_takeModule_X18_abilitiesThere rfl rfl rfl (by decide +kernel) ⟨Nat.le_of_ble_eq_true rfl, Nat.le_of_ble_eq_true rfl⟩) ⟨fun a U g mk q => by obtain ⟨q0, q1, qP, qK, qD, qN⟩ := q; exact ⟨q0, q1, qP, va_K.moved (u := U) (U := U.calling g mk a) (Vm.Alike.refl U.vm) qK, qD, qN.same rfl⟩, va_recv hK hP (ci := 18) (q0 := h0) rfl (Wd_ob kg_1 sg_1 (by decide)), fun U hU hW => ⟨rfl, by rw [hU], by rw [hU]; exact hP, va_K.moved hW.alike hK, hD.weaken (fun _ _ _ _ => trivial), hN.warm hW⟩⟩ rfl rfl hl.1 rfl (lv_room (Nat.le_of_ble_eq_true rfl)) dX18_takeModule_130 ⟨Nat.le_of_ble_eq_true rfl, Nat.le_of_ble_eq_true rfl⟩) hS (fun q _ h => hFc q h) hFc (fun rr u t H_104 locs ht hvm hw hB hz1 hk1 hS2 => ?_)
              rw [hw]
              clear hw
              obtain ⟨hP1, -, hD1⟩ := hB
              rw [ht] at hP1
              replace hD := hD1.weaken (fun _ _ _ h => hFc _ h)
              replace hP := hP1
              replace hS := hS2
              clear hP1 hD1 hS2 hFc hfc hz1 hk1 hvm ht
              refine lv_aload hx hb dX18_takeModule_133 (lv_at hl 2 rfl) ?_
              refine lv_iload hx hb dX18_takeModule_135 (lv_at hl 1 rfl) ?_
              obtain ⟨z_105, r_106, hfc, hf⟩ := cal_some hf
              have hFc := de_free hD hS hA
              refine va_calli (va_runV (As := [.int p_29]) (rest := [.int r_103]) ⟨hx, hb, hml, hown, hts⟩ (de_X16_abilitiesOf l dC dI cy a sh n H_104.size F z_102 k_4 p_29 hfc) (cwV 1 hts gX18_takeModule_X16_abilitiesOf rfl rfl rfl (by decide +kernel) ⟨Nat.le_of_ble_eq_true rfl, Nat.le_of_ble_eq_true rfl⟩) ⟨fun a U g mk q => by obtain ⟨q0, q1, qP, qK, qD, qN⟩ := q; exact ⟨q0, q1, qP, va_K.moved (u := U) (U := U.calling g mk a) (Vm.Alike.refl U.vm) qK, qD, qN.same rfl⟩, va_recv hK hP (ci := 16) (q0 := k_4) rfl (Wd_ob kg_7 sg_7 (by decide)), fun U hU hW => ⟨rfl, by rw [hU], by rw [hU]; exact hP, va_K.moved hW.alike hK, hD.weaken (fun _ _ _ _ => trivial), hN.warm hW⟩⟩ rfl rfl hl.1 rfl (lv_room (Nat.le_of_ble_eq_true rfl)) dX18_takeModule_137 ⟨Nat.le_of_ble_eq_true rfl, Nat.le_of_ble_eq_true rfl⟩) hS (fun q _ h => hFc q h) hFc (fun rr u t H_107 locs ht hvm hw hB hz1 hk1 hS2 => ?_)
              rw [hw]
              clear hw
              obtain ⟨hP1, -, hD1⟩ := hB
              rw [ht] at hP1
              replace hD := hD1.weaken (fun _ _ _ h => hFc _ h)
              replace hP := hP1
              replace hS := hS2
              clear hP1 hD1 hS2 hFc hfc hz1 hk1 hvm ht
              refine lv_icmp_eq (tgt := 158) hx hb dX18_takeModule_140 (by decide) (fun c_108 => ?_) (fun c_108 => ?_)
              · skip
                rw [if_pos c_108] at hf
                refine lv_iinc (v := (p_29 + 1)) (lv' := [(7, .int (p_29 + 1)), (8, .int r_92), (5, .ref (a k_4)), (0, .ref (a h0)), (4, .int x3)]) hx hb dX18_takeModule_158 hl (k := 1) rfl rfl (by decide) rfl (fun ls hl2 => ?_)
                replace hl := hl2
                clear hl2
                refine lv_goto (tgt := 80) hx hb dX18_takeModule_161 (by decide) ?_
                exact ih80 (z_105, (p_29 + 1)) ls H_107 locs ⟨lv_sub hl [0, 2, 3, 4] rfl, hP, hD, hS⟩ hf
              · skip
                rw [if_neg c_108] at hf
                exact B143 (z_105) ls H_107 locs ⟨lv_sub hl [1, 2, 3] rfl, hP, hD, hS⟩ hf
        · skip
          rw [if_neg c_27] at hf
          refine lv_aload_n hx hb dX18_takeModule_65 rfl (lv_at hl 2 rfl) ?_
          refine lv_bipush (v := 21) hx hb dX18_takeModule_66 (by decide) ?_
          refine lv_iconst (v := 4) hx hb dX18_takeModule_68 (by decide) ?_
          obtain ⟨z_109, r_110, hfc, hf⟩ := cal_some hf
          have hFc := de_free hD hS hA
          refine va_calli (va_runV (As := [.int 21, .int 4]) (rest := []) ⟨hx, hb, hml, hown, hts⟩ (de_X18_tell l dC dI cy a sh n H_26.size F z_24 h0 21 4 hfc) (cwV 2 hts gX18_takeModule_X18_tell rfl rfl rfl (by decide +kernel) ⟨Nat.le_of_ble_eq_true rfl, Nat.le_of_ble_eq_true rfl⟩) ⟨fun a U g mk q => by obtain ⟨q0, q1, qP, qK, qD, qN⟩ := q; exact ⟨q0, q1, qP, va_K.moved (u := U) (U := U.calling g mk a) (Vm.Alike.refl U.vm) qK, qD, qN.same rfl⟩, va_recv hK hP (ci := 18) (q0 := h0) rfl (Wd_ob kg_1 sg_1 (by decide)), fun U hU hW => ⟨rfl, by rw [hU], by rw [hU]; exact hP, va_K.moved hW.alike hK, hD.weaken (fun _ _ _ _ => trivial), hN.warm hW⟩⟩ rfl rfl hl.1 rfl (lv_room (Nat.le_of_ble_eq_true rfl)) dX18_takeModule_69 ⟨Nat.le_of_ble_eq_true rfl, Nat.le_of_ble_eq_true rfl⟩) hS (fun q _ h => hFc q h) hFc (fun rr u t H_111 locs ht hvm hw hB hz1 hk1 hS2 => ?_)
          rw [hw]
          clear hw
          obtain ⟨hP1, -, hD1⟩ := hB
          rw [ht] at hP1
          replace hD := hD1.weaken (fun _ _ _ h => hFc _ h)
          replace hP := hP1
          replace hS := hS2
          clear hP1 hD1 hS2 hFc hfc hz1 hk1 hvm ht
          obtain ⟨h8, h9⟩ := ret_some hf
          rw [h8, h9]
          exact W.iret (v := r_110) hx hb hr (fun t ht hW => ⟨⟨r_110, (), rfl, rfl, by rw [ht]; exact hP, va_K.moved hW.alike hK, hD⟩, hS.F ht⟩) hS.2.2 dX18_takeModule_72
    · skip
      rw [if_neg c_13] at hf
      refine lv_iload hx hb dX18_takeModule_42 (lv_at hl 0 rfl) ?_
      obtain ⟨h8, h9⟩ := ret_some hf
      rw [h8, h9]
      exact W.iret (v := r_6) hx hb hr (fun t ht hW => ⟨⟨r_6, (), rfl, rfl, by rw [ht]; exact hP, va_K.moved hW.alike hK, hD⟩, hS.F ht⟩) hS.2.2 dX18_takeModule_44
  refine lv_if_eq (tgt := 33) hx hb dX18_takeModule_22 (by decide) (fun c_112 => ?_) (fun c_112 => ?_)
  · skip
    rw [if_pos c_112] at hf
    refine lv_iconst (v := 0) hx hb dX18_takeModule_33 (by decide) ?_
    exact B34 (z_5, 0) ls H_8 locs ⟨lv_sub hl [0, 1, 2, 6] rfl, hP, hD, hS⟩ hf
  · skip
    rw [if_neg c_112] at hf
    refine lv_aload hx hb dX18_takeModule_25 (lv_at hl 1 rfl) ?_
    refine va_getN (D := (dC, dI)) (ci := 16) (v := .int (z_5.1 k_4 4)) (C := RX16) (T := TX16) (N := 18) hx hb hts iwd_X18_takeModule_X16 hown hK hP k_4 (Wd_ob kg_7 sg_7 (by decide)) rfl 4 (by decide) (va_Nw.use rfl (NK_f_X18_212 hN)) (fun _ h9 => h9) (fl_at (t := 0) rfl) dX18_takeModule_27 ?_
    refine lv_goto (tgt := 34) hx hb dX18_takeModule_30 (by decide) ?_
    exact B34 (z_5, (z_5.1 k_4 4)) ls H_8 locs ⟨lv_sub hl [0, 1, 2, 6] rfl, hP, hD, hS⟩ hf

