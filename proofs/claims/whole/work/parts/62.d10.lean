theorem md_X16_lookAll_1 : (.fieldLink RX16 92 "ResourceLedgerModel$Unit" "structures" "I" : Cond) ∈ wsX16_lookAll := List.mem_of_getElem? (i := 1) rfl
theorem iwd_X16_lookAll_X16 : ∀ w ∈ wsX160, w ∈ wsX16_lookAll := fun _ h => List.mem_cons_of_mem _ (List.mem_append_right _ h)
theorem md_X16_lookAll_3 : (.fieldLink RX16 98 "ResourceLedgerModel$Unit" "callees" "I" : Cond) ∈ wsX16_lookAll := List.mem_of_getElem? (i := 3) rfl
theorem md_X16_lookAll_5 : (.fieldLink RX16 101 "ResourceLedgerModel$Unit" "elements" "I" : Cond) ∈ wsX16_lookAll := List.mem_of_getElem? (i := 5) rfl
theorem md_X16_lookAll_7 : (.fieldLink RX16 104 "ResourceLedgerModel$Unit" "functions" "I" : Cond) ∈ wsX16_lookAll := List.mem_of_getElem? (i := 7) rfl
theorem md_X16_lookAll_8 : (.fieldLink RX16 23 "ResourceLedgerModel$Unit" "functionAt" "[I" : Cond) ∈ wsX16_lookAll := List.mem_of_getElem? (i := 8) rfl
theorem md_X16_lookAll_9 : (.fieldLink RX16 26 "ResourceLedgerModel$Unit" "firsts" "[I" : Cond) ∈ wsX16_lookAll := List.mem_of_getElem? (i := 9) rfl
theorem md_X16_lookAll_10 : (.fieldLink RX16 29 "ResourceLedgerModel$Unit" "instructionAt" "[I" : Cond) ∈ wsX16_lookAll := List.mem_of_getElem? (i := 10) rfl
theorem md_X16_lookAll_6 : (.fieldLink RX16 20 "ResourceLedgerModel$Unit" "elementAt" "[I" : Cond) ∈ wsX16_lookAll := List.mem_of_getElem? (i := 6) rfl
theorem md_X16_lookAll_4 : (.fieldLink RX16 17 "ResourceLedgerModel$Unit" "calleeAt" "[I" : Cond) ∈ wsX16_lookAll := List.mem_of_getElem? (i := 4) rfl
theorem md_X16_lookAll_2 : (.fieldLink RX16 13 "ResourceLedgerModel$Unit" "structureAt" "[I" : Cond) ∈ wsX16_lookAll := List.mem_of_getElem? (i := 2) rfl
set_option maxHeartbeats 4000000 in
set_option maxRecDepth 100000 in
theorem de_X16_lookAll (l : Launch) (dC : Nat → ClassId) (dI : Nat → Nat → Nat) (cy : Nat → ClassId) (a : Nat → Nat) (sh : Nat → Nat × Nat) (n sz : Nat) (F : Nat) (z : St) (h0 : Nat) {z8 : St} {r8 : Unit} (hf : fn_X16_lookAll F sh n z h0 = some (z8, r8)) : Met l yX16_lookAll wsX16_lookAll ({ frames := 5, cells := 0, slots := 0, locals := 113 }) (va_Pc [.ref (a h0)] (fun U => U.heap.size = sz ∧ va_P (dC, dI) vwCl (Wd cy a sh n z) U.heap ∧ va_K (dC, dI) vwCl (TYS cy) U ∧ va_D (fun _ => True) (Wd cy a sh n z) ∧ NK U)) (va_Qv (fun u : Unit => True) (fun u t => va_P (dC, dI) vwCl (Wd cy a sh n z8) t.heap ∧ va_K (dC, dI) vwCl (TYS cy) t ∧ va_D (va_A (Wd cy a sh n z) sz) (Wd cy a sh n z8)) (va_A (Wd cy a sh n z) sz)) 0 0 (va_A (Wd cy a sh n z) sz) := by
  refine Met.ofW (cc := cX16_lookAll) (maxL := 4) (ret := none) (by decide) rfl ?_
  intro p e s m args below meth c s₁ B hml hv
  obtain ⟨rfl, hsz, hP, hK, hD0, hN⟩ := hv
  have hx := B.exec
  have hb := B.bytes
  have hr := B.returns
  have hts := atoms_spec (ws := wsX16_lookAll) B.pre
  have hown : s.vm.findClass RX16 = some m.cls := findClass_of_methodNamed B.named
  have hlocks := B.notSynchronized
  subst hsz
  have hD := hD0.self (sz := s.heap.size)
  clear hD0
  generalize hAe : va_A (Wd cy a sh n z) s.heap.size = A at hD ⊢
  have hA : ∀ q : Nat, s.heap.size ≤ q → A q := fun q h => by rw [← hAe]; exact Or.inr h
  clear hAe
  have hS : va_S A s.heap s.heap [] := va_S.rf
  have hl := lv_entry ([.ref (a h0)]) (n := 4) (Nat.le_of_ble_eq_true rfl)
  rw [lg_entry_eq]
  generalize (lg_sl ([.ref (a h0)]) ++ List.replicate (4 - (lg_sl ([.ref (a h0)])).length) Slot.unset).toArray = ls at hl ⊢
  replace hl : lv_has ls 4 [(0, .ref (a h0))] := hl
  unfold fn_X16_lookAll at hf
  refine de_start hS hP (fun H locs hS hP => ?_)
  refine lv_iconst (v := 0) hx hb dX16_lookAll_0 (by decide) ?_
  refine lv_istore_n (lv' := [(1, .int 0), (0, .ref (a h0))]) hx hb dX16_lookAll_1 rfl hl (by decide) rfl (fun ls hl2 => ?_)
  replace hl := hl2
  clear hl2
  have hl0 : lv_has ls 4 [(1, .int 0), (0, .ref (a h0))] := lv_sub hl [0, 1] rfl
  refine de_loop (h := 2) (fun (x : St × Int32) ls H locs => lv_has ls 4 [(1, .int x.2), (0, .ref (a h0))] ∧ va_P (dC, dI) vwCl (Wd cy a sh n x.1) H ∧ va_D A (Wd cy a sh n x.1) ∧ va_S A s.heap H locs) (fun f x => fn_X16_lookAll_L2 F sh n h0 f x.1 x.2) (z8, r8) ?_ (fun _ => rfl) F (z, 0) ls H locs ⟨hl0, hP, hD, hS⟩ hf
  intro f_3 x ls H locs ih2 hI hf
  obtain ⟨z_2, p_1⟩ := x
  obtain ⟨hl2, hP2, hD2, hS2⟩ := hI
  replace hl : lv_has ls 4 [(1, .int p_1), (0, .ref (a h0))] := hl2
  replace hP := hP2
  replace hD := hD2
  replace hS := hS2
  clear hl2 hP2 hD2 hS2 hl0
  replace hf := fn_X16_lookAll_L2_s hf
  refine lv_iload_n hx hb dX16_lookAll_2 rfl (lv_at hl 0 rfl) ?_
  refine lv_aload_n hx hb dX16_lookAll_3 rfl (lv_at hl 1 rfl) ?_
  obtain ⟨g_4, hf⟩ := grd_some hf
  obtain ⟨kg_4, sg_4⟩ := okO_at g_4
  refine va_get (D := (dC, dI)) (ci := 16) (v := .int (z_2.1 h0 5)) (C := RX16) (T := TX16) (N := 18) hx hb hts iwd_X16_lookAll_X16 hown hK hP h0 (Wd_ob kg_4 sg_4 (by decide)) rfl 5 (by decide) (hts _ md_X16_lookAll_1) (fun _ h9 => h9) (fl_at (t := 0) rfl) dX16_lookAll_4 ?_
  refine de_cut (h := 55) (fun (x : St) => []) (fun x ls H locs => lv_has ls 4 [(0, .ref (a h0))] ∧ va_P (dC, dI) vwCl (Wd cy a sh n x) H ∧ va_D A (Wd cy a sh n x) ∧ va_S A s.heap H locs) (fun x => fn_X16_lookAll_B55 F sh n h0 x) (z8, r8) ?_ (fun B55 => ?_)
  · intro x ls H locs hI hf
    obtain ⟨z_5, ez⟩ : ∃ w, w = x := ⟨_, rfl⟩
    subst ez
    obtain ⟨hl2, hP2, hD2, hS2⟩ := hI
    replace hl : lv_has ls 4 [(0, .ref (a h0))] := hl2
    replace hP := hP2
    replace hD := hD2
    replace hS := hS2
    clear hl2 hP2 hD2 hS2
    replace hf := fn_X16_lookAll_B55_s hf
    refine W.eq (g2 := F0 m 55 ls []) rfl ?_
    refine lv_iconst (v := 0) hx hb dX16_lookAll_55 (by decide) ?_
    refine lv_istore_n (lv' := [(1, .int 0), (0, .ref (a h0))]) hx hb dX16_lookAll_56 rfl hl (by decide) rfl (fun ls hl2 => ?_)
    replace hl := hl2
    clear hl2
    have hl0 : lv_has ls 4 [(1, .int 0), (0, .ref (a h0))] := lv_sub hl [0, 1] rfl
    refine de_loop (h := 57) (fun (x : St × Int32) ls H locs => lv_has ls 4 [(1, .int x.2), (0, .ref (a h0))] ∧ va_P (dC, dI) vwCl (Wd cy a sh n x.1) H ∧ va_D A (Wd cy a sh n x.1) ∧ va_S A s.heap H locs) (fun f x => fn_X16_lookAll_L57 F sh n h0 f x.1 x.2) (z8, r8) ?_ (fun _ => rfl) F (z_5, 0) ls H locs ⟨hl0, hP, hD, hS⟩ hf
    intro f_8 x ls H locs ih57 hI hf
    obtain ⟨z_7, p_6⟩ := x
    obtain ⟨hl2, hP2, hD2, hS2⟩ := hI
    replace hl : lv_has ls 4 [(1, .int p_6), (0, .ref (a h0))] := hl2
    replace hP := hP2
    replace hD := hD2
    replace hS := hS2
    clear hl2 hP2 hD2 hS2 hl0
    replace hf := fn_X16_lookAll_L57_s hf
    refine lv_iload_n hx hb dX16_lookAll_57 rfl (lv_at hl 0 rfl) ?_
    refine lv_aload_n hx hb dX16_lookAll_58 rfl (lv_at hl 1 rfl) ?_
    refine va_get (D := (dC, dI)) (ci := 16) (v := .int (z_7.1 h0 7)) (C := RX16) (T := TX16) (N := 18) hx hb hts iwd_X16_lookAll_X16 hown hK hP h0 (Wd_ob kg_4 sg_4 (by decide)) rfl 7 (by decide) (hts _ md_X16_lookAll_3) (fun _ h9 => h9) (fl_at (t := 0) rfl) dX16_lookAll_59 ?_
    refine de_cut (h := 95) (fun (x : St) => []) (fun x ls H locs => lv_has ls 4 [(0, .ref (a h0))] ∧ va_P (dC, dI) vwCl (Wd cy a sh n x) H ∧ va_D A (Wd cy a sh n x) ∧ va_S A s.heap H locs) (fun x => fn_X16_lookAll_B95 F sh n h0 x) (z8, r8) ?_ (fun B95 => ?_)
    · intro x ls H locs hI hf
      obtain ⟨z_9, ez⟩ : ∃ w, w = x := ⟨_, rfl⟩
      subst ez
      obtain ⟨hl2, hP2, hD2, hS2⟩ := hI
      replace hl : lv_has ls 4 [(0, .ref (a h0))] := hl2
      replace hP := hP2
      replace hD := hD2
      replace hS := hS2
      clear hl2 hP2 hD2 hS2
      replace hf := fn_X16_lookAll_B95_s hf
      refine W.eq (g2 := F0 m 95 ls []) rfl ?_
      refine lv_iconst (v := 0) hx hb dX16_lookAll_95 (by decide) ?_
      refine lv_istore_n (lv' := [(1, .int 0), (0, .ref (a h0))]) hx hb dX16_lookAll_96 rfl hl (by decide) rfl (fun ls hl2 => ?_)
      replace hl := hl2
      clear hl2
      have hl0 : lv_has ls 4 [(1, .int 0), (0, .ref (a h0))] := lv_sub hl [0, 1] rfl
      refine de_loop (h := 97) (fun (x : St × Int32) ls H locs => lv_has ls 4 [(1, .int x.2), (0, .ref (a h0))] ∧ va_P (dC, dI) vwCl (Wd cy a sh n x.1) H ∧ va_D A (Wd cy a sh n x.1) ∧ va_S A s.heap H locs) (fun f x => fn_X16_lookAll_L97 F sh n h0 f x.1 x.2) (z8, r8) ?_ (fun _ => rfl) F (z_9, 0) ls H locs ⟨hl0, hP, hD, hS⟩ hf
      intro f_12 x ls H locs ih97 hI hf
      obtain ⟨z_11, p_10⟩ := x
      obtain ⟨hl2, hP2, hD2, hS2⟩ := hI
      replace hl : lv_has ls 4 [(1, .int p_10), (0, .ref (a h0))] := hl2
      replace hP := hP2
      replace hD := hD2
      replace hS := hS2
      clear hl2 hP2 hD2 hS2 hl0
      replace hf := fn_X16_lookAll_L97_s hf
      refine lv_iload_n hx hb dX16_lookAll_97 rfl (lv_at hl 0 rfl) ?_
      refine lv_aload_n hx hb dX16_lookAll_98 rfl (lv_at hl 1 rfl) ?_
      refine va_get (D := (dC, dI)) (ci := 16) (v := .int (z_11.1 h0 8)) (C := RX16) (T := TX16) (N := 18) hx hb hts iwd_X16_lookAll_X16 hown hK hP h0 (Wd_ob kg_4 sg_4 (by decide)) rfl 8 (by decide) (hts _ md_X16_lookAll_5) (fun _ h9 => h9) (fl_at (t := 0) rfl) dX16_lookAll_99 ?_
      refine de_cut (h := 129) (fun (x : St) => []) (fun x ls H locs => lv_has ls 4 [(0, .ref (a h0))] ∧ va_P (dC, dI) vwCl (Wd cy a sh n x) H ∧ va_D A (Wd cy a sh n x) ∧ va_S A s.heap H locs) (fun x => fn_X16_lookAll_B129 F sh n h0 x) (z8, r8) ?_ (fun B129 => ?_)
      · intro x ls H locs hI hf
        obtain ⟨z_13, ez⟩ : ∃ w, w = x := ⟨_, rfl⟩
        subst ez
        obtain ⟨hl2, hP2, hD2, hS2⟩ := hI
        replace hl : lv_has ls 4 [(0, .ref (a h0))] := hl2
        replace hP := hP2
        replace hD := hD2
        replace hS := hS2
        clear hl2 hP2 hD2 hS2
        replace hf := fn_X16_lookAll_B129_s hf
        refine W.eq (g2 := F0 m 129 ls []) rfl ?_
        refine lv_iconst (v := 0) hx hb dX16_lookAll_129 (by decide) ?_
        refine lv_istore_n (lv' := [(1, .int 0), (0, .ref (a h0))]) hx hb dX16_lookAll_130 rfl hl (by decide) rfl (fun ls hl2 => ?_)
        replace hl := hl2
        clear hl2
        have hl0 : lv_has ls 4 [(1, .int 0), (0, .ref (a h0))] := lv_sub hl [0, 1] rfl
        refine de_loop (h := 131) (fun (x : St × Int32) ls H locs => lv_has ls 4 [(1, .int x.2), (0, .ref (a h0))] ∧ va_P (dC, dI) vwCl (Wd cy a sh n x.1) H ∧ va_D A (Wd cy a sh n x.1) ∧ va_S A s.heap H locs) (fun f x => fn_X16_lookAll_L131 F sh n h0 f x.1 x.2) (z8, r8) ?_ (fun _ => rfl) F (z_13, 0) ls H locs ⟨hl0, hP, hD, hS⟩ hf
        intro f_16 x ls H locs ih131 hI hf
        obtain ⟨z_15, p_14⟩ := x
        obtain ⟨hl2, hP2, hD2, hS2⟩ := hI
        replace hl : lv_has ls 4 [(1, .int p_14), (0, .ref (a h0))] := hl2
        replace hP := hP2
        replace hD := hD2
        replace hS := hS2
        clear hl2 hP2 hD2 hS2 hl0
        replace hf := fn_X16_lookAll_L131_s hf
        refine lv_iload_n hx hb dX16_lookAll_131 rfl (lv_at hl 0 rfl) ?_
        refine lv_aload_n hx hb dX16_lookAll_132 rfl (lv_at hl 1 rfl) ?_
        refine va_get (D := (dC, dI)) (ci := 16) (v := .int (z_15.1 h0 9)) (C := RX16) (T := TX16) (N := 18) hx hb hts iwd_X16_lookAll_X16 hown hK hP h0 (Wd_ob kg_4 sg_4 (by decide)) rfl 9 (by decide) (hts _ md_X16_lookAll_7) (fun _ h9 => h9) (fl_at (t := 0) rfl) dX16_lookAll_133 ?_
        refine lv_icmp_ge (tgt := 245) hx hb dX16_lookAll_136 (by decide) (fun c_17 => ?_) (fun c_17 => ?_)
        · skip
          rw [if_pos c_17] at hf
          obtain ⟨h8, h9⟩ := ret_some hf
          rw [h8]
          exact W.vret hx hb hr (fun t ht hW => ⟨⟨(), rfl, trivial, by rw [ht]; exact hP, va_K.moved hW.alike hK, hD⟩, hS.F ht⟩) hS.2.2 dX16_lookAll_245
        · skip
          rw [if_neg c_17] at hf
          refine lv_aload_n hx hb dX16_lookAll_139 rfl (lv_at hl 1 rfl) ?_
          obtain ⟨z_18, r_19, hfc, hf⟩ := cal_some hf
          have hFc := de_free hD hS hA
          refine va_calli (va_runV (As := []) (rest := []) ⟨hx, hb, hml, hown, hts⟩ (de_X16_isGood l dC dI cy a sh n H.size F z_15 h0 hfc) (cwV 0 hts gX16_lookAll_X16_isGood rfl rfl rfl (by decide +kernel) ⟨Nat.le_of_ble_eq_true rfl, Nat.le_of_ble_eq_true rfl⟩) ⟨fun a U g mk q => by obtain ⟨q0, q1, qP, qK, qD, qN⟩ := q; exact ⟨q0, q1, qP, va_K.moved (u := U) (U := U.calling g mk a) (Vm.Alike.refl U.vm) qK, qD, qN.same rfl⟩, va_recv hK hP (ci := 16) (q0 := h0) rfl (Wd_ob kg_4 sg_4 (by decide)), fun U hU hW => ⟨rfl, by rw [hU], by rw [hU]; exact hP, va_K.moved hW.alike hK, hD.weaken (fun _ _ _ _ => trivial), hN.warm hW⟩⟩ rfl rfl hl.1 rfl (lv_room (Nat.le_of_ble_eq_true rfl)) dX16_lookAll_140 ⟨Nat.le_of_ble_eq_true rfl, Nat.le_of_ble_eq_true rfl⟩) hS (fun q _ h => hFc q h) hFc (fun rr u t H_20 locs ht hvm hw hB hz1 hk1 hS2 => ?_)
          rw [hw]
          clear hw
          obtain ⟨hP1, -, hD1⟩ := hB
          rw [ht] at hP1
          replace hD := hD1.weaken (fun _ _ _ h => hFc _ h)
          replace hP := hP1
          replace hS := hS2
          clear hP1 hD1 hS2 hFc hfc hz1 hk1 hvm ht
          refine lv_if_eq (tgt := 245) hx hb dX16_lookAll_143 (by decide) (fun c_21 => ?_) (fun c_21 => ?_)
          · skip
            rw [if_pos c_21] at hf
            obtain ⟨h8, h9⟩ := ret_some hf
            rw [h8]
            exact W.vret hx hb hr (fun t ht hW => ⟨⟨(), rfl, trivial, by rw [ht]; exact hP, va_K.moved hW.alike hK, hD⟩, hS.F ht⟩) hS.2.2 dX16_lookAll_245
          · skip
            rw [if_neg c_21] at hf
            refine lv_aload_n hx hb dX16_lookAll_146 rfl (lv_at hl 1 rfl) ?_
            refine lv_aload_n hx hb dX16_lookAll_147 rfl (lv_at hl 1 rfl) ?_
            refine lv_aload_n hx hb dX16_lookAll_148 rfl (lv_at hl 1 rfl) ?_
            refine lv_aload_n hx hb dX16_lookAll_149 rfl (lv_at hl 1 rfl) ?_
            obtain ⟨k_22, ek_22, hf⟩ := lnk_some hf
            refine va_get (D := (dC, dI)) (ci := 16) (v := .ref (a k_22)) (C := RX16) (T := TX16) (N := 18) hx hb hts iwd_X16_lookAll_X16 hown hK hP h0 (Wd_ob kg_4 sg_4 (by decide)) rfl 14 (by decide) (hts _ md_X16_lookAll_8) (fun _ h9 => h9) (fl_q rfl ek_22) dX16_lookAll_150 ?_
            refine lv_iload_n hx hb dX16_lookAll_153 rfl (lv_at hl 0 rfl) ?_
            obtain ⟨g_23, hf⟩ := grd_some hf
            obtain ⟨kg_23, sg_23, ig_23⟩ := okA_at g_23
            refine va_iald hx hb hK hP k_22 1 (Wd_ai kg_23 sg_23) rfl ig_23 dX16_lookAll_154 ?_
            refine lv_iconst (v := 1) hx hb dX16_lookAll_155 (by decide) ?_
            refine lv_iadd hx hb dX16_lookAll_156 ?_
            obtain ⟨z_24, r_25, hfc, hf⟩ := cal_some hf
            have hFc := de_free hD hS hA
            refine va_calli (va_runV (As := [.int ((z_18.1 k_22 p_14.toNatClampNeg) + 1)]) (rest := [.ref (a h0), .ref (a h0)]) ⟨hx, hb, hml, hown, hts⟩ (de_X16_lookList l dC dI cy a sh n H_20.size F z_18 h0 ((z_18.1 k_22 p_14.toNatClampNeg) + 1) hfc) (cwV 1 hts gX16_lookAll_X16_lookList rfl rfl rfl (by decide +kernel) ⟨Nat.le_of_ble_eq_true rfl, Nat.le_of_ble_eq_true rfl⟩) ⟨fun a U g mk q => by obtain ⟨q0, q1, qP, qK, qD, qN⟩ := q; exact ⟨q0, q1, qP, va_K.moved (u := U) (U := U.calling g mk a) (Vm.Alike.refl U.vm) qK, qD, qN.same rfl⟩, va_recv hK hP (ci := 16) (q0 := h0) rfl (Wd_ob kg_4 sg_4 (by decide)), fun U hU hW => ⟨rfl, by rw [hU], by rw [hU]; exact hP, va_K.moved hW.alike hK, hD.weaken (fun _ _ _ _ => trivial), hN.warm hW⟩⟩ rfl rfl hl.1 rfl (lv_room (Nat.le_of_ble_eq_true rfl)) dX16_lookAll_157 ⟨Nat.le_of_ble_eq_true rfl, Nat.le_of_ble_eq_true rfl⟩) hS (fun q _ h => hFc q h) hFc (fun rr u t H_26 locs ht hvm hw hB hz1 hk1 hS2 => ?_)
            rw [hw]
            clear hw
            obtain ⟨hP1, -, hD1⟩ := hB
            rw [ht] at hP1
            replace hD := hD1.weaken (fun _ _ _ h => hFc _ h)
            replace hP := hP1
            replace hS := hS2
            clear hP1 hD1 hS2 hFc hfc hz1 hk1 hvm ht
            obtain ⟨z_27, r_28, hfc, hf⟩ := cal_some hf
            have hFc := de_free hD hS hA
            refine va_calli (va_runV (As := [.int r_25]) (rest := [.ref (a h0)]) ⟨hx, hb, hml, hown, hts⟩ (de_X16_lookList l dC dI cy a sh n H_26.size F z_24 h0 r_25 hfc) (cwV 1 hts gX16_lookAll_X16_lookList rfl rfl rfl (by decide +kernel) ⟨Nat.le_of_ble_eq_true rfl, Nat.le_of_ble_eq_true rfl⟩) ⟨fun a U g mk q => by obtain ⟨q0, q1, qP, qK, qD, qN⟩ := q; exact ⟨q0, q1, qP, va_K.moved (u := U) (U := U.calling g mk a) (Vm.Alike.refl U.vm) qK, qD, qN.same rfl⟩, va_recv hK hP (ci := 16) (q0 := h0) rfl (Wd_ob kg_4 sg_4 (by decide)), fun U hU hW => ⟨rfl, by rw [hU], by rw [hU]; exact hP, va_K.moved hW.alike hK, hD.weaken (fun _ _ _ _ => trivial), hN.warm hW⟩⟩ rfl rfl hl.1 rfl (lv_room (Nat.le_of_ble_eq_true rfl)) dX16_lookAll_160 ⟨Nat.le_of_ble_eq_true rfl, Nat.le_of_ble_eq_true rfl⟩) hS (fun q _ h => hFc q h) hFc (fun rr u t H_29 locs ht hvm hw hB hz1 hk1 hS2 => ?_)
            rw [hw]
            clear hw
            obtain ⟨hP1, -, hD1⟩ := hB
            rw [ht] at hP1
            replace hD := hD1.weaken (fun _ _ _ h => hFc _ h)
            replace hP := hP1
            replace hS := hS2
            clear hP1 hD1 hS2 hFc hfc hz1 hk1 hvm ht
            obtain ⟨z_30, r_31, hfc, hf⟩ := cal_some hf
            have hFc := de_free hD hS hA
            refine va_calli (va_runV (As := [.int r_28]) (rest := []) ⟨hx, hb, hml, hown, hts⟩ (de_X16_lookList l dC dI cy a sh n H_29.size F z_27 h0 r_28 hfc) (cwV 1 hts gX16_lookAll_X16_lookList rfl rfl rfl (by decide +kernel) ⟨Nat.le_of_ble_eq_true rfl, Nat.le_of_ble_eq_true rfl⟩) ⟨fun a U g mk q => by obtain ⟨q0, q1, qP, qK, qD, qN⟩ := q; exact ⟨q0, q1, qP, va_K.moved (u := U) (U := U.calling g mk a) (Vm.Alike.refl U.vm) qK, qD, qN.same rfl⟩, va_recv hK hP (ci := 16) (q0 := h0) rfl (Wd_ob kg_4 sg_4 (by decide)), fun U hU hW => ⟨rfl, by rw [hU], by rw [hU]; exact hP, va_K.moved hW.alike hK, hD.weaken (fun _ _ _ _ => trivial), hN.warm hW⟩⟩ rfl rfl hl.1 rfl (lv_room (Nat.le_of_ble_eq_true rfl)) dX16_lookAll_163 ⟨Nat.le_of_ble_eq_true rfl, Nat.le_of_ble_eq_true rfl⟩) hS (fun q _ h => hFc q h) hFc (fun rr u t H_32 locs ht hvm hw hB hz1 hk1 hS2 => ?_)
            rw [hw]
            clear hw
            obtain ⟨hP1, -, hD1⟩ := hB
            rw [ht] at hP1
            replace hD := hD1.weaken (fun _ _ _ h => hFc _ h)
            replace hP := hP1
            replace hS := hS2
            clear hP1 hD1 hS2 hFc hfc hz1 hk1 hvm ht
            refine lv_pop hx hb dX16_lookAll_166 rfl ?_
            refine lv_aload_n hx hb dX16_lookAll_167 rfl (lv_at hl 1 rfl) ?_
            refine lv_iload_n hx hb dX16_lookAll_168 rfl (lv_at hl 0 rfl) ?_
            refine lv_iconst (v := 0) hx hb dX16_lookAll_169 (by decide) ?_
            obtain ⟨z_33, r_34, hfc, hf⟩ := cal_some hf
            have hFc := de_free hD hS hA
            refine va_calli (va_runV (As := [.int p_14, .int 0]) (rest := []) ⟨hx, hb, hml, hown, hts⟩ (de_X16_manyIn l dC dI cy a sh n H_32.size F z_30 h0 p_14 0 hfc) (cwV 2 hts gX16_lookAll_X16_manyIn rfl rfl rfl (by decide +kernel) ⟨Nat.le_of_ble_eq_true rfl, Nat.le_of_ble_eq_true rfl⟩) ⟨fun a U g mk q => by obtain ⟨q0, q1, qP, qK, qD, qN⟩ := q; exact ⟨q0, q1, qP, va_K.moved (u := U) (U := U.calling g mk a) (Vm.Alike.refl U.vm) qK, qD, qN.same rfl⟩, va_recv hK hP (ci := 16) (q0 := h0) rfl (Wd_ob kg_4 sg_4 (by decide)), fun U hU hW => ⟨rfl, by rw [hU], by rw [hU]; exact hP, va_K.moved hW.alike hK, hD.weaken (fun _ _ _ _ => trivial), hN.warm hW⟩⟩ rfl rfl hl.1 rfl (lv_room (Nat.le_of_ble_eq_true rfl)) dX16_lookAll_170 ⟨Nat.le_of_ble_eq_true rfl, Nat.le_of_ble_eq_true rfl⟩) hS (fun q _ h => hFc q h) hFc (fun rr u t H_35 locs ht hvm hw hB hz1 hk1 hS2 => ?_)
            rw [hw]
            clear hw
            obtain ⟨hP1, -, hD1⟩ := hB
            rw [ht] at hP1
            replace hD := hD1.weaken (fun _ _ _ h => hFc _ h)
            replace hP := hP1
            replace hS := hS2
            clear hP1 hD1 hS2 hFc hfc hz1 hk1 hvm ht
            refine lv_aload_n hx hb dX16_lookAll_173 rfl (lv_at hl 1 rfl) ?_
            refine lv_iload_n hx hb dX16_lookAll_174 rfl (lv_at hl 0 rfl) ?_
            refine lv_iconst (v := 2) hx hb dX16_lookAll_175 (by decide) ?_
            obtain ⟨z_36, r_37, hfc, hf⟩ := cal_some hf
            have hFc := de_free hD hS hA
            refine va_calli (va_runV (As := [.int p_14, .int 2]) (rest := [.int r_34]) ⟨hx, hb, hml, hown, hts⟩ (de_X16_manyIn l dC dI cy a sh n H_35.size F z_33 h0 p_14 2 hfc) (cwV 2 hts gX16_lookAll_X16_manyIn rfl rfl rfl (by decide +kernel) ⟨Nat.le_of_ble_eq_true rfl, Nat.le_of_ble_eq_true rfl⟩) ⟨fun a U g mk q => by obtain ⟨q0, q1, qP, qK, qD, qN⟩ := q; exact ⟨q0, q1, qP, va_K.moved (u := U) (U := U.calling g mk a) (Vm.Alike.refl U.vm) qK, qD, qN.same rfl⟩, va_recv hK hP (ci := 16) (q0 := h0) rfl (Wd_ob kg_4 sg_4 (by decide)), fun U hU hW => ⟨rfl, by rw [hU], by rw [hU]; exact hP, va_K.moved hW.alike hK, hD.weaken (fun _ _ _ _ => trivial), hN.warm hW⟩⟩ rfl rfl hl.1 rfl (lv_room (Nat.le_of_ble_eq_true rfl)) dX16_lookAll_176 ⟨Nat.le_of_ble_eq_true rfl, Nat.le_of_ble_eq_true rfl⟩) hS (fun q _ h => hFc q h) hFc (fun rr u t H_38 locs ht hvm hw hB hz1 hk1 hS2 => ?_)
            rw [hw]
            clear hw
            obtain ⟨hP1, -, hD1⟩ := hB
            rw [ht] at hP1
            replace hD := hD1.weaken (fun _ _ _ h => hFc _ h)
            replace hP := hP1
            replace hS := hS2
            clear hP1 hD1 hS2 hFc hfc hz1 hk1 hvm ht
            refine lv_iadd hx hb dX16_lookAll_179 ?_
            refine lv_topi (fun v_39 ev_39 => ?_)
            replace hf := lt_at ev_39 hf
            clear ev_39
            refine lv_istore_n (lv' := [(2, .int v_39), (1, .int p_14), (0, .ref (a h0))]) hx hb dX16_lookAll_180 rfl hl (by decide) rfl (fun ls hl2 => ?_)
            replace hl := hl2
            clear hl2
            refine lv_aload_n hx hb dX16_lookAll_181 rfl (lv_at hl 2 rfl) ?_
            obtain ⟨k_40, ek_40, hf⟩ := lnk_some hf
            refine va_get (D := (dC, dI)) (ci := 16) (v := .ref (a k_40)) (C := RX16) (T := TX16) (N := 18) hx hb hts iwd_X16_lookAll_X16 hown hK hP h0 (Wd_ob kg_4 sg_4 (by decide)) rfl 15 (by decide) (hts _ md_X16_lookAll_9) (fun _ h9 => h9) (fl_q rfl ek_40) dX16_lookAll_182 ?_
            refine lv_iload_n hx hb dX16_lookAll_185 rfl (lv_at hl 1 rfl) ?_
            obtain ⟨g_41, hf⟩ := grd_some hf
            obtain ⟨kg_41, sg_41, ig_41⟩ := okA_at g_41
            refine va_iald hx hb hK hP k_40 1 (Wd_ai kg_41 sg_41) rfl ig_41 dX16_lookAll_186 ?_
            refine lv_topi (fun v_42 ev_42 => ?_)
            replace hf := lt_at ev_42 hf
            clear ev_42
            refine lv_istore_n (lv' := [(3, .int v_42), (2, .int v_39), (1, .int p_14), (0, .ref (a h0))]) hx hb dX16_lookAll_187 rfl hl (by decide) rfl (fun ls hl2 => ?_)
            replace hl := hl2
            clear hl2
            have hl0 : lv_has ls 4 [(3, .int v_42), (2, .int v_39), (1, .int p_14), (0, .ref (a h0))] := lv_sub hl [0, 1, 2, 3] rfl
            refine de_loop (h := 188) (fun (x : St × Int32) ls H locs => lv_has ls 4 [(3, .int x.2), (2, .int v_39), (1, .int p_14), (0, .ref (a h0))] ∧ va_P (dC, dI) vwCl (Wd cy a sh n x.1) H ∧ va_D A (Wd cy a sh n x.1) ∧ va_S A s.heap H locs) (fun f x => fn_X16_lookAll_L188 F sh n h0 p_14 v_39 (fun z9 q1 => fn_X16_lookAll_L131 F sh n h0 f_16 z9 q1) f x.1 x.2) (z8, r8) ?_ (fun _ => rfl) F (z_36, v_42) ls H_38 locs ⟨hl0, hP, hD, hS⟩ hf
            intro f_45 x ls H locs ih188 hI hf
            obtain ⟨z_44, p_43⟩ := x
            obtain ⟨hl2, hP2, hD2, hS2⟩ := hI
            replace hl : lv_has ls 4 [(3, .int p_43), (2, .int v_39), (1, .int p_14), (0, .ref (a h0))] := hl2
            replace hP := hP2
            replace hD := hD2
            replace hS := hS2
            clear hl2 hP2 hD2 hS2 hl0
            replace hf := fn_X16_lookAll_L188_s hf
            refine lv_iload_n hx hb dX16_lookAll_188 rfl (lv_at hl 0 rfl) ?_
            refine lv_aload_n hx hb dX16_lookAll_189 rfl (lv_at hl 3 rfl) ?_
            obtain ⟨k_46, ek_46, hf⟩ := lnk_some hf
            refine va_get (D := (dC, dI)) (ci := 16) (v := .ref (a k_46)) (C := RX16) (T := TX16) (N := 18) hx hb hts iwd_X16_lookAll_X16 hown hK hP h0 (Wd_ob kg_4 sg_4 (by decide)) rfl 15 (by decide) (hts _ md_X16_lookAll_9) (fun _ h9 => h9) (fl_q rfl ek_46) dX16_lookAll_190 ?_
            refine lv_iload_n hx hb dX16_lookAll_193 rfl (lv_at hl 2 rfl) ?_
            refine lv_iconst (v := 1) hx hb dX16_lookAll_194 (by decide) ?_
            refine lv_iadd hx hb dX16_lookAll_195 ?_
            obtain ⟨g_47, hf⟩ := grd_some hf
            obtain ⟨kg_47, sg_47, ig_47⟩ := okA_at g_47
            refine va_iald hx hb hK hP k_46 1 (Wd_ai kg_47 sg_47) rfl ig_47 dX16_lookAll_196 ?_
            refine de_cut (h := 239) (fun (x : St) => []) (fun x ls H locs => lv_has ls 4 [(1, .int p_14), (0, .ref (a h0))] ∧ va_P (dC, dI) vwCl (Wd cy a sh n x) H ∧ va_D A (Wd cy a sh n x) ∧ va_S A s.heap H locs) (fun x => fn_X16_lookAll_B239 F sh n p_14 (fun z9 q1 => fn_X16_lookAll_L131 F sh n h0 f_16 z9 q1) x) (z8, r8) ?_ (fun B239 => ?_)
            · intro x ls H locs hI hf
              obtain ⟨z_48, ez⟩ : ∃ w, w = x := ⟨_, rfl⟩
              subst ez
              obtain ⟨hl2, hP2, hD2, hS2⟩ := hI
              replace hl : lv_has ls 4 [(1, .int p_14), (0, .ref (a h0))] := hl2
              replace hP := hP2
              replace hD := hD2
              replace hS := hS2
              clear hl2 hP2 hD2 hS2
              replace hf := fn_X16_lookAll_B239_s hf
              refine W.eq (g2 := F0 m 239 ls []) rfl ?_
              refine lv_iinc (v := (p_14 + 1)) (lv' := [(1, .int (p_14 + 1)), (0, .ref (a h0))]) hx hb dX16_lookAll_239 hl (k := 0) rfl rfl (by decide) rfl (fun ls hl2 => ?_)
              replace hl := hl2
              clear hl2
              refine lv_goto (tgt := 131) hx hb dX16_lookAll_242 (by decide) ?_
              exact ih131 (z_48, (p_14 + 1)) ls H locs ⟨lv_sub hl [0, 1] rfl, hP, hD, hS⟩ hf
            refine lv_icmp_ge (tgt := 239) hx hb dX16_lookAll_197 (by decide) (fun c_49 => ?_) (fun c_49 => ?_)
            · skip
              rw [if_pos c_49] at hf
              exact B239 (z_44) ls H locs ⟨lv_sub hl [2, 3] rfl, hP, hD, hS⟩ hf
            · skip
              rw [if_neg c_49] at hf
              refine lv_aload_n hx hb dX16_lookAll_200 rfl (lv_at hl 3 rfl) ?_
              obtain ⟨z_50, r_51, hfc, hf⟩ := cal_some hf
              have hFc := de_free hD hS hA
              refine va_calli (va_runV (As := []) (rest := []) ⟨hx, hb, hml, hown, hts⟩ (de_X16_isGood l dC dI cy a sh n H.size F z_44 h0 hfc) (cwV 0 hts gX16_lookAll_X16_isGood rfl rfl rfl (by decide +kernel) ⟨Nat.le_of_ble_eq_true rfl, Nat.le_of_ble_eq_true rfl⟩) ⟨fun a U g mk q => by obtain ⟨q0, q1, qP, qK, qD, qN⟩ := q; exact ⟨q0, q1, qP, va_K.moved (u := U) (U := U.calling g mk a) (Vm.Alike.refl U.vm) qK, qD, qN.same rfl⟩, va_recv hK hP (ci := 16) (q0 := h0) rfl (Wd_ob kg_4 sg_4 (by decide)), fun U hU hW => ⟨rfl, by rw [hU], by rw [hU]; exact hP, va_K.moved hW.alike hK, hD.weaken (fun _ _ _ _ => trivial), hN.warm hW⟩⟩ rfl rfl hl.1 rfl (lv_room (Nat.le_of_ble_eq_true rfl)) dX16_lookAll_201 ⟨Nat.le_of_ble_eq_true rfl, Nat.le_of_ble_eq_true rfl⟩) hS (fun q _ h => hFc q h) hFc (fun rr u t H_52 locs ht hvm hw hB hz1 hk1 hS2 => ?_)
              rw [hw]
              clear hw
              obtain ⟨hP1, -, hD1⟩ := hB
              rw [ht] at hP1
              replace hD := hD1.weaken (fun _ _ _ h => hFc _ h)
              replace hP := hP1
              replace hS := hS2
              clear hP1 hD1 hS2 hFc hfc hz1 hk1 hvm ht
              refine lv_if_eq (tgt := 239) hx hb dX16_lookAll_204 (by decide) (fun c_53 => ?_) (fun c_53 => ?_)
              · skip
                rw [if_pos c_53] at hf
                exact B239 (z_50) ls H_52 locs ⟨lv_sub hl [2, 3] rfl, hP, hD, hS⟩ hf
              · skip
                rw [if_neg c_53] at hf
                refine lv_aload_n hx hb dX16_lookAll_207 rfl (lv_at hl 3 rfl) ?_
                refine lv_aload_n hx hb dX16_lookAll_208 rfl (lv_at hl 3 rfl) ?_
                obtain ⟨k_54, ek_54, hf⟩ := lnk_some hf
                refine va_get (D := (dC, dI)) (ci := 16) (v := .ref (a k_54)) (C := RX16) (T := TX16) (N := 18) hx hb hts iwd_X16_lookAll_X16 hown hK hP h0 (Wd_ob kg_4 sg_4 (by decide)) rfl 16 (by decide) (hts _ md_X16_lookAll_10) (fun _ h9 => h9) (fl_q rfl ek_54) dX16_lookAll_209 ?_
                refine lv_iload_n hx hb dX16_lookAll_212 rfl (lv_at hl 0 rfl) ?_
                obtain ⟨g_55, hf⟩ := grd_some hf
                obtain ⟨kg_55, sg_55, ig_55⟩ := okA_at g_55
                refine va_iald hx hb hK hP k_54 1 (Wd_ai kg_55 sg_55) rfl ig_55 dX16_lookAll_213 ?_
                refine lv_iload_n hx hb dX16_lookAll_214 rfl (lv_at hl 1 rfl) ?_
                refine lv_aload_n hx hb dX16_lookAll_215 rfl (lv_at hl 3 rfl) ?_
                obtain ⟨k_56, ek_56, hf⟩ := lnk_some hf
                refine va_get (D := (dC, dI)) (ci := 16) (v := .ref (a k_56)) (C := RX16) (T := TX16) (N := 18) hx hb hts iwd_X16_lookAll_X16 hown hK hP h0 (Wd_ob kg_4 sg_4 (by decide)) rfl 15 (by decide) (hts _ md_X16_lookAll_9) (fun _ h9 => h9) (fl_q rfl ek_56) dX16_lookAll_216 ?_
                refine lv_iload_n hx hb dX16_lookAll_219 rfl (lv_at hl 2 rfl) ?_
                refine lv_iconst (v := 1) hx hb dX16_lookAll_220 (by decide) ?_
                refine lv_iadd hx hb dX16_lookAll_221 ?_
                obtain ⟨g_57, hf⟩ := grd_some hf
                obtain ⟨kg_57, sg_57, ig_57⟩ := okA_at g_57
                refine va_iald hx hb hK hP k_56 1 (Wd_ai kg_57 sg_57) rfl ig_57 dX16_lookAll_222 ?_
                refine lv_aload_n hx hb dX16_lookAll_223 rfl (lv_at hl 3 rfl) ?_
                obtain ⟨k_58, ek_58, hf⟩ := lnk_some hf
                refine va_get (D := (dC, dI)) (ci := 16) (v := .ref (a k_58)) (C := RX16) (T := TX16) (N := 18) hx hb hts iwd_X16_lookAll_X16 hown hK hP h0 (Wd_ob kg_4 sg_4 (by decide)) rfl 15 (by decide) (hts _ md_X16_lookAll_9) (fun _ h9 => h9) (fl_q rfl ek_58) dX16_lookAll_224 ?_
                refine lv_iload_n hx hb dX16_lookAll_227 rfl (lv_at hl 2 rfl) ?_
                obtain ⟨g_59, hf⟩ := grd_some hf
                obtain ⟨kg_59, sg_59, ig_59⟩ := okA_at g_59
                refine va_iald hx hb hK hP k_58 1 (Wd_ai kg_59 sg_59) rfl ig_59 dX16_lookAll_228 ?_
                refine lv_isub hx hb dX16_lookAll_229 ?_
                obtain ⟨z_60, _u, hfc, hf⟩ := cal_some hf
                have hFc := de_free hD hS hA
                refine va_callv (va_runV (As := [.int (z_50.1 k_54 p_43.toNatClampNeg), .int v_39, .int ((z_50.1 k_56 (p_14 + 1).toNatClampNeg) - (z_50.1 k_58 p_14.toNatClampNeg))]) (rest := []) ⟨hx, hb, hml, hown, hts⟩ (de_X16_lookInstruction l dC dI cy a sh n H_52.size F z_50 h0 (z_50.1 k_54 p_43.toNatClampNeg) v_39 ((z_50.1 k_56 (p_14 + 1).toNatClampNeg) - (z_50.1 k_58 p_14.toNatClampNeg)) hfc) (cwV 3 hts gX16_lookAll_X16_lookInstruction rfl rfl rfl (by decide +kernel) ⟨Nat.le_of_ble_eq_true rfl, Nat.le_of_ble_eq_true rfl⟩) ⟨fun a U g mk q => by obtain ⟨q0, q1, qP, qK, qD, qN⟩ := q; exact ⟨q0, q1, qP, va_K.moved (u := U) (U := U.calling g mk a) (Vm.Alike.refl U.vm) qK, qD, qN.same rfl⟩, va_recv hK hP (ci := 16) (q0 := h0) rfl (Wd_ob kg_4 sg_4 (by decide)), fun U hU hW => ⟨rfl, by rw [hU], by rw [hU]; exact hP, va_K.moved hW.alike hK, hD.weaken (fun _ _ _ _ => trivial), hN.warm hW⟩⟩ rfl rfl hl.1 rfl (lv_room (Nat.le_of_ble_eq_true rfl)) dX16_lookAll_230 ⟨Nat.le_of_ble_eq_true rfl, Nat.le_of_ble_eq_true rfl⟩) hS (fun q _ h => hFc q h) hFc (fun u t H_61 locs ht hvm hw hB hz1 hk1 hS2 => ?_)
                obtain ⟨hP1, -, hD1⟩ := hB
                rw [ht] at hP1
                replace hD := hD1.weaken (fun _ _ _ h => hFc _ h)
                replace hP := hP1
                replace hS := hS2
                clear hP1 hD1 hS2 hFc hfc hz1 hk1 hvm ht
                refine lv_iinc (v := (p_43 + 1)) (lv' := [(3, .int (p_43 + 1)), (2, .int v_39), (1, .int p_14), (0, .ref (a h0))]) hx hb dX16_lookAll_233 hl (k := 0) rfl rfl (by decide) rfl (fun ls hl2 => ?_)
                replace hl := hl2
                clear hl2
                refine lv_goto (tgt := 188) hx hb dX16_lookAll_236 (by decide) ?_
                exact ih188 (z_60, (p_43 + 1)) ls H_61 locs ⟨lv_sub hl [0, 1, 2, 3] rfl, hP, hD, hS⟩ hf
      refine lv_icmp_ge (tgt := 129) hx hb dX16_lookAll_102 (by decide) (fun c_62 => ?_) (fun c_62 => ?_)
      · skip
        rw [if_pos c_62] at hf
        exact B129 (z_11) ls H locs ⟨lv_sub hl [1] rfl, hP, hD, hS⟩ hf
      · skip
        rw [if_neg c_62] at hf
        refine lv_aload_n hx hb dX16_lookAll_105 rfl (lv_at hl 1 rfl) ?_
        obtain ⟨z_63, r_64, hfc, hf⟩ := cal_some hf
        have hFc := de_free hD hS hA
        refine va_calli (va_runV (As := []) (rest := []) ⟨hx, hb, hml, hown, hts⟩ (de_X16_isGood l dC dI cy a sh n H.size F z_11 h0 hfc) (cwV 0 hts gX16_lookAll_X16_isGood rfl rfl rfl (by decide +kernel) ⟨Nat.le_of_ble_eq_true rfl, Nat.le_of_ble_eq_true rfl⟩) ⟨fun a U g mk q => by obtain ⟨q0, q1, qP, qK, qD, qN⟩ := q; exact ⟨q0, q1, qP, va_K.moved (u := U) (U := U.calling g mk a) (Vm.Alike.refl U.vm) qK, qD, qN.same rfl⟩, va_recv hK hP (ci := 16) (q0 := h0) rfl (Wd_ob kg_4 sg_4 (by decide)), fun U hU hW => ⟨rfl, by rw [hU], by rw [hU]; exact hP, va_K.moved hW.alike hK, hD.weaken (fun _ _ _ _ => trivial), hN.warm hW⟩⟩ rfl rfl hl.1 rfl (lv_room (Nat.le_of_ble_eq_true rfl)) dX16_lookAll_106 ⟨Nat.le_of_ble_eq_true rfl, Nat.le_of_ble_eq_true rfl⟩) hS (fun q _ h => hFc q h) hFc (fun rr u t H_65 locs ht hvm hw hB hz1 hk1 hS2 => ?_)
        rw [hw]
        clear hw
        obtain ⟨hP1, -, hD1⟩ := hB
        rw [ht] at hP1
        replace hD := hD1.weaken (fun _ _ _ h => hFc _ h)
        replace hP := hP1
        replace hS := hS2
        clear hP1 hD1 hS2 hFc hfc hz1 hk1 hvm ht
        refine lv_if_eq (tgt := 129) hx hb dX16_lookAll_109 (by decide) (fun c_66 => ?_) (fun c_66 => ?_)
        · skip
          rw [if_pos c_66] at hf
          exact B129 (z_63) ls H_65 locs ⟨lv_sub hl [1] rfl, hP, hD, hS⟩ hf
        · skip
          rw [if_neg c_66] at hf
          refine lv_aload_n hx hb dX16_lookAll_112 rfl (lv_at hl 1 rfl) ?_
          refine lv_aload_n hx hb dX16_lookAll_113 rfl (lv_at hl 1 rfl) ?_
          obtain ⟨k_67, ek_67, hf⟩ := lnk_some hf
          refine va_get (D := (dC, dI)) (ci := 16) (v := .ref (a k_67)) (C := RX16) (T := TX16) (N := 18) hx hb hts iwd_X16_lookAll_X16 hown hK hP h0 (Wd_ob kg_4 sg_4 (by decide)) rfl 13 (by decide) (hts _ md_X16_lookAll_6) (fun _ h9 => h9) (fl_q rfl ek_67) dX16_lookAll_114 ?_
          refine lv_iload_n hx hb dX16_lookAll_117 rfl (lv_at hl 0 rfl) ?_
          obtain ⟨g_68, hf⟩ := grd_some hf
          obtain ⟨kg_68, sg_68, ig_68⟩ := okA_at g_68
          refine va_iald hx hb hK hP k_67 1 (Wd_ai kg_68 sg_68) rfl ig_68 dX16_lookAll_118 ?_
          obtain ⟨z_69, r_70, hfc, hf⟩ := cal_some hf
          have hFc := de_free hD hS hA
          refine va_calli (va_runV (As := [.int (z_63.1 k_67 p_10.toNatClampNeg)]) (rest := []) ⟨hx, hb, hml, hown, hts⟩ (de_X16_lookType l dC dI cy a sh n H_65.size F z_63 h0 (z_63.1 k_67 p_10.toNatClampNeg) hfc) (cwV 1 hts gX16_lookAll_X16_lookType rfl rfl rfl (by decide +kernel) ⟨Nat.le_of_ble_eq_true rfl, Nat.le_of_ble_eq_true rfl⟩) ⟨fun a U g mk q => by obtain ⟨q0, q1, qP, qK, qD, qN⟩ := q; exact ⟨q0, q1, qP, va_K.moved (u := U) (U := U.calling g mk a) (Vm.Alike.refl U.vm) qK, qD, qN.same rfl⟩, va_recv hK hP (ci := 16) (q0 := h0) rfl (Wd_ob kg_4 sg_4 (by decide)), fun U hU hW => ⟨rfl, by rw [hU], by rw [hU]; exact hP, va_K.moved hW.alike hK, hD.weaken (fun _ _ _ _ => trivial), hN.warm hW⟩⟩ rfl rfl hl.1 rfl (lv_room (Nat.le_of_ble_eq_true rfl)) dX16_lookAll_119 ⟨Nat.le_of_ble_eq_true rfl, Nat.le_of_ble_eq_true rfl⟩) hS (fun q _ h => hFc q h) hFc (fun rr u t H_71 locs ht hvm hw hB hz1 hk1 hS2 => ?_)
          rw [hw]
          clear hw
          obtain ⟨hP1, -, hD1⟩ := hB
          rw [ht] at hP1
          replace hD := hD1.weaken (fun _ _ _ h => hFc _ h)
          replace hP := hP1
          replace hS := hS2
          clear hP1 hD1 hS2 hFc hfc hz1 hk1 hvm ht
          refine lv_pop hx hb dX16_lookAll_122 rfl ?_
          refine lv_iinc (v := (p_10 + 1)) (lv' := [(1, .int (p_10 + 1)), (0, .ref (a h0))]) hx hb dX16_lookAll_123 hl (k := 0) rfl rfl (by decide) rfl (fun ls hl2 => ?_)
          replace hl := hl2
          clear hl2
          refine lv_goto (tgt := 97) hx hb dX16_lookAll_126 (by decide) ?_
          exact ih97 (z_69, (p_10 + 1)) ls H_71 locs ⟨lv_sub hl [0, 1] rfl, hP, hD, hS⟩ hf
    refine lv_icmp_ge (tgt := 95) hx hb dX16_lookAll_62 (by decide) (fun c_72 => ?_) (fun c_72 => ?_)
    · skip
      rw [if_pos c_72] at hf
      exact B95 (z_7) ls H locs ⟨lv_sub hl [1] rfl, hP, hD, hS⟩ hf
    · skip
      rw [if_neg c_72] at hf
      refine lv_aload_n hx hb dX16_lookAll_65 rfl (lv_at hl 1 rfl) ?_
      obtain ⟨z_73, r_74, hfc, hf⟩ := cal_some hf
      have hFc := de_free hD hS hA
      refine va_calli (va_runV (As := []) (rest := []) ⟨hx, hb, hml, hown, hts⟩ (de_X16_isGood l dC dI cy a sh n H.size F z_7 h0 hfc) (cwV 0 hts gX16_lookAll_X16_isGood rfl rfl rfl (by decide +kernel) ⟨Nat.le_of_ble_eq_true rfl, Nat.le_of_ble_eq_true rfl⟩) ⟨fun a U g mk q => by obtain ⟨q0, q1, qP, qK, qD, qN⟩ := q; exact ⟨q0, q1, qP, va_K.moved (u := U) (U := U.calling g mk a) (Vm.Alike.refl U.vm) qK, qD, qN.same rfl⟩, va_recv hK hP (ci := 16) (q0 := h0) rfl (Wd_ob kg_4 sg_4 (by decide)), fun U hU hW => ⟨rfl, by rw [hU], by rw [hU]; exact hP, va_K.moved hW.alike hK, hD.weaken (fun _ _ _ _ => trivial), hN.warm hW⟩⟩ rfl rfl hl.1 rfl (lv_room (Nat.le_of_ble_eq_true rfl)) dX16_lookAll_66 ⟨Nat.le_of_ble_eq_true rfl, Nat.le_of_ble_eq_true rfl⟩) hS (fun q _ h => hFc q h) hFc (fun rr u t H_75 locs ht hvm hw hB hz1 hk1 hS2 => ?_)
      rw [hw]
      clear hw
      obtain ⟨hP1, -, hD1⟩ := hB
      rw [ht] at hP1
      replace hD := hD1.weaken (fun _ _ _ h => hFc _ h)
      replace hP := hP1
      replace hS := hS2
      clear hP1 hD1 hS2 hFc hfc hz1 hk1 hvm ht
      refine lv_if_eq (tgt := 95) hx hb dX16_lookAll_69 (by decide) (fun c_76 => ?_) (fun c_76 => ?_)
      · skip
        rw [if_pos c_76] at hf
        exact B95 (z_73) ls H_75 locs ⟨lv_sub hl [1] rfl, hP, hD, hS⟩ hf
      · skip
        rw [if_neg c_76] at hf
        refine lv_aload_n hx hb dX16_lookAll_72 rfl (lv_at hl 1 rfl) ?_
        refine lv_aload_n hx hb dX16_lookAll_73 rfl (lv_at hl 1 rfl) ?_
        refine lv_aload_n hx hb dX16_lookAll_74 rfl (lv_at hl 1 rfl) ?_
        obtain ⟨k_77, ek_77, hf⟩ := lnk_some hf
        refine va_get (D := (dC, dI)) (ci := 16) (v := .ref (a k_77)) (C := RX16) (T := TX16) (N := 18) hx hb hts iwd_X16_lookAll_X16 hown hK hP h0 (Wd_ob kg_4 sg_4 (by decide)) rfl 12 (by decide) (hts _ md_X16_lookAll_4) (fun _ h9 => h9) (fl_q rfl ek_77) dX16_lookAll_75 ?_
        refine lv_iload_n hx hb dX16_lookAll_78 rfl (lv_at hl 0 rfl) ?_
        obtain ⟨g_78, hf⟩ := grd_some hf
        obtain ⟨kg_78, sg_78, ig_78⟩ := okA_at g_78
        refine va_iald hx hb hK hP k_77 1 (Wd_ai kg_78 sg_78) rfl ig_78 dX16_lookAll_79 ?_
        refine lv_iconst (v := 4) hx hb dX16_lookAll_80 (by decide) ?_
        refine lv_iadd hx hb dX16_lookAll_81 ?_
        obtain ⟨z_79, r_80, hfc, hf⟩ := cal_some hf
        have hFc := de_free hD hS hA
        refine va_calli (va_runV (As := [.int ((z_73.1 k_77 p_6.toNatClampNeg) + 4)]) (rest := [.ref (a h0)]) ⟨hx, hb, hml, hown, hts⟩ (de_X16_lookList l dC dI cy a sh n H_75.size F z_73 h0 ((z_73.1 k_77 p_6.toNatClampNeg) + 4) hfc) (cwV 1 hts gX16_lookAll_X16_lookList rfl rfl rfl (by decide +kernel) ⟨Nat.le_of_ble_eq_true rfl, Nat.le_of_ble_eq_true rfl⟩) ⟨fun a U g mk q => by obtain ⟨q0, q1, qP, qK, qD, qN⟩ := q; exact ⟨q0, q1, qP, va_K.moved (u := U) (U := U.calling g mk a) (Vm.Alike.refl U.vm) qK, qD, qN.same rfl⟩, va_recv hK hP (ci := 16) (q0 := h0) rfl (Wd_ob kg_4 sg_4 (by decide)), fun U hU hW => ⟨rfl, by rw [hU], by rw [hU]; exact hP, va_K.moved hW.alike hK, hD.weaken (fun _ _ _ _ => trivial), hN.warm hW⟩⟩ rfl rfl hl.1 rfl (lv_room (Nat.le_of_ble_eq_true rfl)) dX16_lookAll_82 ⟨Nat.le_of_ble_eq_true rfl, Nat.le_of_ble_eq_true rfl⟩) hS (fun q _ h => hFc q h) hFc (fun rr u t H_81 locs ht hvm hw hB hz1 hk1 hS2 => ?_)
        rw [hw]
        clear hw
        obtain ⟨hP1, -, hD1⟩ := hB
        rw [ht] at hP1
        replace hD := hD1.weaken (fun _ _ _ h => hFc _ h)
        replace hP := hP1
        replace hS := hS2
        clear hP1 hD1 hS2 hFc hfc hz1 hk1 hvm ht
        obtain ⟨z_82, r_83, hfc, hf⟩ := cal_some hf
        have hFc := de_free hD hS hA
        refine va_calli (va_runV (As := [.int r_80]) (rest := []) ⟨hx, hb, hml, hown, hts⟩ (de_X16_lookList l dC dI cy a sh n H_81.size F z_79 h0 r_80 hfc) (cwV 1 hts gX16_lookAll_X16_lookList rfl rfl rfl (by decide +kernel) ⟨Nat.le_of_ble_eq_true rfl, Nat.le_of_ble_eq_true rfl⟩) ⟨fun a U g mk q => by obtain ⟨q0, q1, qP, qK, qD, qN⟩ := q; exact ⟨q0, q1, qP, va_K.moved (u := U) (U := U.calling g mk a) (Vm.Alike.refl U.vm) qK, qD, qN.same rfl⟩, va_recv hK hP (ci := 16) (q0 := h0) rfl (Wd_ob kg_4 sg_4 (by decide)), fun U hU hW => ⟨rfl, by rw [hU], by rw [hU]; exact hP, va_K.moved hW.alike hK, hD.weaken (fun _ _ _ _ => trivial), hN.warm hW⟩⟩ rfl rfl hl.1 rfl (lv_room (Nat.le_of_ble_eq_true rfl)) dX16_lookAll_85 ⟨Nat.le_of_ble_eq_true rfl, Nat.le_of_ble_eq_true rfl⟩) hS (fun q _ h => hFc q h) hFc (fun rr u t H_84 locs ht hvm hw hB hz1 hk1 hS2 => ?_)
        rw [hw]
        clear hw
        obtain ⟨hP1, -, hD1⟩ := hB
        rw [ht] at hP1
        replace hD := hD1.weaken (fun _ _ _ h => hFc _ h)
        replace hP := hP1
        replace hS := hS2
        clear hP1 hD1 hS2 hFc hfc hz1 hk1 hvm ht
        refine lv_pop hx hb dX16_lookAll_88 rfl ?_
        refine lv_iinc (v := (p_6 + 1)) (lv' := [(1, .int (p_6 + 1)), (0, .ref (a h0))]) hx hb dX16_lookAll_89 hl (k := 0) rfl rfl (by decide) rfl (fun ls hl2 => ?_)
        replace hl := hl2
        clear hl2
        refine lv_goto (tgt := 57) hx hb dX16_lookAll_92 (by decide) ?_
        exact ih57 (z_82, (p_6 + 1)) ls H_84 locs ⟨lv_sub hl [0, 1] rfl, hP, hD, hS⟩ hf
  refine lv_icmp_ge (tgt := 55) hx hb dX16_lookAll_7 (by decide) (fun c_85 => ?_) (fun c_85 => ?_)
  · skip
    rw [if_pos c_85] at hf
    exact B55 (z_2) ls H locs ⟨lv_sub hl [1] rfl, hP, hD, hS⟩ hf
  · skip
    rw [if_neg c_85] at hf
    refine lv_aload_n hx hb dX16_lookAll_10 rfl (lv_at hl 1 rfl) ?_
    obtain ⟨z_86, r_87, hfc, hf⟩ := cal_some hf
    have hFc := de_free hD hS hA
    refine va_calli (va_runV (As := []) (rest := []) ⟨hx, hb, hml, hown, hts⟩ (de_X16_isGood l dC dI cy a sh n H.size F z_2 h0 hfc) (cwV 0 hts gX16_lookAll_X16_isGood rfl rfl rfl (by decide +kernel) ⟨Nat.le_of_ble_eq_true rfl, Nat.le_of_ble_eq_true rfl⟩) ⟨fun a U g mk q => by obtain ⟨q0, q1, qP, qK, qD, qN⟩ := q; exact ⟨q0, q1, qP, va_K.moved (u := U) (U := U.calling g mk a) (Vm.Alike.refl U.vm) qK, qD, qN.same rfl⟩, va_recv hK hP (ci := 16) (q0 := h0) rfl (Wd_ob kg_4 sg_4 (by decide)), fun U hU hW => ⟨rfl, by rw [hU], by rw [hU]; exact hP, va_K.moved hW.alike hK, hD.weaken (fun _ _ _ _ => trivial), hN.warm hW⟩⟩ rfl rfl hl.1 rfl (lv_room (Nat.le_of_ble_eq_true rfl)) dX16_lookAll_11 ⟨Nat.le_of_ble_eq_true rfl, Nat.le_of_ble_eq_true rfl⟩) hS (fun q _ h => hFc q h) hFc (fun rr u t H_88 locs ht hvm hw hB hz1 hk1 hS2 => ?_)
    rw [hw]
    clear hw
    obtain ⟨hP1, -, hD1⟩ := hB
    rw [ht] at hP1
    replace hD := hD1.weaken (fun _ _ _ h => hFc _ h)
    replace hP := hP1
    replace hS := hS2
    clear hP1 hD1 hS2 hFc hfc hz1 hk1 hvm ht
    refine lv_if_eq (tgt := 55) hx hb dX16_lookAll_14 (by decide) (fun c_89 => ?_) (fun c_89 => ?_)
    · skip
      rw [if_pos c_89] at hf
      exact B55 (z_86) ls H_88 locs ⟨lv_sub hl [1] rfl, hP, hD, hS⟩ hf
    · skip
      rw [if_neg c_89] at hf
      refine lv_aload_n hx hb dX16_lookAll_17 rfl (lv_at hl 1 rfl) ?_
      obtain ⟨k_90, ek_90, hf⟩ := lnk_some hf
      refine va_get (D := (dC, dI)) (ci := 16) (v := .ref (a k_90)) (C := RX16) (T := TX16) (N := 18) hx hb hts iwd_X16_lookAll_X16 hown hK hP h0 (Wd_ob kg_4 sg_4 (by decide)) rfl 11 (by decide) (hts _ md_X16_lookAll_2) (fun _ h9 => h9) (fl_q rfl ek_90) dX16_lookAll_18 ?_
      refine lv_iload_n hx hb dX16_lookAll_21 rfl (lv_at hl 0 rfl) ?_
      obtain ⟨g_91, hf⟩ := grd_some hf
      obtain ⟨kg_91, sg_91, ig_91⟩ := okA_at g_91
      refine va_iald hx hb hK hP k_90 1 (Wd_ai kg_91 sg_91) rfl ig_91 dX16_lookAll_22 ?_
      refine lv_iconst (v := 2) hx hb dX16_lookAll_23 (by decide) ?_
      refine lv_iadd hx hb dX16_lookAll_24 ?_
      refine lv_topi (fun v_92 ev_92 => ?_)
      replace hf := lt_at ev_92 hf
      clear ev_92
      refine lv_istore_n (lv' := [(2, .int v_92), (1, .int p_1), (0, .ref (a h0))]) hx hb dX16_lookAll_25 rfl hl (by decide) rfl (fun ls hl2 => ?_)
      replace hl := hl2
      clear hl2
      refine lv_iconst (v := 0) hx hb dX16_lookAll_26 (by decide) ?_
      refine lv_istore_n (lv' := [(3, .int 0), (2, .int v_92), (1, .int p_1), (0, .ref (a h0))]) hx hb dX16_lookAll_27 rfl hl (by decide) rfl (fun ls hl2 => ?_)
      replace hl := hl2
      clear hl2
      have hl0 : lv_has ls 4 [(3, .int 0), (2, .int v_92), (1, .int p_1), (0, .ref (a h0))] := lv_sub hl [0, 1, 2, 3] rfl
      refine de_loop (h := 28) (fun (x : St × Int32 × Int32) ls H locs => lv_has ls 4 [(3, .int x.2.2), (2, .int x.2.1), (1, .int p_1), (0, .ref (a h0))] ∧ va_P (dC, dI) vwCl (Wd cy a sh n x.1) H ∧ va_D A (Wd cy a sh n x.1) ∧ va_S A s.heap H locs) (fun f x => fn_X16_lookAll_L28 F sh n h0 p_1 (fun z9 q1 => fn_X16_lookAll_L2 F sh n h0 f_3 z9 q1) f x.1 x.2.1 x.2.2) (z8, r8) ?_ (fun _ => rfl) F (z_86, v_92, 0) ls H_88 locs ⟨hl0, hP, hD, hS⟩ hf
      intro f_96 x ls H locs ih28 hI hf
      obtain ⟨z_95, p_93, p_94⟩ := x
      obtain ⟨hl2, hP2, hD2, hS2⟩ := hI
      replace hl : lv_has ls 4 [(3, .int p_94), (2, .int p_93), (1, .int p_1), (0, .ref (a h0))] := hl2
      replace hP := hP2
      replace hD := hD2
      replace hS := hS2
      clear hl2 hP2 hD2 hS2 hl0
      replace hf := fn_X16_lookAll_L28_s hf
      refine lv_iload_n hx hb dX16_lookAll_28 rfl (lv_at hl 0 rfl) ?_
      refine lv_aload_n hx hb dX16_lookAll_29 rfl (lv_at hl 3 rfl) ?_
      refine lv_iload_n hx hb dX16_lookAll_30 rfl (lv_at hl 2 rfl) ?_
      obtain ⟨z_97, r_98, hfc, hf⟩ := cal_some hf
      have hFc := de_free hD hS hA
      refine va_calli (va_runV (As := [.int p_1]) (rest := [.int p_94]) ⟨hx, hb, hml, hown, hts⟩ (de_X16_fieldsOf l dC dI cy a sh n H.size F z_95 h0 p_1 hfc) (cwV 1 hts gX16_lookAll_X16_fieldsOf rfl rfl rfl (by decide +kernel) ⟨Nat.le_of_ble_eq_true rfl, Nat.le_of_ble_eq_true rfl⟩) ⟨fun a U g mk q => by obtain ⟨q0, q1, qP, qK, qD, qN⟩ := q; exact ⟨q0, q1, qP, va_K.moved (u := U) (U := U.calling g mk a) (Vm.Alike.refl U.vm) qK, qD, qN.same rfl⟩, va_recv hK hP (ci := 16) (q0 := h0) rfl (Wd_ob kg_4 sg_4 (by decide)), fun U hU hW => ⟨rfl, by rw [hU], by rw [hU]; exact hP, va_K.moved hW.alike hK, hD.weaken (fun _ _ _ _ => trivial), hN.warm hW⟩⟩ rfl rfl hl.1 rfl (lv_room (Nat.le_of_ble_eq_true rfl)) dX16_lookAll_31 ⟨Nat.le_of_ble_eq_true rfl, Nat.le_of_ble_eq_true rfl⟩) hS (fun q _ h => hFc q h) hFc (fun rr u t H_99 locs ht hvm hw hB hz1 hk1 hS2 => ?_)
      rw [hw]
      clear hw
      obtain ⟨hP1, -, hD1⟩ := hB
      rw [ht] at hP1
      replace hD := hD1.weaken (fun _ _ _ h => hFc _ h)
      replace hP := hP1
      replace hS := hS2
      clear hP1 hD1 hS2 hFc hfc hz1 hk1 hvm ht
      refine lv_icmp_ge (tgt := 49) hx hb dX16_lookAll_34 (by decide) (fun c_100 => ?_) (fun c_100 => ?_)
      · skip
        rw [if_pos c_100] at hf
        refine lv_iinc (v := (p_1 + 1)) (lv' := [(1, .int (p_1 + 1)), (3, .int p_94), (2, .int p_93), (0, .ref (a h0))]) hx hb dX16_lookAll_49 hl (k := 2) rfl rfl (by decide) rfl (fun ls hl2 => ?_)
        replace hl := hl2
        clear hl2
        refine lv_goto (tgt := 2) hx hb dX16_lookAll_52 (by decide) ?_
        exact ih2 (z_97, (p_1 + 1)) ls H_99 locs ⟨lv_sub hl [0, 3] rfl, hP, hD, hS⟩ hf
      · skip
        rw [if_neg c_100] at hf
        refine lv_aload_n hx hb dX16_lookAll_37 rfl (lv_at hl 3 rfl) ?_
        refine lv_iload_n hx hb dX16_lookAll_38 rfl (lv_at hl 1 rfl) ?_
        obtain ⟨z_101, r_102, hfc, hf⟩ := cal_some hf
        have hFc := de_free hD hS hA
        refine va_calli (va_runV (As := [.int p_93]) (rest := []) ⟨hx, hb, hml, hown, hts⟩ (de_X16_lookType l dC dI cy a sh n H_99.size F z_97 h0 p_93 hfc) (cwV 1 hts gX16_lookAll_X16_lookType rfl rfl rfl (by decide +kernel) ⟨Nat.le_of_ble_eq_true rfl, Nat.le_of_ble_eq_true rfl⟩) ⟨fun a U g mk q => by obtain ⟨q0, q1, qP, qK, qD, qN⟩ := q; exact ⟨q0, q1, qP, va_K.moved (u := U) (U := U.calling g mk a) (Vm.Alike.refl U.vm) qK, qD, qN.same rfl⟩, va_recv hK hP (ci := 16) (q0 := h0) rfl (Wd_ob kg_4 sg_4 (by decide)), fun U hU hW => ⟨rfl, by rw [hU], by rw [hU]; exact hP, va_K.moved hW.alike hK, hD.weaken (fun _ _ _ _ => trivial), hN.warm hW⟩⟩ rfl rfl hl.1 rfl (lv_room (Nat.le_of_ble_eq_true rfl)) dX16_lookAll_39 ⟨Nat.le_of_ble_eq_true rfl, Nat.le_of_ble_eq_true rfl⟩) hS (fun q _ h => hFc q h) hFc (fun rr u t H_103 locs ht hvm hw hB hz1 hk1 hS2 => ?_)
        rw [hw]
        clear hw
        obtain ⟨hP1, -, hD1⟩ := hB
        rw [ht] at hP1
        replace hD := hD1.weaken (fun _ _ _ h => hFc _ h)
        replace hP := hP1
        replace hS := hS2
        clear hP1 hD1 hS2 hFc hfc hz1 hk1 hvm ht
        refine lv_istore_n (lv' := [(2, .int r_102), (3, .int p_94), (1, .int p_1), (0, .ref (a h0))]) hx hb dX16_lookAll_42 rfl hl (by decide) rfl (fun ls hl2 => ?_)
        replace hl := hl2
        clear hl2
        refine lv_iinc (v := (p_94 + 1)) (lv' := [(3, .int (p_94 + 1)), (2, .int r_102), (1, .int p_1), (0, .ref (a h0))]) hx hb dX16_lookAll_43 hl (k := 1) rfl rfl (by decide) rfl (fun ls hl2 => ?_)
        replace hl := hl2
        clear hl2
        refine lv_goto (tgt := 28) hx hb dX16_lookAll_46 (by decide) ?_
        exact ih28 (z_101, r_102, (p_94 + 1)) ls H_103 locs ⟨lv_sub hl [0, 1, 2, 3] rfl, hP, hD, hS⟩ hf

theorem md_X4_step_1 : (.fieldLink RX4 38 "ResourceLedger$Machine" "programs" "[LResourceLedger$Program;" : Cond) ∈ wsX4_step := List.mem_of_getElem? (i := 1) rfl
theorem iwd_X4_step_X4 : ∀ w ∈ wsX40, w ∈ wsX4_step := fun _ h => List.mem_cons_of_mem _ (List.mem_append_left _ (List.mem_append_left _ (List.mem_append_left _ (List.mem_append_left _ (List.mem_append_left _ (List.mem_append_left _ (List.mem_append_left _ (List.mem_append_right _ h))))))))
theorem md_X4_step_2 : (.fieldLink RX4 101 "ResourceLedger$Machine" "top" "I" : Cond) ∈ wsX4_step := List.mem_of_getElem? (i := 2) rfl
theorem md_X4_step_3 : (.fieldLink RX4 46 "ResourceLedger$Machine" "nexts" "[I" : Cond) ∈ wsX4_step := List.mem_of_getElem? (i := 3) rfl
theorem md_X4_step_5 : (.fieldLink RX4 71 "ResourceLedger$Machine" "slips" "I" : Cond) ∈ wsX4_step := List.mem_of_getElem? (i := 5) rfl
theorem md_X4_step_6 : (.constantLong RX4 146 (4) : Cond) ∈ wsX4_step := List.mem_of_getElem? (i := 6) rfl
theorem md_X4_step_4 : (.fieldLink RX4 42 "ResourceLedger$Machine" "functions" "[I" : Cond) ∈ wsX4_step := List.mem_of_getElem? (i := 4) rfl
theorem md_X4_step_11 : (.fieldLink RX4 239 "ResourceLedger$Program" "number" "I" : Cond) ∈ wsX4_step := List.mem_of_getElem? (i := 11) rfl
theorem iwd_X4_step_X5 : ∀ w ∈ wsX50, w ∈ wsX4_step := fun _ h => List.mem_cons_of_mem _ (List.mem_append_left _ (List.mem_append_left _ (List.mem_append_left _ (List.mem_append_left _ (List.mem_append_left _ (List.mem_append_left _ (List.mem_append_right _ h)))))))
theorem md_X4_step_7 : (.methodLink RX4 207 Lib.Math.min.name : Cond) ∈ wsX4_step := List.mem_of_getElem? (i := 7) rfl
theorem md_X4_step_8 : (.static Lib.Math.min.name : Cond) ∈ wsX4_step := List.mem_of_getElem? (i := 8) rfl
theorem md_X4_step_9 : (.initialized "java/lang/Math" : Cond) ∈ wsX4_step := List.mem_of_getElem? (i := 9) rfl
theorem md_X4_step_10 : (.code Lib.Math.min.name Lib.Math.min.code 2 (some .int) : Cond) ∈ wsX4_step := List.mem_of_getElem? (i := 10) rfl
set_option maxHeartbeats 4000000 in
set_option maxRecDepth 100000 in
theorem de_X4_step (l : Launch) (dC : Nat → ClassId) (dI : Nat → Nat → Nat) (cy : Nat → ClassId) (a : Nat → Nat) (sh : Nat → Nat × Nat) (n sz : Nat) (F : Nat) (sk : Nat → Nat) (z : St) (h0 : Nat) {z8 : St} {r8 : Unit} (hf : fn_X4_step F sh n z h0 = some (z8, r8)) : Met l yX4_step wsX4_step ({ frames := 53, cells := 0, slots := 0, locals := 1473 }) (va_Pc [.ref (a h0)] (fun U => U.heap.size = sz ∧ va_P (dC, dI) vwCl (Wd cy a sh n z) U.heap ∧ va_K (dC, dI) vwCl (TYS cy) U ∧ va_D (fun _ => True) (Wd cy a sh n z) ∧ NK U ∧ SKs sk (a CBK) (va_A (Wd cy a sh n z) sz) U U.heap)) (va_Qv (fun u : Unit => True) (fun u t => va_P (dC, dI) vwCl (Wd cy a sh n z8) t.heap ∧ va_K (dC, dI) vwCl (TYS cy) t ∧ va_D (va_A (Wd cy a sh n z) sz) (Wd cy a sh n z8)) (va_A (Wd cy a sh n z) sz)) 0 0 (va_A (Wd cy a sh n z) sz) := by
  refine Met.ofW (cc := cX4_step) (maxL := 8) (ret := none) (by decide) rfl ?_
  intro p e s m args below meth c s₁ B hml hv
  obtain ⟨rfl, hsz, hP, hK, hD0, hN, hSK⟩ := hv
  have hx := B.exec
  have hb := B.bytes
  have hr := B.returns
  have hts := atoms_spec (ws := wsX4_step) B.pre
  have hown : s.vm.findClass RX4 = some m.cls := findClass_of_methodNamed B.named
  have hlocks := B.notSynchronized
  subst hsz
  have hD := hD0.self (sz := s.heap.size)
  clear hD0
  generalize hAe : va_A (Wd cy a sh n z) s.heap.size = A at hD hSK ⊢
  have hA : ∀ q : Nat, s.heap.size ≤ q → A q := fun q h => by rw [← hAe]; exact Or.inr h
  clear hAe
  have hS : va_S A s.heap s.heap [] := va_S.rf
  have hl := lv_entry ([.ref (a h0)]) (n := 8) (Nat.le_of_ble_eq_true rfl)
  rw [lg_entry_eq]
  generalize (lg_sl ([.ref (a h0)]) ++ List.replicate (8 - (lg_sl ([.ref (a h0)])).length) Slot.unset).toArray = ls at hl ⊢
  replace hl : lv_has ls 8 [(0, .ref (a h0))] := hl
  unfold fn_X4_step at hf
  refine de_start hS hP (fun H locs hS hP => ?_)
  refine lv_aload_n hx hb dX4_step_0 rfl (lv_at hl 0 rfl) ?_
  obtain ⟨g_1, hf⟩ := grd_some hf
  obtain ⟨kg_1, sg_1⟩ := okO_at g_1
  obtain ⟨k_2, ek_2, hf⟩ := lnk_some hf
  refine va_get (D := (dC, dI)) (ci := 4) (v := .ref (a k_2)) (C := RX4) (T := TX4) (N := 19) hx hb hts iwd_X4_step_X4 hown hK hP h0 (Wd_ob kg_1 sg_1 (by decide)) rfl 6 (by decide) (hts _ md_X4_step_1) (fun _ h9 => h9) (fl_q rfl ek_2) dX4_step_1 ?_
  refine lv_aload_n hx hb dX4_step_4 rfl (lv_at hl 0 rfl) ?_
  refine va_get (D := (dC, dI)) (ci := 4) (v := .int (z.1 h0 12)) (C := RX4) (T := TX4) (N := 19) hx hb hts iwd_X4_step_X4 hown hK hP h0 (Wd_ob kg_1 sg_1 (by decide)) rfl 12 (by decide) (hts _ md_X4_step_2) (fun _ h9 => h9) (fl_at (t := 0) rfl) dX4_step_5 ?_
  obtain ⟨g_3, hf⟩ := grd_some hf
  obtain ⟨kg_3, sg_3, ig_3⟩ := okA_at g_3
  obtain ⟨k_4, ek_4, hf⟩ := lnk_some hf
  refine va_aldq (C := RX5) hx hb hK hP k_2 4 (Wd_aq kg_3 sg_3 (by decide)) rfl ig_3 dX4_step_8 ?_
  refine W.eq (g2 := F0 m 9 ls [.ref (a k_4)]) (by rw [ek_4]; rfl) ?_
  refine lv_astore_n (lv' := [(1, .ref (a k_4)), (0, .ref (a h0))]) hx hb dX4_step_9 rfl hl (by decide) rfl (fun ls hl2 => ?_)
  replace hl := hl2
  clear hl2
  refine lv_aload_n hx hb dX4_step_10 rfl (lv_at hl 1 rfl) ?_
  obtain ⟨k_5, ek_5, hf⟩ := lnk_some hf
  refine va_get (D := (dC, dI)) (ci := 4) (v := .ref (a k_5)) (C := RX4) (T := TX4) (N := 19) hx hb hts iwd_X4_step_X4 hown hK hP h0 (Wd_ob kg_1 sg_1 (by decide)) rfl 8 (by decide) (hts _ md_X4_step_3) (fun _ h9 => h9) (fl_q rfl ek_5) dX4_step_11 ?_
  refine lv_aload_n hx hb dX4_step_14 rfl (lv_at hl 1 rfl) ?_
  refine va_get (D := (dC, dI)) (ci := 4) (v := .int (z.1 h0 12)) (C := RX4) (T := TX4) (N := 19) hx hb hts iwd_X4_step_X4 hown hK hP h0 (Wd_ob kg_1 sg_1 (by decide)) rfl 12 (by decide) (hts _ md_X4_step_2) (fun _ h9 => h9) (fl_at (t := 0) rfl) dX4_step_15 ?_
  obtain ⟨g_6, hf⟩ := grd_some hf
  obtain ⟨kg_6, sg_6, ig_6⟩ := okA_at g_6
  refine va_iald hx hb hK hP k_5 1 (Wd_ai kg_6 sg_6) rfl ig_6 dX4_step_18 ?_
  refine lv_topi (fun v_7 ev_7 => ?_)
  replace hf := lt_at ev_7 hf
  clear ev_7
  refine lv_istore_n (lv' := [(2, .int v_7), (1, .ref (a k_4)), (0, .ref (a h0))]) hx hb dX4_step_19 rfl hl (by decide) rfl (fun ls hl2 => ?_)
  replace hl := hl2
  clear hl2
  refine lv_aload_n hx hb dX4_step_20 rfl (lv_at hl 1 rfl) ?_
  refine de_cut (h := 41) (fun (x : St) => []) (fun x ls H locs => lv_has ls 8 [(0, .ref (a h0))] ∧ va_P (dC, dI) vwCl (Wd cy a sh n x) H ∧ va_D A (Wd cy a sh n x) ∧ va_S A s.heap H locs) (fun x => fn_X4_step_B41 F sh n h0 x) (z8, r8) ?_ (fun B41 => ?_)
  · intro x ls H locs hI hf
    obtain ⟨z_8, ez⟩ : ∃ w, w = x := ⟨_, rfl⟩
    subst ez
    obtain ⟨hl2, hP2, hD2, hS2⟩ := hI
    replace hl : lv_has ls 8 [(0, .ref (a h0))] := hl2
    replace hP := hP2
    replace hD := hD2
    replace hS := hS2
    clear hl2 hP2 hD2 hS2
    replace hf := fn_X4_step_B41_s hf
    refine W.eq (g2 := F0 m 41 ls []) rfl ?_
    refine lv_aload_n hx hb dX4_step_41 rfl (lv_at hl 0 rfl) ?_
    refine lv_dup hx hb dX4_step_42 rfl ?_
    refine va_get (D := (dC, dI)) (ci := 4) (v := .int (z_8.1 h0 18)) (C := RX4) (T := TX4) (N := 19) hx hb hts iwd_X4_step_X4 hown hK hP h0 (Wd_ob kg_1 sg_1 (by decide)) rfl 18 (by decide) (hts _ md_X4_step_5) (fun _ h9 => h9) (fl_at (t := 0) rfl) dX4_step_43 ?_
    refine lv_iconst (v := 1) hx hb dX4_step_46 (by decide) ?_
    refine lv_iadd hx hb dX4_step_47 ?_
    refine va_put (D := (dC, dI)) (ci := 4) (v := .int ((z_8.1 h0 18) + 1)) (ty := .int) (C := RX4) (T := TX4) (N := 19) hx hb hts iwd_X4_step_X4 tyX4 tyX4_ok nmX4 hown hK hP hD hS h0 (Wd_ob kg_1 sg_1 (by decide)) rfl 18 (by decide) (hts _ md_X4_step_5) (fun _ h9 => h9) rfl (by decide +kernel) rfl rfl (by rw [fl_len]; decide) dX4_step_48 (fun H_9 locs hP2 hD2 hS2 => ?_)
    rw [Wd_si sg_1 (by decide) rfl] at hP2 hD2
    obtain ⟨z_10, ez_10⟩ : ∃ w, w = si z_8 h0 18 ((z_8.1 h0 18) + 1) := ⟨_, rfl⟩
    rw [← ez_10] at hP2 hD2
    replace hf := lt_at ez_10 hf
    clear ez_10
    replace hP := hP2
    replace hD := hD2
    replace hS := hS2
    clear hP2 hD2 hS2
    refine lv_aload_n hx hb dX4_step_51 rfl (lv_at hl 0 rfl) ?_
    refine lv_iconst (v := 2) hx hb dX4_step_52 (by decide) ?_
    refine lv_ldc2 hx hb hown (hts _ md_X4_step_6) dX4_step_53 ?_
    obtain ⟨z_11, _u, hfc, hf⟩ := cal_some hf
    have hFc := de_free hD hS hA
    refine va_callv (va_runV (As := [.int 2, .long 4]) (rest := []) ⟨hx, hb, hml, hown, hts⟩ (de_X4_end l dC dI cy a sh n H_9.size F z_10 h0 2 4 hfc) (cwV 2 hts gX4_step_X4_end rfl rfl rfl (by decide +kernel) ⟨Nat.le_of_ble_eq_true rfl, Nat.le_of_ble_eq_true rfl⟩) ⟨fun a U g mk q => by obtain ⟨q0, q1, qP, qK, qD, qN⟩ := q; exact ⟨q0, q1, qP, va_K.moved (u := U) (U := U.calling g mk a) (Vm.Alike.refl U.vm) qK, qD, qN.same rfl⟩, va_recv hK hP (ci := 4) (q0 := h0) rfl (Wd_ob kg_1 sg_1 (by decide)), fun U hU hW => ⟨rfl, by rw [hU], by rw [hU]; exact hP, va_K.moved hW.alike hK, hD.weaken (fun _ _ _ _ => trivial), hN.warm hW⟩⟩ rfl rfl hl.1 rfl (lv_room (Nat.le_of_ble_eq_true rfl)) dX4_step_56 ⟨Nat.le_of_ble_eq_true rfl, Nat.le_of_ble_eq_true rfl⟩) hS (fun q _ h => hFc q h) hFc (fun u t H_12 locs ht hvm hw hB hz1 hk1 hS2 => ?_)
    obtain ⟨hP1, -, hD1⟩ := hB
    rw [ht] at hP1
    replace hD := hD1.weaken (fun _ _ _ h => hFc _ h)
    replace hP := hP1
    replace hS := hS2
    clear hP1 hD1 hS2 hFc hfc hz1 hk1 hvm ht
    obtain ⟨h8, h9⟩ := ret_some hf
    rw [h8]
    exact W.vret hx hb hr (fun t ht hW => ⟨⟨(), rfl, trivial, by rw [ht]; exact hP, va_K.moved hW.alike hK, hD⟩, hS.F ht⟩) hS.2.2 dX4_step_59
  refine lv_ifnull hx hb dX4_step_21 ?_
  refine lv_iload_n hx hb dX4_step_24 rfl (lv_at hl 0 rfl) ?_
  refine lv_aload_n hx hb dX4_step_25 rfl (lv_at hl 1 rfl) ?_
  refine lv_aload_n hx hb dX4_step_26 rfl (lv_at hl 2 rfl) ?_
  obtain ⟨k_13, ek_13, hf⟩ := lnk_some hf
  refine va_get (D := (dC, dI)) (ci := 4) (v := .ref (a k_13)) (C := RX4) (T := TX4) (N := 19) hx hb hts iwd_X4_step_X4 hown hK hP h0 (Wd_ob kg_1 sg_1 (by decide)) rfl 7 (by decide) (hts _ md_X4_step_4) (fun _ h9 => h9) (fl_q rfl ek_13) dX4_step_27 ?_
  refine lv_aload_n hx hb dX4_step_30 rfl (lv_at hl 2 rfl) ?_
  refine va_get (D := (dC, dI)) (ci := 4) (v := .int (z.1 h0 12)) (C := RX4) (T := TX4) (N := 19) hx hb hts iwd_X4_step_X4 hown hK hP h0 (Wd_ob kg_1 sg_1 (by decide)) rfl 12 (by decide) (hts _ md_X4_step_2) (fun _ h9 => h9) (fl_at (t := 0) rfl) dX4_step_31 ?_
  obtain ⟨g_14, hf⟩ := grd_some hf
  obtain ⟨kg_14, sg_14, ig_14⟩ := okA_at g_14
  refine va_iald hx hb hK hP k_13 1 (Wd_ai kg_14 sg_14) rfl ig_14 dX4_step_34 ?_
  obtain ⟨g_17, hf⟩ := grd_some hf
  obtain ⟨kg_17, sg_17⟩ := okO_at g_17
  obtain ⟨z_15, r_16, hfc, hf⟩ := cal_some hf
  have hFc := de_free hD hS hA
  refine va_calli (va_runV (As := [.int (z.1 k_13 (z.1 h0 12).toNatClampNeg)]) (rest := [.int v_7]) ⟨hx, hb, hml, hown, hts⟩ (de_X5_instructions l dC dI cy a sh n H.size F z k_4 (z.1 k_13 (z.1 h0 12).toNatClampNeg) hfc) (cwV 1 hts gX4_step_X5_instructions rfl rfl rfl (by decide +kernel) ⟨Nat.le_of_ble_eq_true rfl, Nat.le_of_ble_eq_true rfl⟩) ⟨fun a U g mk q => by obtain ⟨q0, q1, qP, qK, qD, qN⟩ := q; exact ⟨q0, q1, qP, va_K.moved (u := U) (U := U.calling g mk a) (Vm.Alike.refl U.vm) qK, qD, qN.same rfl⟩, va_recv hK hP (ci := 5) (q0 := k_4) rfl (Wd_ob kg_17 sg_17 (by decide)), fun U hU hW => ⟨rfl, by rw [hU], by rw [hU]; exact hP, va_K.moved hW.alike hK, hD.weaken (fun _ _ _ _ => trivial), hN.warm hW⟩⟩ rfl rfl hl.1 rfl (lv_room (Nat.le_of_ble_eq_true rfl)) dX4_step_35 ⟨Nat.le_of_ble_eq_true rfl, Nat.le_of_ble_eq_true rfl⟩) hS (fun q _ h => hFc q h) hFc (fun rr u t H_18 locs ht hvm hw hB hz1 hk1 hS2 => ?_)
  rw [hw]
  clear hw
  obtain ⟨hP1, -, hD1⟩ := hB
  rw [ht] at hP1
  replace hD := hD1.weaken (fun _ _ _ h => hFc _ h)
  replace hP := hP1
  replace hS := hS2
  clear hP1 hD1 hS2 hFc hfc hz1 hk1 hvm ht
  refine lv_icmp_lt (tgt := 60) hx hb dX4_step_38 (by decide) (fun c_19 => ?_) (fun c_19 => ?_)
  · skip
    rw [if_pos c_19] at hf
    refine lv_aload_n hx hb dX4_step_60 rfl (lv_at hl 1 rfl) ?_
    refine lv_aload_n hx hb dX4_step_61 rfl (lv_at hl 2 rfl) ?_
    obtain ⟨k_20, ek_20, hf⟩ := lnk_some hf
    refine va_get (D := (dC, dI)) (ci := 4) (v := .ref (a k_20)) (C := RX4) (T := TX4) (N := 19) hx hb hts iwd_X4_step_X4 hown hK hP h0 (Wd_ob kg_1 sg_1 (by decide)) rfl 7 (by decide) (hts _ md_X4_step_4) (fun _ h9 => h9) (fl_q rfl ek_20) dX4_step_62 ?_
    refine lv_aload_n hx hb dX4_step_65 rfl (lv_at hl 2 rfl) ?_
    refine va_get (D := (dC, dI)) (ci := 4) (v := .int (z_15.1 h0 12)) (C := RX4) (T := TX4) (N := 19) hx hb hts iwd_X4_step_X4 hown hK hP h0 (Wd_ob kg_1 sg_1 (by decide)) rfl 12 (by decide) (hts _ md_X4_step_2) (fun _ h9 => h9) (fl_at (t := 0) rfl) dX4_step_66 ?_
    obtain ⟨g_21, hf⟩ := grd_some hf
    obtain ⟨kg_21, sg_21, ig_21⟩ := okA_at g_21
    refine va_iald hx hb hK hP k_20 1 (Wd_ai kg_21 sg_21) rfl ig_21 dX4_step_69 ?_
    refine lv_iload_n hx hb dX4_step_70 rfl (lv_at hl 0 rfl) ?_
    obtain ⟨z_22, r_23, hfc, hf⟩ := cal_some hf
    have hFc := de_free hD hS hA
    refine va_calli (va_runV (As := [.int (z_15.1 k_20 (z_15.1 h0 12).toNatClampNeg), .int v_7]) (rest := []) ⟨hx, hb, hml, hown, hts⟩ (de_X5_instructionPlace l dC dI cy a sh n H_18.size F z_15 k_4 (z_15.1 k_20 (z_15.1 h0 12).toNatClampNeg) v_7 hfc) (cwV 2 hts gX4_step_X5_instructionPlace rfl rfl rfl (by decide +kernel) ⟨Nat.le_of_ble_eq_true rfl, Nat.le_of_ble_eq_true rfl⟩) ⟨fun a U g mk q => by obtain ⟨q0, q1, qP, qK, qD, qN⟩ := q; exact ⟨q0, q1, qP, va_K.moved (u := U) (U := U.calling g mk a) (Vm.Alike.refl U.vm) qK, qD, qN.same rfl⟩, va_recv hK hP (ci := 5) (q0 := k_4) rfl (Wd_ob kg_17 sg_17 (by decide)), fun U hU hW => ⟨rfl, by rw [hU], by rw [hU]; exact hP, va_K.moved hW.alike hK, hD.weaken (fun _ _ _ _ => trivial), hN.warm hW⟩⟩ rfl rfl hl.1 rfl (lv_room (Nat.le_of_ble_eq_true rfl)) dX4_step_71 ⟨Nat.le_of_ble_eq_true rfl, Nat.le_of_ble_eq_true rfl⟩) hS (fun q _ h => hFc q h) hFc (fun rr u t H_24 locs ht hvm hw hB hz1 hk1 hS2 => ?_)
    rw [hw]
    clear hw
    obtain ⟨hP1, -, hD1⟩ := hB
    rw [ht] at hP1
    replace hD := hD1.weaken (fun _ _ _ h => hFc _ h)
    replace hP := hP1
    replace hS := hS2
    clear hP1 hD1 hS2 hFc hfc hz1 hk1 hvm ht
    refine lv_istore_n (lv' := [(3, .int r_23), (2, .int v_7), (1, .ref (a k_4)), (0, .ref (a h0))]) hx hb dX4_step_74 rfl hl (by decide) rfl (fun ls hl2 => ?_)
    replace hl := hl2
    clear hl2
    refine lv_aload_n hx hb dX4_step_75 rfl (lv_at hl 2 rfl) ?_
    refine lv_iload_n hx hb dX4_step_76 rfl (lv_at hl 0 rfl) ?_
    obtain ⟨z_25, r_26, hfc, hf⟩ := cal_some hf
    have hFc := de_free hD hS hA
    refine va_calli (va_runV (As := [.int r_23]) (rest := []) ⟨hx, hb, hml, hown, hts⟩ (de_X5_at l dC dI cy a sh n H_24.size F sk z_22 k_4 r_23 hfc) (cwV 1 hts gX4_step_X5_at rfl rfl rfl (by decide +kernel) ⟨Nat.le_of_ble_eq_true rfl, Nat.le_of_ble_eq_true rfl⟩) ⟨fun a U g mk q => by obtain ⟨q0, q1, qP, qK, qD, qN, qS⟩ := q; exact ⟨q0, q1, qP, va_K.moved (u := U) (U := U.calling g mk a) (Vm.Alike.refl U.vm) qK, qD, qN.same rfl, SKs.moved (u := U) (U := U.calling g mk a) (Vm.Alike.refl U.vm) qS⟩, va_recv hK hP (ci := 5) (q0 := k_4) rfl (Wd_ob kg_17 sg_17 (by decide)), fun U hU hW => ⟨rfl, by rw [hU], by rw [hU]; exact hP, va_K.moved hW.alike hK, hD.weaken (fun _ _ _ _ => trivial), hN.warm hW, by rw [hU]; exact ((hSK.kept hS.2.1).narrow hFc).moved hW.alike⟩⟩ rfl rfl hl.1 rfl (lv_room (Nat.le_of_ble_eq_true rfl)) dX4_step_77 ⟨Nat.le_of_ble_eq_true rfl, Nat.le_of_ble_eq_true rfl⟩) hS (fun q _ h => hFc q h) hFc (fun rr u t H_27 locs ht hvm hw hB hz1 hk1 hS2 => ?_)
    rw [hw]
    clear hw
    obtain ⟨hP1, -, hD1⟩ := hB
    rw [ht] at hP1
    replace hD := hD1.weaken (fun _ _ _ h => hFc _ h)
    replace hP := hP1
    replace hS := hS2
    clear hP1 hD1 hS2 hFc hfc hz1 hk1 hvm ht
    refine lv_istore (lv' := [(4, .int r_26), (3, .int r_23), (2, .int v_7), (1, .ref (a k_4)), (0, .ref (a h0))]) hx hb dX4_step_80 hl (by decide) rfl (fun ls hl2 => ?_)
    replace hl := hl2
    clear hl2
    refine lv_aload_n hx hb dX4_step_82 rfl (lv_at hl 3 rfl) ?_
    refine lv_iload_n hx hb dX4_step_83 rfl (lv_at hl 1 rfl) ?_
    refine lv_iconst (v := 1) hx hb dX4_step_84 (by decide) ?_
    refine lv_iadd hx hb dX4_step_85 ?_
    obtain ⟨z_28, r_29, hfc, hf⟩ := cal_some hf
    have hFc := de_free hD hS hA
    refine va_calli (va_runV (As := [.int (r_23 + 1)]) (rest := []) ⟨hx, hb, hml, hown, hts⟩ (de_X5_at l dC dI cy a sh n H_27.size F sk z_25 k_4 (r_23 + 1) hfc) (cwV 1 hts gX4_step_X5_at rfl rfl rfl (by decide +kernel) ⟨Nat.le_of_ble_eq_true rfl, Nat.le_of_ble_eq_true rfl⟩) ⟨fun a U g mk q => by obtain ⟨q0, q1, qP, qK, qD, qN, qS⟩ := q; exact ⟨q0, q1, qP, va_K.moved (u := U) (U := U.calling g mk a) (Vm.Alike.refl U.vm) qK, qD, qN.same rfl, SKs.moved (u := U) (U := U.calling g mk a) (Vm.Alike.refl U.vm) qS⟩, va_recv hK hP (ci := 5) (q0 := k_4) rfl (Wd_ob kg_17 sg_17 (by decide)), fun U hU hW => ⟨rfl, by rw [hU], by rw [hU]; exact hP, va_K.moved hW.alike hK, hD.weaken (fun _ _ _ _ => trivial), hN.warm hW, by rw [hU]; exact ((hSK.kept hS.2.1).narrow hFc).moved hW.alike⟩⟩ rfl rfl hl.1 rfl (lv_room (Nat.le_of_ble_eq_true rfl)) dX4_step_86 ⟨Nat.le_of_ble_eq_true rfl, Nat.le_of_ble_eq_true rfl⟩) hS (fun q _ h => hFc q h) hFc (fun rr u t H_30 locs ht hvm hw hB hz1 hk1 hS2 => ?_)
    rw [hw]
    clear hw
    obtain ⟨hP1, -, hD1⟩ := hB
    rw [ht] at hP1
    replace hD := hD1.weaken (fun _ _ _ h => hFc _ h)
    replace hP := hP1
    replace hS := hS2
    clear hP1 hD1 hS2 hFc hfc hz1 hk1 hvm ht
    refine lv_istore (lv' := [(5, .int r_29), (4, .int r_26), (3, .int r_23), (2, .int v_7), (1, .ref (a k_4)), (0, .ref (a h0))]) hx hb dX4_step_89 hl (by decide) rfl (fun ls hl2 => ?_)
    replace hl := hl2
    clear hl2
    refine lv_aload_n hx hb dX4_step_91 rfl (lv_at hl 5 rfl) ?_
    obtain ⟨k_31, ek_31, hf⟩ := lnk_some hf
    refine va_get (D := (dC, dI)) (ci := 4) (v := .ref (a k_31)) (C := RX4) (T := TX4) (N := 19) hx hb hts iwd_X4_step_X4 hown hK hP h0 (Wd_ob kg_1 sg_1 (by decide)) rfl 8 (by decide) (hts _ md_X4_step_3) (fun _ h9 => h9) (fl_q rfl ek_31) dX4_step_92 ?_
    refine lv_aload_n hx hb dX4_step_95 rfl (lv_at hl 5 rfl) ?_
    refine va_get (D := (dC, dI)) (ci := 4) (v := .int (z_28.1 h0 12)) (C := RX4) (T := TX4) (N := 19) hx hb hts iwd_X4_step_X4 hown hK hP h0 (Wd_ob kg_1 sg_1 (by decide)) rfl 12 (by decide) (hts _ md_X4_step_2) (fun _ h9 => h9) (fl_at (t := 0) rfl) dX4_step_96 ?_
    refine lv_iload_n hx hb dX4_step_99 rfl (lv_at hl 3 rfl) ?_
    refine lv_iconst (v := 1) hx hb dX4_step_100 (by decide) ?_
    refine lv_iadd hx hb dX4_step_101 ?_
    obtain ⟨g_32, hf⟩ := grd_some hf
    obtain ⟨kg_32, sg_32, ig_32⟩ := okA_at g_32
    refine va_iast hx hb hK hP hD hS k_31 1 (Wd_ai kg_32 sg_32) rfl ig_32 dX4_step_102 (fun H_33 locs hP2 hD2 hS2 => ?_)
    rw [Wd_ti sg_32] at hP2 hD2
    obtain ⟨z_34, ez_34⟩ : ∃ w, w = si z_28 k_31 (z_28.1 h0 12).toNatClampNeg (v_7 + 1) := ⟨_, rfl⟩
    rw [← ez_34] at hP2 hD2
    replace hf := lt_at ez_34 hf
    clear ez_34
    replace hP := hP2
    replace hD := hD2
    replace hS := hS2
    clear hP2 hD2 hS2
    refine lv_aload_n hx hb dX4_step_103 rfl (lv_at hl 5 rfl) ?_
    refine lv_iconst (v := 1) hx hb dX4_step_104 (by decide) ?_
    obtain ⟨z_35, r_36, hfc, hf⟩ := cal_some hf
    have hFc := de_free hD hS hA
    refine va_calli (va_runV (As := [.int 1]) (rest := []) ⟨hx, hb, hml, hown, hts⟩ (de_X4_pay l dC dI cy a sh n H_33.size F z_34 h0 1 hfc) (cwV 1 hts gX4_step_X4_pay rfl rfl rfl (by decide +kernel) ⟨Nat.le_of_ble_eq_true rfl, Nat.le_of_ble_eq_true rfl⟩) ⟨fun a U g mk q => by obtain ⟨q0, q1, qP, qK, qD, qN⟩ := q; exact ⟨q0, q1, qP, va_K.moved (u := U) (U := U.calling g mk a) (Vm.Alike.refl U.vm) qK, qD, qN.same rfl⟩, va_recv hK hP (ci := 4) (q0 := h0) rfl (Wd_ob kg_1 sg_1 (by decide)), fun U hU hW => ⟨rfl, by rw [hU], by rw [hU]; exact hP, va_K.moved hW.alike hK, hD.weaken (fun _ _ _ _ => trivial), hN.warm hW⟩⟩ rfl rfl hl.1 rfl (lv_room (Nat.le_of_ble_eq_true rfl)) dX4_step_105 ⟨Nat.le_of_ble_eq_true rfl, Nat.le_of_ble_eq_true rfl⟩) hS (fun q _ h => hFc q h) hFc (fun rr u t H_37 locs ht hvm hw hB hz1 hk1 hS2 => ?_)
    rw [hw]
    clear hw
    obtain ⟨hP1, -, hD1⟩ := hB
    rw [ht] at hP1
    replace hD := hD1.weaken (fun _ _ _ h => hFc _ h)
    replace hP := hP1
    replace hS := hS2
    clear hP1 hD1 hS2 hFc hfc hz1 hk1 hvm ht
    refine lv_if_ne (tgt := 112) hx hb dX4_step_108 (by decide) (fun c_38 => ?_) (fun c_38 => ?_)
    · skip
      rw [if_neg c_38] at hf
      refine lv_iload hx hb dX4_step_112 (lv_at hl 1 rfl) ?_
      refine lv_iconst (v := 4) hx hb dX4_step_114 (by decide) ?_
      refine de_cut (h := 125) (fun (x : St) => []) (fun x ls H locs => lv_has ls 8 [(4, .int r_26), (3, .int r_23), (1, .ref (a k_4)), (0, .ref (a h0))] ∧ va_P (dC, dI) vwCl (Wd cy a sh n x) H ∧ va_D A (Wd cy a sh n x) ∧ va_S A s.heap H locs) (fun x => fn_X4_step_B125 F sh n k_4 r_23 h0 r_26 x) (z8, r8) ?_ (fun B125 => ?_)
      · intro x ls H locs hI hf
        obtain ⟨z_39, ez⟩ : ∃ w, w = x := ⟨_, rfl⟩
        subst ez
        obtain ⟨hl2, hP2, hD2, hS2⟩ := hI
        replace hl : lv_has ls 8 [(4, .int r_26), (3, .int r_23), (1, .ref (a k_4)), (0, .ref (a h0))] := hl2
        replace hP := hP2
        replace hD := hD2
        replace hS := hS2
        clear hl2 hP2 hD2 hS2
        replace hf := fn_X4_step_B125_s hf
        refine W.eq (g2 := F0 m 125 ls []) rfl ?_
        refine lv_aload_n hx hb dX4_step_125 rfl (lv_at hl 3 rfl) ?_
        refine lv_iload hx hb dX4_step_126 (lv_at hl 0 rfl) ?_
        refine lv_aload_n hx hb dX4_step_128 rfl (lv_at hl 2 rfl) ?_
        refine lv_iload_n hx hb dX4_step_129 rfl (lv_at hl 1 rfl) ?_
        refine lv_iconst (v := 1) hx hb dX4_step_130 (by decide) ?_
        refine lv_iadd hx hb dX4_step_131 ?_
        refine lv_iconst (v := 2) hx hb dX4_step_132 (by decide) ?_
        obtain ⟨z_40, r_41, hfc, hf⟩ := cal_some hf
        have hFc := de_free hD hS hA
        refine va_calll (va_runV (As := [.int (r_23 + 1), .int 2]) (rest := [.int r_26, .ref (a h0)]) ⟨hx, hb, hml, hown, hts⟩ (de_X5_numberAt l dC dI cy a sh n H.size F sk z_39 k_4 (r_23 + 1) 2 hfc) (cwV 2 hts gX4_step_X5_numberAt rfl rfl rfl (by decide +kernel) ⟨Nat.le_of_ble_eq_true rfl, Nat.le_of_ble_eq_true rfl⟩) ⟨fun a U g mk q => by obtain ⟨q0, q1, qP, qK, qD, qN, qS⟩ := q; exact ⟨q0, q1, qP, va_K.moved (u := U) (U := U.calling g mk a) (Vm.Alike.refl U.vm) qK, qD, qN.same rfl, SKs.moved (u := U) (U := U.calling g mk a) (Vm.Alike.refl U.vm) qS⟩, va_recv hK hP (ci := 5) (q0 := k_4) rfl (Wd_ob kg_17 sg_17 (by decide)), fun U hU hW => ⟨rfl, by rw [hU], by rw [hU]; exact hP, va_K.moved hW.alike hK, hD.weaken (fun _ _ _ _ => trivial), hN.warm hW, by rw [hU]; exact ((hSK.kept hS.2.1).narrow hFc).moved hW.alike⟩⟩ rfl rfl hl.1 rfl (lv_room (Nat.le_of_ble_eq_true rfl)) dX4_step_133 ⟨Nat.le_of_ble_eq_true rfl, Nat.le_of_ble_eq_true rfl⟩) hS (fun q _ h => hFc q h) hFc (fun rr u t H_42 locs ht hvm hw hB hz1 hk1 hS2 => ?_)
        rw [hw]
        clear hw
        obtain ⟨hP1, -, hD1⟩ := hB
        rw [ht] at hP1
        replace hD := hD1.weaken (fun _ _ _ h => hFc _ h)
        replace hP := hP1
        replace hS := hS2
        clear hP1 hD1 hS2 hFc hfc hz1 hk1 hvm ht
        refine lv_l2i (v := (r_41 : Int64).toInt32) hx hb dX4_step_136 rfl ?_
        obtain ⟨z_43, _u, hfc, hf⟩ := cal_some hf
        have hFc := de_free hD hS hA
        refine va_callv (va_runV (As := [.int r_26, .int ((r_41 : Int64).toInt32)]) (rest := []) ⟨hx, hb, hml, hown, hts⟩ (de_X4_steer l dC dI cy a sh n H_42.size F z_40 h0 r_26 ((r_41 : Int64).toInt32) hfc) (cwV 2 hts gX4_step_X4_steer rfl rfl rfl (by decide +kernel) ⟨Nat.le_of_ble_eq_true rfl, Nat.le_of_ble_eq_true rfl⟩) ⟨fun a U g mk q => by obtain ⟨q0, q1, qP, qK, qD, qN⟩ := q; exact ⟨q0, q1, qP, va_K.moved (u := U) (U := U.calling g mk a) (Vm.Alike.refl U.vm) qK, qD, qN.same rfl⟩, va_recv hK hP (ci := 4) (q0 := h0) rfl (Wd_ob kg_1 sg_1 (by decide)), fun U hU hW => ⟨rfl, by rw [hU], by rw [hU]; exact hP, va_K.moved hW.alike hK, hD.weaken (fun _ _ _ _ => trivial), hN.warm hW⟩⟩ rfl rfl hl.1 rfl (lv_room (Nat.le_of_ble_eq_true rfl)) dX4_step_137 ⟨Nat.le_of_ble_eq_true rfl, Nat.le_of_ble_eq_true rfl⟩) hS (fun q _ h => hFc q h) hFc (fun u t H_44 locs ht hvm hw hB hz1 hk1 hS2 => ?_)
        obtain ⟨hP1, -, hD1⟩ := hB
        rw [ht] at hP1
        replace hD := hD1.weaken (fun _ _ _ h => hFc _ h)
        replace hP := hP1
        replace hS := hS2
        clear hP1 hD1 hS2 hFc hfc hz1 hk1 hvm ht
        refine lv_goto (tgt := 390) hx hb dX4_step_140 (by decide) ?_
        obtain ⟨h8, h9⟩ := ret_some hf
        rw [h8]
        exact W.vret hx hb hr (fun t ht hW => ⟨⟨(), rfl, trivial, by rw [ht]; exact hP, va_K.moved hW.alike hK, hD⟩, hS.F ht⟩) hS.2.2 dX4_step_390
      refine lv_icmp_le (tgt := 125) hx hb dX4_step_115 (by decide) (fun c_45 => ?_) (fun c_45 => ?_)
      · skip
        rw [if_pos c_45] at hf
        exact B125 (z_35) ls H_37 locs ⟨lv_sub hl [1, 2, 4, 5] rfl, hP, hD, hS⟩ hf
      · skip
        rw [if_neg c_45] at hf
        refine lv_iload hx hb dX4_step_118 (lv_at hl 1 rfl) ?_
        refine lv_bipush (v := 45) hx hb dX4_step_120 (by decide) ?_
        refine lv_icmp_ne (tgt := 143) hx hb dX4_step_122 (by decide) (fun c_46 => ?_) (fun c_46 => ?_)
        · skip
          rw [if_neg c_46] at hf
          refine lv_iload hx hb dX4_step_143 (lv_at hl 1 rfl) ?_
          refine lv_bipush (v := 10) hx hb dX4_step_145 (by decide) ?_
          refine de_cut (h := 164) (fun (x : St) => []) (fun x ls H locs => lv_has ls 8 [(4, .int r_26), (3, .int r_23), (1, .ref (a k_4)), (0, .ref (a h0))] ∧ va_P (dC, dI) vwCl (Wd cy a sh n x) H ∧ va_D A (Wd cy a sh n x) ∧ va_S A s.heap H locs) (fun x => fn_X4_step_B164 F sh n h0 r_26 k_4 r_23 x) (z8, r8) ?_ (fun B164 => ?_)
          · intro x ls H locs hI hf
            obtain ⟨z_47, ez⟩ : ∃ w, w = x := ⟨_, rfl⟩
            subst ez
            obtain ⟨hl2, hP2, hD2, hS2⟩ := hI
            replace hl : lv_has ls 8 [(4, .int r_26), (3, .int r_23), (1, .ref (a k_4)), (0, .ref (a h0))] := hl2
            replace hP := hP2
            replace hD := hD2
            replace hS := hS2
            clear hl2 hP2 hD2 hS2
            replace hf := fn_X4_step_B164_s hf
            refine W.eq (g2 := F0 m 164 ls []) rfl ?_
            refine lv_aload_n hx hb dX4_step_164 rfl (lv_at hl 3 rfl) ?_
            refine lv_iload hx hb dX4_step_165 (lv_at hl 0 rfl) ?_
            refine lv_aload_n hx hb dX4_step_167 rfl (lv_at hl 2 rfl) ?_
            refine lv_iload_n hx hb dX4_step_168 rfl (lv_at hl 1 rfl) ?_
            refine lv_iconst (v := 1) hx hb dX4_step_169 (by decide) ?_
            refine lv_iadd hx hb dX4_step_170 ?_
            obtain ⟨z_48, _u, hfc, hf⟩ := cal_some hf
            have hFc := de_free hD hS hA
            refine va_callv (va_runV (As := [.int r_26, .ref (a k_4), .int (r_23 + 1)]) (rest := []) ⟨hx, hb, hml, hown, hts⟩ (de_X4_set l dC dI cy a sh n H.size F sk z_47 h0 r_26 k_4 (r_23 + 1) hfc) (cwV 3 hts gX4_step_X4_set rfl rfl rfl (by decide +kernel) ⟨Nat.le_of_ble_eq_true rfl, Nat.le_of_ble_eq_true rfl⟩) ⟨fun a U g mk q => by obtain ⟨q0, q1, qP, qK, qD, qN, qS⟩ := q; exact ⟨q0, q1, qP, va_K.moved (u := U) (U := U.calling g mk a) (Vm.Alike.refl U.vm) qK, qD, qN.same rfl, SKs.moved (u := U) (U := U.calling g mk a) (Vm.Alike.refl U.vm) qS⟩, va_recv hK hP (ci := 4) (q0 := h0) rfl (Wd_ob kg_1 sg_1 (by decide)), fun U hU hW => ⟨rfl, by rw [hU], by rw [hU]; exact hP, va_K.moved hW.alike hK, hD.weaken (fun _ _ _ _ => trivial), hN.warm hW, by rw [hU]; exact ((hSK.kept hS.2.1).narrow hFc).moved hW.alike⟩⟩ rfl rfl hl.1 rfl (lv_room (Nat.le_of_ble_eq_true rfl)) dX4_step_171 ⟨Nat.le_of_ble_eq_true rfl, Nat.le_of_ble_eq_true rfl⟩) hS (fun q _ h => hFc q h) hFc (fun u t H_49 locs ht hvm hw hB hz1 hk1 hS2 => ?_)
            obtain ⟨hP1, -, hD1⟩ := hB
            rw [ht] at hP1
            replace hD := hD1.weaken (fun _ _ _ h => hFc _ h)
            replace hP := hP1
            replace hS := hS2
            clear hP1 hD1 hS2 hFc hfc hz1 hk1 hvm ht
            refine lv_goto (tgt := 390) hx hb dX4_step_174 (by decide) ?_
            obtain ⟨h8, h9⟩ := ret_some hf
            rw [h8]
            exact W.vret hx hb hr (fun t ht hW => ⟨⟨(), rfl, trivial, by rw [ht]; exact hP, va_K.moved hW.alike hK, hD⟩, hS.F ht⟩) hS.2.2 dX4_step_390
          refine lv_icmp_le (tgt := 164) hx hb dX4_step_147 (by decide) (fun c_50 => ?_) (fun c_50 => ?_)
          · skip
            rw [if_pos c_50] at hf
            exact B164 (z_35) ls H_37 locs ⟨lv_sub hl [1, 2, 4, 5] rfl, hP, hD, hS⟩ hf
          · skip
            rw [if_neg c_50] at hf
            refine lv_iload hx hb dX4_step_150 (lv_at hl 1 rfl) ?_
            refine lv_bipush (v := 35) hx hb dX4_step_152 (by decide) ?_
            refine lv_icmp_eq (tgt := 164) hx hb dX4_step_154 (by decide) (fun c_51 => ?_) (fun c_51 => ?_)
            · skip
              rw [if_pos c_51] at hf
              exact B164 (z_35) ls H_37 locs ⟨lv_sub hl [1, 2, 4, 5] rfl, hP, hD, hS⟩ hf
            · skip
              rw [if_neg c_51] at hf
              refine lv_iload hx hb dX4_step_157 (lv_at hl 1 rfl) ?_
              refine lv_bipush (v := 46) hx hb dX4_step_159 (by decide) ?_
              refine lv_icmp_ne (tgt := 177) hx hb dX4_step_161 (by decide) (fun c_52 => ?_) (fun c_52 => ?_)
              · skip
                rw [if_neg c_52] at hf
                refine lv_iload hx hb dX4_step_177 (lv_at hl 1 rfl) ?_
                refine lv_bipush (v := 15) hx hb dX4_step_179 (by decide) ?_
                refine lv_icmp_gt (tgt := 208) hx hb dX4_step_181 (by decide) (fun c_53 => ?_) (fun c_53 => ?_)
                · skip
                  rw [if_pos c_53] at hf
                  refine lv_iload hx hb dX4_step_208 (lv_at hl 1 rfl) ?_
                  refine lv_bipush (v := 20) hx hb dX4_step_210 (by decide) ?_
                  refine lv_icmp_gt (tgt := 231) hx hb dX4_step_212 (by decide) (fun c_54 => ?_) (fun c_54 => ?_)
                  · skip
                    rw [if_pos c_54] at hf
                    refine lv_iload hx hb dX4_step_231 (lv_at hl 1 rfl) ?_
                    refine lv_bipush (v := 21) hx hb dX4_step_233 (by decide) ?_
                    refine lv_icmp_ne (tgt := 253) hx hb dX4_step_235 (by decide) (fun c_55 => ?_) (fun c_55 => ?_)
                    · skip
                      rw [if_neg c_55] at hf
                      refine lv_iload hx hb dX4_step_253 (lv_at hl 1 rfl) ?_
                      refine lv_bipush (v := 22) hx hb dX4_step_255 (by decide) ?_
                      refine lv_icmp_ne (tgt := 273) hx hb dX4_step_257 (by decide) (fun c_56 => ?_) (fun c_56 => ?_)
                      · skip
                        rw [if_neg c_56] at hf
                        refine lv_iload hx hb dX4_step_273 (lv_at hl 1 rfl) ?_
                        refine lv_bipush (v := 23) hx hb dX4_step_275 (by decide) ?_
                        refine lv_icmp_ne (tgt := 325) hx hb dX4_step_277 (by decide) (fun c_57 => ?_) (fun c_57 => ?_)
                        · skip
                          rw [if_neg c_57] at hf
                          refine lv_iload hx hb dX4_step_325 (lv_at hl 1 rfl) ?_
                          refine lv_bipush (v := 44) hx hb dX4_step_327 (by decide) ?_
                          refine lv_icmp_gt (tgt := 341) hx hb dX4_step_329 (by decide) (fun c_58 => ?_) (fun c_58 => ?_)
                          · skip
                            rw [if_pos c_58] at hf
                            refine lv_iload hx hb dX4_step_341 (lv_at hl 1 rfl) ?_
                            refine lv_bipush (v := 51) hx hb dX4_step_343 (by decide) ?_
                            refine lv_icmp_gt (tgt := 363) hx hb dX4_step_345 (by decide) (fun c_59 => ?_) (fun c_59 => ?_)
                            · skip
                              rw [if_pos c_59] at hf
                              refine lv_iload hx hb dX4_step_363 (lv_at hl 1 rfl) ?_
                              refine lv_bipush (v := 59) hx hb dX4_step_365 (by decide) ?_
                              refine lv_icmp_ne (tgt := 377) hx hb dX4_step_367 (by decide) (fun c_60 => ?_) (fun c_60 => ?_)
                              · skip
                                rw [if_neg c_60] at hf
                                refine lv_aload_n hx hb dX4_step_377 rfl (lv_at hl 5 rfl) ?_
                                refine lv_iload hx hb dX4_step_378 (lv_at hl 1 rfl) ?_
                                refine lv_aload_n hx hb dX4_step_380 rfl (lv_at hl 4 rfl) ?_
                                refine lv_iload_n hx hb dX4_step_381 rfl (lv_at hl 2 rfl) ?_
                                refine lv_iconst (v := 2) hx hb dX4_step_382 (by decide) ?_
                                refine lv_iadd hx hb dX4_step_383 ?_
                                obtain ⟨z_61, r_62, hfc, hf⟩ := cal_some hf
                                have hFc := de_free hD hS hA
                                refine va_calli (va_runV (As := [.int (r_23 + 2)]) (rest := [.int r_26, .ref (a h0)]) ⟨hx, hb, hml, hown, hts⟩ (de_X5_at l dC dI cy a sh n H_37.size F sk z_35 k_4 (r_23 + 2) hfc) (cwV 1 hts gX4_step_X5_at rfl rfl rfl (by decide +kernel) ⟨Nat.le_of_ble_eq_true rfl, Nat.le_of_ble_eq_true rfl⟩) ⟨fun a U g mk q => by obtain ⟨q0, q1, qP, qK, qD, qN, qS⟩ := q; exact ⟨q0, q1, qP, va_K.moved (u := U) (U := U.calling g mk a) (Vm.Alike.refl U.vm) qK, qD, qN.same rfl, SKs.moved (u := U) (U := U.calling g mk a) (Vm.Alike.refl U.vm) qS⟩, va_recv hK hP (ci := 5) (q0 := k_4) rfl (Wd_ob kg_17 sg_17 (by decide)), fun U hU hW => ⟨rfl, by rw [hU], by rw [hU]; exact hP, va_K.moved hW.alike hK, hD.weaken (fun _ _ _ _ => trivial), hN.warm hW, by rw [hU]; exact ((hSK.kept hS.2.1).narrow hFc).moved hW.alike⟩⟩ rfl rfl hl.1 rfl (lv_room (Nat.le_of_ble_eq_true rfl)) dX4_step_384 ⟨Nat.le_of_ble_eq_true rfl, Nat.le_of_ble_eq_true rfl⟩) hS (fun q _ h => hFc q h) hFc (fun rr u t H_63 locs ht hvm hw hB hz1 hk1 hS2 => ?_)
                                rw [hw]
                                clear hw
                                obtain ⟨hP1, -, hD1⟩ := hB
                                rw [ht] at hP1
                                replace hD := hD1.weaken (fun _ _ _ h => hFc _ h)
                                replace hP := hP1
                                replace hS := hS2
                                clear hP1 hD1 hS2 hFc hfc hz1 hk1 hvm ht
                                obtain ⟨z_64, _u, hfc, hf⟩ := cal_some hf
                                have hFc := de_free hD hS hA
                                refine va_callv (va_runV (As := [.int r_26, .int r_62]) (rest := []) ⟨hx, hb, hml, hown, hts⟩ (de_X4_lineUp l dC dI cy a sh n H_63.size F z_61 h0 r_26 r_62 hfc) (cwV 2 hts gX4_step_X4_lineUp rfl rfl rfl (by decide +kernel) ⟨Nat.le_of_ble_eq_true rfl, Nat.le_of_ble_eq_true rfl⟩) ⟨fun a U g mk q => by obtain ⟨q0, q1, qP, qK, qD, qN⟩ := q; exact ⟨q0, q1, qP, va_K.moved (u := U) (U := U.calling g mk a) (Vm.Alike.refl U.vm) qK, qD, qN.same rfl⟩, va_recv hK hP (ci := 4) (q0 := h0) rfl (Wd_ob kg_1 sg_1 (by decide)), fun U hU hW => ⟨rfl, by rw [hU], by rw [hU]; exact hP, va_K.moved hW.alike hK, hD.weaken (fun _ _ _ _ => trivial), hN.warm hW⟩⟩ rfl rfl hl.1 rfl (lv_room (Nat.le_of_ble_eq_true rfl)) dX4_step_387 ⟨Nat.le_of_ble_eq_true rfl, Nat.le_of_ble_eq_true rfl⟩) hS (fun q _ h => hFc q h) hFc (fun u t H_65 locs ht hvm hw hB hz1 hk1 hS2 => ?_)
                                obtain ⟨hP1, -, hD1⟩ := hB
                                rw [ht] at hP1
                                replace hD := hD1.weaken (fun _ _ _ h => hFc _ h)
                                replace hP := hP1
                                replace hS := hS2
                                clear hP1 hD1 hS2 hFc hfc hz1 hk1 hvm ht
                                obtain ⟨h8, h9⟩ := ret_some hf
                                rw [h8]
                                exact W.vret hx hb hr (fun t ht hW => ⟨⟨(), rfl, trivial, by rw [ht]; exact hP, va_K.moved hW.alike hK, hD⟩, hS.F ht⟩) hS.2.2 dX4_step_390
                              · skip
                                rw [if_pos c_60] at hf
                                refine lv_aload_n hx hb dX4_step_370 rfl (lv_at hl 5 rfl) ?_
                                obtain ⟨z_66, _u, hfc, hf⟩ := cal_some hf
                                have hFc := de_free hD hS hA
                                refine va_callv (va_runV (As := []) (rest := []) ⟨hx, hb, hml, hown, hts⟩ (de_X4_hash l dC dI cy a sh n H_37.size F sk z_35 h0 hfc) (cwV 0 hts gX4_step_X4_hash rfl rfl rfl (by decide +kernel) ⟨Nat.le_of_ble_eq_true rfl, Nat.le_of_ble_eq_true rfl⟩) ⟨fun a U g mk q => by obtain ⟨q0, q1, qP, qK, qD, qN, qS⟩ := q; exact ⟨q0, q1, qP, va_K.moved (u := U) (U := U.calling g mk a) (Vm.Alike.refl U.vm) qK, qD, qN.same rfl, SKs.moved (u := U) (U := U.calling g mk a) (Vm.Alike.refl U.vm) qS⟩, va_recv hK hP (ci := 4) (q0 := h0) rfl (Wd_ob kg_1 sg_1 (by decide)), fun U hU hW => ⟨rfl, by rw [hU], by rw [hU]; exact hP, va_K.moved hW.alike hK, hD.weaken (fun _ _ _ _ => trivial), hN.warm hW, by rw [hU]; exact ((hSK.kept hS.2.1).narrow hFc).moved hW.alike⟩⟩ rfl rfl hl.1 rfl (lv_room (Nat.le_of_ble_eq_true rfl)) dX4_step_371 ⟨Nat.le_of_ble_eq_true rfl, Nat.le_of_ble_eq_true rfl⟩) hS (fun q _ h => hFc q h) hFc (fun u t H_67 locs ht hvm hw hB hz1 hk1 hS2 => ?_)
                                obtain ⟨hP1, -, hD1⟩ := hB
                                rw [ht] at hP1
                                replace hD := hD1.weaken (fun _ _ _ h => hFc _ h)
                                replace hP := hP1
                                replace hS := hS2
                                clear hP1 hD1 hS2 hFc hfc hz1 hk1 hvm ht
                                refine lv_goto (tgt := 390) hx hb dX4_step_374 (by decide) ?_
                                obtain ⟨h8, h9⟩ := ret_some hf
                                rw [h8]
                                exact W.vret hx hb hr (fun t ht hW => ⟨⟨(), rfl, trivial, by rw [ht]; exact hP, va_K.moved hW.alike hK, hD⟩, hS.F ht⟩) hS.2.2 dX4_step_390
                            · skip
                              rw [if_neg c_59] at hf
                              refine lv_aload_n hx hb dX4_step_348 rfl (lv_at hl 5 rfl) ?_
                              refine lv_iload hx hb dX4_step_349 (lv_at hl 1 rfl) ?_
                              refine lv_aload_n hx hb dX4_step_351 rfl (lv_at hl 4 rfl) ?_
                              refine va_get (D := (dC, dI)) (ci := 5) (v := .int (z_35.1 k_4 2)) (C := RX5) (T := TX5) (N := 15) hx hb hts iwd_X4_step_X5 hown hK hP k_4 (Wd_ob kg_17 sg_17 (by decide)) rfl 2 (by decide) (hts _ md_X4_step_11) (fun _ h9 => h9) (fl_at (t := 0) rfl) dX4_step_352 ?_
                              refine lv_iload hx hb dX4_step_355 (lv_at hl 0 rfl) ?_
                              obtain ⟨z_68, _u, hfc, hf⟩ := cal_some hf
                              have hFc := de_free hD hS hA
                              refine va_callv (va_runV (As := [.int r_26, .int (z_35.1 k_4 2), .int r_29]) (rest := []) ⟨hx, hb, hml, hown, hts⟩ (de_X4_keep l dC dI cy a sh n H_37.size F z_35 h0 r_26 (z_35.1 k_4 2) r_29 hfc) (cwV 3 hts gX4_step_X4_keep rfl rfl rfl (by decide +kernel) ⟨Nat.le_of_ble_eq_true rfl, Nat.le_of_ble_eq_true rfl⟩) ⟨fun a U g mk q => by obtain ⟨q0, q1, qP, qK, qD, qN⟩ := q; exact ⟨q0, q1, qP, va_K.moved (u := U) (U := U.calling g mk a) (Vm.Alike.refl U.vm) qK, qD, qN.same rfl⟩, va_recv hK hP (ci := 4) (q0 := h0) rfl (Wd_ob kg_1 sg_1 (by decide)), fun U hU hW => ⟨rfl, by rw [hU], by rw [hU]; exact hP, va_K.moved hW.alike hK, hD.weaken (fun _ _ _ _ => trivial), hN.warm hW⟩⟩ rfl rfl hl.1 rfl (lv_room (Nat.le_of_ble_eq_true rfl)) dX4_step_357 ⟨Nat.le_of_ble_eq_true rfl, Nat.le_of_ble_eq_true rfl⟩) hS (fun q _ h => hFc q h) hFc (fun u t H_69 locs ht hvm hw hB hz1 hk1 hS2 => ?_)
                              obtain ⟨hP1, -, hD1⟩ := hB
                              rw [ht] at hP1
                              replace hD := hD1.weaken (fun _ _ _ h => hFc _ h)
                              replace hP := hP1
                              replace hS := hS2
                              clear hP1 hD1 hS2 hFc hfc hz1 hk1 hvm ht
                              refine lv_goto (tgt := 390) hx hb dX4_step_360 (by decide) ?_
                              obtain ⟨h8, h9⟩ := ret_some hf
                              rw [h8]
                              exact W.vret hx hb hr (fun t ht hW => ⟨⟨(), rfl, trivial, by rw [ht]; exact hP, va_K.moved hW.alike hK, hD⟩, hS.F ht⟩) hS.2.2 dX4_step_390
                          · skip
                            rw [if_neg c_58] at hf
                            refine lv_aload_n hx hb dX4_step_332 rfl (lv_at hl 5 rfl) ?_
                            refine lv_iload hx hb dX4_step_333 (lv_at hl 1 rfl) ?_
                            obtain ⟨z_70, _u, hfc, hf⟩ := cal_some hf
                            have hFc := de_free hD hS hA
                            refine va_callv (va_runV (As := [.int r_26]) (rest := []) ⟨hx, hb, hml, hown, hts⟩ (de_X4_reckon l dC dI cy a sh n H_37.size F z_35 h0 r_26 hfc) (cwV 1 hts gX4_step_X4_reckon rfl rfl rfl (by decide +kernel) ⟨Nat.le_of_ble_eq_true rfl, Nat.le_of_ble_eq_true rfl⟩) ⟨fun a U g mk q => by obtain ⟨q0, q1, qP, qK, qD, qN⟩ := q; exact ⟨q0, q1, qP, va_K.moved (u := U) (U := U.calling g mk a) (Vm.Alike.refl U.vm) qK, qD, qN.same rfl⟩, va_recv hK hP (ci := 4) (q0 := h0) rfl (Wd_ob kg_1 sg_1 (by decide)), fun U hU hW => ⟨rfl, by rw [hU], by rw [hU]; exact hP, va_K.moved hW.alike hK, hD.weaken (fun _ _ _ _ => trivial), hN.warm hW⟩⟩ rfl rfl hl.1 rfl (lv_room (Nat.le_of_ble_eq_true rfl)) dX4_step_335 ⟨Nat.le_of_ble_eq_true rfl, Nat.le_of_ble_eq_true rfl⟩) hS (fun q _ h => hFc q h) hFc (fun u t H_71 locs ht hvm hw hB hz1 hk1 hS2 => ?_)
                            obtain ⟨hP1, -, hD1⟩ := hB
                            rw [ht] at hP1
                            replace hD := hD1.weaken (fun _ _ _ h => hFc _ h)
                            replace hP := hP1
                            replace hS := hS2
                            clear hP1 hD1 hS2 hFc hfc hz1 hk1 hvm ht
                            refine lv_goto (tgt := 390) hx hb dX4_step_338 (by decide) ?_
                            obtain ⟨h8, h9⟩ := ret_some hf
                            rw [h8]
                            exact W.vret hx hb hr (fun t ht hW => ⟨⟨(), rfl, trivial, by rw [ht]; exact hP, va_K.moved hW.alike hK, hD⟩, hS.F ht⟩) hS.2.2 dX4_step_390
                        · skip
                          rw [if_pos c_57] at hf
                          refine lv_aload_n hx hb dX4_step_280 rfl (lv_at hl 4 rfl) ?_
                          refine lv_iload hx hb dX4_step_281 (lv_at hl 0 rfl) ?_
                          refine lv_bipush (v := 7) hx hb dX4_step_283 (by decide) ?_
                          obtain ⟨z_72, r_73, hfc, hf⟩ := cal_some hf
                          have hFc := de_free hD hS hA
                          refine va_calli (va_runV (As := [.int r_29, .int 7]) (rest := []) ⟨hx, hb, hml, hown, hts⟩ (de_X5_functionColumn l dC dI cy a sh n H_37.size F z_35 k_4 r_29 7 hfc) (cwV 2 hts gX4_step_X5_functionColumn rfl rfl rfl (by decide +kernel) ⟨Nat.le_of_ble_eq_true rfl, Nat.le_of_ble_eq_true rfl⟩) ⟨fun a U g mk q => by obtain ⟨q0, q1, qP, qK, qD, qN⟩ := q; exact ⟨q0, q1, qP, va_K.moved (u := U) (U := U.calling g mk a) (Vm.Alike.refl U.vm) qK, qD, qN.same rfl⟩, va_recv hK hP (ci := 5) (q0 := k_4) rfl (Wd_ob kg_17 sg_17 (by decide)), fun U hU hW => ⟨rfl, by rw [hU], by rw [hU]; exact hP, va_K.moved hW.alike hK, hD.weaken (fun _ _ _ _ => trivial), hN.warm hW⟩⟩ rfl rfl hl.1 rfl (lv_room (Nat.le_of_ble_eq_true rfl)) dX4_step_285 ⟨Nat.le_of_ble_eq_true rfl, Nat.le_of_ble_eq_true rfl⟩) hS (fun q _ h => hFc q h) hFc (fun rr u t H_74 locs ht hvm hw hB hz1 hk1 hS2 => ?_)
                          rw [hw]
                          clear hw
                          obtain ⟨hP1, -, hD1⟩ := hB
                          rw [ht] at hP1
                          replace hD := hD1.weaken (fun _ _ _ h => hFc _ h)
                          replace hP := hP1
                          replace hS := hS2
                          clear hP1 hD1 hS2 hFc hfc hz1 hk1 hvm ht
                          refine lv_istore (lv' := [(6, .int r_73), (5, .int r_29), (4, .int r_26), (3, .int r_23), (2, .int v_7), (1, .ref (a k_4)), (0, .ref (a h0))]) hx hb dX4_step_288 hl (by decide) rfl (fun ls hl2 => ?_)
                          replace hl := hl2
                          clear hl2
                          refine lv_aload_n hx hb dX4_step_290 rfl (lv_at hl 5 rfl) ?_
                          refine lv_iload hx hb dX4_step_291 (lv_at hl 1 rfl) ?_
                          refine lv_bipush (v := 8) hx hb dX4_step_293 (by decide) ?_
                          obtain ⟨z_75, r_76, hfc, hf⟩ := cal_some hf
                          have hFc := de_free hD hS hA
                          refine va_calli (va_runV (As := [.int r_29, .int 8]) (rest := []) ⟨hx, hb, hml, hown, hts⟩ (de_X5_functionColumn l dC dI cy a sh n H_74.size F z_72 k_4 r_29 8 hfc) (cwV 2 hts gX4_step_X5_functionColumn rfl rfl rfl (by decide +kernel) ⟨Nat.le_of_ble_eq_true rfl, Nat.le_of_ble_eq_true rfl⟩) ⟨fun a U g mk q => by obtain ⟨q0, q1, qP, qK, qD, qN⟩ := q; exact ⟨q0, q1, qP, va_K.moved (u := U) (U := U.calling g mk a) (Vm.Alike.refl U.vm) qK, qD, qN.same rfl⟩, va_recv hK hP (ci := 5) (q0 := k_4) rfl (Wd_ob kg_17 sg_17 (by decide)), fun U hU hW => ⟨rfl, by rw [hU], by rw [hU]; exact hP, va_K.moved hW.alike hK, hD.weaken (fun _ _ _ _ => trivial), hN.warm hW⟩⟩ rfl rfl hl.1 rfl (lv_room (Nat.le_of_ble_eq_true rfl)) dX4_step_295 ⟨Nat.le_of_ble_eq_true rfl, Nat.le_of_ble_eq_true rfl⟩) hS (fun q _ h => hFc q h) hFc (fun rr u t H_77 locs ht hvm hw hB hz1 hk1 hS2 => ?_)
                          rw [hw]
                          clear hw
                          obtain ⟨hP1, -, hD1⟩ := hB
                          rw [ht] at hP1
                          replace hD := hD1.weaken (fun _ _ _ h => hFc _ h)
                          replace hP := hP1
                          replace hS := hS2
                          clear hP1 hD1 hS2 hFc hfc hz1 hk1 hvm ht
                          refine lv_istore (lv' := [(7, .int r_76), (6, .int r_73), (5, .int r_29), (4, .int r_26), (3, .int r_23), (2, .int v_7), (1, .ref (a k_4)), (0, .ref (a h0))]) hx hb dX4_step_298 hl (by decide) rfl (fun ls hl2 => ?_)
                          replace hl := hl2
                          clear hl2
                          refine lv_iload hx hb dX4_step_300 (lv_at hl 1 rfl) ?_
                          refine lv_if_ne (tgt := 314) hx hb dX4_step_302 (by decide) (fun c_78 => ?_) (fun c_78 => ?_)
                          · skip
                            rw [if_neg c_78] at hf
                            refine lv_aload_n hx hb dX4_step_314 rfl (lv_at hl 7 rfl) ?_
                            refine lv_iload hx hb dX4_step_315 (lv_at hl 1 rfl) ?_
                            refine lv_iload hx hb dX4_step_317 (lv_at hl 0 rfl) ?_
                            obtain ⟨z_79, _u, hfc, hf⟩ := cal_some hf
                            have hFc := de_free hD hS hA
                            refine va_callv (va_runV (As := [.int r_73, .int r_76]) (rest := []) ⟨hx, hb, hml, hown, hts⟩ (de_X4_enter l dC dI cy a sh n H_77.size F z_75 h0 r_73 r_76 hfc) (cwV 2 hts gX4_step_X4_enter rfl rfl rfl (by decide +kernel) ⟨Nat.le_of_ble_eq_true rfl, Nat.le_of_ble_eq_true rfl⟩) ⟨fun a U g mk q => by obtain ⟨q0, q1, qP, qK, qD, qN⟩ := q; exact ⟨q0, q1, qP, va_K.moved (u := U) (U := U.calling g mk a) (Vm.Alike.refl U.vm) qK, qD, qN.same rfl⟩, va_recv hK hP (ci := 4) (q0 := h0) rfl (Wd_ob kg_1 sg_1 (by decide)), fun U hU hW => ⟨rfl, by rw [hU], by rw [hU]; exact hP, va_K.moved hW.alike hK, hD.weaken (fun _ _ _ _ => trivial), hN.warm hW⟩⟩ rfl rfl hl.1 rfl (lv_room (Nat.le_of_ble_eq_true rfl)) dX4_step_319 ⟨Nat.le_of_ble_eq_true rfl, Nat.le_of_ble_eq_true rfl⟩) hS (fun q _ h => hFc q h) hFc (fun u t H_80 locs ht hvm hw hB hz1 hk1 hS2 => ?_)
                            obtain ⟨hP1, -, hD1⟩ := hB
                            rw [ht] at hP1
                            replace hD := hD1.weaken (fun _ _ _ h => hFc _ h)
                            replace hP := hP1
                            replace hS := hS2
                            clear hP1 hD1 hS2 hFc hfc hz1 hk1 hvm ht
                            refine lv_goto (tgt := 390) hx hb dX4_step_322 (by decide) ?_
                            obtain ⟨h8, h9⟩ := ret_some hf
                            rw [h8]
                            exact W.vret hx hb hr (fun t ht hW => ⟨⟨(), rfl, trivial, by rw [ht]; exact hP, va_K.moved hW.alike hK, hD⟩, hS.F ht⟩) hS.2.2 dX4_step_390
                          · skip
                            rw [if_pos c_78] at hf
                            refine lv_aload_n hx hb dX4_step_305 rfl (lv_at hl 7 rfl) ?_
                            refine lv_iload hx hb dX4_step_306 (lv_at hl 0 rfl) ?_
                            obtain ⟨z_81, _u, hfc, hf⟩ := cal_some hf
                            have hFc := de_free hD hS hA
                            refine va_callv (va_runV (As := [.int r_76]) (rest := []) ⟨hx, hb, hml, hown, hts⟩ (de_X4_useCoin l dC dI cy a sh n H_77.size F z_75 h0 r_76 hfc) (cwV 1 hts gX4_step_X4_useCoin rfl rfl rfl (by decide +kernel) ⟨Nat.le_of_ble_eq_true rfl, Nat.le_of_ble_eq_true rfl⟩) ⟨fun a U g mk q => by obtain ⟨q0, q1, qP, qK, qD, qN⟩ := q; exact ⟨q0, q1, qP, va_K.moved (u := U) (U := U.calling g mk a) (Vm.Alike.refl U.vm) qK, qD, qN.same rfl⟩, va_recv hK hP (ci := 4) (q0 := h0) rfl (Wd_ob kg_1 sg_1 (by decide)), fun U hU hW => ⟨rfl, by rw [hU], by rw [hU]; exact hP, va_K.moved hW.alike hK, hD.weaken (fun _ _ _ _ => trivial), hN.warm hW⟩⟩ rfl rfl hl.1 rfl (lv_room (Nat.le_of_ble_eq_true rfl)) dX4_step_308 ⟨Nat.le_of_ble_eq_true rfl, Nat.le_of_ble_eq_true rfl⟩) hS (fun q _ h => hFc q h) hFc (fun u t H_82 locs ht hvm hw hB hz1 hk1 hS2 => ?_)
                            obtain ⟨hP1, -, hD1⟩ := hB
                            rw [ht] at hP1
                            replace hD := hD1.weaken (fun _ _ _ h => hFc _ h)
                            replace hP := hP1
                            replace hS := hS2
                            clear hP1 hD1 hS2 hFc hfc hz1 hk1 hvm ht
                            refine lv_goto (tgt := 322) hx hb dX4_step_311 (by decide) ?_
                            refine lv_goto (tgt := 390) hx hb dX4_step_322 (by decide) ?_
                            obtain ⟨h8, h9⟩ := ret_some hf
                            rw [h8]
                            exact W.vret hx hb hr (fun t ht hW => ⟨⟨(), rfl, trivial, by rw [ht]; exact hP, va_K.moved hW.alike hK, hD⟩, hS.F ht⟩) hS.2.2 dX4_step_390
                      · skip
                        rw [if_pos c_56] at hf
                        refine lv_aload_n hx hb dX4_step_260 rfl (lv_at hl 5 rfl) ?_
                        refine lv_aload_n hx hb dX4_step_261 rfl (lv_at hl 4 rfl) ?_
                        refine lv_iload hx hb dX4_step_262 (lv_at hl 0 rfl) ?_
                        obtain ⟨z_83, r_84, hfc, hf⟩ := cal_some hf
                        have hFc := de_free hD hS hA
                        refine va_calli (va_runV (As := [.int r_29]) (rest := [.ref (a h0)]) ⟨hx, hb, hml, hown, hts⟩ (de_X5_fieldCount l dC dI cy a sh n H_37.size F z_35 k_4 r_29 hfc) (cwV 1 hts gX4_step_X5_fieldCount rfl rfl rfl (by decide +kernel) ⟨Nat.le_of_ble_eq_true rfl, Nat.le_of_ble_eq_true rfl⟩) ⟨fun a U g mk q => by obtain ⟨q0, q1, qP, qK, qD, qN⟩ := q; exact ⟨q0, q1, qP, va_K.moved (u := U) (U := U.calling g mk a) (Vm.Alike.refl U.vm) qK, qD, qN.same rfl⟩, va_recv hK hP (ci := 5) (q0 := k_4) rfl (Wd_ob kg_17 sg_17 (by decide)), fun U hU hW => ⟨rfl, by rw [hU], by rw [hU]; exact hP, va_K.moved hW.alike hK, hD.weaken (fun _ _ _ _ => trivial), hN.warm hW⟩⟩ rfl rfl hl.1 rfl (lv_room (Nat.le_of_ble_eq_true rfl)) dX4_step_264 ⟨Nat.le_of_ble_eq_true rfl, Nat.le_of_ble_eq_true rfl⟩) hS (fun q _ h => hFc q h) hFc (fun rr u t H_85 locs ht hvm hw hB hz1 hk1 hS2 => ?_)
                        rw [hw]
                        clear hw
                        obtain ⟨hP1, -, hD1⟩ := hB
                        rw [ht] at hP1
                        replace hD := hD1.weaken (fun _ _ _ h => hFc _ h)
                        replace hP := hP1
                        replace hS := hS2
                        clear hP1 hD1 hS2 hFc hfc hz1 hk1 hvm ht
                        obtain ⟨z_86, _u, hfc, hf⟩ := cal_some hf
                        have hFc := de_free hD hS hA
                        refine va_callv (va_runV (As := [.int r_84]) (rest := []) ⟨hx, hb, hml, hown, hts⟩ (de_X4_scatter l dC dI cy a sh n H_85.size F z_83 h0 r_84 hfc) (cwV 1 hts gX4_step_X4_scatter rfl rfl rfl (by decide +kernel) ⟨Nat.le_of_ble_eq_true rfl, Nat.le_of_ble_eq_true rfl⟩) ⟨fun a U g mk q => by obtain ⟨q0, q1, qP, qK, qD, qN⟩ := q; exact ⟨q0, q1, qP, va_K.moved (u := U) (U := U.calling g mk a) (Vm.Alike.refl U.vm) qK, qD, qN.same rfl⟩, va_recv hK hP (ci := 4) (q0 := h0) rfl (Wd_ob kg_1 sg_1 (by decide)), fun U hU hW => ⟨rfl, by rw [hU], by rw [hU]; exact hP, va_K.moved hW.alike hK, hD.weaken (fun _ _ _ _ => trivial), hN.warm hW⟩⟩ rfl rfl hl.1 rfl (lv_room (Nat.le_of_ble_eq_true rfl)) dX4_step_267 ⟨Nat.le_of_ble_eq_true rfl, Nat.le_of_ble_eq_true rfl⟩) hS (fun q _ h => hFc q h) hFc (fun u t H_87 locs ht hvm hw hB hz1 hk1 hS2 => ?_)
                        obtain ⟨hP1, -, hD1⟩ := hB
                        rw [ht] at hP1
                        replace hD := hD1.weaken (fun _ _ _ h => hFc _ h)
                        replace hP := hP1
                        replace hS := hS2
                        clear hP1 hD1 hS2 hFc hfc hz1 hk1 hvm ht
                        refine lv_goto (tgt := 390) hx hb dX4_step_270 (by decide) ?_
                        obtain ⟨h8, h9⟩ := ret_some hf
                        rw [h8]
                        exact W.vret hx hb hr (fun t ht hW => ⟨⟨(), rfl, trivial, by rw [ht]; exact hP, va_K.moved hW.alike hK, hD⟩, hS.F ht⟩) hS.2.2 dX4_step_390
                    · skip
                      rw [if_pos c_55] at hf
                      refine lv_aload_n hx hb dX4_step_238 rfl (lv_at hl 5 rfl) ?_
                      refine lv_bipush (v := 6) hx hb dX4_step_239 (by decide) ?_
                      refine lv_aload_n hx hb dX4_step_241 rfl (lv_at hl 4 rfl) ?_
                      refine lv_iload hx hb dX4_step_242 (lv_at hl 0 rfl) ?_
                      obtain ⟨z_88, r_89, hfc, hf⟩ := cal_some hf
                      have hFc := de_free hD hS hA
                      refine va_calli (va_runV (As := [.int r_29]) (rest := [.int 6, .ref (a h0)]) ⟨hx, hb, hml, hown, hts⟩ (de_X5_fieldCount l dC dI cy a sh n H_37.size F z_35 k_4 r_29 hfc) (cwV 1 hts gX4_step_X5_fieldCount rfl rfl rfl (by decide +kernel) ⟨Nat.le_of_ble_eq_true rfl, Nat.le_of_ble_eq_true rfl⟩) ⟨fun a U g mk q => by obtain ⟨q0, q1, qP, qK, qD, qN⟩ := q; exact ⟨q0, q1, qP, va_K.moved (u := U) (U := U.calling g mk a) (Vm.Alike.refl U.vm) qK, qD, qN.same rfl⟩, va_recv hK hP (ci := 5) (q0 := k_4) rfl (Wd_ob kg_17 sg_17 (by decide)), fun U hU hW => ⟨rfl, by rw [hU], by rw [hU]; exact hP, va_K.moved hW.alike hK, hD.weaken (fun _ _ _ _ => trivial), hN.warm hW⟩⟩ rfl rfl hl.1 rfl (lv_room (Nat.le_of_ble_eq_true rfl)) dX4_step_244 ⟨Nat.le_of_ble_eq_true rfl, Nat.le_of_ble_eq_true rfl⟩) hS (fun q _ h => hFc q h) hFc (fun rr u t H_90 locs ht hvm hw hB hz1 hk1 hS2 => ?_)
                      rw [hw]
                      clear hw
                      obtain ⟨hP1, -, hD1⟩ := hB
                      rw [ht] at hP1
                      replace hD := hD1.weaken (fun _ _ _ h => hFc _ h)
                      replace hP := hP1
                      replace hS := hS2
                      clear hP1 hD1 hS2 hFc hfc hz1 hk1 hvm ht
                      obtain ⟨z_91, _u, hfc, hf⟩ := cal_some hf
                      have hFc := de_free hD hS hA
                      refine va_callv (va_runV (As := [.int 6, .int r_89]) (rest := []) ⟨hx, hb, hml, hown, hts⟩ (de_X4_gather l dC dI cy a sh n H_90.size F z_88 h0 6 r_89 hfc) (cwV 2 hts gX4_step_X4_gather rfl rfl rfl (by decide +kernel) ⟨Nat.le_of_ble_eq_true rfl, Nat.le_of_ble_eq_true rfl⟩) ⟨fun a U g mk q => by obtain ⟨q0, q1, qP, qK, qD, qN⟩ := q; exact ⟨q0, q1, qP, va_K.moved (u := U) (U := U.calling g mk a) (Vm.Alike.refl U.vm) qK, qD, qN.same rfl⟩, va_recv hK hP (ci := 4) (q0 := h0) rfl (Wd_ob kg_1 sg_1 (by decide)), fun U hU hW => ⟨rfl, by rw [hU], by rw [hU]; exact hP, va_K.moved hW.alike hK, hD.weaken (fun _ _ _ _ => trivial), hN.warm hW⟩⟩ rfl rfl hl.1 rfl (lv_room (Nat.le_of_ble_eq_true rfl)) dX4_step_247 ⟨Nat.le_of_ble_eq_true rfl, Nat.le_of_ble_eq_true rfl⟩) hS (fun q _ h => hFc q h) hFc (fun u t H_92 locs ht hvm hw hB hz1 hk1 hS2 => ?_)
                      obtain ⟨hP1, -, hD1⟩ := hB
                      rw [ht] at hP1
                      replace hD := hD1.weaken (fun _ _ _ h => hFc _ h)
                      replace hP := hP1
                      replace hS := hS2
                      clear hP1 hD1 hS2 hFc hfc hz1 hk1 hvm ht
                      refine lv_goto (tgt := 390) hx hb dX4_step_250 (by decide) ?_
                      obtain ⟨h8, h9⟩ := ret_some hf
                      rw [h8]
                      exact W.vret hx hb hr (fun t ht hW => ⟨⟨(), rfl, trivial, by rw [ht]; exact hP, va_K.moved hW.alike hK, hD⟩, hS.F ht⟩) hS.2.2 dX4_step_390
                  · skip
                    rw [if_neg c_54] at hf
                    refine lv_aload_n hx hb dX4_step_215 rfl (lv_at hl 5 rfl) ?_
                    refine lv_iload hx hb dX4_step_216 (lv_at hl 1 rfl) ?_
                    refine lv_aload_n hx hb dX4_step_218 rfl (lv_at hl 4 rfl) ?_
                    refine lv_iload_n hx hb dX4_step_219 rfl (lv_at hl 2 rfl) ?_
                    refine lv_iconst (v := 2) hx hb dX4_step_220 (by decide) ?_
                    refine lv_iadd hx hb dX4_step_221 ?_
                    obtain ⟨z_93, r_94, hfc, hf⟩ := cal_some hf
                    have hFc := de_free hD hS hA
                    refine va_calli (va_runV (As := [.int (r_23 + 2)]) (rest := [.int r_26, .ref (a h0)]) ⟨hx, hb, hml, hown, hts⟩ (de_X5_at l dC dI cy a sh n H_37.size F sk z_35 k_4 (r_23 + 2) hfc) (cwV 1 hts gX4_step_X5_at rfl rfl rfl (by decide +kernel) ⟨Nat.le_of_ble_eq_true rfl, Nat.le_of_ble_eq_true rfl⟩) ⟨fun a U g mk q => by obtain ⟨q0, q1, qP, qK, qD, qN, qS⟩ := q; exact ⟨q0, q1, qP, va_K.moved (u := U) (U := U.calling g mk a) (Vm.Alike.refl U.vm) qK, qD, qN.same rfl, SKs.moved (u := U) (U := U.calling g mk a) (Vm.Alike.refl U.vm) qS⟩, va_recv hK hP (ci := 5) (q0 := k_4) rfl (Wd_ob kg_17 sg_17 (by decide)), fun U hU hW => ⟨rfl, by rw [hU], by rw [hU]; exact hP, va_K.moved hW.alike hK, hD.weaken (fun _ _ _ _ => trivial), hN.warm hW, by rw [hU]; exact ((hSK.kept hS.2.1).narrow hFc).moved hW.alike⟩⟩ rfl rfl hl.1 rfl (lv_room (Nat.le_of_ble_eq_true rfl)) dX4_step_222 ⟨Nat.le_of_ble_eq_true rfl, Nat.le_of_ble_eq_true rfl⟩) hS (fun q _ h => hFc q h) hFc (fun rr u t H_95 locs ht hvm hw hB hz1 hk1 hS2 => ?_)
                    rw [hw]
                    clear hw
                    obtain ⟨hP1, -, hD1⟩ := hB
                    rw [ht] at hP1
                    replace hD := hD1.weaken (fun _ _ _ h => hFc _ h)
                    replace hP := hP1
                    replace hS := hS2
                    clear hP1 hD1 hS2 hFc hfc hz1 hk1 hvm ht
                    obtain ⟨z_96, _u, hfc, hf⟩ := cal_some hf
                    have hFc := de_free hD hS hA
                    refine va_callv (va_runV (As := [.int r_26, .int r_94]) (rest := []) ⟨hx, hb, hml, hown, hts⟩ (de_X4_refer l dC dI cy a sh n H_95.size F z_93 h0 r_26 r_94 hfc) (cwV 2 hts gX4_step_X4_refer rfl rfl rfl (by decide +kernel) ⟨Nat.le_of_ble_eq_true rfl, Nat.le_of_ble_eq_true rfl⟩) ⟨fun a U g mk q => by obtain ⟨q0, q1, qP, qK, qD, qN⟩ := q; exact ⟨q0, q1, qP, va_K.moved (u := U) (U := U.calling g mk a) (Vm.Alike.refl U.vm) qK, qD, qN.same rfl⟩, va_recv hK hP (ci := 4) (q0 := h0) rfl (Wd_ob kg_1 sg_1 (by decide)), fun U hU hW => ⟨rfl, by rw [hU], by rw [hU]; exact hP, va_K.moved hW.alike hK, hD.weaken (fun _ _ _ _ => trivial), hN.warm hW⟩⟩ rfl rfl hl.1 rfl (lv_room (Nat.le_of_ble_eq_true rfl)) dX4_step_225 ⟨Nat.le_of_ble_eq_true rfl, Nat.le_of_ble_eq_true rfl⟩) hS (fun q _ h => hFc q h) hFc (fun u t H_97 locs ht hvm hw hB hz1 hk1 hS2 => ?_)
                    obtain ⟨hP1, -, hD1⟩ := hB
                    rw [ht] at hP1
                    replace hD := hD1.weaken (fun _ _ _ h => hFc _ h)
                    replace hP := hP1
                    replace hS := hS2
                    clear hP1 hD1 hS2 hFc hfc hz1 hk1 hvm ht
                    refine lv_goto (tgt := 390) hx hb dX4_step_228 (by decide) ?_
                    obtain ⟨h8, h9⟩ := ret_some hf
                    rw [h8]
                    exact W.vret hx hb hr (fun t ht hW => ⟨⟨(), rfl, trivial, by rw [ht]; exact hP, va_K.moved hW.alike hK, hD⟩, hS.F ht⟩) hS.2.2 dX4_step_390
                · skip
                  rw [if_neg c_53] at hf
                  refine lv_aload_n hx hb dX4_step_184 rfl (lv_at hl 5 rfl) ?_
                  refine lv_iload hx hb dX4_step_185 (lv_at hl 1 rfl) ?_
                  refine lv_aload_n hx hb dX4_step_187 rfl (lv_at hl 5 rfl) ?_
                  refine va_get (D := (dC, dI)) (ci := 4) (v := .int (z_35.1 h0 12)) (C := RX4) (T := TX4) (N := 19) hx hb hts iwd_X4_step_X4 hown hK hP h0 (Wd_ob kg_1 sg_1 (by decide)) rfl 12 (by decide) (hts _ md_X4_step_2) (fun _ h9 => h9) (fl_at (t := 0) rfl) dX4_step_188 ?_
                  refine lv_bipush (v := 40) hx hb dX4_step_191 (by decide) ?_
                  refine lv_imul hx hb dX4_step_193 ?_
                  refine lv_iload hx hb dX4_step_194 (lv_at hl 0 rfl) ?_
                  refine lv_bipush (v := 39) hx hb dX4_step_196 (by decide) ?_
                  refine va_mmin hx hb (hml.trans hl.1.symm) hown (hts _ md_X4_step_7) (hts _ md_X4_step_8) (hts _ md_X4_step_9) (hts _ md_X4_step_10) (Nat.le_of_ble_eq_true rfl) (Nat.le_of_ble_eq_true rfl) (Nat.le_of_ble_eq_true rfl) (Nat.le_of_ble_eq_true rfl) dX4_step_198 ?_
                  refine lv_topi (fun v_98 ev_98 => ?_)
                  replace hf := lt_at ev_98 hf
                  clear ev_98
                  refine lv_iadd hx hb dX4_step_201 ?_
                  obtain ⟨z_99, _u, hfc, hf⟩ := cal_some hf
                  have hFc := de_free hD hS hA
                  refine va_callv (va_runV (As := [.int r_26, .int (((z_35.1 h0 12) * 40) + v_98)]) (rest := []) ⟨hx, hb, hml, hown, hts⟩ (de_X4_useLocal l dC dI cy a sh n H_37.size F z_35 h0 r_26 (((z_35.1 h0 12) * 40) + v_98) hfc) (cwV 2 hts gX4_step_X4_useLocal rfl rfl rfl (by decide +kernel) ⟨Nat.le_of_ble_eq_true rfl, Nat.le_of_ble_eq_true rfl⟩) ⟨fun a U g mk q => by obtain ⟨q0, q1, qP, qK, qD, qN⟩ := q; exact ⟨q0, q1, qP, va_K.moved (u := U) (U := U.calling g mk a) (Vm.Alike.refl U.vm) qK, qD, qN.same rfl⟩, va_recv hK hP (ci := 4) (q0 := h0) rfl (Wd_ob kg_1 sg_1 (by decide)), fun U hU hW => ⟨rfl, by rw [hU], by rw [hU]; exact hP, va_K.moved hW.alike hK, hD.weaken (fun _ _ _ _ => trivial), hN.warm hW⟩⟩ rfl rfl hl.1 rfl (lv_room (Nat.le_of_ble_eq_true rfl)) dX4_step_202 ⟨Nat.le_of_ble_eq_true rfl, Nat.le_of_ble_eq_true rfl⟩) hS (fun q _ h => hFc q h) hFc (fun u t H_100 locs ht hvm hw hB hz1 hk1 hS2 => ?_)
                  obtain ⟨hP1, -, hD1⟩ := hB
                  rw [ht] at hP1
                  replace hD := hD1.weaken (fun _ _ _ h => hFc _ h)
                  replace hP := hP1
                  replace hS := hS2
                  clear hP1 hD1 hS2 hFc hfc hz1 hk1 hvm ht
                  refine lv_goto (tgt := 390) hx hb dX4_step_205 (by decide) ?_
                  obtain ⟨h8, h9⟩ := ret_some hf
                  rw [h8]
                  exact W.vret hx hb hr (fun t ht hW => ⟨⟨(), rfl, trivial, by rw [ht]; exact hP, va_K.moved hW.alike hK, hD⟩, hS.F ht⟩) hS.2.2 dX4_step_390
              · skip
                rw [if_pos c_52] at hf
                exact B164 (z_35) ls H_37 locs ⟨lv_sub hl [1, 2, 4, 5] rfl, hP, hD, hS⟩ hf
        · skip
          rw [if_pos c_46] at hf
          exact B125 (z_35) ls H_37 locs ⟨lv_sub hl [1, 2, 4, 5] rfl, hP, hD, hS⟩ hf
    · skip
      rw [if_pos c_38] at hf
      obtain ⟨h8, h9⟩ := ret_some hf
      rw [h8]
      exact W.vret hx hb hr (fun t ht hW => ⟨⟨(), rfl, trivial, by rw [ht]; exact hP, va_K.moved hW.alike hK, hD⟩, hS.F ht⟩) hS.2.2 dX4_step_111
  · skip
    rw [if_neg c_19] at hf
    exact B41 (z_15) ls H_18 locs ⟨lv_sub hl [2] rfl, hP, hD, hS⟩ hf

theorem md_X18_onVector_4 : (.fieldLink RX18 40 "ResourceLedgerModel" "trees" "LResourceLedgerModel$Trees;" : Cond) ∈ wsX18_onVector := List.mem_of_getElem? (i := 4) rfl
theorem iwd_X18_onVector_X18 : ∀ w ∈ wsX180, w ∈ wsX18_onVector := fun _ h => List.mem_cons_of_mem _ (List.mem_append_left _ (List.mem_append_left _ (List.mem_append_right _ h)))
theorem md_X18_onVector_7 : (.constantLong RX18 425 (2) : Cond) ∈ wsX18_onVector := List.mem_of_getElem? (i := 7) rfl
theorem iwd_X18_onVector_X15 : ∀ w ∈ wsX150, w ∈ wsX18_onVector := fun _ h => List.mem_cons_of_mem _ (List.mem_append_left _ (List.mem_append_right _ h))
theorem md_X18_onVector_6 : (.constantLong RX18 283 (4) : Cond) ∈ wsX18_onVector := List.mem_of_getElem? (i := 6) rfl
theorem md_X18_onVector_1 : (.fieldLink RX18 312 "ResourceLedgerModel" "height" "I" : Cond) ∈ wsX18_onVector := List.mem_of_getElem? (i := 1) rfl
theorem md_X18_onVector_2 : (.fieldLink RX18 325 "ResourceLedgerModel" "bases" "[I" : Cond) ∈ wsX18_onVector := List.mem_of_getElem? (i := 2) rfl
theorem md_X18_onVector_3 : (.fieldLink RX18 328 "ResourceLedgerModel" "frames" "I" : Cond) ∈ wsX18_onVector := List.mem_of_getElem? (i := 3) rfl
theorem md_X18_onVector_5 : (.fieldLink RX18 309 "ResourceLedgerModel" "stack" "[I" : Cond) ∈ wsX18_onVector := List.mem_of_getElem? (i := 5) rfl
set_option maxHeartbeats 4000000 in
set_option maxRecDepth 100000 in
theorem de_X18_onVector (l : Launch) (dC : Nat → ClassId) (dI : Nat → Nat → Nat) (cy : Nat → ClassId) (a : Nat → Nat) (sh : Nat → Nat × Nat) (n sz : Nat) (F : Nat) (sk : Nat → Nat) (z : St) (h0 : Nat) (x0 : Int32) (x1 : Int32) {z8 : St} {r8 : Unit} (hf : fn_X18_onVector F sh n z h0 x0 x1 = some (z8, r8)) : Met l yX18_onVector wsX18_onVector ({ frames := 5, cells := 0, slots := 0, locals := 109 }) (va_Pc [.ref (a h0), .int x0, .int x1] (fun U => U.heap.size = sz ∧ va_P (dC, dI) vwCl (Wd cy a sh n z) U.heap ∧ va_K (dC, dI) vwCl (TYS cy) U ∧ va_D (fun _ => True) (Wd cy a sh n z) ∧ NK U ∧ SKs sk (a CBK) (va_A (Wd cy a sh n z) sz) U U.heap)) (va_Qv (fun u : Unit => True) (fun u t => va_P (dC, dI) vwCl (Wd cy a sh n z8) t.heap ∧ va_K (dC, dI) vwCl (TYS cy) t ∧ va_D (va_A (Wd cy a sh n z) sz) (Wd cy a sh n z8)) (va_A (Wd cy a sh n z) sz)) 0 0 (va_A (Wd cy a sh n z) sz) := by
  refine Met.ofW (cc := cX18_onVector) (maxL := 11) (ret := none) (by decide) rfl ?_
  intro p e s m args below meth c s₁ B hml hv
  obtain ⟨rfl, hsz, hP, hK, hD0, hN, hSK⟩ := hv
  have hx := B.exec
  have hb := B.bytes
  have hr := B.returns
  have hts := atoms_spec (ws := wsX18_onVector) B.pre
  have hown : s.vm.findClass RX18 = some m.cls := findClass_of_methodNamed B.named
  have hlocks := B.notSynchronized
  subst hsz
  have hD := hD0.self (sz := s.heap.size)
  clear hD0
  generalize hAe : va_A (Wd cy a sh n z) s.heap.size = A at hD hSK ⊢
  have hA : ∀ q : Nat, s.heap.size ≤ q → A q := fun q h => by rw [← hAe]; exact Or.inr h
  clear hAe
  have hS : va_S A s.heap s.heap [] := va_S.rf
  have hl := lv_entry ([.ref (a h0), .int x0, .int x1]) (n := 11) (Nat.le_of_ble_eq_true rfl)
  rw [lg_entry_eq]
  generalize (lg_sl ([.ref (a h0), .int x0, .int x1]) ++ List.replicate (11 - (lg_sl ([.ref (a h0), .int x0, .int x1])).length) Slot.unset).toArray = ls at hl ⊢
  replace hl : lv_has ls 11 [(0, .ref (a h0)), (1, .int x0), (2, .int x1)] := hl
  unfold fn_X18_onVector at hf
  refine de_start hS hP (fun H locs hS hP => ?_)
  refine lv_iload_n hx hb dX18_onVector_0 rfl (lv_at hl 1 rfl) ?_
  refine lv_bipush (v := 52) hx hb dX18_onVector_1 (by decide) ?_
  refine lv_icmp_ne (tgt := 106) hx hb dX18_onVector_3 (by decide) (fun c_1 => ?_) (fun c_1 => ?_)
  · skip
    rw [if_neg c_1] at hf
    refine lv_iload_n hx hb dX18_onVector_106 rfl (lv_at hl 1 rfl) ?_
    refine lv_bipush (v := 59) hx hb dX18_onVector_107 (by decide) ?_
    refine lv_icmp_ne (tgt := 117) hx hb dX18_onVector_109 (by decide) (fun c_2 => ?_) (fun c_2 => ?_)
    · skip
      rw [if_neg c_2] at hf
      refine lv_iload_n hx hb dX18_onVector_117 rfl (lv_at hl 1 rfl) ?_
      refine lv_bipush (v := 58) hx hb dX18_onVector_118 (by decide) ?_
      refine de_cut (h := 143) (fun (x : St × Int64) => [.long x.2]) (fun x ls H locs => lv_has ls 11 [(0, .ref (a h0)), (1, .int x0)] ∧ va_P (dC, dI) vwCl (Wd cy a sh n x.1) H ∧ va_D A (Wd cy a sh n x.1) ∧ va_S A s.heap H locs) (fun x => fn_X18_onVector_B143 F sh n x0 h0 x.1 x.2) (z8, r8) ?_ (fun B143 => ?_)
      · intro x ls H locs hI hf
        obtain ⟨z_4, p_3⟩ := x
        obtain ⟨hl2, hP2, hD2, hS2⟩ := hI
        replace hl : lv_has ls 11 [(0, .ref (a h0)), (1, .int x0)] := hl2
        replace hP := hP2
        replace hD := hD2
        replace hS := hS2
        clear hl2 hP2 hD2 hS2
        replace hf := fn_X18_onVector_B143_s hf
        refine W.eq (g2 := F0 m 143 ls [.long p_3]) rfl ?_
        refine lv_lstore_n (lv' := [(3, .long p_3), (0, .ref (a h0)), (1, .int x0)]) hx hb dX18_onVector_143 rfl hl (by decide) rfl (fun ls hl2 => ?_)
        replace hl := hl2
        clear hl2
        refine lv_iload_n hx hb dX18_onVector_144 rfl (lv_at hl 2 rfl) ?_
        refine lv_bipush (v := 58) hx hb dX18_onVector_145 (by decide) ?_
        refine de_cut (h := 158) (fun (x : St × Int64) => [.long x.2]) (fun x ls H locs => lv_has ls 11 [(3, .long p_3), (0, .ref (a h0)), (1, .int x0)] ∧ va_P (dC, dI) vwCl (Wd cy a sh n x.1) H ∧ va_D A (Wd cy a sh n x.1) ∧ va_S A s.heap H locs) (fun x => fn_X18_onVector_B158 F sh n x0 h0 p_3 x.1 x.2) (z8, r8) ?_ (fun B158 => ?_)
        · intro x ls H locs hI hf
          obtain ⟨z_6, p_5⟩ := x
          obtain ⟨hl2, hP2, hD2, hS2⟩ := hI
          replace hl : lv_has ls 11 [(3, .long p_3), (0, .ref (a h0)), (1, .int x0)] := hl2
          replace hP := hP2
          replace hD := hD2
          replace hS := hS2
          clear hl2 hP2 hD2 hS2
          replace hf := fn_X18_onVector_B158_s hf
          refine W.eq (g2 := F0 m 158 ls [.long p_5]) rfl ?_
          refine lv_lstore (lv' := [(5, .long p_5), (3, .long p_3), (0, .ref (a h0)), (1, .int x0)]) hx hb dX18_onVector_158 hl (by decide) rfl (fun ls hl2 => ?_)
          replace hl := hl2
          clear hl2
          refine lv_iload_n hx hb dX18_onVector_160 rfl (lv_at hl 3 rfl) ?_
          refine lv_bipush (v := 56) hx hb dX18_onVector_161 (by decide) ?_
          refine de_cut (h := 175) (fun (x : St × Int32) => [.int x.2]) (fun x ls H locs => lv_has ls 11 [(5, .long p_5), (3, .long p_3), (0, .ref (a h0)), (1, .int x0)] ∧ va_P (dC, dI) vwCl (Wd cy a sh n x.1) H ∧ va_D A (Wd cy a sh n x.1) ∧ va_S A s.heap H locs) (fun x => fn_X18_onVector_B175 F sh n h0 x0 p_3 p_5 x.1 x.2) (z8, r8) ?_ (fun B175 => ?_)
          · intro x ls H locs hI hf
            obtain ⟨z_8, p_7⟩ := x
            obtain ⟨hl2, hP2, hD2, hS2⟩ := hI
            replace hl : lv_has ls 11 [(5, .long p_5), (3, .long p_3), (0, .ref (a h0)), (1, .int x0)] := hl2
            replace hP := hP2
            replace hD := hD2
            replace hS := hS2
            clear hl2 hP2 hD2 hS2
            replace hf := fn_X18_onVector_B175_s hf
            refine W.eq (g2 := F0 m 175 ls [.int p_7]) rfl ?_
            refine lv_istore (lv' := [(7, .int p_7), (5, .long p_5), (3, .long p_3), (0, .ref (a h0)), (1, .int x0)]) hx hb dX18_onVector_175 hl (by decide) rfl (fun ls hl2 => ?_)
            replace hl := hl2
            clear hl2
            refine lv_aload_n hx hb dX18_onVector_177 rfl (lv_at hl 3 rfl) ?_
            refine lv_iconst (v := 1) hx hb dX18_onVector_178 (by decide) ?_
            obtain ⟨g_11, hf⟩ := grd_some hf
            obtain ⟨kg_11, sg_11⟩ := okO_at g_11
            obtain ⟨z_9, r_10, hfc, hf⟩ := cal_some hf
            have hFc := de_free hD hS hA
            refine va_calli (va_runV (As := [.int 1]) (rest := []) ⟨hx, hb, hml, hown, hts⟩ (de_X18_takeAny l dC dI cy a sh n H.size F z_8 h0 1 hfc) (cwV 1 hts gX18_onVector_X18_takeAny rfl rfl rfl (by decide +kernel) ⟨Nat.le_of_ble_eq_true rfl, Nat.le_of_ble_eq_true rfl⟩) ⟨fun a U g mk q => by obtain ⟨q0, q1, qP, qK, qD, qN⟩ := q; exact ⟨q0, q1, qP, va_K.moved (u := U) (U := U.calling g mk a) (Vm.Alike.refl U.vm) qK, qD, qN.same rfl⟩, va_recv hK hP (ci := 18) (q0 := h0) rfl (Wd_ob kg_11 sg_11 (by decide)), fun U hU hW => ⟨rfl, by rw [hU], by rw [hU]; exact hP, va_K.moved hW.alike hK, hD.weaken (fun _ _ _ _ => trivial), hN.warm hW⟩⟩ rfl rfl hl.1 rfl (lv_room (Nat.le_of_ble_eq_true rfl)) dX18_onVector_179 ⟨Nat.le_of_ble_eq_true rfl, Nat.le_of_ble_eq_true rfl⟩) hS (fun q _ h => hFc q h) hFc (fun rr u t H_12 locs ht hvm hw hB hz1 hk1 hS2 => ?_)
            rw [hw]
            clear hw
            obtain ⟨hP1, -, hD1⟩ := hB
            rw [ht] at hP1
            replace hD := hD1.weaken (fun _ _ _ h => hFc _ h)
            replace hP := hP1
            replace hS := hS2
            clear hP1 hD1 hS2 hFc hfc hz1 hk1 hvm ht
            refine lv_istore (lv' := [(8, .int r_10), (7, .int p_7), (5, .long p_5), (3, .long p_3), (0, .ref (a h0)), (1, .int x0)]) hx hb dX18_onVector_182 hl (by decide) rfl (fun ls hl2 => ?_)
            replace hl := hl2
            clear hl2
            refine lv_aload_n hx hb dX18_onVector_184 rfl (lv_at hl 4 rfl) ?_
            obtain ⟨z_13, r_14, hfc, hf⟩ := cal_some hf
            have hFc := de_free hD hS hA
            refine va_calli (va_runV (As := []) (rest := []) ⟨hx, hb, hml, hown, hts⟩ (de_X18_goesOn l dC dI cy a sh n H_12.size F z_9 h0 hfc) (cwV 0 hts gX18_onVector_X18_goesOn rfl rfl rfl (by decide +kernel) ⟨Nat.le_of_ble_eq_true rfl, Nat.le_of_ble_eq_true rfl⟩) ⟨fun a U g mk q => by obtain ⟨q0, q1, qP, qK, qD, qN⟩ := q; exact ⟨q0, q1, qP, va_K.moved (u := U) (U := U.calling g mk a) (Vm.Alike.refl U.vm) qK, qD, qN.same rfl⟩, va_recv hK hP (ci := 18) (q0 := h0) rfl (Wd_ob kg_11 sg_11 (by decide)), fun U hU hW => ⟨rfl, by rw [hU], by rw [hU]; exact hP, va_K.moved hW.alike hK, hD.weaken (fun _ _ _ _ => trivial), hN.warm hW⟩⟩ rfl rfl hl.1 rfl (lv_room (Nat.le_of_ble_eq_true rfl)) dX18_onVector_185 ⟨Nat.le_of_ble_eq_true rfl, Nat.le_of_ble_eq_true rfl⟩) hS (fun q _ h => hFc q h) hFc (fun rr u t H_15 locs ht hvm hw hB hz1 hk1 hS2 => ?_)
            rw [hw]
            clear hw
            obtain ⟨hP1, -, hD1⟩ := hB
            rw [ht] at hP1
            replace hD := hD1.weaken (fun _ _ _ h => hFc _ h)
            replace hP := hP1
            replace hS := hS2
            clear hP1 hD1 hS2 hFc hfc hz1 hk1 hvm ht
            refine de_cut (h := 210) (fun (x : St) => []) (fun x ls H locs => lv_has ls 11 [(8, .int r_10), (7, .int p_7), (5, .long p_5), (3, .long p_3), (0, .ref (a h0)), (1, .int x0)] ∧ va_P (dC, dI) vwCl (Wd cy a sh n x) H ∧ va_D A (Wd cy a sh n x) ∧ va_S A s.heap H locs) (fun x => fn_X18_onVector_B210 F sh n h0 x0 r_10 p_7 p_3 p_5 x) (z8, r8) ?_ (fun B210 => ?_)
            · intro x ls H locs hI hf
              obtain ⟨z_16, ez⟩ : ∃ w, w = x := ⟨_, rfl⟩
              subst ez
              obtain ⟨hl2, hP2, hD2, hS2⟩ := hI
              replace hl : lv_has ls 11 [(8, .int r_10), (7, .int p_7), (5, .long p_5), (3, .long p_3), (0, .ref (a h0)), (1, .int x0)] := hl2
              replace hP := hP2
              replace hD := hD2
              replace hS := hS2
              clear hl2 hP2 hD2 hS2
              replace hf := fn_X18_onVector_B210_s hf
              refine W.eq (g2 := F0 m 210 ls []) rfl ?_
              refine lv_aload_n hx hb dX18_onVector_210 rfl (lv_at hl 4 rfl) ?_
              obtain ⟨z_17, r_18, hfc, hf⟩ := cal_some hf
              have hFc := de_free hD hS hA
              refine va_calli (va_runV (As := []) (rest := []) ⟨hx, hb, hml, hown, hts⟩ (de_X18_goesOn l dC dI cy a sh n H.size F z_16 h0 hfc) (cwV 0 hts gX18_onVector_X18_goesOn rfl rfl rfl (by decide +kernel) ⟨Nat.le_of_ble_eq_true rfl, Nat.le_of_ble_eq_true rfl⟩) ⟨fun a U g mk q => by obtain ⟨q0, q1, qP, qK, qD, qN⟩ := q; exact ⟨q0, q1, qP, va_K.moved (u := U) (U := U.calling g mk a) (Vm.Alike.refl U.vm) qK, qD, qN.same rfl⟩, va_recv hK hP (ci := 18) (q0 := h0) rfl (Wd_ob kg_11 sg_11 (by decide)), fun U hU hW => ⟨rfl, by rw [hU], by rw [hU]; exact hP, va_K.moved hW.alike hK, hD.weaken (fun _ _ _ _ => trivial), hN.warm hW⟩⟩ rfl rfl hl.1 rfl (lv_room (Nat.le_of_ble_eq_true rfl)) dX18_onVector_211 ⟨Nat.le_of_ble_eq_true rfl, Nat.le_of_ble_eq_true rfl⟩) hS (fun q _ h => hFc q h) hFc (fun rr u t H_19 locs ht hvm hw hB hz1 hk1 hS2 => ?_)
              rw [hw]
              clear hw
              obtain ⟨hP1, -, hD1⟩ := hB
              rw [ht] at hP1
              replace hD := hD1.weaken (fun _ _ _ h => hFc _ h)
              replace hP := hP1
              replace hS := hS2
              clear hP1 hD1 hS2 hFc hfc hz1 hk1 hvm ht
              refine lv_if_ne (tgt := 218) hx hb dX18_onVector_214 (by decide) (fun c_20 => ?_) (fun c_20 => ?_)
              · skip
                rw [if_neg c_20] at hf
                refine lv_iload_n hx hb dX18_onVector_218 rfl (lv_at hl 5 rfl) ?_
                refine lv_bipush (v := 53) hx hb dX18_onVector_219 (by decide) ?_
                refine lv_icmp_ne (tgt := 243) hx hb dX18_onVector_221 (by decide) (fun c_21 => ?_) (fun c_21 => ?_)
                · skip
                  rw [if_neg c_21] at hf
                  refine lv_iload_n hx hb dX18_onVector_243 rfl (lv_at hl 5 rfl) ?_
                  refine lv_bipush (v := 56) hx hb dX18_onVector_244 (by decide) ?_
                  refine lv_icmp_ne (tgt := 289) hx hb dX18_onVector_246 (by decide) (fun c_22 => ?_) (fun c_22 => ?_)
                  · skip
                    rw [if_neg c_22] at hf
                    refine lv_iload_n hx hb dX18_onVector_289 rfl (lv_at hl 5 rfl) ?_
                    refine lv_bipush (v := 57) hx hb dX18_onVector_290 (by decide) ?_
                    refine lv_icmp_ne (tgt := 337) hx hb dX18_onVector_292 (by decide) (fun c_23 => ?_) (fun c_23 => ?_)
                    · skip
                      rw [if_neg c_23] at hf
                      refine lv_aload_n hx hb dX18_onVector_337 rfl (lv_at hl 4 rfl) ?_
                      obtain ⟨k_24, ek_24, hf⟩ := lnk_some hf
                      refine va_get (D := (dC, dI)) (ci := 18) (v := .ref (a k_24)) (C := RX18) (T := TX18) (N := 78) hx hb hts iwd_X18_onVector_X18 hown hK hP h0 (Wd_ob kg_11 sg_11 (by decide)) rfl 15 (by decide) (hts _ md_X18_onVector_4) (fun _ h9 => h9) (fl_q rfl ek_24) dX18_onVector_338 ?_
                      refine lv_iload hx hb dX18_onVector_341 (lv_at hl 0 rfl) ?_
                      refine lv_lload_n hx hb dX18_onVector_343 rfl (lv_at hl 3 rfl) ?_
                      obtain ⟨g_27, hf⟩ := grd_some hf
                      obtain ⟨kg_27, sg_27⟩ := okO_at g_27
                      obtain ⟨z_25, r_26, hfc, hf⟩ := cal_some hf
                      have hFc := de_free hD hS hA
                      refine va_calli (va_runV (As := [.int r_10, .long p_3]) (rest := []) ⟨hx, hb, hml, hown, hts⟩ (de_X15_part l dC dI cy a sh n H_19.size F z_17 k_24 r_10 p_3 hfc) (cwV 2 hts gX18_onVector_X15_part rfl rfl rfl (by decide +kernel) ⟨Nat.le_of_ble_eq_true rfl, Nat.le_of_ble_eq_true rfl⟩) ⟨fun a U g mk q => by obtain ⟨q0, q1, qP, qK, qD, qN⟩ := q; exact ⟨q0, q1, qP, va_K.moved (u := U) (U := U.calling g mk a) (Vm.Alike.refl U.vm) qK, qD, qN.same rfl⟩, va_recv hK hP (ci := 15) (q0 := k_24) rfl (Wd_ob kg_27 sg_27 (by decide)), fun U hU hW => ⟨rfl, by rw [hU], by rw [hU]; exact hP, va_K.moved hW.alike hK, hD.weaken (fun _ _ _ _ => trivial), hN.warm hW⟩⟩ rfl rfl hl.1 rfl (lv_room (Nat.le_of_ble_eq_true rfl)) dX18_onVector_344 ⟨Nat.le_of_ble_eq_true rfl, Nat.le_of_ble_eq_true rfl⟩) hS (fun q _ h => hFc q h) hFc (fun rr u t H_28 locs ht hvm hw hB hz1 hk1 hS2 => ?_)
                      rw [hw]
                      clear hw
                      obtain ⟨hP1, -, hD1⟩ := hB
                      rw [ht] at hP1
                      replace hD := hD1.weaken (fun _ _ _ h => hFc _ h)
                      replace hP := hP1
                      replace hS := hS2
                      clear hP1 hD1 hS2 hFc hfc hz1 hk1 hvm ht
                      refine lv_istore (lv' := [(9, .int r_26), (8, .int r_10), (7, .int p_7), (5, .long p_5), (3, .long p_3), (0, .ref (a h0)), (1, .int x0)]) hx hb dX18_onVector_347 hl (by decide) rfl (fun ls hl2 => ?_)
                      replace hl := hl2
                      clear hl2
                      refine lv_iload_n hx hb dX18_onVector_349 rfl (lv_at hl 6 rfl) ?_
                      refine lv_bipush (v := 58) hx hb dX18_onVector_350 (by decide) ?_
                      refine de_cut (h := 371) (fun (x : St × Int32) => [.int x.2]) (fun x ls H locs => lv_has ls 11 [(9, .int r_26), (0, .ref (a h0)), (1, .int x0)] ∧ va_P (dC, dI) vwCl (Wd cy a sh n x.1) H ∧ va_D A (Wd cy a sh n x.1) ∧ va_S A s.heap H locs) (fun x => fn_X18_onVector_B371 F sh n r_26 h0 x0 x.1 x.2) (z8, r8) ?_ (fun B371 => ?_)
                      · intro x ls H locs hI hf
                        obtain ⟨z_30, p_29⟩ := x
                        obtain ⟨hl2, hP2, hD2, hS2⟩ := hI
                        replace hl : lv_has ls 11 [(9, .int r_26), (0, .ref (a h0)), (1, .int x0)] := hl2
                        replace hP := hP2
                        replace hD := hD2
                        replace hS := hS2
                        clear hl2 hP2 hD2 hS2
                        replace hf := fn_X18_onVector_B371_s hf
                        refine W.eq (g2 := F0 m 371 ls [.int p_29]) rfl ?_
                        refine lv_istore (lv' := [(10, .int p_29), (9, .int r_26), (0, .ref (a h0)), (1, .int x0)]) hx hb dX18_onVector_371 hl (by decide) rfl (fun ls hl2 => ?_)
                        replace hl := hl2
                        clear hl2
                        refine lv_iload hx hb dX18_onVector_373 (lv_at hl 1 rfl) ?_
                        refine lv_iconst (v := (-1)) hx hb dX18_onVector_375 (by decide) ?_
                        refine lv_icmp_eq (tgt := 385) hx hb dX18_onVector_376 (by decide) (fun c_31 => ?_) (fun c_31 => ?_)
                        · skip
                          rw [if_pos c_31] at hf
                          refine lv_aload_n hx hb dX18_onVector_385 rfl (lv_at hl 2 rfl) ?_
                          refine lv_iconst (v := 2) hx hb dX18_onVector_386 (by decide) ?_
                          refine lv_ldc2 hx hb hown (hts _ md_X18_onVector_7) dX18_onVector_387 ?_
                          obtain ⟨z_32, _u, hfc, hf⟩ := cal_some hf
                          have hFc := de_free hD hS hA
                          refine va_callv (va_runV (As := [.int 2, .long 2]) (rest := []) ⟨hx, hb, hml, hown, hts⟩ (de_X18_end l dC dI cy a sh n H.size F z_30 h0 2 2 hfc) (cwV 2 hts gX18_onVector_X18_end rfl rfl rfl (by decide +kernel) ⟨Nat.le_of_ble_eq_true rfl, Nat.le_of_ble_eq_true rfl⟩) ⟨fun a U g mk q => by obtain ⟨q0, q1, qP, qK, qD, qN⟩ := q; exact ⟨q0, q1, qP, va_K.moved (u := U) (U := U.calling g mk a) (Vm.Alike.refl U.vm) qK, qD, qN.same rfl⟩, va_recv hK hP (ci := 18) (q0 := h0) rfl (Wd_ob kg_11 sg_11 (by decide)), fun U hU hW => ⟨rfl, by rw [hU], by rw [hU]; exact hP, va_K.moved hW.alike hK, hD.weaken (fun _ _ _ _ => trivial), hN.warm hW⟩⟩ rfl rfl hl.1 rfl (lv_room (Nat.le_of_ble_eq_true rfl)) dX18_onVector_390 ⟨Nat.le_of_ble_eq_true rfl, Nat.le_of_ble_eq_true rfl⟩) hS (fun q _ h => hFc q h) hFc (fun u t H_33 locs ht hvm hw hB hz1 hk1 hS2 => ?_)
                          obtain ⟨hP1, -, hD1⟩ := hB
                          rw [ht] at hP1
                          replace hD := hD1.weaken (fun _ _ _ h => hFc _ h)
                          replace hP := hP1
                          replace hS := hS2
                          clear hP1 hD1 hS2 hFc hfc hz1 hk1 hvm ht
                          refine lv_goto (tgt := 423) hx hb dX18_onVector_393 (by decide) ?_
                          obtain ⟨h8, h9⟩ := ret_some hf
                          rw [h8]
                          exact W.vret hx hb hr (fun t ht hW => ⟨⟨(), rfl, trivial, by rw [ht]; exact hP, va_K.moved hW.alike hK, hD⟩, hS.F ht⟩) hS.2.2 dX18_onVector_423
                        · skip
                          rw [if_neg c_31] at hf
                          refine lv_iload hx hb dX18_onVector_379 (lv_at hl 0 rfl) ?_
                          refine lv_iconst (v := (-1)) hx hb dX18_onVector_381 (by decide) ?_
                          refine lv_icmp_ne (tgt := 396) hx hb dX18_onVector_382 (by decide) (fun c_34 => ?_) (fun c_34 => ?_)
                          · skip
                            rw [if_neg c_34] at hf
                            refine lv_iload_n hx hb dX18_onVector_396 rfl (lv_at hl 3 rfl) ?_
                            refine lv_bipush (v := 58) hx hb dX18_onVector_397 (by decide) ?_
                            refine lv_icmp_ne (tgt := 416) hx hb dX18_onVector_399 (by decide) (fun c_35 => ?_) (fun c_35 => ?_)
                            · skip
                              rw [if_neg c_35] at hf
                              refine lv_aload_n hx hb dX18_onVector_416 rfl (lv_at hl 2 rfl) ?_
                              refine lv_iload hx hb dX18_onVector_417 (lv_at hl 1 rfl) ?_
                              refine lv_iconst (v := 1) hx hb dX18_onVector_419 (by decide) ?_
                              obtain ⟨z_36, _u, hfc, hf⟩ := cal_some hf
                              have hFc := de_free hD hS hA
                              refine va_callv (va_runV (As := [.int r_26, .int 1]) (rest := []) ⟨hx, hb, hml, hown, hts⟩ (de_X18_push l dC dI cy a sh n H.size F z_30 h0 r_26 1 hfc) (cwV 2 hts gX18_onVector_X18_push rfl rfl rfl (by decide +kernel) ⟨Nat.le_of_ble_eq_true rfl, Nat.le_of_ble_eq_true rfl⟩) ⟨fun a U g mk q => by obtain ⟨q0, q1, qP, qK, qD, qN⟩ := q; exact ⟨q0, q1, qP, va_K.moved (u := U) (U := U.calling g mk a) (Vm.Alike.refl U.vm) qK, qD, qN.same rfl⟩, va_recv hK hP (ci := 18) (q0 := h0) rfl (Wd_ob kg_11 sg_11 (by decide)), fun U hU hW => ⟨rfl, by rw [hU], by rw [hU]; exact hP, va_K.moved hW.alike hK, hD.weaken (fun _ _ _ _ => trivial), hN.warm hW⟩⟩ rfl rfl hl.1 rfl (lv_room (Nat.le_of_ble_eq_true rfl)) dX18_onVector_420 ⟨Nat.le_of_ble_eq_true rfl, Nat.le_of_ble_eq_true rfl⟩) hS (fun q _ h => hFc q h) hFc (fun u t H_37 locs ht hvm hw hB hz1 hk1 hS2 => ?_)
                              obtain ⟨hP1, -, hD1⟩ := hB
                              rw [ht] at hP1
                              replace hD := hD1.weaken (fun _ _ _ h => hFc _ h)
                              replace hP := hP1
                              replace hS := hS2
                              clear hP1 hD1 hS2 hFc hfc hz1 hk1 hvm ht
                              obtain ⟨h8, h9⟩ := ret_some hf
                              rw [h8]
                              exact W.vret hx hb hr (fun t ht hW => ⟨⟨(), rfl, trivial, by rw [ht]; exact hP, va_K.moved hW.alike hK, hD⟩, hS.F ht⟩) hS.2.2 dX18_onVector_423
                            · skip
                              rw [if_pos c_35] at hf
                              refine lv_aload_n hx hb dX18_onVector_402 rfl (lv_at hl 2 rfl) ?_
                              obtain ⟨k_38, ek_38, hf⟩ := lnk_some hf
                              refine va_get (D := (dC, dI)) (ci := 18) (v := .ref (a k_38)) (C := RX18) (T := TX18) (N := 78) hx hb hts iwd_X18_onVector_X18 hown hK hP h0 (Wd_ob kg_11 sg_11 (by decide)) rfl 15 (by decide) (hts _ md_X18_onVector_4) (fun _ h9 => h9) (fl_q rfl ek_38) dX18_onVector_403 ?_
                              refine lv_iload hx hb dX18_onVector_406 (lv_at hl 1 rfl) ?_
                              refine lv_iload hx hb dX18_onVector_408 (lv_at hl 0 rfl) ?_
                              obtain ⟨g_40, hf⟩ := grd_some hf
                              obtain ⟨kg_40, sg_40⟩ := okO_at g_40
                              obtain ⟨z_39, _u, hfc, hf⟩ := cal_some hf
                              have hFc := de_free hD hS hA
                              refine va_callv (va_runV (As := [.int r_26, .int p_29]) (rest := []) ⟨hx, hb, hml, hown, hts⟩ (de_X15_swap l dC dI cy a sh n H.size F z_30 k_38 r_26 p_29 hfc) (cwV 2 hts gX18_onVector_X15_swap rfl rfl rfl (by decide +kernel) ⟨Nat.le_of_ble_eq_true rfl, Nat.le_of_ble_eq_true rfl⟩) ⟨fun a U g mk q => by obtain ⟨q0, q1, qP, qK, qD, qN⟩ := q; exact ⟨q0, q1, qP, va_K.moved (u := U) (U := U.calling g mk a) (Vm.Alike.refl U.vm) qK, qD, qN.same rfl⟩, va_recv hK hP (ci := 15) (q0 := k_38) rfl (Wd_ob kg_40 sg_40 (by decide)), fun U hU hW => ⟨rfl, by rw [hU], by rw [hU]; exact hP, va_K.moved hW.alike hK, hD.weaken (fun _ _ _ _ => trivial), hN.warm hW⟩⟩ rfl rfl hl.1 rfl (lv_room (Nat.le_of_ble_eq_true rfl)) dX18_onVector_410 ⟨Nat.le_of_ble_eq_true rfl, Nat.le_of_ble_eq_true rfl⟩) hS (fun q _ h => hFc q h) hFc (fun u t H_41 locs ht hvm hw hB hz1 hk1 hS2 => ?_)
                              obtain ⟨hP1, -, hD1⟩ := hB
                              rw [ht] at hP1
                              replace hD := hD1.weaken (fun _ _ _ h => hFc _ h)
                              replace hP := hP1
                              replace hS := hS2
                              clear hP1 hD1 hS2 hFc hfc hz1 hk1 hvm ht
                              refine lv_goto (tgt := 423) hx hb dX18_onVector_413 (by decide) ?_
                              obtain ⟨h8, h9⟩ := ret_some hf
                              rw [h8]
                              exact W.vret hx hb hr (fun t ht hW => ⟨⟨(), rfl, trivial, by rw [ht]; exact hP, va_K.moved hW.alike hK, hD⟩, hS.F ht⟩) hS.2.2 dX18_onVector_423
                          · skip
                            rw [if_pos c_34] at hf
                            refine lv_aload_n hx hb dX18_onVector_385 rfl (lv_at hl 2 rfl) ?_
                            refine lv_iconst (v := 2) hx hb dX18_onVector_386 (by decide) ?_
                            refine lv_ldc2 hx hb hown (hts _ md_X18_onVector_7) dX18_onVector_387 ?_
                            obtain ⟨z_42, _u, hfc, hf⟩ := cal_some hf
                            have hFc := de_free hD hS hA
                            refine va_callv (va_runV (As := [.int 2, .long 2]) (rest := []) ⟨hx, hb, hml, hown, hts⟩ (de_X18_end l dC dI cy a sh n H.size F z_30 h0 2 2 hfc) (cwV 2 hts gX18_onVector_X18_end rfl rfl rfl (by decide +kernel) ⟨Nat.le_of_ble_eq_true rfl, Nat.le_of_ble_eq_true rfl⟩) ⟨fun a U g mk q => by obtain ⟨q0, q1, qP, qK, qD, qN⟩ := q; exact ⟨q0, q1, qP, va_K.moved (u := U) (U := U.calling g mk a) (Vm.Alike.refl U.vm) qK, qD, qN.same rfl⟩, va_recv hK hP (ci := 18) (q0 := h0) rfl (Wd_ob kg_11 sg_11 (by decide)), fun U hU hW => ⟨rfl, by rw [hU], by rw [hU]; exact hP, va_K.moved hW.alike hK, hD.weaken (fun _ _ _ _ => trivial), hN.warm hW⟩⟩ rfl rfl hl.1 rfl (lv_room (Nat.le_of_ble_eq_true rfl)) dX18_onVector_390 ⟨Nat.le_of_ble_eq_true rfl, Nat.le_of_ble_eq_true rfl⟩) hS (fun q _ h => hFc q h) hFc (fun u t H_43 locs ht hvm hw hB hz1 hk1 hS2 => ?_)
                            obtain ⟨hP1, -, hD1⟩ := hB
                            rw [ht] at hP1
                            replace hD := hD1.weaken (fun _ _ _ h => hFc _ h)
                            replace hP := hP1
                            replace hS := hS2
                            clear hP1 hD1 hS2 hFc hfc hz1 hk1 hvm ht
                            refine lv_goto (tgt := 423) hx hb dX18_onVector_393 (by decide) ?_
                            obtain ⟨h8, h9⟩ := ret_some hf
                            rw [h8]
                            exact W.vret hx hb hr (fun t ht hW => ⟨⟨(), rfl, trivial, by rw [ht]; exact hP, va_K.moved hW.alike hK, hD⟩, hS.F ht⟩) hS.2.2 dX18_onVector_423
                      refine lv_icmp_ne (tgt := 369) hx hb dX18_onVector_352 (by decide) (fun c_44 => ?_) (fun c_44 => ?_)
                      · skip
                        rw [if_neg c_44] at hf
                        refine lv_iload hx hb dX18_onVector_369 (lv_at hl 0 rfl) ?_
                        exact B371 (z_25, r_26) ls H_28 locs ⟨lv_sub hl [0, 5, 6] rfl, hP, hD, hS⟩ hf
                      · skip
                        rw [if_pos c_44] at hf
                        refine lv_aload_n hx hb dX18_onVector_355 rfl (lv_at hl 5 rfl) ?_
                        obtain ⟨k_45, ek_45, hf⟩ := lnk_some hf
                        refine va_get (D := (dC, dI)) (ci := 18) (v := .ref (a k_45)) (C := RX18) (T := TX18) (N := 78) hx hb hts iwd_X18_onVector_X18 hown hK hP h0 (Wd_ob kg_11 sg_11 (by decide)) rfl 15 (by decide) (hts _ md_X18_onVector_4) (fun _ h9 => h9) (fl_q rfl ek_45) dX18_onVector_356 ?_
                        refine lv_iload hx hb dX18_onVector_359 (lv_at hl 1 rfl) ?_
                        refine lv_lload hx hb dX18_onVector_361 (lv_at hl 3 rfl) ?_
                        obtain ⟨g_48, hf⟩ := grd_some hf
                        obtain ⟨kg_48, sg_48⟩ := okO_at g_48
                        obtain ⟨z_46, r_47, hfc, hf⟩ := cal_some hf
                        have hFc := de_free hD hS hA
                        refine va_calli (va_runV (As := [.int r_10, .long p_5]) (rest := []) ⟨hx, hb, hml, hown, hts⟩ (de_X15_part l dC dI cy a sh n H_28.size F z_25 k_45 r_10 p_5 hfc) (cwV 2 hts gX18_onVector_X15_part rfl rfl rfl (by decide +kernel) ⟨Nat.le_of_ble_eq_true rfl, Nat.le_of_ble_eq_true rfl⟩) ⟨fun a U g mk q => by obtain ⟨q0, q1, qP, qK, qD, qN⟩ := q; exact ⟨q0, q1, qP, va_K.moved (u := U) (U := U.calling g mk a) (Vm.Alike.refl U.vm) qK, qD, qN.same rfl⟩, va_recv hK hP (ci := 15) (q0 := k_45) rfl (Wd_ob kg_48 sg_48 (by decide)), fun U hU hW => ⟨rfl, by rw [hU], by rw [hU]; exact hP, va_K.moved hW.alike hK, hD.weaken (fun _ _ _ _ => trivial), hN.warm hW⟩⟩ rfl rfl hl.1 rfl (lv_room (Nat.le_of_ble_eq_true rfl)) dX18_onVector_363 ⟨Nat.le_of_ble_eq_true rfl, Nat.le_of_ble_eq_true rfl⟩) hS (fun q _ h => hFc q h) hFc (fun rr u t H_49 locs ht hvm hw hB hz1 hk1 hS2 => ?_)
                        rw [hw]
                        clear hw
                        obtain ⟨hP1, -, hD1⟩ := hB
                        rw [ht] at hP1
                        replace hD := hD1.weaken (fun _ _ _ h => hFc _ h)
                        replace hP := hP1
                        replace hS := hS2
                        clear hP1 hD1 hS2 hFc hfc hz1 hk1 hvm ht
                        refine lv_goto (tgt := 371) hx hb dX18_onVector_366 (by decide) ?_
                        exact B371 (z_46, r_47) ls H_49 locs ⟨lv_sub hl [0, 5, 6] rfl, hP, hD, hS⟩ hf
                    · skip
                      rw [if_pos c_23] at hf
                      refine lv_aload_n hx hb dX18_onVector_295 rfl (lv_at hl 4 rfl) ?_
                      obtain ⟨k_50, ek_50, hf⟩ := lnk_some hf
                      refine va_get (D := (dC, dI)) (ci := 18) (v := .ref (a k_50)) (C := RX18) (T := TX18) (N := 78) hx hb hts iwd_X18_onVector_X18 hown hK hP h0 (Wd_ob kg_11 sg_11 (by decide)) rfl 15 (by decide) (hts _ md_X18_onVector_4) (fun _ h9 => h9) (fl_q rfl ek_50) dX18_onVector_296 ?_
                      obtain ⟨g_51, hf⟩ := grd_some hf
                      obtain ⟨kg_51, sg_51⟩ := okO_at g_51
                      obtain ⟨k_52, ek_52, hf⟩ := lnk_some hf
                      refine va_getN (D := (dC, dI)) (ci := 15) (v := .ref (a k_52)) (C := RX15) (T := TX15) (N := 6) hx hb hts iwd_X18_onVector_X15 hown hK hP k_50 (Wd_ob kg_51 sg_51 (by decide)) rfl 3 (by decide) (va_Nw.use rfl (NK_f_X18_84 hN)) (fun _ h9 => h9) (fl_q rfl ek_52) dX18_onVector_299 ?_
                      refine lv_iload hx hb dX18_onVector_302 (lv_at hl 0 rfl) ?_
                      obtain ⟨g_53, hf⟩ := grd_some hf
                      obtain ⟨kg_53, sg_53, ig_53⟩ := okA_at g_53
                      refine va_iald hx hb hK hP k_52 1 (Wd_ai kg_53 sg_53) rfl ig_53 dX18_onVector_304 ?_
                      refine lv_iconst (v := (-1)) hx hb dX18_onVector_305 (by decide) ?_
                      refine lv_icmp_ne (tgt := 320) hx hb dX18_onVector_306 (by decide) (fun c_54 => ?_) (fun c_54 => ?_)
                      · skip
                        rw [if_neg c_54] at hf
                        refine lv_aload_n hx hb dX18_onVector_320 rfl (lv_at hl 4 rfl) ?_
                        refine lv_aload_n hx hb dX18_onVector_321 rfl (lv_at hl 4 rfl) ?_
                        obtain ⟨k_55, ek_55, hf⟩ := lnk_some hf
                        refine va_get (D := (dC, dI)) (ci := 18) (v := .ref (a k_55)) (C := RX18) (T := TX18) (N := 78) hx hb hts iwd_X18_onVector_X18 hown hK hP h0 (Wd_ob kg_11 sg_11 (by decide)) rfl 15 (by decide) (hts _ md_X18_onVector_4) (fun _ h9 => h9) (fl_q rfl ek_55) dX18_onVector_322 ?_
                        refine lv_iload hx hb dX18_onVector_325 (lv_at hl 0 rfl) ?_
                        obtain ⟨g_58, hf⟩ := grd_some hf
                        obtain ⟨kg_58, sg_58⟩ := okO_at g_58
                        obtain ⟨z_56, r_57, hfc, hf⟩ := cal_some hf
                        have hFc := de_free hD hS hA
                        refine va_calli (va_runV (As := [.int r_10]) (rest := [.ref (a h0)]) ⟨hx, hb, hml, hown, hts⟩ (de_X15_takeLast l dC dI cy a sh n H_19.size F z_17 k_55 r_10 hfc) (cwV 1 hts gX18_onVector_X15_takeLast rfl rfl rfl (by decide +kernel) ⟨Nat.le_of_ble_eq_true rfl, Nat.le_of_ble_eq_true rfl⟩) ⟨fun a U g mk q => by obtain ⟨q0, q1, qP, qK, qD, qN⟩ := q; exact ⟨q0, q1, qP, va_K.moved (u := U) (U := U.calling g mk a) (Vm.Alike.refl U.vm) qK, qD, qN.same rfl⟩, va_recv hK hP (ci := 15) (q0 := k_55) rfl (Wd_ob kg_58 sg_58 (by decide)), fun U hU hW => ⟨rfl, by rw [hU], by rw [hU]; exact hP, va_K.moved hW.alike hK, hD.weaken (fun _ _ _ _ => trivial), hN.warm hW⟩⟩ rfl rfl hl.1 rfl (lv_room (Nat.le_of_ble_eq_true rfl)) dX18_onVector_327 ⟨Nat.le_of_ble_eq_true rfl, Nat.le_of_ble_eq_true rfl⟩) hS (fun q _ h => hFc q h) hFc (fun rr u t H_59 locs ht hvm hw hB hz1 hk1 hS2 => ?_)
                        rw [hw]
                        clear hw
                        obtain ⟨hP1, -, hD1⟩ := hB
                        rw [ht] at hP1
                        replace hD := hD1.weaken (fun _ _ _ h => hFc _ h)
                        replace hP := hP1
                        replace hS := hS2
                        clear hP1 hD1 hS2 hFc hfc hz1 hk1 hvm ht
                        refine lv_iconst (v := 0) hx hb dX18_onVector_330 (by decide) ?_
                        obtain ⟨z_60, _u, hfc, hf⟩ := cal_some hf
                        have hFc := de_free hD hS hA
                        refine va_callv (va_runV (As := [.int r_57, .int 0]) (rest := []) ⟨hx, hb, hml, hown, hts⟩ (de_X18_push l dC dI cy a sh n H_59.size F z_56 h0 r_57 0 hfc) (cwV 2 hts gX18_onVector_X18_push rfl rfl rfl (by decide +kernel) ⟨Nat.le_of_ble_eq_true rfl, Nat.le_of_ble_eq_true rfl⟩) ⟨fun a U g mk q => by obtain ⟨q0, q1, qP, qK, qD, qN⟩ := q; exact ⟨q0, q1, qP, va_K.moved (u := U) (U := U.calling g mk a) (Vm.Alike.refl U.vm) qK, qD, qN.same rfl⟩, va_recv hK hP (ci := 18) (q0 := h0) rfl (Wd_ob kg_11 sg_11 (by decide)), fun U hU hW => ⟨rfl, by rw [hU], by rw [hU]; exact hP, va_K.moved hW.alike hK, hD.weaken (fun _ _ _ _ => trivial), hN.warm hW⟩⟩ rfl rfl hl.1 rfl (lv_room (Nat.le_of_ble_eq_true rfl)) dX18_onVector_331 ⟨Nat.le_of_ble_eq_true rfl, Nat.le_of_ble_eq_true rfl⟩) hS (fun q _ h => hFc q h) hFc (fun u t H_61 locs ht hvm hw hB hz1 hk1 hS2 => ?_)
                        obtain ⟨hP1, -, hD1⟩ := hB
                        rw [ht] at hP1
                        replace hD := hD1.weaken (fun _ _ _ h => hFc _ h)
                        replace hP := hP1
                        replace hS := hS2
                        clear hP1 hD1 hS2 hFc hfc hz1 hk1 hvm ht
                        refine lv_goto (tgt := 423) hx hb dX18_onVector_334 (by decide) ?_
                        obtain ⟨h8, h9⟩ := ret_some hf
                        rw [h8]
                        exact W.vret hx hb hr (fun t ht hW => ⟨⟨(), rfl, trivial, by rw [ht]; exact hP, va_K.moved hW.alike hK, hD⟩, hS.F ht⟩) hS.2.2 dX18_onVector_423
                      · skip
                        rw [if_pos c_54] at hf
                        refine lv_aload_n hx hb dX18_onVector_309 rfl (lv_at hl 4 rfl) ?_
                        refine lv_iconst (v := 2) hx hb dX18_onVector_310 (by decide) ?_
                        refine lv_ldc2 hx hb hown (hts _ md_X18_onVector_7) dX18_onVector_311 ?_
                        obtain ⟨z_62, _u, hfc, hf⟩ := cal_some hf
                        have hFc := de_free hD hS hA
                        refine va_callv (va_runV (As := [.int 2, .long 2]) (rest := []) ⟨hx, hb, hml, hown, hts⟩ (de_X18_end l dC dI cy a sh n H_19.size F z_17 h0 2 2 hfc) (cwV 2 hts gX18_onVector_X18_end rfl rfl rfl (by decide +kernel) ⟨Nat.le_of_ble_eq_true rfl, Nat.le_of_ble_eq_true rfl⟩) ⟨fun a U g mk q => by obtain ⟨q0, q1, qP, qK, qD, qN⟩ := q; exact ⟨q0, q1, qP, va_K.moved (u := U) (U := U.calling g mk a) (Vm.Alike.refl U.vm) qK, qD, qN.same rfl⟩, va_recv hK hP (ci := 18) (q0 := h0) rfl (Wd_ob kg_11 sg_11 (by decide)), fun U hU hW => ⟨rfl, by rw [hU], by rw [hU]; exact hP, va_K.moved hW.alike hK, hD.weaken (fun _ _ _ _ => trivial), hN.warm hW⟩⟩ rfl rfl hl.1 rfl (lv_room (Nat.le_of_ble_eq_true rfl)) dX18_onVector_314 ⟨Nat.le_of_ble_eq_true rfl, Nat.le_of_ble_eq_true rfl⟩) hS (fun q _ h => hFc q h) hFc (fun u t H_63 locs ht hvm hw hB hz1 hk1 hS2 => ?_)
                        obtain ⟨hP1, -, hD1⟩ := hB
                        rw [ht] at hP1
                        replace hD := hD1.weaken (fun _ _ _ h => hFc _ h)
                        replace hP := hP1
                        replace hS := hS2
                        clear hP1 hD1 hS2 hFc hfc hz1 hk1 hvm ht
                        refine lv_goto (tgt := 423) hx hb dX18_onVector_317 (by decide) ?_
                        obtain ⟨h8, h9⟩ := ret_some hf
                        rw [h8]
                        exact W.vret hx hb hr (fun t ht hW => ⟨⟨(), rfl, trivial, by rw [ht]; exact hP, va_K.moved hW.alike hK, hD⟩, hS.F ht⟩) hS.2.2 dX18_onVector_423
                  · skip
                    rw [if_pos c_22] at hf
                    refine lv_aload_n hx hb dX18_onVector_249 rfl (lv_at hl 4 rfl) ?_
                    obtain ⟨k_64, ek_64, hf⟩ := lnk_some hf
                    refine va_get (D := (dC, dI)) (ci := 18) (v := .ref (a k_64)) (C := RX18) (T := TX18) (N := 78) hx hb hts iwd_X18_onVector_X18 hown hK hP h0 (Wd_ob kg_11 sg_11 (by decide)) rfl 15 (by decide) (hts _ md_X18_onVector_4) (fun _ h9 => h9) (fl_q rfl ek_64) dX18_onVector_250 ?_
                    refine lv_iload hx hb dX18_onVector_253 (lv_at hl 0 rfl) ?_
                    obtain ⟨g_67, hf⟩ := grd_some hf
                    obtain ⟨kg_67, sg_67⟩ := okO_at g_67
                    obtain ⟨z_65, r_66, hfc, hf⟩ := cal_some hf
                    have hFc := de_free hD hS hA
                    refine va_calli (va_runV (As := [.int r_10]) (rest := []) ⟨hx, hb, hml, hown, hts⟩ (de_X15_count l dC dI cy a sh n H_19.size F z_17 k_64 r_10 hfc) (cwV 1 hts gX18_onVector_X15_count rfl rfl rfl (by decide +kernel) ⟨Nat.le_of_ble_eq_true rfl, Nat.le_of_ble_eq_true rfl⟩) ⟨fun a U g mk q => by obtain ⟨q0, q1, qP, qK, qD, qN⟩ := q; exact ⟨q0, q1, qP, va_K.moved (u := U) (U := U.calling g mk a) (Vm.Alike.refl U.vm) qK, qD, qN.same rfl⟩, va_recv hK hP (ci := 15) (q0 := k_64) rfl (Wd_ob kg_67 sg_67 (by decide)), fun U hU hW => ⟨rfl, by rw [hU], by rw [hU]; exact hP, va_K.moved hW.alike hK, hD.weaken (fun _ _ _ _ => trivial), hN.warm hW⟩⟩ rfl rfl hl.1 rfl (lv_room (Nat.le_of_ble_eq_true rfl)) dX18_onVector_255 ⟨Nat.le_of_ble_eq_true rfl, Nat.le_of_ble_eq_true rfl⟩) hS (fun q _ h => hFc q h) hFc (fun rr u t H_68 locs ht hvm hw hB hz1 hk1 hS2 => ?_)
                    rw [hw]
                    clear hw
                    obtain ⟨hP1, -, hD1⟩ := hB
                    rw [ht] at hP1
                    replace hD := hD1.weaken (fun _ _ _ h => hFc _ h)
                    replace hP := hP1
                    replace hS := hS2
                    clear hP1 hD1 hS2 hFc hfc hz1 hk1 hvm ht
                    refine lv_sipush (v := 256) hx hb dX18_onVector_258 (by decide) ?_
                    refine lv_icmp_ne (tgt := 275) hx hb dX18_onVector_261 (by decide) (fun c_69 => ?_) (fun c_69 => ?_)
                    · skip
                      rw [if_neg c_69] at hf
                      refine lv_aload_n hx hb dX18_onVector_275 rfl (lv_at hl 4 rfl) ?_
                      obtain ⟨k_70, ek_70, hf⟩ := lnk_some hf
                      refine va_get (D := (dC, dI)) (ci := 18) (v := .ref (a k_70)) (C := RX18) (T := TX18) (N := 78) hx hb hts iwd_X18_onVector_X18 hown hK hP h0 (Wd_ob kg_11 sg_11 (by decide)) rfl 15 (by decide) (hts _ md_X18_onVector_4) (fun _ h9 => h9) (fl_q rfl ek_70) dX18_onVector_276 ?_
                      refine lv_iload hx hb dX18_onVector_279 (lv_at hl 0 rfl) ?_
                      refine lv_iload hx hb dX18_onVector_281 (lv_at hl 1 rfl) ?_
                      obtain ⟨g_72, hf⟩ := grd_some hf
                      obtain ⟨kg_72, sg_72⟩ := okO_at g_72
                      obtain ⟨z_71, _u, hfc, hf⟩ := cal_some hf
                      have hFc := de_free hD hS hA
                      refine va_callv (va_runV (As := [.int r_10, .int p_7]) (rest := []) ⟨hx, hb, hml, hown, hts⟩ (de_X15_add l dC dI cy a sh n H_68.size F z_65 k_70 r_10 p_7 hfc) (cwV 2 hts gX18_onVector_X15_add rfl rfl rfl (by decide +kernel) ⟨Nat.le_of_ble_eq_true rfl, Nat.le_of_ble_eq_true rfl⟩) ⟨fun a U g mk q => by obtain ⟨q0, q1, qP, qK, qD, qN⟩ := q; exact ⟨q0, q1, qP, va_K.moved (u := U) (U := U.calling g mk a) (Vm.Alike.refl U.vm) qK, qD, qN.same rfl⟩, va_recv hK hP (ci := 15) (q0 := k_70) rfl (Wd_ob kg_72 sg_72 (by decide)), fun U hU hW => ⟨rfl, by rw [hU], by rw [hU]; exact hP, va_K.moved hW.alike hK, hD.weaken (fun _ _ _ _ => trivial), hN.warm hW⟩⟩ rfl rfl hl.1 rfl (lv_room (Nat.le_of_ble_eq_true rfl)) dX18_onVector_283 ⟨Nat.le_of_ble_eq_true rfl, Nat.le_of_ble_eq_true rfl⟩) hS (fun q _ h => hFc q h) hFc (fun u t H_73 locs ht hvm hw hB hz1 hk1 hS2 => ?_)
                      obtain ⟨hP1, -, hD1⟩ := hB
                      rw [ht] at hP1
                      replace hD := hD1.weaken (fun _ _ _ h => hFc _ h)
                      replace hP := hP1
                      replace hS := hS2
                      clear hP1 hD1 hS2 hFc hfc hz1 hk1 hvm ht
                      refine lv_goto (tgt := 423) hx hb dX18_onVector_286 (by decide) ?_
                      obtain ⟨h8, h9⟩ := ret_some hf
                      rw [h8]
                      exact W.vret hx hb hr (fun t ht hW => ⟨⟨(), rfl, trivial, by rw [ht]; exact hP, va_K.moved hW.alike hK, hD⟩, hS.F ht⟩) hS.2.2 dX18_onVector_423
                    · skip
                      rw [if_pos c_69] at hf
                      refine lv_aload_n hx hb dX18_onVector_264 rfl (lv_at hl 4 rfl) ?_
                      refine lv_iconst (v := 2) hx hb dX18_onVector_265 (by decide) ?_
                      refine lv_ldc2 hx hb hown (hts _ md_X18_onVector_6) dX18_onVector_266 ?_
                      obtain ⟨z_74, _u, hfc, hf⟩ := cal_some hf
                      have hFc := de_free hD hS hA
                      refine va_callv (va_runV (As := [.int 2, .long 4]) (rest := []) ⟨hx, hb, hml, hown, hts⟩ (de_X18_end l dC dI cy a sh n H_68.size F z_65 h0 2 4 hfc) (cwV 2 hts gX18_onVector_X18_end rfl rfl rfl (by decide +kernel) ⟨Nat.le_of_ble_eq_true rfl, Nat.le_of_ble_eq_true rfl⟩) ⟨fun a U g mk q => by obtain ⟨q0, q1, qP, qK, qD, qN⟩ := q; exact ⟨q0, q1, qP, va_K.moved (u := U) (U := U.calling g mk a) (Vm.Alike.refl U.vm) qK, qD, qN.same rfl⟩, va_recv hK hP (ci := 18) (q0 := h0) rfl (Wd_ob kg_11 sg_11 (by decide)), fun U hU hW => ⟨rfl, by rw [hU], by rw [hU]; exact hP, va_K.moved hW.alike hK, hD.weaken (fun _ _ _ _ => trivial), hN.warm hW⟩⟩ rfl rfl hl.1 rfl (lv_room (Nat.le_of_ble_eq_true rfl)) dX18_onVector_269 ⟨Nat.le_of_ble_eq_true rfl, Nat.le_of_ble_eq_true rfl⟩) hS (fun q _ h => hFc q h) hFc (fun u t H_75 locs ht hvm hw hB hz1 hk1 hS2 => ?_)
                      obtain ⟨hP1, -, hD1⟩ := hB
                      rw [ht] at hP1
                      replace hD := hD1.weaken (fun _ _ _ h => hFc _ h)
                      replace hP := hP1
                      replace hS := hS2
                      clear hP1 hD1 hS2 hFc hfc hz1 hk1 hvm ht
                      refine lv_goto (tgt := 423) hx hb dX18_onVector_272 (by decide) ?_
                      obtain ⟨h8, h9⟩ := ret_some hf
                      rw [h8]
                      exact W.vret hx hb hr (fun t ht hW => ⟨⟨(), rfl, trivial, by rw [ht]; exact hP, va_K.moved hW.alike hK, hD⟩, hS.F ht⟩) hS.2.2 dX18_onVector_423
                · skip
                  rw [if_pos c_21] at hf
                  refine lv_aload_n hx hb dX18_onVector_224 rfl (lv_at hl 4 rfl) ?_
                  refine lv_iconst (v := 3) hx hb dX18_onVector_225 (by decide) ?_
                  refine lv_lconst (v := 0) hx hb dX18_onVector_226 (by decide) ?_
                  refine lv_aload_n hx hb dX18_onVector_227 rfl (lv_at hl 4 rfl) ?_
                  obtain ⟨k_76, ek_76, hf⟩ := lnk_some hf
                  refine va_get (D := (dC, dI)) (ci := 18) (v := .ref (a k_76)) (C := RX18) (T := TX18) (N := 78) hx hb hts iwd_X18_onVector_X18 hown hK hP h0 (Wd_ob kg_11 sg_11 (by decide)) rfl 15 (by decide) (hts _ md_X18_onVector_4) (fun _ h9 => h9) (fl_q rfl ek_76) dX18_onVector_228 ?_
                  refine lv_iload hx hb dX18_onVector_231 (lv_at hl 0 rfl) ?_
                  obtain ⟨g_79, hf⟩ := grd_some hf
                  obtain ⟨kg_79, sg_79⟩ := okO_at g_79
                  obtain ⟨z_77, r_78, hfc, hf⟩ := cal_some hf
                  have hFc := de_free hD hS hA
                  refine va_calli (va_runV (As := [.int r_10]) (rest := [.long 0, .int 3, .ref (a h0)]) ⟨hx, hb, hml, hown, hts⟩ (de_X15_count l dC dI cy a sh n H_19.size F z_17 k_76 r_10 hfc) (cwV 1 hts gX18_onVector_X15_count rfl rfl rfl (by decide +kernel) ⟨Nat.le_of_ble_eq_true rfl, Nat.le_of_ble_eq_true rfl⟩) ⟨fun a U g mk q => by obtain ⟨q0, q1, qP, qK, qD, qN⟩ := q; exact ⟨q0, q1, qP, va_K.moved (u := U) (U := U.calling g mk a) (Vm.Alike.refl U.vm) qK, qD, qN.same rfl⟩, va_recv hK hP (ci := 15) (q0 := k_76) rfl (Wd_ob kg_79 sg_79 (by decide)), fun U hU hW => ⟨rfl, by rw [hU], by rw [hU]; exact hP, va_K.moved hW.alike hK, hD.weaken (fun _ _ _ _ => trivial), hN.warm hW⟩⟩ rfl rfl hl.1 rfl (lv_room (Nat.le_of_ble_eq_true rfl)) dX18_onVector_233 ⟨Nat.le_of_ble_eq_true rfl, Nat.le_of_ble_eq_true rfl⟩) hS (fun q _ h => hFc q h) hFc (fun rr u t H_80 locs ht hvm hw hB hz1 hk1 hS2 => ?_)
                  rw [hw]
                  clear hw
                  obtain ⟨hP1, -, hD1⟩ := hB
                  rw [ht] at hP1
                  replace hD := hD1.weaken (fun _ _ _ h => hFc _ h)
                  replace hP := hP1
                  replace hS := hS2
                  clear hP1 hD1 hS2 hFc hfc hz1 hk1 hvm ht
                  refine lv_i2l (v := (r_78 : Int32).toInt64) hx hb dX18_onVector_236 rfl ?_
                  obtain ⟨z_81, _u, hfc, hf⟩ := cal_some hf
                  have hFc := de_free hD hS hA
                  refine va_callv (va_runV (As := [.int 3, .long 0, .long ((r_78 : Int32).toInt64)]) (rest := []) ⟨hx, hb, hml, hown, hts⟩ (de_X18_make l dC dI cy a sh n H_80.size F z_77 h0 3 0 ((r_78 : Int32).toInt64) hfc) (cwV 3 hts gX18_onVector_X18_make rfl rfl rfl (by decide +kernel) ⟨Nat.le_of_ble_eq_true rfl, Nat.le_of_ble_eq_true rfl⟩) ⟨fun a U g mk q => by obtain ⟨q0, q1, qP, qK, qD, qN⟩ := q; exact ⟨q0, q1, qP, va_K.moved (u := U) (U := U.calling g mk a) (Vm.Alike.refl U.vm) qK, qD, qN.same rfl⟩, va_recv hK hP (ci := 18) (q0 := h0) rfl (Wd_ob kg_11 sg_11 (by decide)), fun U hU hW => ⟨rfl, by rw [hU], by rw [hU]; exact hP, va_K.moved hW.alike hK, hD.weaken (fun _ _ _ _ => trivial), hN.warm hW⟩⟩ rfl rfl hl.1 rfl (lv_room (Nat.le_of_ble_eq_true rfl)) dX18_onVector_237 ⟨Nat.le_of_ble_eq_true rfl, Nat.le_of_ble_eq_true rfl⟩) hS (fun q _ h => hFc q h) hFc (fun u t H_82 locs ht hvm hw hB hz1 hk1 hS2 => ?_)
                  obtain ⟨hP1, -, hD1⟩ := hB
                  rw [ht] at hP1
                  replace hD := hD1.weaken (fun _ _ _ h => hFc _ h)
                  replace hP := hP1
                  replace hS := hS2
                  clear hP1 hD1 hS2 hFc hfc hz1 hk1 hvm ht
                  refine lv_goto (tgt := 423) hx hb dX18_onVector_240 (by decide) ?_
                  obtain ⟨h8, h9⟩ := ret_some hf
                  rw [h8]
                  exact W.vret hx hb hr (fun t ht hW => ⟨⟨(), rfl, trivial, by rw [ht]; exact hP, va_K.moved hW.alike hK, hD⟩, hS.F ht⟩) hS.2.2 dX18_onVector_423
              · skip
                rw [if_pos c_20] at hf
                obtain ⟨h8, h9⟩ := ret_some hf
                rw [h8]
                exact W.vret hx hb hr (fun t ht hW => ⟨⟨(), rfl, trivial, by rw [ht]; exact hP, va_K.moved hW.alike hK, hD⟩, hS.F ht⟩) hS.2.2 dX18_onVector_217
            refine lv_if_eq (tgt := 210) hx hb dX18_onVector_188 (by decide) (fun c_83 => ?_) (fun c_83 => ?_)
            · skip
              rw [if_pos c_83] at hf
              exact B210 (z_13) ls H_15 locs ⟨lv_sub hl [0, 1, 2, 3, 4, 5] rfl, hP, hD, hS⟩ hf
            · skip
              rw [if_neg c_83] at hf
              refine lv_aload_n hx hb dX18_onVector_191 rfl (lv_at hl 4 rfl) ?_
              obtain ⟨k_84, ek_84, hf⟩ := lnk_some hf
              refine va_get (D := (dC, dI)) (ci := 18) (v := .ref (a k_84)) (C := RX18) (T := TX18) (N := 78) hx hb hts iwd_X18_onVector_X18 hown hK hP h0 (Wd_ob kg_11 sg_11 (by decide)) rfl 15 (by decide) (hts _ md_X18_onVector_4) (fun _ h9 => h9) (fl_q rfl ek_84) dX18_onVector_192 ?_
              obtain ⟨g_85, hf⟩ := grd_some hf
              obtain ⟨kg_85, sg_85⟩ := okO_at g_85
              obtain ⟨k_86, ek_86, hf⟩ := lnk_some hf
              refine va_getN (D := (dC, dI)) (ci := 15) (v := .ref (a k_86)) (C := RX15) (T := TX15) (N := 6) hx hb hts iwd_X18_onVector_X15 hown hK hP k_84 (Wd_ob kg_85 sg_85 (by decide)) rfl 0 (by decide) (va_Nw.use rfl (NK_f_X18_71 hN)) (fun _ h9 => h9) (fl_q rfl ek_86) dX18_onVector_195 ?_
              refine lv_iload hx hb dX18_onVector_198 (lv_at hl 0 rfl) ?_
              obtain ⟨g_87, hf⟩ := grd_some hf
              obtain ⟨kg_87, sg_87, ig_87⟩ := okA_at g_87
              refine va_bald hx hb hK hP k_86 0 (Wd_ab kg_87 sg_87) rfl ig_87 dX18_onVector_200 ?_
              refine lv_bipush (v := 7) hx hb dX18_onVector_201 (by decide) ?_
              refine lv_icmp_eq (tgt := 210) hx hb dX18_onVector_203 (by decide) (fun c_88 => ?_) (fun c_88 => ?_)
              · skip
                rw [if_pos c_88] at hf
                exact B210 (z_13) ls H_15 locs ⟨lv_sub hl [0, 1, 2, 3, 4, 5] rfl, hP, hD, hS⟩ hf
              · skip
                rw [if_neg c_88] at hf
                refine lv_aload_n hx hb dX18_onVector_206 rfl (lv_at hl 4 rfl) ?_
                obtain ⟨z_89, _u, hfc, hf⟩ := cal_some hf
                have hFc := de_free hD hS hA
                refine va_callv (va_runV (As := []) (rest := []) ⟨hx, hb, hml, hown, hts⟩ (de_X18_slip l dC dI cy a sh n H_15.size F z_13 h0 hfc) (cwV 0 hts gX18_onVector_X18_slip rfl rfl rfl (by decide +kernel) ⟨Nat.le_of_ble_eq_true rfl, Nat.le_of_ble_eq_true rfl⟩) ⟨fun a U g mk q => by obtain ⟨q0, q1, qP, qK, qD, qN⟩ := q; exact ⟨q0, q1, qP, va_K.moved (u := U) (U := U.calling g mk a) (Vm.Alike.refl U.vm) qK, qD, qN.same rfl⟩, va_recv hK hP (ci := 18) (q0 := h0) rfl (Wd_ob kg_11 sg_11 (by decide)), fun U hU hW => ⟨rfl, by rw [hU], by rw [hU]; exact hP, va_K.moved hW.alike hK, hD.weaken (fun _ _ _ _ => trivial), hN.warm hW⟩⟩ rfl rfl hl.1 rfl (lv_room (Nat.le_of_ble_eq_true rfl)) dX18_onVector_207 ⟨Nat.le_of_ble_eq_true rfl, Nat.le_of_ble_eq_true rfl⟩) hS (fun q _ h => hFc q h) hFc (fun u t H_90 locs ht hvm hw hB hz1 hk1 hS2 => ?_)
                obtain ⟨hP1, -, hD1⟩ := hB
                rw [ht] at hP1
                replace hD := hD1.weaken (fun _ _ _ h => hFc _ h)
                replace hP := hP1
                replace hS := hS2
                clear hP1 hD1 hS2 hFc hfc hz1 hk1 hvm ht
                exact B210 (z_89) ls H_90 locs ⟨lv_sub hl [0, 1, 2, 3, 4, 5] rfl, hP, hD, hS⟩ hf
          refine lv_icmp_ne (tgt := 174) hx hb dX18_onVector_163 (by decide) (fun c_91 => ?_) (fun c_91 => ?_)
          · skip
            rw [if_neg c_91] at hf
            refine lv_iconst (v := 0) hx hb dX18_onVector_174 (by decide) ?_
            exact B175 (z_6, 0) ls H locs ⟨lv_sub hl [0, 1, 2, 3] rfl, hP, hD, hS⟩ hf
          · skip
            rw [if_pos c_91] at hf
            refine lv_aload_n hx hb dX18_onVector_166 rfl (lv_at hl 2 rfl) ?_
            refine lv_iconst (v := 0) hx hb dX18_onVector_167 (by decide) ?_
            obtain ⟨g_94, hf⟩ := grd_some hf
            obtain ⟨kg_94, sg_94⟩ := okO_at g_94
            obtain ⟨z_92, r_93, hfc, hf⟩ := cal_some hf
            have hFc := de_free hD hS hA
            refine va_calli (va_runV (As := [.int 0]) (rest := []) ⟨hx, hb, hml, hown, hts⟩ (de_X18_takeAny l dC dI cy a sh n H.size F z_6 h0 0 hfc) (cwV 1 hts gX18_onVector_X18_takeAny rfl rfl rfl (by decide +kernel) ⟨Nat.le_of_ble_eq_true rfl, Nat.le_of_ble_eq_true rfl⟩) ⟨fun a U g mk q => by obtain ⟨q0, q1, qP, qK, qD, qN⟩ := q; exact ⟨q0, q1, qP, va_K.moved (u := U) (U := U.calling g mk a) (Vm.Alike.refl U.vm) qK, qD, qN.same rfl⟩, va_recv hK hP (ci := 18) (q0 := h0) rfl (Wd_ob kg_94 sg_94 (by decide)), fun U hU hW => ⟨rfl, by rw [hU], by rw [hU]; exact hP, va_K.moved hW.alike hK, hD.weaken (fun _ _ _ _ => trivial), hN.warm hW⟩⟩ rfl rfl hl.1 rfl (lv_room (Nat.le_of_ble_eq_true rfl)) dX18_onVector_168 ⟨Nat.le_of_ble_eq_true rfl, Nat.le_of_ble_eq_true rfl⟩) hS (fun q _ h => hFc q h) hFc (fun rr u t H_95 locs ht hvm hw hB hz1 hk1 hS2 => ?_)
            rw [hw]
            clear hw
            obtain ⟨hP1, -, hD1⟩ := hB
            rw [ht] at hP1
            replace hD := hD1.weaken (fun _ _ _ h => hFc _ h)
            replace hP := hP1
            replace hS := hS2
            clear hP1 hD1 hS2 hFc hfc hz1 hk1 hvm ht
            refine lv_goto (tgt := 175) hx hb dX18_onVector_171 (by decide) ?_
            exact B175 (z_92, r_93) ls H_95 locs ⟨lv_sub hl [0, 1, 2, 3] rfl, hP, hD, hS⟩ hf
        refine lv_icmp_ne (tgt := 157) hx hb dX18_onVector_147 (by decide) (fun c_96 => ?_) (fun c_96 => ?_)
        · skip
          rw [if_neg c_96] at hf
          refine lv_lconst (v := 0) hx hb dX18_onVector_157 (by decide) ?_
          exact B158 (z_4, 0) ls H locs ⟨lv_sub hl [0, 1, 2] rfl, hP, hD, hS⟩ hf
        · skip
          rw [if_pos c_96] at hf
          refine lv_aload_n hx hb dX18_onVector_150 rfl (lv_at hl 1 rfl) ?_
          obtain ⟨g_99, hf⟩ := grd_some hf
          obtain ⟨kg_99, sg_99⟩ := okO_at g_99
          obtain ⟨z_97, r_98, hfc, hf⟩ := cal_some hf
          have hFc := de_free hD hS hA
          refine va_calll (va_runV (As := []) (rest := []) ⟨hx, hb, hml, hown, hts⟩ (de_X18_takeLong l dC dI cy a sh n H.size F z_4 h0 hfc) (cwV 0 hts gX18_onVector_X18_takeLong rfl rfl rfl (by decide +kernel) ⟨Nat.le_of_ble_eq_true rfl, Nat.le_of_ble_eq_true rfl⟩) ⟨fun a U g mk q => by obtain ⟨q0, q1, qP, qK, qD, qN⟩ := q; exact ⟨q0, q1, qP, va_K.moved (u := U) (U := U.calling g mk a) (Vm.Alike.refl U.vm) qK, qD, qN.same rfl⟩, va_recv hK hP (ci := 18) (q0 := h0) rfl (Wd_ob kg_99 sg_99 (by decide)), fun U hU hW => ⟨rfl, by rw [hU], by rw [hU]; exact hP, va_K.moved hW.alike hK, hD.weaken (fun _ _ _ _ => trivial), hN.warm hW⟩⟩ rfl rfl hl.1 rfl (lv_room (Nat.le_of_ble_eq_true rfl)) dX18_onVector_151 ⟨Nat.le_of_ble_eq_true rfl, Nat.le_of_ble_eq_true rfl⟩) hS (fun q _ h => hFc q h) hFc (fun rr u t H_100 locs ht hvm hw hB hz1 hk1 hS2 => ?_)
          rw [hw]
          clear hw
          obtain ⟨hP1, -, hD1⟩ := hB
          rw [ht] at hP1
          replace hD := hD1.weaken (fun _ _ _ h => hFc _ h)
          replace hP := hP1
          replace hS := hS2
          clear hP1 hD1 hS2 hFc hfc hz1 hk1 hvm ht
          refine lv_goto (tgt := 158) hx hb dX18_onVector_154 (by decide) ?_
          exact B158 (z_97, r_98) ls H_100 locs ⟨lv_sub hl [0, 1, 2] rfl, hP, hD, hS⟩ hf
      refine de_cut (h := 135) (fun (x : St) => []) (fun x ls H locs => lv_has ls 11 [(0, .ref (a h0)), (1, .int x0)] ∧ va_P (dC, dI) vwCl (Wd cy a sh n x) H ∧ va_D A (Wd cy a sh n x) ∧ va_S A s.heap H locs) (fun x => fn_X18_onVector_B135 F sh n h0 x0 x) (z8, r8) ?_ (fun B135 => ?_)
      · intro x ls H locs hI hf
        obtain ⟨z_101, ez⟩ : ∃ w, w = x := ⟨_, rfl⟩
        subst ez
        obtain ⟨hl2, hP2, hD2, hS2⟩ := hI
        replace hl : lv_has ls 11 [(0, .ref (a h0)), (1, .int x0)] := hl2
        replace hP := hP2
        replace hD := hD2
        replace hS := hS2
        clear hl2 hP2 hD2 hS2
        replace hf := fn_X18_onVector_B135_s hf
        refine W.eq (g2 := F0 m 135 ls []) rfl ?_
        refine lv_aload_n hx hb dX18_onVector_135 rfl (lv_at hl 0 rfl) ?_
        obtain ⟨g_104, hf⟩ := grd_some hf
        obtain ⟨kg_104, sg_104⟩ := okO_at g_104
        obtain ⟨z_102, r_103, hfc, hf⟩ := cal_some hf
        have hFc := de_free hD hS hA
        refine va_calll (va_runV (As := []) (rest := []) ⟨hx, hb, hml, hown, hts⟩ (de_X18_takeLong l dC dI cy a sh n H.size F z_101 h0 hfc) (cwV 0 hts gX18_onVector_X18_takeLong rfl rfl rfl (by decide +kernel) ⟨Nat.le_of_ble_eq_true rfl, Nat.le_of_ble_eq_true rfl⟩) ⟨fun a U g mk q => by obtain ⟨q0, q1, qP, qK, qD, qN⟩ := q; exact ⟨q0, q1, qP, va_K.moved (u := U) (U := U.calling g mk a) (Vm.Alike.refl U.vm) qK, qD, qN.same rfl⟩, va_recv hK hP (ci := 18) (q0 := h0) rfl (Wd_ob kg_104 sg_104 (by decide)), fun U hU hW => ⟨rfl, by rw [hU], by rw [hU]; exact hP, va_K.moved hW.alike hK, hD.weaken (fun _ _ _ _ => trivial), hN.warm hW⟩⟩ rfl rfl hl.1 rfl (lv_room (Nat.le_of_ble_eq_true rfl)) dX18_onVector_136 ⟨Nat.le_of_ble_eq_true rfl, Nat.le_of_ble_eq_true rfl⟩) hS (fun q _ h => hFc q h) hFc (fun rr u t H_105 locs ht hvm hw hB hz1 hk1 hS2 => ?_)
        rw [hw]
        clear hw
        obtain ⟨hP1, -, hD1⟩ := hB
        rw [ht] at hP1
        replace hD := hD1.weaken (fun _ _ _ h => hFc _ h)
        replace hP := hP1
        replace hS := hS2
        clear hP1 hD1 hS2 hFc hfc hz1 hk1 hvm ht
        refine lv_goto (tgt := 143) hx hb dX18_onVector_139 (by decide) ?_
        exact B143 (z_102, r_103) ls H_105 locs ⟨lv_sub hl [0, 1] rfl, hP, hD, hS⟩ hf
      refine lv_icmp_eq (tgt := 135) hx hb dX18_onVector_120 (by decide) (fun c_106 => ?_) (fun c_106 => ?_)
      · skip
        rw [if_pos c_106] at hf
        exact B135 (z) ls H locs ⟨lv_sub hl [0, 1] rfl, hP, hD, hS⟩ hf
      · skip
        rw [if_neg c_106] at hf
        refine lv_iload_n hx hb dX18_onVector_123 rfl (lv_at hl 1 rfl) ?_
        refine lv_bipush (v := 54) hx hb dX18_onVector_124 (by decide) ?_
        refine lv_icmp_eq (tgt := 135) hx hb dX18_onVector_126 (by decide) (fun c_107 => ?_) (fun c_107 => ?_)
        · skip
          rw [if_pos c_107] at hf
          exact B135 (z) ls H locs ⟨lv_sub hl [0, 1] rfl, hP, hD, hS⟩ hf
        · skip
          rw [if_neg c_107] at hf
          refine lv_iload_n hx hb dX18_onVector_129 rfl (lv_at hl 1 rfl) ?_
          refine lv_bipush (v := 55) hx hb dX18_onVector_130 (by decide) ?_
          refine lv_icmp_ne (tgt := 142) hx hb dX18_onVector_132 (by decide) (fun c_108 => ?_) (fun c_108 => ?_)
          · skip
            rw [if_neg c_108] at hf
            refine lv_lconst (v := 0) hx hb dX18_onVector_142 (by decide) ?_
            exact B143 (z, 0) ls H locs ⟨lv_sub hl [0, 1] rfl, hP, hD, hS⟩ hf
          · skip
            rw [if_pos c_108] at hf
            exact B135 (z) ls H locs ⟨lv_sub hl [0, 1] rfl, hP, hD, hS⟩ hf
    · skip
      rw [if_pos c_2] at hf
      refine lv_aload_n hx hb dX18_onVector_112 rfl (lv_at hl 0 rfl) ?_
      obtain ⟨g_110, hf⟩ := grd_some hf
      obtain ⟨kg_110, sg_110⟩ := okO_at g_110
      obtain ⟨z_109, _u, hfc, hf⟩ := cal_some hf
      have hFc := de_free hD hS hA
      refine va_callv (va_runV (As := []) (rest := []) ⟨hx, hb, hml, hown, hts⟩ (de_X18_digest l dC dI cy a sh n H.size F sk z h0 hfc) (cwV 0 hts gX18_onVector_X18_digest rfl rfl rfl (by decide +kernel) ⟨Nat.le_of_ble_eq_true rfl, Nat.le_of_ble_eq_true rfl⟩) ⟨fun a U g mk q => by obtain ⟨q0, q1, qP, qK, qD, qN, qS⟩ := q; exact ⟨q0, q1, qP, va_K.moved (u := U) (U := U.calling g mk a) (Vm.Alike.refl U.vm) qK, qD, qN.same rfl, SKs.moved (u := U) (U := U.calling g mk a) (Vm.Alike.refl U.vm) qS⟩, va_recv hK hP (ci := 18) (q0 := h0) rfl (Wd_ob kg_110 sg_110 (by decide)), fun U hU hW => ⟨rfl, by rw [hU], by rw [hU]; exact hP, va_K.moved hW.alike hK, hD.weaken (fun _ _ _ _ => trivial), hN.warm hW, by rw [hU]; exact ((hSK.kept hS.2.1).narrow hFc).moved hW.alike⟩⟩ rfl rfl hl.1 rfl (lv_room (Nat.le_of_ble_eq_true rfl)) dX18_onVector_113 ⟨Nat.le_of_ble_eq_true rfl, Nat.le_of_ble_eq_true rfl⟩) hS (fun q _ h => hFc q h) hFc (fun u t H_111 locs ht hvm hw hB hz1 hk1 hS2 => ?_)
      obtain ⟨hP1, -, hD1⟩ := hB
      rw [ht] at hP1
      replace hD := hD1.weaken (fun _ _ _ h => hFc _ h)
      replace hP := hP1
      replace hS := hS2
      clear hP1 hD1 hS2 hFc hfc hz1 hk1 hvm ht
      obtain ⟨h8, h9⟩ := ret_some hf
      rw [h8]
      exact W.vret hx hb hr (fun t ht hW => ⟨⟨(), rfl, trivial, by rw [ht]; exact hP, va_K.moved hW.alike hK, hD⟩, hS.F ht⟩) hS.2.2 dX18_onVector_116
  · skip
    rw [if_pos c_1] at hf
    refine lv_aload_n hx hb dX18_onVector_6 rfl (lv_at hl 0 rfl) ?_
    obtain ⟨g_112, hf⟩ := grd_some hf
    obtain ⟨kg_112, sg_112⟩ := okO_at g_112
    refine va_get (D := (dC, dI)) (ci := 18) (v := .int (z.1 h0 45)) (C := RX18) (T := TX18) (N := 78) hx hb hts iwd_X18_onVector_X18 hown hK hP h0 (Wd_ob kg_112 sg_112 (by decide)) rfl 45 (by decide) (hts _ md_X18_onVector_1) (fun _ h9 => h9) (fl_at (t := 0) rfl) dX18_onVector_7 ?_
    refine lv_aload_n hx hb dX18_onVector_10 rfl (lv_at hl 0 rfl) ?_
    obtain ⟨k_113, ek_113, hf⟩ := lnk_some hf
    refine va_get (D := (dC, dI)) (ci := 18) (v := .ref (a k_113)) (C := RX18) (T := TX18) (N := 78) hx hb hts iwd_X18_onVector_X18 hown hK hP h0 (Wd_ob kg_112 sg_112 (by decide)) rfl 40 (by decide) (hts _ md_X18_onVector_2) (fun _ h9 => h9) (fl_q rfl ek_113) dX18_onVector_11 ?_
    refine lv_aload_n hx hb dX18_onVector_14 rfl (lv_at hl 0 rfl) ?_
    refine va_get (D := (dC, dI)) (ci := 18) (v := .int (z.1 h0 36)) (C := RX18) (T := TX18) (N := 78) hx hb hts iwd_X18_onVector_X18 hown hK hP h0 (Wd_ob kg_112 sg_112 (by decide)) rfl 36 (by decide) (hts _ md_X18_onVector_3) (fun _ h9 => h9) (fl_at (t := 0) rfl) dX18_onVector_15 ?_
    refine lv_iconst (v := 1) hx hb dX18_onVector_18 (by decide) ?_
    refine lv_isub hx hb dX18_onVector_19 ?_
    obtain ⟨g_114, hf⟩ := grd_some hf
    obtain ⟨kg_114, sg_114, ig_114⟩ := okA_at g_114
    refine va_iald hx hb hK hP k_113 1 (Wd_ai kg_114 sg_114) rfl ig_114 dX18_onVector_20 ?_
    refine lv_isub hx hb dX18_onVector_21 ?_
    refine lv_iload_n hx hb dX18_onVector_22 rfl (lv_at hl 2 rfl) ?_
    refine de_cut (h := 30) (fun (x : St) => []) (fun x ls H locs => lv_has ls 11 [(0, .ref (a h0)), (2, .int x1)] ∧ va_P (dC, dI) vwCl (Wd cy a sh n x) H ∧ va_D A (Wd cy a sh n x) ∧ va_S A s.heap H locs) (fun x => fn_X18_onVector_B30 F sh n h0 x1 x) (z8, r8) ?_ (fun B30 => ?_)
    · intro x ls H locs hI hf
      obtain ⟨z_115, ez⟩ : ∃ w, w = x := ⟨_, rfl⟩
      subst ez
      obtain ⟨hl2, hP2, hD2, hS2⟩ := hI
      replace hl : lv_has ls 11 [(0, .ref (a h0)), (2, .int x1)] := hl2
      replace hP := hP2
      replace hD := hD2
      replace hS := hS2
      clear hl2 hP2 hD2 hS2
      replace hf := fn_X18_onVector_B30_s hf
      refine W.eq (g2 := F0 m 30 ls []) rfl ?_
      refine lv_aload_n hx hb dX18_onVector_30 rfl (lv_at hl 0 rfl) ?_
      refine lv_iload_n hx hb dX18_onVector_31 rfl (lv_at hl 1 rfl) ?_
      obtain ⟨z_116, r_117, hfc, hf⟩ := cal_some hf
      have hFc := de_free hD hS hA
      refine va_calli (va_runV (As := [.int x1]) (rest := []) ⟨hx, hb, hml, hown, hts⟩ (de_X18_spend l dC dI cy a sh n H.size F z_115 h0 x1 hfc) (cwV 1 hts gX18_onVector_X18_spend rfl rfl rfl (by decide +kernel) ⟨Nat.le_of_ble_eq_true rfl, Nat.le_of_ble_eq_true rfl⟩) ⟨fun a U g mk q => by obtain ⟨q0, q1, qP, qK, qD, qN⟩ := q; exact ⟨q0, q1, qP, va_K.moved (u := U) (U := U.calling g mk a) (Vm.Alike.refl U.vm) qK, qD, qN.same rfl⟩, va_recv hK hP (ci := 18) (q0 := h0) rfl (Wd_ob kg_112 sg_112 (by decide)), fun U hU hW => ⟨rfl, by rw [hU], by rw [hU]; exact hP, va_K.moved hW.alike hK, hD.weaken (fun _ _ _ _ => trivial), hN.warm hW⟩⟩ rfl rfl hl.1 rfl (lv_room (Nat.le_of_ble_eq_true rfl)) dX18_onVector_32 ⟨Nat.le_of_ble_eq_true rfl, Nat.le_of_ble_eq_true rfl⟩) hS (fun q _ h => hFc q h) hFc (fun rr u t H_118 locs ht hvm hw hB hz1 hk1 hS2 => ?_)
      rw [hw]
      clear hw
      obtain ⟨hP1, -, hD1⟩ := hB
      rw [ht] at hP1
      replace hD := hD1.weaken (fun _ _ _ h => hFc _ h)
      replace hP := hP1
      replace hS := hS2
      clear hP1 hD1 hS2 hFc hfc hz1 hk1 hvm ht
      refine lv_if_ne (tgt := 39) hx hb dX18_onVector_35 (by decide) (fun c_119 => ?_) (fun c_119 => ?_)
      · skip
        rw [if_neg c_119] at hf
        refine lv_aload_n hx hb dX18_onVector_39 rfl (lv_at hl 0 rfl) ?_
        obtain ⟨k_120, ek_120, hf⟩ := lnk_some hf
        refine va_get (D := (dC, dI)) (ci := 18) (v := .ref (a k_120)) (C := RX18) (T := TX18) (N := 78) hx hb hts iwd_X18_onVector_X18 hown hK hP h0 (Wd_ob kg_112 sg_112 (by decide)) rfl 15 (by decide) (hts _ md_X18_onVector_4) (fun _ h9 => h9) (fl_q rfl ek_120) dX18_onVector_40 ?_
        refine lv_bipush (v := 7) hx hb dX18_onVector_43 (by decide) ?_
        refine lv_lconst (v := 0) hx hb dX18_onVector_45 (by decide) ?_
        refine lv_lconst (v := 0) hx hb dX18_onVector_46 (by decide) ?_
        obtain ⟨g_123, hf⟩ := grd_some hf
        obtain ⟨kg_123, sg_123⟩ := okO_at g_123
        obtain ⟨z_121, r_122, hfc, hf⟩ := cal_some hf
        have hFc := de_free hD hS hA
        refine va_calli (va_runV (As := [.int 7, .long 0, .long 0]) (rest := []) ⟨hx, hb, hml, hown, hts⟩ (de_X15_make l dC dI cy a sh n H_118.size F z_116 k_120 7 0 0 hfc) (cwV 3 hts gX18_onVector_X15_make rfl rfl rfl (by decide +kernel) ⟨Nat.le_of_ble_eq_true rfl, Nat.le_of_ble_eq_true rfl⟩) ⟨fun a U g mk q => by obtain ⟨q0, q1, qP, qK, qD, qN⟩ := q; exact ⟨q0, q1, qP, va_K.moved (u := U) (U := U.calling g mk a) (Vm.Alike.refl U.vm) qK, qD, qN.same rfl⟩, va_recv hK hP (ci := 15) (q0 := k_120) rfl (Wd_ob kg_123 sg_123 (by decide)), fun U hU hW => ⟨rfl, by rw [hU], by rw [hU]; exact hP, va_K.moved hW.alike hK, hD.weaken (fun _ _ _ _ => trivial), hN.warm hW⟩⟩ rfl rfl hl.1 rfl (lv_room (Nat.le_of_ble_eq_true rfl)) dX18_onVector_47 ⟨Nat.le_of_ble_eq_true rfl, Nat.le_of_ble_eq_true rfl⟩) hS (fun q _ h => hFc q h) hFc (fun rr u t H_124 locs ht hvm hw hB hz1 hk1 hS2 => ?_)
        rw [hw]
        clear hw
        obtain ⟨hP1, -, hD1⟩ := hB
        rw [ht] at hP1
        replace hD := hD1.weaken (fun _ _ _ h => hFc _ h)
        replace hP := hP1
        replace hS := hS2
        clear hP1 hD1 hS2 hFc hfc hz1 hk1 hvm ht
        refine lv_istore_n (lv' := [(3, .int r_122), (0, .ref (a h0)), (2, .int x1)]) hx hb dX18_onVector_50 rfl hl (by decide) rfl (fun ls hl2 => ?_)
        replace hl := hl2
        clear hl2
        refine lv_aload_n hx hb dX18_onVector_51 rfl (lv_at hl 1 rfl) ?_
        refine va_get (D := (dC, dI)) (ci := 18) (v := .int (z_121.1 h0 45)) (C := RX18) (T := TX18) (N := 78) hx hb hts iwd_X18_onVector_X18 hown hK hP h0 (Wd_ob kg_112 sg_112 (by decide)) rfl 45 (by decide) (hts _ md_X18_onVector_1) (fun _ h9 => h9) (fl_at (t := 0) rfl) dX18_onVector_52 ?_
        refine lv_iload_n hx hb dX18_onVector_55 rfl (lv_at hl 2 rfl) ?_
        refine lv_isub hx hb dX18_onVector_56 ?_
        refine lv_topi (fun v_125 ev_125 => ?_)
        replace hf := lt_at ev_125 hf
        clear ev_125
        refine lv_istore (lv' := [(4, .int v_125), (3, .int r_122), (0, .ref (a h0)), (2, .int x1)]) hx hb dX18_onVector_57 hl (by decide) rfl (fun ls hl2 => ?_)
        replace hl := hl2
        clear hl2
        have hl0 : lv_has ls 11 [(4, .int v_125), (3, .int r_122), (0, .ref (a h0)), (2, .int x1)] := lv_sub hl [0, 1, 2, 3] rfl
        refine de_loop (h := 59) (fun (x : St × Int32) ls H locs => lv_has ls 11 [(4, .int x.2), (3, .int r_122), (0, .ref (a h0)), (2, .int x1)] ∧ va_P (dC, dI) vwCl (Wd cy a sh n x.1) H ∧ va_D A (Wd cy a sh n x.1) ∧ va_S A s.heap H locs) (fun f x => fn_X18_onVector_L59 F sh n h0 x1 r_122 f x.1 x.2) (z8, r8) ?_ (fun _ => rfl) F (z_121, v_125) ls H_124 locs ⟨hl0, hP, hD, hS⟩ hf
        intro f_128 x ls H locs ih59 hI hf
        obtain ⟨z_127, p_126⟩ := x
        obtain ⟨hl2, hP2, hD2, hS2⟩ := hI
        replace hl : lv_has ls 11 [(4, .int p_126), (3, .int r_122), (0, .ref (a h0)), (2, .int x1)] := hl2
        replace hP := hP2
        replace hD := hD2
        replace hS := hS2
        clear hl2 hP2 hD2 hS2 hl0
        replace hf := fn_X18_onVector_L59_s hf
        refine lv_iload hx hb dX18_onVector_59 (lv_at hl 0 rfl) ?_
        refine lv_aload_n hx hb dX18_onVector_61 rfl (lv_at hl 2 rfl) ?_
        refine va_get (D := (dC, dI)) (ci := 18) (v := .int (z_127.1 h0 45)) (C := RX18) (T := TX18) (N := 78) hx hb hts iwd_X18_onVector_X18 hown hK hP h0 (Wd_ob kg_112 sg_112 (by decide)) rfl 45 (by decide) (hts _ md_X18_onVector_1) (fun _ h9 => h9) (fl_at (t := 0) rfl) dX18_onVector_62 ?_
        refine lv_icmp_ge (tgt := 89) hx hb dX18_onVector_65 (by decide) (fun c_129 => ?_) (fun c_129 => ?_)
        · skip
          rw [if_pos c_129] at hf
          refine lv_aload_n hx hb dX18_onVector_89 rfl (lv_at hl 2 rfl) ?_
          refine lv_dup hx hb dX18_onVector_90 rfl ?_
          refine va_get (D := (dC, dI)) (ci := 18) (v := .int (z_127.1 h0 45)) (C := RX18) (T := TX18) (N := 78) hx hb hts iwd_X18_onVector_X18 hown hK hP h0 (Wd_ob kg_112 sg_112 (by decide)) rfl 45 (by decide) (hts _ md_X18_onVector_1) (fun _ h9 => h9) (fl_at (t := 0) rfl) dX18_onVector_91 ?_
          refine lv_iload_n hx hb dX18_onVector_94 rfl (lv_at hl 3 rfl) ?_
          refine lv_isub hx hb dX18_onVector_95 ?_
          refine va_put (D := (dC, dI)) (ci := 18) (v := .int ((z_127.1 h0 45) - x1)) (ty := .int) (C := RX18) (T := TX18) (N := 78) hx hb hts iwd_X18_onVector_X18 tyX18 tyX18_ok nmX18 hown hK hP hD hS h0 (Wd_ob kg_112 sg_112 (by decide)) rfl 45 (by decide) (hts _ md_X18_onVector_1) (fun _ h9 => h9) rfl (by decide +kernel) rfl rfl (by rw [fl_len]; decide) dX18_onVector_96 (fun H_130 locs hP2 hD2 hS2 => ?_)
          rw [Wd_si sg_112 (by decide) rfl] at hP2 hD2
          obtain ⟨z_131, ez_131⟩ : ∃ w, w = si z_127 h0 45 ((z_127.1 h0 45) - x1) := ⟨_, rfl⟩
          rw [← ez_131] at hP2 hD2
          replace hf := lt_at ez_131 hf
          clear ez_131
          replace hP := hP2
          replace hD := hD2
          replace hS := hS2
          clear hP2 hD2 hS2
          refine lv_aload_n hx hb dX18_onVector_99 rfl (lv_at hl 2 rfl) ?_
          refine lv_iload_n hx hb dX18_onVector_100 rfl (lv_at hl 1 rfl) ?_
          refine lv_iconst (v := 0) hx hb dX18_onVector_101 (by decide) ?_
          obtain ⟨z_132, _u, hfc, hf⟩ := cal_some hf
          have hFc := de_free hD hS hA
          refine va_callv (va_runV (As := [.int r_122, .int 0]) (rest := []) ⟨hx, hb, hml, hown, hts⟩ (de_X18_push l dC dI cy a sh n H_130.size F z_131 h0 r_122 0 hfc) (cwV 2 hts gX18_onVector_X18_push rfl rfl rfl (by decide +kernel) ⟨Nat.le_of_ble_eq_true rfl, Nat.le_of_ble_eq_true rfl⟩) ⟨fun a U g mk q => by obtain ⟨q0, q1, qP, qK, qD, qN⟩ := q; exact ⟨q0, q1, qP, va_K.moved (u := U) (U := U.calling g mk a) (Vm.Alike.refl U.vm) qK, qD, qN.same rfl⟩, va_recv hK hP (ci := 18) (q0 := h0) rfl (Wd_ob kg_112 sg_112 (by decide)), fun U hU hW => ⟨rfl, by rw [hU], by rw [hU]; exact hP, va_K.moved hW.alike hK, hD.weaken (fun _ _ _ _ => trivial), hN.warm hW⟩⟩ rfl rfl hl.1 rfl (lv_room (Nat.le_of_ble_eq_true rfl)) dX18_onVector_102 ⟨Nat.le_of_ble_eq_true rfl, Nat.le_of_ble_eq_true rfl⟩) hS (fun q _ h => hFc q h) hFc (fun u t H_133 locs ht hvm hw hB hz1 hk1 hS2 => ?_)
          obtain ⟨hP1, -, hD1⟩ := hB
          rw [ht] at hP1
          replace hD := hD1.weaken (fun _ _ _ h => hFc _ h)
          replace hP := hP1
          replace hS := hS2
          clear hP1 hD1 hS2 hFc hfc hz1 hk1 hvm ht
          obtain ⟨h8, h9⟩ := ret_some hf
          rw [h8]
          exact W.vret hx hb hr (fun t ht hW => ⟨⟨(), rfl, trivial, by rw [ht]; exact hP, va_K.moved hW.alike hK, hD⟩, hS.F ht⟩) hS.2.2 dX18_onVector_105
        · skip
          rw [if_neg c_129] at hf
          refine lv_aload_n hx hb dX18_onVector_68 rfl (lv_at hl 2 rfl) ?_
          obtain ⟨k_134, ek_134, hf⟩ := lnk_some hf
          refine va_get (D := (dC, dI)) (ci := 18) (v := .ref (a k_134)) (C := RX18) (T := TX18) (N := 78) hx hb hts iwd_X18_onVector_X18 hown hK hP h0 (Wd_ob kg_112 sg_112 (by decide)) rfl 15 (by decide) (hts _ md_X18_onVector_4) (fun _ h9 => h9) (fl_q rfl ek_134) dX18_onVector_69 ?_
          refine lv_iload_n hx hb dX18_onVector_72 rfl (lv_at hl 1 rfl) ?_
          refine lv_aload_n hx hb dX18_onVector_73 rfl (lv_at hl 2 rfl) ?_
          obtain ⟨k_135, ek_135, hf⟩ := lnk_some hf
          refine va_get (D := (dC, dI)) (ci := 18) (v := .ref (a k_135)) (C := RX18) (T := TX18) (N := 78) hx hb hts iwd_X18_onVector_X18 hown hK hP h0 (Wd_ob kg_112 sg_112 (by decide)) rfl 43 (by decide) (hts _ md_X18_onVector_5) (fun _ h9 => h9) (fl_q rfl ek_135) dX18_onVector_74 ?_
          refine lv_iload hx hb dX18_onVector_77 (lv_at hl 0 rfl) ?_
          obtain ⟨g_136, hf⟩ := grd_some hf
          obtain ⟨kg_136, sg_136, ig_136⟩ := okA_at g_136
          refine va_iald hx hb hK hP k_135 1 (Wd_ai kg_136 sg_136) rfl ig_136 dX18_onVector_79 ?_
          obtain ⟨g_138, hf⟩ := grd_some hf
          obtain ⟨kg_138, sg_138⟩ := okO_at g_138
          obtain ⟨z_137, _u, hfc, hf⟩ := cal_some hf
          have hFc := de_free hD hS hA
          refine va_callv (va_runV (As := [.int r_122, .int (z_127.1 k_135 p_126.toNatClampNeg)]) (rest := []) ⟨hx, hb, hml, hown, hts⟩ (de_X15_add l dC dI cy a sh n H.size F z_127 k_134 r_122 (z_127.1 k_135 p_126.toNatClampNeg) hfc) (cwV 2 hts gX18_onVector_X15_add rfl rfl rfl (by decide +kernel) ⟨Nat.le_of_ble_eq_true rfl, Nat.le_of_ble_eq_true rfl⟩) ⟨fun a U g mk q => by obtain ⟨q0, q1, qP, qK, qD, qN⟩ := q; exact ⟨q0, q1, qP, va_K.moved (u := U) (U := U.calling g mk a) (Vm.Alike.refl U.vm) qK, qD, qN.same rfl⟩, va_recv hK hP (ci := 15) (q0 := k_134) rfl (Wd_ob kg_138 sg_138 (by decide)), fun U hU hW => ⟨rfl, by rw [hU], by rw [hU]; exact hP, va_K.moved hW.alike hK, hD.weaken (fun _ _ _ _ => trivial), hN.warm hW⟩⟩ rfl rfl hl.1 rfl (lv_room (Nat.le_of_ble_eq_true rfl)) dX18_onVector_80 ⟨Nat.le_of_ble_eq_true rfl, Nat.le_of_ble_eq_true rfl⟩) hS (fun q _ h => hFc q h) hFc (fun u t H_139 locs ht hvm hw hB hz1 hk1 hS2 => ?_)
          obtain ⟨hP1, -, hD1⟩ := hB
          rw [ht] at hP1
          replace hD := hD1.weaken (fun _ _ _ h => hFc _ h)
          replace hP := hP1
          replace hS := hS2
          clear hP1 hD1 hS2 hFc hfc hz1 hk1 hvm ht
          refine lv_iinc (v := (p_126 + 1)) (lv' := [(4, .int (p_126 + 1)), (3, .int r_122), (0, .ref (a h0)), (2, .int x1)]) hx hb dX18_onVector_83 hl (k := 0) rfl rfl (by decide) rfl (fun ls hl2 => ?_)
          replace hl := hl2
          clear hl2
          refine lv_goto (tgt := 59) hx hb dX18_onVector_86 (by decide) ?_
          exact ih59 (z_137, (p_126 + 1)) ls H_139 locs ⟨lv_sub hl [0, 1, 2, 3] rfl, hP, hD, hS⟩ hf
      · skip
        rw [if_pos c_119] at hf
        obtain ⟨h8, h9⟩ := ret_some hf
        rw [h8]
        exact W.vret hx hb hr (fun t ht hW => ⟨⟨(), rfl, trivial, by rw [ht]; exact hP, va_K.moved hW.alike hK, hD⟩, hS.F ht⟩) hS.2.2 dX18_onVector_38
    refine lv_icmp_ge (tgt := 30) hx hb dX18_onVector_23 (by decide) (fun c_140 => ?_) (fun c_140 => ?_)
    · skip
      rw [if_pos c_140] at hf
      exact B30 (z) ls H locs ⟨lv_sub hl [0, 2] rfl, hP, hD, hS⟩ hf
    · skip
      rw [if_neg c_140] at hf
      refine lv_aload_n hx hb dX18_onVector_26 rfl (lv_at hl 0 rfl) ?_
      obtain ⟨z_141, _u, hfc, hf⟩ := cal_some hf
      have hFc := de_free hD hS hA
      refine va_callv (va_runV (As := []) (rest := []) ⟨hx, hb, hml, hown, hts⟩ (de_X18_slip l dC dI cy a sh n H.size F z h0 hfc) (cwV 0 hts gX18_onVector_X18_slip rfl rfl rfl (by decide +kernel) ⟨Nat.le_of_ble_eq_true rfl, Nat.le_of_ble_eq_true rfl⟩) ⟨fun a U g mk q => by obtain ⟨q0, q1, qP, qK, qD, qN⟩ := q; exact ⟨q0, q1, qP, va_K.moved (u := U) (U := U.calling g mk a) (Vm.Alike.refl U.vm) qK, qD, qN.same rfl⟩, va_recv hK hP (ci := 18) (q0 := h0) rfl (Wd_ob kg_112 sg_112 (by decide)), fun U hU hW => ⟨rfl, by rw [hU], by rw [hU]; exact hP, va_K.moved hW.alike hK, hD.weaken (fun _ _ _ _ => trivial), hN.warm hW⟩⟩ rfl rfl hl.1 rfl (lv_room (Nat.le_of_ble_eq_true rfl)) dX18_onVector_27 ⟨Nat.le_of_ble_eq_true rfl, Nat.le_of_ble_eq_true rfl⟩) hS (fun q _ h => hFc q h) hFc (fun u t H_142 locs ht hvm hw hB hz1 hk1 hS2 => ?_)
      obtain ⟨hP1, -, hD1⟩ := hB
      rw [ht] at hP1
      replace hD := hD1.weaken (fun _ _ _ h => hFc _ h)
      replace hP := hP1
      replace hS := hS2
      clear hP1 hD1 hS2 hFc hfc hz1 hk1 hvm ht
      exact B30 (z_141) ls H_142 locs ⟨lv_sub hl [0, 2] rfl, hP, hD, hS⟩ hf

theorem md_X18_coin_1 : (.fieldLink RX18 300 "ResourceLedgerModel" "askedBalances" "[J" : Cond) ∈ wsX18_coin := List.mem_of_getElem? (i := 1) rfl
theorem iwd_X18_coin_X18 : ∀ w ∈ wsX180, w ∈ wsX18_coin := fun _ h => List.mem_cons_of_mem _ (List.mem_append_left _ (List.mem_append_right _ h))
theorem md_X18_coin_2 : (.fieldLink RX18 40 "ResourceLedgerModel" "trees" "LResourceLedgerModel$Trees;" : Cond) ∈ wsX18_coin := List.mem_of_getElem? (i := 2) rfl
theorem iwd_X18_coin_X15 : ∀ w ∈ wsX150, w ∈ wsX18_coin := fun _ h => List.mem_cons_of_mem _ (List.mem_append_right _ h)
theorem md_X18_coin_4 : (.constantLong RX18 425 (2) : Cond) ∈ wsX18_coin := List.mem_of_getElem? (i := 4) rfl
theorem md_X18_coin_3 : (.fieldLink RX18 296 "ResourceLedgerModel" "askedThere" "[Z" : Cond) ∈ wsX18_coin := List.mem_of_getElem? (i := 3) rfl
set_option maxHeartbeats 4000000 in
set_option maxRecDepth 100000 in
theorem de_X18_coin (l : Launch) (dC : Nat → ClassId) (dI : Nat → Nat → Nat) (cy : Nat → ClassId) (a : Nat → Nat) (sh : Nat → Nat × Nat) (n sz : Nat) (F : Nat) (z : St) (h0 : Nat) (x0 : Int32) {z8 : St} {r8 : Unit} (hf : fn_X18_coin F sh n z h0 x0 = some (z8, r8)) : Met l yX18_coin wsX18_coin ({ frames := 52, cells := 0, slots := 0, locals := 1201 }) (va_Pc [.ref (a h0), .int x0] (fun U => U.heap.size = sz ∧ va_P (dC, dI) vwCl (Wd cy a sh n z) U.heap ∧ va_K (dC, dI) vwCl (TYS cy) U ∧ va_D (fun _ => True) (Wd cy a sh n z) ∧ NK U)) (va_Qv (fun u : Unit => True) (fun u t => va_P (dC, dI) vwCl (Wd cy a sh n z8) t.heap ∧ va_K (dC, dI) vwCl (TYS cy) t ∧ va_D (va_A (Wd cy a sh n z) sz) (Wd cy a sh n z8)) (va_A (Wd cy a sh n z) sz)) 0 0 (va_A (Wd cy a sh n z) sz) := by
  refine Met.ofW (cc := cX18_coin) (maxL := 7) (ret := none) (by decide) rfl ?_
  intro p e s m args below meth c s₁ B hml hv
  obtain ⟨rfl, hsz, hP, hK, hD0, hN⟩ := hv
  have hx := B.exec
  have hb := B.bytes
  have hr := B.returns
  have hts := atoms_spec (ws := wsX18_coin) B.pre
  have hown : s.vm.findClass RX18 = some m.cls := findClass_of_methodNamed B.named
  have hlocks := B.notSynchronized
  subst hsz
  have hD := hD0.self (sz := s.heap.size)
  clear hD0
  generalize hAe : va_A (Wd cy a sh n z) s.heap.size = A at hD ⊢
  have hA : ∀ q : Nat, s.heap.size ≤ q → A q := fun q h => by rw [← hAe]; exact Or.inr h
  clear hAe
  have hS : va_S A s.heap s.heap [] := va_S.rf
  have hl := lv_entry ([.ref (a h0), .int x0]) (n := 7) (Nat.le_of_ble_eq_true rfl)
  rw [lg_entry_eq]
  generalize (lg_sl ([.ref (a h0), .int x0]) ++ List.replicate (7 - (lg_sl ([.ref (a h0), .int x0])).length) Slot.unset).toArray = ls at hl ⊢
  replace hl : lv_has ls 7 [(0, .ref (a h0)), (1, .int x0)] := hl
  unfold fn_X18_coin at hf
  refine de_start hS hP (fun H locs hS hP => ?_)
  refine lv_iload_n hx hb dX18_coin_0 rfl (lv_at hl 1 rfl) ?_
  refine lv_if_ne (tgt := 56) hx hb dX18_coin_1 (by decide) (fun c_1 => ?_) (fun c_1 => ?_)
  · skip
    rw [if_neg c_1] at hf
    refine lv_iload_n hx hb dX18_coin_56 rfl (lv_at hl 1 rfl) ?_
    refine lv_iconst (v := 1) hx hb dX18_coin_57 (by decide) ?_
    refine lv_icmp_ne (tgt := 154) hx hb dX18_coin_58 (by decide) (fun c_2 => ?_) (fun c_2 => ?_)
    · skip
      rw [if_neg c_2] at hf
      refine lv_iload_n hx hb dX18_coin_154 rfl (lv_at hl 1 rfl) ?_
      refine lv_iconst (v := 2) hx hb dX18_coin_155 (by decide) ?_
      refine lv_icmp_ne (tgt := 199) hx hb dX18_coin_156 (by decide) (fun c_3 => ?_) (fun c_3 => ?_)
      · skip
        rw [if_neg c_3] at hf
        refine lv_iload_n hx hb dX18_coin_199 rfl (lv_at hl 1 rfl) ?_
        refine lv_iconst (v := 3) hx hb dX18_coin_200 (by decide) ?_
        refine lv_icmp_ne (tgt := 268) hx hb dX18_coin_201 (by decide) (fun c_4 => ?_) (fun c_4 => ?_)
        · skip
          rw [if_neg c_4] at hf
          refine lv_iload_n hx hb dX18_coin_268 rfl (lv_at hl 1 rfl) ?_
          refine lv_iconst (v := 4) hx hb dX18_coin_269 (by decide) ?_
          refine lv_icmp_ne (tgt := 349) hx hb dX18_coin_270 (by decide) (fun c_5 => ?_) (fun c_5 => ?_)
          · skip
            rw [if_neg c_5] at hf
            refine lv_aload_n hx hb dX18_coin_349 rfl (lv_at hl 0 rfl) ?_
            refine lv_iconst (v := 5) hx hb dX18_coin_350 (by decide) ?_
            obtain ⟨g_8, hf⟩ := grd_some hf
            obtain ⟨kg_8, sg_8⟩ := okO_at g_8
            obtain ⟨z_6, r_7, hfc, hf⟩ := cal_some hf
            have hFc := de_free hD hS hA
            refine va_calli (va_runV (As := [.int 5]) (rest := []) ⟨hx, hb, hml, hown, hts⟩ (de_X18_take l dC dI cy a sh n H.size F z h0 5 hfc) (cwV 1 hts gX18_coin_X18_take rfl rfl rfl (by decide +kernel) ⟨Nat.le_of_ble_eq_true rfl, Nat.le_of_ble_eq_true rfl⟩) ⟨fun a U g mk q => by obtain ⟨q0, q1, qP, qK, qD, qN⟩ := q; exact ⟨q0, q1, qP, va_K.moved (u := U) (U := U.calling g mk a) (Vm.Alike.refl U.vm) qK, qD, qN.same rfl⟩, va_recv hK hP (ci := 18) (q0 := h0) rfl (Wd_ob kg_8 sg_8 (by decide)), fun U hU hW => ⟨rfl, by rw [hU], by rw [hU]; exact hP, va_K.moved hW.alike hK, hD.weaken (fun _ _ _ _ => trivial), hN.warm hW⟩⟩ rfl rfl hl.1 rfl (lv_room (Nat.le_of_ble_eq_true rfl)) dX18_coin_351 ⟨Nat.le_of_ble_eq_true rfl, Nat.le_of_ble_eq_true rfl⟩) hS (fun q _ h => hFc q h) hFc (fun rr u t H_9 locs ht hvm hw hB hz1 hk1 hS2 => ?_)
            rw [hw]
            clear hw
            obtain ⟨hP1, -, hD1⟩ := hB
            rw [ht] at hP1
            replace hD := hD1.weaken (fun _ _ _ h => hFc _ h)
            replace hP := hP1
            replace hS := hS2
            clear hP1 hD1 hS2 hFc hfc hz1 hk1 hvm ht
            refine lv_istore_n (lv' := [(2, .int r_7), (0, .ref (a h0)), (1, .int x0)]) hx hb dX18_coin_354 rfl hl (by decide) rfl (fun ls hl2 => ?_)
            replace hl := hl2
            clear hl2
            refine lv_aload_n hx hb dX18_coin_355 rfl (lv_at hl 1 rfl) ?_
            obtain ⟨z_10, r_11, hfc, hf⟩ := cal_some hf
            have hFc := de_free hD hS hA
            refine va_calli (va_runV (As := []) (rest := []) ⟨hx, hb, hml, hown, hts⟩ (de_X18_goesOn l dC dI cy a sh n H_9.size F z_6 h0 hfc) (cwV 0 hts gX18_coin_X18_goesOn rfl rfl rfl (by decide +kernel) ⟨Nat.le_of_ble_eq_true rfl, Nat.le_of_ble_eq_true rfl⟩) ⟨fun a U g mk q => by obtain ⟨q0, q1, qP, qK, qD, qN⟩ := q; exact ⟨q0, q1, qP, va_K.moved (u := U) (U := U.calling g mk a) (Vm.Alike.refl U.vm) qK, qD, qN.same rfl⟩, va_recv hK hP (ci := 18) (q0 := h0) rfl (Wd_ob kg_8 sg_8 (by decide)), fun U hU hW => ⟨rfl, by rw [hU], by rw [hU]; exact hP, va_K.moved hW.alike hK, hD.weaken (fun _ _ _ _ => trivial), hN.warm hW⟩⟩ rfl rfl hl.1 rfl (lv_room (Nat.le_of_ble_eq_true rfl)) dX18_coin_356 ⟨Nat.le_of_ble_eq_true rfl, Nat.le_of_ble_eq_true rfl⟩) hS (fun q _ h => hFc q h) hFc (fun rr u t H_12 locs ht hvm hw hB hz1 hk1 hS2 => ?_)
            rw [hw]
            clear hw
            obtain ⟨hP1, -, hD1⟩ := hB
            rw [ht] at hP1
            replace hD := hD1.weaken (fun _ _ _ h => hFc _ h)
            replace hP := hP1
            replace hS := hS2
            clear hP1 hD1 hS2 hFc hfc hz1 hk1 hvm ht
            refine de_cut (h := 381) (fun (x : St × Int32) => [.int x.2]) (fun x ls H locs => lv_has ls 7 [(0, .ref (a h0))] ∧ va_P (dC, dI) vwCl (Wd cy a sh n x.1) H ∧ va_D A (Wd cy a sh n x.1) ∧ va_S A s.heap H locs) (fun x => fn_X18_coin_B381 F sh n h0 x.1 x.2) (z8, r8) ?_ (fun B381 => ?_)
            · intro x ls H locs hI hf
              obtain ⟨z_14, p_13⟩ := x
              obtain ⟨hl2, hP2, hD2, hS2⟩ := hI
              replace hl : lv_has ls 7 [(0, .ref (a h0))] := hl2
              replace hP := hP2
              replace hD := hD2
              replace hS := hS2
              clear hl2 hP2 hD2 hS2
              replace hf := fn_X18_coin_B381_s hf
              refine W.eq (g2 := F0 m 381 ls [.int p_13]) rfl ?_
              refine lv_istore_n (lv' := [(3, .int p_13), (0, .ref (a h0))]) hx hb dX18_coin_381 rfl hl (by decide) rfl (fun ls hl2 => ?_)
              replace hl := hl2
              clear hl2
              refine lv_iload_n hx hb dX18_coin_382 rfl (lv_at hl 0 rfl) ?_
              refine lv_if_lt (tgt := 406) hx hb dX18_coin_383 (by decide) (fun c_15 => ?_) (fun c_15 => ?_)
              · skip
                rw [if_pos c_15] at hf
                obtain ⟨h8, h9⟩ := ret_some hf
                rw [h8]
                exact W.vret hx hb hr (fun t ht hW => ⟨⟨(), rfl, trivial, by rw [ht]; exact hP, va_K.moved hW.alike hK, hD⟩, hS.F ht⟩) hS.2.2 dX18_coin_406
              · skip
                rw [if_neg c_15] at hf
                refine lv_aload_n hx hb dX18_coin_386 rfl (lv_at hl 1 rfl) ?_
                refine lv_iconst (v := 5) hx hb dX18_coin_387 (by decide) ?_
                obtain ⟨z_16, r_17, hfc, hf⟩ := cal_some hf
                have hFc := de_free hD hS hA
                refine va_calli (va_runV (As := [.int 5]) (rest := []) ⟨hx, hb, hml, hown, hts⟩ (de_X18_spend l dC dI cy a sh n H.size F z_14 h0 5 hfc) (cwV 1 hts gX18_coin_X18_spend rfl rfl rfl (by decide +kernel) ⟨Nat.le_of_ble_eq_true rfl, Nat.le_of_ble_eq_true rfl⟩) ⟨fun a U g mk q => by obtain ⟨q0, q1, qP, qK, qD, qN⟩ := q; exact ⟨q0, q1, qP, va_K.moved (u := U) (U := U.calling g mk a) (Vm.Alike.refl U.vm) qK, qD, qN.same rfl⟩, va_recv hK hP (ci := 18) (q0 := h0) rfl (Wd_ob kg_8 sg_8 (by decide)), fun U hU hW => ⟨rfl, by rw [hU], by rw [hU]; exact hP, va_K.moved hW.alike hK, hD.weaken (fun _ _ _ _ => trivial), hN.warm hW⟩⟩ rfl rfl hl.1 rfl (lv_room (Nat.le_of_ble_eq_true rfl)) dX18_coin_388 ⟨Nat.le_of_ble_eq_true rfl, Nat.le_of_ble_eq_true rfl⟩) hS (fun q _ h => hFc q h) hFc (fun rr u t H_18 locs ht hvm hw hB hz1 hk1 hS2 => ?_)
                rw [hw]
                clear hw
                obtain ⟨hP1, -, hD1⟩ := hB
                rw [ht] at hP1
                replace hD := hD1.weaken (fun _ _ _ h => hFc _ h)
                replace hP := hP1
                replace hS := hS2
                clear hP1 hD1 hS2 hFc hfc hz1 hk1 hvm ht
                refine lv_if_eq (tgt := 406) hx hb dX18_coin_391 (by decide) (fun c_19 => ?_) (fun c_19 => ?_)
                · skip
                  rw [if_pos c_19] at hf
                  obtain ⟨h8, h9⟩ := ret_some hf
                  rw [h8]
                  exact W.vret hx hb hr (fun t ht hW => ⟨⟨(), rfl, trivial, by rw [ht]; exact hP, va_K.moved hW.alike hK, hD⟩, hS.F ht⟩) hS.2.2 dX18_coin_406
                · skip
                  rw [if_neg c_19] at hf
                  refine lv_aload_n hx hb dX18_coin_394 rfl (lv_at hl 1 rfl) ?_
                  refine lv_iconst (v := 3) hx hb dX18_coin_395 (by decide) ?_
                  refine lv_lconst (v := 0) hx hb dX18_coin_396 (by decide) ?_
                  refine lv_aload_n hx hb dX18_coin_397 rfl (lv_at hl 1 rfl) ?_
                  obtain ⟨k_20, ek_20, hf⟩ := lnk_some hf
                  refine va_get (D := (dC, dI)) (ci := 18) (v := .ref (a k_20)) (C := RX18) (T := TX18) (N := 78) hx hb hts iwd_X18_coin_X18 hown hK hP h0 (Wd_ob kg_8 sg_8 (by decide)) rfl 33 (by decide) (hts _ md_X18_coin_1) (fun _ h9 => h9) (fl_q rfl ek_20) dX18_coin_398 ?_
                  refine lv_iload_n hx hb dX18_coin_401 rfl (lv_at hl 0 rfl) ?_
                  obtain ⟨g_21, hf⟩ := grd_some hf
                  obtain ⟨kg_21, sg_21, ig_21⟩ := okA_at g_21
                  refine va_lald hx hb hK hP k_20 2 (Wd_al kg_21 sg_21) rfl ig_21 dX18_coin_402 ?_
                  obtain ⟨z_22, _u, hfc, hf⟩ := cal_some hf
                  have hFc := de_free hD hS hA
                  refine va_callv (va_runV (As := [.int 3, .long 0, .long (z_16.2.1 k_20 p_13.toNatClampNeg)]) (rest := []) ⟨hx, hb, hml, hown, hts⟩ (de_X18_make l dC dI cy a sh n H_18.size F z_16 h0 3 0 (z_16.2.1 k_20 p_13.toNatClampNeg) hfc) (cwV 3 hts gX18_coin_X18_make rfl rfl rfl (by decide +kernel) ⟨Nat.le_of_ble_eq_true rfl, Nat.le_of_ble_eq_true rfl⟩) ⟨fun a U g mk q => by obtain ⟨q0, q1, qP, qK, qD, qN⟩ := q; exact ⟨q0, q1, qP, va_K.moved (u := U) (U := U.calling g mk a) (Vm.Alike.refl U.vm) qK, qD, qN.same rfl⟩, va_recv hK hP (ci := 18) (q0 := h0) rfl (Wd_ob kg_8 sg_8 (by decide)), fun U hU hW => ⟨rfl, by rw [hU], by rw [hU]; exact hP, va_K.moved hW.alike hK, hD.weaken (fun _ _ _ _ => trivial), hN.warm hW⟩⟩ rfl rfl hl.1 rfl (lv_room (Nat.le_of_ble_eq_true rfl)) dX18_coin_403 ⟨Nat.le_of_ble_eq_true rfl, Nat.le_of_ble_eq_true rfl⟩) hS (fun q _ h => hFc q h) hFc (fun u t H_23 locs ht hvm hw hB hz1 hk1 hS2 => ?_)
                  obtain ⟨hP1, -, hD1⟩ := hB
                  rw [ht] at hP1
                  replace hD := hD1.weaken (fun _ _ _ h => hFc _ h)
                  replace hP := hP1
                  replace hS := hS2
                  clear hP1 hD1 hS2 hFc hfc hz1 hk1 hvm ht
                  obtain ⟨h8, h9⟩ := ret_some hf
                  rw [h8]
                  exact W.vret hx hb hr (fun t ht hW => ⟨⟨(), rfl, trivial, by rw [ht]; exact hP, va_K.moved hW.alike hK, hD⟩, hS.F ht⟩) hS.2.2 dX18_coin_406
            refine lv_if_eq (tgt := 380) hx hb dX18_coin_359 (by decide) (fun c_24 => ?_) (fun c_24 => ?_)
            · skip
              rw [if_pos c_24] at hf
              refine lv_iconst (v := (-1)) hx hb dX18_coin_380 (by decide) ?_
              exact B381 (z_10, (-1)) ls H_12 locs ⟨lv_sub hl [1] rfl, hP, hD, hS⟩ hf
            · skip
              rw [if_neg c_24] at hf
              refine lv_aload_n hx hb dX18_coin_362 rfl (lv_at hl 1 rfl) ?_
              refine lv_iconst (v := 1) hx hb dX18_coin_363 (by decide) ?_
              refine lv_aload_n hx hb dX18_coin_364 rfl (lv_at hl 1 rfl) ?_
              obtain ⟨k_25, ek_25, hf⟩ := lnk_some hf
              refine va_get (D := (dC, dI)) (ci := 18) (v := .ref (a k_25)) (C := RX18) (T := TX18) (N := 78) hx hb hts iwd_X18_coin_X18 hown hK hP h0 (Wd_ob kg_8 sg_8 (by decide)) rfl 15 (by decide) (hts _ md_X18_coin_2) (fun _ h9 => h9) (fl_q rfl ek_25) dX18_coin_365 ?_
              obtain ⟨g_26, hf⟩ := grd_some hf
              obtain ⟨kg_26, sg_26⟩ := okO_at g_26
              obtain ⟨k_27, ek_27, hf⟩ := lnk_some hf
              refine va_getN (D := (dC, dI)) (ci := 15) (v := .ref (a k_27)) (C := RX15) (T := TX15) (N := 6) hx hb hts iwd_X18_coin_X15 hown hK hP k_25 (Wd_ob kg_26 sg_26 (by decide)) rfl 2 (by decide) (va_Nw.use rfl (NK_f_X18_77 hN)) (fun _ h9 => h9) (fl_q rfl ek_27) dX18_coin_368 ?_
              refine lv_iload_n hx hb dX18_coin_371 rfl (lv_at hl 0 rfl) ?_
              obtain ⟨g_28, hf⟩ := grd_some hf
              obtain ⟨kg_28, sg_28, ig_28⟩ := okA_at g_28
              refine va_lald hx hb hK hP k_27 2 (Wd_al kg_28 sg_28) rfl ig_28 dX18_coin_372 ?_
              refine lv_iconst (v := 0) hx hb dX18_coin_373 (by decide) ?_
              obtain ⟨z_29, r_30, hfc, hf⟩ := cal_some hf
              have hFc := de_free hD hS hA
              refine va_calli (va_runV (As := [.int 1, .long (z_10.2.1 k_27 r_7.toNatClampNeg), .int 0]) (rest := []) ⟨hx, hb, hml, hown, hts⟩ (de_X18_ask l dC dI cy a sh n H_12.size F z_10 h0 1 (z_10.2.1 k_27 r_7.toNatClampNeg) 0 hfc) (cwV 3 hts gX18_coin_X18_ask rfl rfl rfl (by decide +kernel) ⟨Nat.le_of_ble_eq_true rfl, Nat.le_of_ble_eq_true rfl⟩) ⟨fun a U g mk q => by obtain ⟨q0, q1, qP, qK, qD, qN⟩ := q; exact ⟨q0, q1, qP, va_K.moved (u := U) (U := U.calling g mk a) (Vm.Alike.refl U.vm) qK, qD, qN.same rfl⟩, va_recv hK hP (ci := 18) (q0 := h0) rfl (Wd_ob kg_8 sg_8 (by decide)), fun U hU hW => ⟨rfl, by rw [hU], by rw [hU]; exact hP, va_K.moved hW.alike hK, hD.weaken (fun _ _ _ _ => trivial), hN.warm hW⟩⟩ rfl rfl hl.1 rfl (lv_room (Nat.le_of_ble_eq_true rfl)) dX18_coin_374 ⟨Nat.le_of_ble_eq_true rfl, Nat.le_of_ble_eq_true rfl⟩) hS (fun q _ h => hFc q h) hFc (fun rr u t H_31 locs ht hvm hw hB hz1 hk1 hS2 => ?_)
              rw [hw]
              clear hw
              obtain ⟨hP1, -, hD1⟩ := hB
              rw [ht] at hP1
              replace hD := hD1.weaken (fun _ _ _ h => hFc _ h)
              replace hP := hP1
              replace hS := hS2
              clear hP1 hD1 hS2 hFc hfc hz1 hk1 hvm ht
              refine lv_goto (tgt := 381) hx hb dX18_coin_377 (by decide) ?_
              exact B381 (z_29, r_30) ls H_31 locs ⟨lv_sub hl [1] rfl, hP, hD, hS⟩ hf
          · skip
            rw [if_pos c_5] at hf
            refine lv_aload_n hx hb dX18_coin_273 rfl (lv_at hl 0 rfl) ?_
            obtain ⟨g_34, hf⟩ := grd_some hf
            obtain ⟨kg_34, sg_34⟩ := okO_at g_34
            obtain ⟨z_32, r_33, hfc, hf⟩ := cal_some hf
            have hFc := de_free hD hS hA
            refine va_calll (va_runV (As := []) (rest := []) ⟨hx, hb, hml, hown, hts⟩ (de_X18_takeLong l dC dI cy a sh n H.size F z h0 hfc) (cwV 0 hts gX18_coin_X18_takeLong rfl rfl rfl (by decide +kernel) ⟨Nat.le_of_ble_eq_true rfl, Nat.le_of_ble_eq_true rfl⟩) ⟨fun a U g mk q => by obtain ⟨q0, q1, qP, qK, qD, qN⟩ := q; exact ⟨q0, q1, qP, va_K.moved (u := U) (U := U.calling g mk a) (Vm.Alike.refl U.vm) qK, qD, qN.same rfl⟩, va_recv hK hP (ci := 18) (q0 := h0) rfl (Wd_ob kg_34 sg_34 (by decide)), fun U hU hW => ⟨rfl, by rw [hU], by rw [hU]; exact hP, va_K.moved hW.alike hK, hD.weaken (fun _ _ _ _ => trivial), hN.warm hW⟩⟩ rfl rfl hl.1 rfl (lv_room (Nat.le_of_ble_eq_true rfl)) dX18_coin_274 ⟨Nat.le_of_ble_eq_true rfl, Nat.le_of_ble_eq_true rfl⟩) hS (fun q _ h => hFc q h) hFc (fun rr u t H_35 locs ht hvm hw hB hz1 hk1 hS2 => ?_)
            rw [hw]
            clear hw
            obtain ⟨hP1, -, hD1⟩ := hB
            rw [ht] at hP1
            replace hD := hD1.weaken (fun _ _ _ h => hFc _ h)
            replace hP := hP1
            replace hS := hS2
            clear hP1 hD1 hS2 hFc hfc hz1 hk1 hvm ht
            refine lv_lstore_n (lv' := [(2, .long r_33), (0, .ref (a h0)), (1, .int x0)]) hx hb dX18_coin_277 rfl hl (by decide) rfl (fun ls hl2 => ?_)
            replace hl := hl2
            clear hl2
            refine lv_aload_n hx hb dX18_coin_278 rfl (lv_at hl 1 rfl) ?_
            refine lv_bipush (v := 6) hx hb dX18_coin_279 (by decide) ?_
            obtain ⟨z_36, r_37, hfc, hf⟩ := cal_some hf
            have hFc := de_free hD hS hA
            refine va_calli (va_runV (As := [.int 6]) (rest := []) ⟨hx, hb, hml, hown, hts⟩ (de_X18_take l dC dI cy a sh n H_35.size F z_32 h0 6 hfc) (cwV 1 hts gX18_coin_X18_take rfl rfl rfl (by decide +kernel) ⟨Nat.le_of_ble_eq_true rfl, Nat.le_of_ble_eq_true rfl⟩) ⟨fun a U g mk q => by obtain ⟨q0, q1, qP, qK, qD, qN⟩ := q; exact ⟨q0, q1, qP, va_K.moved (u := U) (U := U.calling g mk a) (Vm.Alike.refl U.vm) qK, qD, qN.same rfl⟩, va_recv hK hP (ci := 18) (q0 := h0) rfl (Wd_ob kg_34 sg_34 (by decide)), fun U hU hW => ⟨rfl, by rw [hU], by rw [hU]; exact hP, va_K.moved hW.alike hK, hD.weaken (fun _ _ _ _ => trivial), hN.warm hW⟩⟩ rfl rfl hl.1 rfl (lv_room (Nat.le_of_ble_eq_true rfl)) dX18_coin_281 ⟨Nat.le_of_ble_eq_true rfl, Nat.le_of_ble_eq_true rfl⟩) hS (fun q _ h => hFc q h) hFc (fun rr u t H_38 locs ht hvm hw hB hz1 hk1 hS2 => ?_)
            rw [hw]
            clear hw
            obtain ⟨hP1, -, hD1⟩ := hB
            rw [ht] at hP1
            replace hD := hD1.weaken (fun _ _ _ h => hFc _ h)
            replace hP := hP1
            replace hS := hS2
            clear hP1 hD1 hS2 hFc hfc hz1 hk1 hvm ht
            refine lv_istore (lv' := [(4, .int r_37), (2, .long r_33), (0, .ref (a h0)), (1, .int x0)]) hx hb dX18_coin_284 hl (by decide) rfl (fun ls hl2 => ?_)
            replace hl := hl2
            clear hl2
            refine lv_aload_n hx hb dX18_coin_286 rfl (lv_at hl 2 rfl) ?_
            refine lv_iconst (v := 5) hx hb dX18_coin_287 (by decide) ?_
            obtain ⟨z_39, r_40, hfc, hf⟩ := cal_some hf
            have hFc := de_free hD hS hA
            refine va_calli (va_runV (As := [.int 5]) (rest := []) ⟨hx, hb, hml, hown, hts⟩ (de_X18_spend l dC dI cy a sh n H_38.size F z_36 h0 5 hfc) (cwV 1 hts gX18_coin_X18_spend rfl rfl rfl (by decide +kernel) ⟨Nat.le_of_ble_eq_true rfl, Nat.le_of_ble_eq_true rfl⟩) ⟨fun a U g mk q => by obtain ⟨q0, q1, qP, qK, qD, qN⟩ := q; exact ⟨q0, q1, qP, va_K.moved (u := U) (U := U.calling g mk a) (Vm.Alike.refl U.vm) qK, qD, qN.same rfl⟩, va_recv hK hP (ci := 18) (q0 := h0) rfl (Wd_ob kg_34 sg_34 (by decide)), fun U hU hW => ⟨rfl, by rw [hU], by rw [hU]; exact hP, va_K.moved hW.alike hK, hD.weaken (fun _ _ _ _ => trivial), hN.warm hW⟩⟩ rfl rfl hl.1 rfl (lv_room (Nat.le_of_ble_eq_true rfl)) dX18_coin_288 ⟨Nat.le_of_ble_eq_true rfl, Nat.le_of_ble_eq_true rfl⟩) hS (fun q _ h => hFc q h) hFc (fun rr u t H_41 locs ht hvm hw hB hz1 hk1 hS2 => ?_)
            rw [hw]
            clear hw
            obtain ⟨hP1, -, hD1⟩ := hB
            rw [ht] at hP1
            replace hD := hD1.weaken (fun _ _ _ h => hFc _ h)
            replace hP := hP1
            replace hS := hS2
            clear hP1 hD1 hS2 hFc hfc hz1 hk1 hvm ht
            refine lv_if_ne (tgt := 295) hx hb dX18_coin_291 (by decide) (fun c_42 => ?_) (fun c_42 => ?_)
            · skip
              rw [if_neg c_42] at hf
              refine lv_aload_n hx hb dX18_coin_295 rfl (lv_at hl 2 rfl) ?_
              obtain ⟨k_43, ek_43, hf⟩ := lnk_some hf
              refine va_get (D := (dC, dI)) (ci := 18) (v := .ref (a k_43)) (C := RX18) (T := TX18) (N := 78) hx hb hts iwd_X18_coin_X18 hown hK hP h0 (Wd_ob kg_34 sg_34 (by decide)) rfl 15 (by decide) (hts _ md_X18_coin_2) (fun _ h9 => h9) (fl_q rfl ek_43) dX18_coin_296 ?_
              obtain ⟨g_44, hf⟩ := grd_some hf
              obtain ⟨kg_44, sg_44⟩ := okO_at g_44
              obtain ⟨k_45, ek_45, hf⟩ := lnk_some hf
              refine va_getN (D := (dC, dI)) (ci := 15) (v := .ref (a k_45)) (C := RX15) (T := TX15) (N := 6) hx hb hts iwd_X18_coin_X15 hown hK hP k_43 (Wd_ob kg_44 sg_44 (by decide)) rfl 2 (by decide) (va_Nw.use rfl (NK_f_X18_77 hN)) (fun _ h9 => h9) (fl_q rfl ek_45) dX18_coin_299 ?_
              refine lv_aload_n hx hb dX18_coin_302 rfl (lv_at hl 2 rfl) ?_
              obtain ⟨k_46, ek_46, hf⟩ := lnk_some hf
              refine va_get (D := (dC, dI)) (ci := 18) (v := .ref (a k_46)) (C := RX18) (T := TX18) (N := 78) hx hb hts iwd_X18_coin_X18 hown hK hP h0 (Wd_ob kg_34 sg_34 (by decide)) rfl 15 (by decide) (hts _ md_X18_coin_2) (fun _ h9 => h9) (fl_q rfl ek_46) dX18_coin_303 ?_
              obtain ⟨g_47, hf⟩ := grd_some hf
              obtain ⟨kg_47, sg_47⟩ := okO_at g_47
              obtain ⟨k_48, ek_48, hf⟩ := lnk_some hf
              refine va_getN (D := (dC, dI)) (ci := 15) (v := .ref (a k_48)) (C := RX15) (T := TX15) (N := 6) hx hb hts iwd_X18_coin_X15 hown hK hP k_46 (Wd_ob kg_47 sg_47 (by decide)) rfl 3 (by decide) (va_Nw.use rfl (NK_f_X18_84 hN)) (fun _ h9 => h9) (fl_q rfl ek_48) dX18_coin_306 ?_
              refine lv_iload hx hb dX18_coin_309 (lv_at hl 0 rfl) ?_
              obtain ⟨g_49, hf⟩ := grd_some hf
              obtain ⟨kg_49, sg_49, ig_49⟩ := okA_at g_49
              refine va_iald hx hb hK hP k_48 1 (Wd_ai kg_49 sg_49) rfl ig_49 dX18_coin_311 ?_
              obtain ⟨g_50, hf⟩ := grd_some hf
              obtain ⟨kg_50, sg_50, ig_50⟩ := okA_at g_50
              refine va_lald hx hb hK hP k_45 2 (Wd_al kg_50 sg_50) rfl ig_50 dX18_coin_312 ?_
              refine lv_topl (fun v_51 ev_51 => ?_)
              replace hf := lt_at ev_51 hf
              clear ev_51
              refine lv_lstore (lv' := [(5, .long v_51), (4, .int r_37), (2, .long r_33), (0, .ref (a h0)), (1, .int x0)]) hx hb dX18_coin_313 hl (by decide) rfl (fun ls hl2 => ?_)
              replace hl := hl2
              clear hl2
              refine lv_lload hx hb dX18_coin_315 (lv_at hl 0 rfl) ?_
              refine lv_lload_n hx hb dX18_coin_317 rfl (lv_at hl 2 rfl) ?_
              obtain ⟨z_52, r_53, hfc, hf⟩ := cal_some hf
              have hFc := de_free hD hS hA
              refine va_calli (va_runS (As := [.long v_51, .long r_33]) (rest := []) ⟨hx, hb, hml, hown, hts⟩ (de_X18_isBelow l dC dI cy a sh n H_41.size F z_39 v_51 r_33 hfc) (va_cwS 2 hts gX18_coin_X18_isBelow rfl rfl rfl (by decide +kernel) ⟨Nat.le_of_ble_eq_true rfl, Nat.le_of_ble_eq_true rfl⟩) ⟨fun a U g mk q => by obtain ⟨q0, q1, qP, qK, qD, qN⟩ := q; exact ⟨q0, q1, qP, va_K.moved (u := U) (U := U.calling g mk a) (Vm.Alike.refl U.vm) qK, qD, qN.same rfl⟩, fun U hU hW => ⟨rfl, by rw [hU], by rw [hU]; exact hP, va_K.moved hW.alike hK, hD.weaken (fun _ _ _ _ => trivial), hN.warm hW⟩⟩ rfl rfl hl.1 rfl (lv_room (Nat.le_of_ble_eq_true rfl)) dX18_coin_318 ⟨Nat.le_of_ble_eq_true rfl, Nat.le_of_ble_eq_true rfl⟩) hS (fun q _ h => hFc q h) hFc (fun rr u t H_54 locs ht hvm hw hB hz1 hk1 hS2 => ?_)
              rw [hw]
              clear hw
              obtain ⟨hP1, -, hD1⟩ := hB
              rw [ht] at hP1
              replace hD := hD1.weaken (fun _ _ _ h => hFc _ h)
              replace hP := hP1
              replace hS := hS2
              clear hP1 hD1 hS2 hFc hfc hz1 hk1 hvm ht
              refine lv_if_eq (tgt := 333) hx hb dX18_coin_321 (by decide) (fun c_55 => ?_) (fun c_55 => ?_)
              · skip
                rw [if_pos c_55] at hf
                refine lv_aload_n hx hb dX18_coin_333 rfl (lv_at hl 3 rfl) ?_
                refine lv_lload hx hb dX18_coin_334 (lv_at hl 0 rfl) ?_
                refine lv_lload_n hx hb dX18_coin_336 rfl (lv_at hl 2 rfl) ?_
                refine lv_lsub hx hb dX18_coin_337 ?_
                obtain ⟨z_56, _u, hfc, hf⟩ := cal_some hf
                have hFc := de_free hD hS hA
                refine va_callv (va_runV (As := [.long (v_51 - r_33)]) (rest := []) ⟨hx, hb, hml, hown, hts⟩ (de_X18_makeCoin l dC dI cy a sh n H_54.size F z_52 h0 (v_51 - r_33) hfc) (cwV 1 hts gX18_coin_X18_makeCoin rfl rfl rfl (by decide +kernel) ⟨Nat.le_of_ble_eq_true rfl, Nat.le_of_ble_eq_true rfl⟩) ⟨fun a U g mk q => by obtain ⟨q0, q1, qP, qK, qD, qN⟩ := q; exact ⟨q0, q1, qP, va_K.moved (u := U) (U := U.calling g mk a) (Vm.Alike.refl U.vm) qK, qD, qN.same rfl⟩, va_recv hK hP (ci := 18) (q0 := h0) rfl (Wd_ob kg_34 sg_34 (by decide)), fun U hU hW => ⟨rfl, by rw [hU], by rw [hU]; exact hP, va_K.moved hW.alike hK, hD.weaken (fun _ _ _ _ => trivial), hN.warm hW⟩⟩ rfl rfl hl.1 rfl (lv_room (Nat.le_of_ble_eq_true rfl)) dX18_coin_338 ⟨Nat.le_of_ble_eq_true rfl, Nat.le_of_ble_eq_true rfl⟩) hS (fun q _ h => hFc q h) hFc (fun u t H_57 locs ht hvm hw hB hz1 hk1 hS2 => ?_)
                obtain ⟨hP1, -, hD1⟩ := hB
                rw [ht] at hP1
                replace hD := hD1.weaken (fun _ _ _ h => hFc _ h)
                replace hP := hP1
                replace hS := hS2
                clear hP1 hD1 hS2 hFc hfc hz1 hk1 hvm ht
                refine lv_aload_n hx hb dX18_coin_341 rfl (lv_at hl 3 rfl) ?_
                refine lv_lload_n hx hb dX18_coin_342 rfl (lv_at hl 2 rfl) ?_
                obtain ⟨z_58, _u, hfc, hf⟩ := cal_some hf
                have hFc := de_free hD hS hA
                refine va_callv (va_runV (As := [.long r_33]) (rest := []) ⟨hx, hb, hml, hown, hts⟩ (de_X18_makeCoin l dC dI cy a sh n H_57.size F z_56 h0 r_33 hfc) (cwV 1 hts gX18_coin_X18_makeCoin rfl rfl rfl (by decide +kernel) ⟨Nat.le_of_ble_eq_true rfl, Nat.le_of_ble_eq_true rfl⟩) ⟨fun a U g mk q => by obtain ⟨q0, q1, qP, qK, qD, qN⟩ := q; exact ⟨q0, q1, qP, va_K.moved (u := U) (U := U.calling g mk a) (Vm.Alike.refl U.vm) qK, qD, qN.same rfl⟩, va_recv hK hP (ci := 18) (q0 := h0) rfl (Wd_ob kg_34 sg_34 (by decide)), fun U hU hW => ⟨rfl, by rw [hU], by rw [hU]; exact hP, va_K.moved hW.alike hK, hD.weaken (fun _ _ _ _ => trivial), hN.warm hW⟩⟩ rfl rfl hl.1 rfl (lv_room (Nat.le_of_ble_eq_true rfl)) dX18_coin_343 ⟨Nat.le_of_ble_eq_true rfl, Nat.le_of_ble_eq_true rfl⟩) hS (fun q _ h => hFc q h) hFc (fun u t H_59 locs ht hvm hw hB hz1 hk1 hS2 => ?_)
                obtain ⟨hP1, -, hD1⟩ := hB
                rw [ht] at hP1
                replace hD := hD1.weaken (fun _ _ _ h => hFc _ h)
                replace hP := hP1
                replace hS := hS2
                clear hP1 hD1 hS2 hFc hfc hz1 hk1 hvm ht
                refine lv_goto (tgt := 406) hx hb dX18_coin_346 (by decide) ?_
                obtain ⟨h8, h9⟩ := ret_some hf
                rw [h8]
                exact W.vret hx hb hr (fun t ht hW => ⟨⟨(), rfl, trivial, by rw [ht]; exact hP, va_K.moved hW.alike hK, hD⟩, hS.F ht⟩) hS.2.2 dX18_coin_406
              · skip
                rw [if_neg c_55] at hf
                refine lv_aload_n hx hb dX18_coin_324 rfl (lv_at hl 3 rfl) ?_
                refine lv_iconst (v := 1) hx hb dX18_coin_325 (by decide) ?_
                refine lv_ldc2 hx hb hown (hts _ md_X18_coin_4) dX18_coin_326 ?_
                obtain ⟨z_60, _u, hfc, hf⟩ := cal_some hf
                have hFc := de_free hD hS hA
                refine va_callv (va_runV (As := [.int 1, .long 2]) (rest := []) ⟨hx, hb, hml, hown, hts⟩ (de_X18_end l dC dI cy a sh n H_54.size F z_52 h0 1 2 hfc) (cwV 2 hts gX18_coin_X18_end rfl rfl rfl (by decide +kernel) ⟨Nat.le_of_ble_eq_true rfl, Nat.le_of_ble_eq_true rfl⟩) ⟨fun a U g mk q => by obtain ⟨q0, q1, qP, qK, qD, qN⟩ := q; exact ⟨q0, q1, qP, va_K.moved (u := U) (U := U.calling g mk a) (Vm.Alike.refl U.vm) qK, qD, qN.same rfl⟩, va_recv hK hP (ci := 18) (q0 := h0) rfl (Wd_ob kg_34 sg_34 (by decide)), fun U hU hW => ⟨rfl, by rw [hU], by rw [hU]; exact hP, va_K.moved hW.alike hK, hD.weaken (fun _ _ _ _ => trivial), hN.warm hW⟩⟩ rfl rfl hl.1 rfl (lv_room (Nat.le_of_ble_eq_true rfl)) dX18_coin_329 ⟨Nat.le_of_ble_eq_true rfl, Nat.le_of_ble_eq_true rfl⟩) hS (fun q _ h => hFc q h) hFc (fun u t H_61 locs ht hvm hw hB hz1 hk1 hS2 => ?_)
                obtain ⟨hP1, -, hD1⟩ := hB
                rw [ht] at hP1
                replace hD := hD1.weaken (fun _ _ _ h => hFc _ h)
                replace hP := hP1
                replace hS := hS2
                clear hP1 hD1 hS2 hFc hfc hz1 hk1 hvm ht
                obtain ⟨h8, h9⟩ := ret_some hf
                rw [h8]
                exact W.vret hx hb hr (fun t ht hW => ⟨⟨(), rfl, trivial, by rw [ht]; exact hP, va_K.moved hW.alike hK, hD⟩, hS.F ht⟩) hS.2.2 dX18_coin_332
            · skip
              rw [if_pos c_42] at hf
              obtain ⟨h8, h9⟩ := ret_some hf
              rw [h8]
              exact W.vret hx hb hr (fun t ht hW => ⟨⟨(), rfl, trivial, by rw [ht]; exact hP, va_K.moved hW.alike hK, hD⟩, hS.F ht⟩) hS.2.2 dX18_coin_294
        · skip
          rw [if_pos c_4] at hf
          refine lv_aload_n hx hb dX18_coin_204 rfl (lv_at hl 0 rfl) ?_
          refine lv_bipush (v := 6) hx hb dX18_coin_205 (by decide) ?_
          obtain ⟨g_64, hf⟩ := grd_some hf
          obtain ⟨kg_64, sg_64⟩ := okO_at g_64
          obtain ⟨z_62, r_63, hfc, hf⟩ := cal_some hf
          have hFc := de_free hD hS hA
          refine va_calli (va_runV (As := [.int 6]) (rest := []) ⟨hx, hb, hml, hown, hts⟩ (de_X18_take l dC dI cy a sh n H.size F z h0 6 hfc) (cwV 1 hts gX18_coin_X18_take rfl rfl rfl (by decide +kernel) ⟨Nat.le_of_ble_eq_true rfl, Nat.le_of_ble_eq_true rfl⟩) ⟨fun a U g mk q => by obtain ⟨q0, q1, qP, qK, qD, qN⟩ := q; exact ⟨q0, q1, qP, va_K.moved (u := U) (U := U.calling g mk a) (Vm.Alike.refl U.vm) qK, qD, qN.same rfl⟩, va_recv hK hP (ci := 18) (q0 := h0) rfl (Wd_ob kg_64 sg_64 (by decide)), fun U hU hW => ⟨rfl, by rw [hU], by rw [hU]; exact hP, va_K.moved hW.alike hK, hD.weaken (fun _ _ _ _ => trivial), hN.warm hW⟩⟩ rfl rfl hl.1 rfl (lv_room (Nat.le_of_ble_eq_true rfl)) dX18_coin_207 ⟨Nat.le_of_ble_eq_true rfl, Nat.le_of_ble_eq_true rfl⟩) hS (fun q _ h => hFc q h) hFc (fun rr u t H_65 locs ht hvm hw hB hz1 hk1 hS2 => ?_)
          rw [hw]
          clear hw
          obtain ⟨hP1, -, hD1⟩ := hB
          rw [ht] at hP1
          replace hD := hD1.weaken (fun _ _ _ h => hFc _ h)
          replace hP := hP1
          replace hS := hS2
          clear hP1 hD1 hS2 hFc hfc hz1 hk1 hvm ht
          refine lv_istore_n (lv' := [(2, .int r_63), (0, .ref (a h0)), (1, .int x0)]) hx hb dX18_coin_210 rfl hl (by decide) rfl (fun ls hl2 => ?_)
          replace hl := hl2
          clear hl2
          refine lv_aload_n hx hb dX18_coin_211 rfl (lv_at hl 1 rfl) ?_
          refine lv_bipush (v := 6) hx hb dX18_coin_212 (by decide) ?_
          obtain ⟨z_66, r_67, hfc, hf⟩ := cal_some hf
          have hFc := de_free hD hS hA
          refine va_calli (va_runV (As := [.int 6]) (rest := []) ⟨hx, hb, hml, hown, hts⟩ (de_X18_take l dC dI cy a sh n H_65.size F z_62 h0 6 hfc) (cwV 1 hts gX18_coin_X18_take rfl rfl rfl (by decide +kernel) ⟨Nat.le_of_ble_eq_true rfl, Nat.le_of_ble_eq_true rfl⟩) ⟨fun a U g mk q => by obtain ⟨q0, q1, qP, qK, qD, qN⟩ := q; exact ⟨q0, q1, qP, va_K.moved (u := U) (U := U.calling g mk a) (Vm.Alike.refl U.vm) qK, qD, qN.same rfl⟩, va_recv hK hP (ci := 18) (q0 := h0) rfl (Wd_ob kg_64 sg_64 (by decide)), fun U hU hW => ⟨rfl, by rw [hU], by rw [hU]; exact hP, va_K.moved hW.alike hK, hD.weaken (fun _ _ _ _ => trivial), hN.warm hW⟩⟩ rfl rfl hl.1 rfl (lv_room (Nat.le_of_ble_eq_true rfl)) dX18_coin_214 ⟨Nat.le_of_ble_eq_true rfl, Nat.le_of_ble_eq_true rfl⟩) hS (fun q _ h => hFc q h) hFc (fun rr u t H_68 locs ht hvm hw hB hz1 hk1 hS2 => ?_)
          rw [hw]
          clear hw
          obtain ⟨hP1, -, hD1⟩ := hB
          rw [ht] at hP1
          replace hD := hD1.weaken (fun _ _ _ h => hFc _ h)
          replace hP := hP1
          replace hS := hS2
          clear hP1 hD1 hS2 hFc hfc hz1 hk1 hvm ht
          refine lv_istore_n (lv' := [(3, .int r_67), (2, .int r_63), (0, .ref (a h0)), (1, .int x0)]) hx hb dX18_coin_217 rfl hl (by decide) rfl (fun ls hl2 => ?_)
          replace hl := hl2
          clear hl2
          refine lv_aload_n hx hb dX18_coin_218 rfl (lv_at hl 2 rfl) ?_
          refine lv_iconst (v := 5) hx hb dX18_coin_219 (by decide) ?_
          obtain ⟨z_69, r_70, hfc, hf⟩ := cal_some hf
          have hFc := de_free hD hS hA
          refine va_calli (va_runV (As := [.int 5]) (rest := []) ⟨hx, hb, hml, hown, hts⟩ (de_X18_spend l dC dI cy a sh n H_68.size F z_66 h0 5 hfc) (cwV 1 hts gX18_coin_X18_spend rfl rfl rfl (by decide +kernel) ⟨Nat.le_of_ble_eq_true rfl, Nat.le_of_ble_eq_true rfl⟩) ⟨fun a U g mk q => by obtain ⟨q0, q1, qP, qK, qD, qN⟩ := q; exact ⟨q0, q1, qP, va_K.moved (u := U) (U := U.calling g mk a) (Vm.Alike.refl U.vm) qK, qD, qN.same rfl⟩, va_recv hK hP (ci := 18) (q0 := h0) rfl (Wd_ob kg_64 sg_64 (by decide)), fun U hU hW => ⟨rfl, by rw [hU], by rw [hU]; exact hP, va_K.moved hW.alike hK, hD.weaken (fun _ _ _ _ => trivial), hN.warm hW⟩⟩ rfl rfl hl.1 rfl (lv_room (Nat.le_of_ble_eq_true rfl)) dX18_coin_220 ⟨Nat.le_of_ble_eq_true rfl, Nat.le_of_ble_eq_true rfl⟩) hS (fun q _ h => hFc q h) hFc (fun rr u t H_71 locs ht hvm hw hB hz1 hk1 hS2 => ?_)
          rw [hw]
          clear hw
          obtain ⟨hP1, -, hD1⟩ := hB
          rw [ht] at hP1
          replace hD := hD1.weaken (fun _ _ _ h => hFc _ h)
          replace hP := hP1
          replace hS := hS2
          clear hP1 hD1 hS2 hFc hfc hz1 hk1 hvm ht
          refine lv_if_eq (tgt := 265) hx hb dX18_coin_223 (by decide) (fun c_72 => ?_) (fun c_72 => ?_)
          · skip
            rw [if_pos c_72] at hf
            refine lv_goto (tgt := 406) hx hb dX18_coin_265 (by decide) ?_
            obtain ⟨h8, h9⟩ := ret_some hf
            rw [h8]
            exact W.vret hx hb hr (fun t ht hW => ⟨⟨(), rfl, trivial, by rw [ht]; exact hP, va_K.moved hW.alike hK, hD⟩, hS.F ht⟩) hS.2.2 dX18_coin_406
          · skip
            rw [if_neg c_72] at hf
            refine lv_aload_n hx hb dX18_coin_226 rfl (lv_at hl 2 rfl) ?_
            refine lv_aload_n hx hb dX18_coin_227 rfl (lv_at hl 2 rfl) ?_
            obtain ⟨k_73, ek_73, hf⟩ := lnk_some hf
            refine va_get (D := (dC, dI)) (ci := 18) (v := .ref (a k_73)) (C := RX18) (T := TX18) (N := 78) hx hb hts iwd_X18_coin_X18 hown hK hP h0 (Wd_ob kg_64 sg_64 (by decide)) rfl 15 (by decide) (hts _ md_X18_coin_2) (fun _ h9 => h9) (fl_q rfl ek_73) dX18_coin_228 ?_
            obtain ⟨g_74, hf⟩ := grd_some hf
            obtain ⟨kg_74, sg_74⟩ := okO_at g_74
            obtain ⟨k_75, ek_75, hf⟩ := lnk_some hf
            refine va_getN (D := (dC, dI)) (ci := 15) (v := .ref (a k_75)) (C := RX15) (T := TX15) (N := 6) hx hb hts iwd_X18_coin_X15 hown hK hP k_73 (Wd_ob kg_74 sg_74 (by decide)) rfl 2 (by decide) (va_Nw.use rfl (NK_f_X18_77 hN)) (fun _ h9 => h9) (fl_q rfl ek_75) dX18_coin_231 ?_
            refine lv_aload_n hx hb dX18_coin_234 rfl (lv_at hl 2 rfl) ?_
            obtain ⟨k_76, ek_76, hf⟩ := lnk_some hf
            refine va_get (D := (dC, dI)) (ci := 18) (v := .ref (a k_76)) (C := RX18) (T := TX18) (N := 78) hx hb hts iwd_X18_coin_X18 hown hK hP h0 (Wd_ob kg_64 sg_64 (by decide)) rfl 15 (by decide) (hts _ md_X18_coin_2) (fun _ h9 => h9) (fl_q rfl ek_76) dX18_coin_235 ?_
            obtain ⟨g_77, hf⟩ := grd_some hf
            obtain ⟨kg_77, sg_77⟩ := okO_at g_77
            obtain ⟨k_78, ek_78, hf⟩ := lnk_some hf
            refine va_getN (D := (dC, dI)) (ci := 15) (v := .ref (a k_78)) (C := RX15) (T := TX15) (N := 6) hx hb hts iwd_X18_coin_X15 hown hK hP k_76 (Wd_ob kg_77 sg_77 (by decide)) rfl 3 (by decide) (va_Nw.use rfl (NK_f_X18_84 hN)) (fun _ h9 => h9) (fl_q rfl ek_78) dX18_coin_238 ?_
            refine lv_iload_n hx hb dX18_coin_241 rfl (lv_at hl 0 rfl) ?_
            obtain ⟨g_79, hf⟩ := grd_some hf
            obtain ⟨kg_79, sg_79, ig_79⟩ := okA_at g_79
            refine va_iald hx hb hK hP k_78 1 (Wd_ai kg_79 sg_79) rfl ig_79 dX18_coin_242 ?_
            obtain ⟨g_80, hf⟩ := grd_some hf
            obtain ⟨kg_80, sg_80, ig_80⟩ := okA_at g_80
            refine va_lald hx hb hK hP k_75 2 (Wd_al kg_80 sg_80) rfl ig_80 dX18_coin_243 ?_
            refine lv_aload_n hx hb dX18_coin_244 rfl (lv_at hl 2 rfl) ?_
            obtain ⟨k_81, ek_81, hf⟩ := lnk_some hf
            refine va_get (D := (dC, dI)) (ci := 18) (v := .ref (a k_81)) (C := RX18) (T := TX18) (N := 78) hx hb hts iwd_X18_coin_X18 hown hK hP h0 (Wd_ob kg_64 sg_64 (by decide)) rfl 15 (by decide) (hts _ md_X18_coin_2) (fun _ h9 => h9) (fl_q rfl ek_81) dX18_coin_245 ?_
            obtain ⟨g_82, hf⟩ := grd_some hf
            obtain ⟨kg_82, sg_82⟩ := okO_at g_82
            obtain ⟨k_83, ek_83, hf⟩ := lnk_some hf
            refine va_getN (D := (dC, dI)) (ci := 15) (v := .ref (a k_83)) (C := RX15) (T := TX15) (N := 6) hx hb hts iwd_X18_coin_X15 hown hK hP k_81 (Wd_ob kg_82 sg_82 (by decide)) rfl 2 (by decide) (va_Nw.use rfl (NK_f_X18_77 hN)) (fun _ h9 => h9) (fl_q rfl ek_83) dX18_coin_248 ?_
            refine lv_aload_n hx hb dX18_coin_251 rfl (lv_at hl 2 rfl) ?_
            obtain ⟨k_84, ek_84, hf⟩ := lnk_some hf
            refine va_get (D := (dC, dI)) (ci := 18) (v := .ref (a k_84)) (C := RX18) (T := TX18) (N := 78) hx hb hts iwd_X18_coin_X18 hown hK hP h0 (Wd_ob kg_64 sg_64 (by decide)) rfl 15 (by decide) (hts _ md_X18_coin_2) (fun _ h9 => h9) (fl_q rfl ek_84) dX18_coin_252 ?_
            obtain ⟨g_85, hf⟩ := grd_some hf
            obtain ⟨kg_85, sg_85⟩ := okO_at g_85
            obtain ⟨k_86, ek_86, hf⟩ := lnk_some hf
            refine va_getN (D := (dC, dI)) (ci := 15) (v := .ref (a k_86)) (C := RX15) (T := TX15) (N := 6) hx hb hts iwd_X18_coin_X15 hown hK hP k_84 (Wd_ob kg_85 sg_85 (by decide)) rfl 3 (by decide) (va_Nw.use rfl (NK_f_X18_84 hN)) (fun _ h9 => h9) (fl_q rfl ek_86) dX18_coin_255 ?_
            refine lv_iload_n hx hb dX18_coin_258 rfl (lv_at hl 1 rfl) ?_
            obtain ⟨g_87, hf⟩ := grd_some hf
            obtain ⟨kg_87, sg_87, ig_87⟩ := okA_at g_87
            refine va_iald hx hb hK hP k_86 1 (Wd_ai kg_87 sg_87) rfl ig_87 dX18_coin_259 ?_
            obtain ⟨g_88, hf⟩ := grd_some hf
            obtain ⟨kg_88, sg_88, ig_88⟩ := okA_at g_88
            refine va_lald hx hb hK hP k_83 2 (Wd_al kg_88 sg_88) rfl ig_88 dX18_coin_260 ?_
            refine lv_ladd hx hb dX18_coin_261 ?_
            obtain ⟨z_89, _u, hfc, hf⟩ := cal_some hf
            have hFc := de_free hD hS hA
            refine va_callv (va_runV (As := [.long ((z_69.2.1 k_75 (z_69.1 k_78 r_67.toNatClampNeg).toNatClampNeg) + (z_69.2.1 k_83 (z_69.1 k_86 r_63.toNatClampNeg).toNatClampNeg))]) (rest := []) ⟨hx, hb, hml, hown, hts⟩ (de_X18_makeCoin l dC dI cy a sh n H_71.size F z_69 h0 ((z_69.2.1 k_75 (z_69.1 k_78 r_67.toNatClampNeg).toNatClampNeg) + (z_69.2.1 k_83 (z_69.1 k_86 r_63.toNatClampNeg).toNatClampNeg)) hfc) (cwV 1 hts gX18_coin_X18_makeCoin rfl rfl rfl (by decide +kernel) ⟨Nat.le_of_ble_eq_true rfl, Nat.le_of_ble_eq_true rfl⟩) ⟨fun a U g mk q => by obtain ⟨q0, q1, qP, qK, qD, qN⟩ := q; exact ⟨q0, q1, qP, va_K.moved (u := U) (U := U.calling g mk a) (Vm.Alike.refl U.vm) qK, qD, qN.same rfl⟩, va_recv hK hP (ci := 18) (q0 := h0) rfl (Wd_ob kg_64 sg_64 (by decide)), fun U hU hW => ⟨rfl, by rw [hU], by rw [hU]; exact hP, va_K.moved hW.alike hK, hD.weaken (fun _ _ _ _ => trivial), hN.warm hW⟩⟩ rfl rfl hl.1 rfl (lv_room (Nat.le_of_ble_eq_true rfl)) dX18_coin_262 ⟨Nat.le_of_ble_eq_true rfl, Nat.le_of_ble_eq_true rfl⟩) hS (fun q _ h => hFc q h) hFc (fun u t H_90 locs ht hvm hw hB hz1 hk1 hS2 => ?_)
            obtain ⟨hP1, -, hD1⟩ := hB
            rw [ht] at hP1
            replace hD := hD1.weaken (fun _ _ _ h => hFc _ h)
            replace hP := hP1
            replace hS := hS2
            clear hP1 hD1 hS2 hFc hfc hz1 hk1 hvm ht
            refine lv_goto (tgt := 406) hx hb dX18_coin_265 (by decide) ?_
            obtain ⟨h8, h9⟩ := ret_some hf
            rw [h8]
            exact W.vret hx hb hr (fun t ht hW => ⟨⟨(), rfl, trivial, by rw [ht]; exact hP, va_K.moved hW.alike hK, hD⟩, hS.F ht⟩) hS.2.2 dX18_coin_406
      · skip
        rw [if_pos c_3] at hf
        refine lv_aload_n hx hb dX18_coin_159 rfl (lv_at hl 0 rfl) ?_
        refine lv_iconst (v := 1) hx hb dX18_coin_160 (by decide) ?_
        obtain ⟨g_93, hf⟩ := grd_some hf
        obtain ⟨kg_93, sg_93⟩ := okO_at g_93
        obtain ⟨z_91, r_92, hfc, hf⟩ := cal_some hf
        have hFc := de_free hD hS hA
        refine va_calli (va_runV (As := [.int 1]) (rest := []) ⟨hx, hb, hml, hown, hts⟩ (de_X18_takeAny l dC dI cy a sh n H.size F z h0 1 hfc) (cwV 1 hts gX18_coin_X18_takeAny rfl rfl rfl (by decide +kernel) ⟨Nat.le_of_ble_eq_true rfl, Nat.le_of_ble_eq_true rfl⟩) ⟨fun a U g mk q => by obtain ⟨q0, q1, qP, qK, qD, qN⟩ := q; exact ⟨q0, q1, qP, va_K.moved (u := U) (U := U.calling g mk a) (Vm.Alike.refl U.vm) qK, qD, qN.same rfl⟩, va_recv hK hP (ci := 18) (q0 := h0) rfl (Wd_ob kg_93 sg_93 (by decide)), fun U hU hW => ⟨rfl, by rw [hU], by rw [hU]; exact hP, va_K.moved hW.alike hK, hD.weaken (fun _ _ _ _ => trivial), hN.warm hW⟩⟩ rfl rfl hl.1 rfl (lv_room (Nat.le_of_ble_eq_true rfl)) dX18_coin_161 ⟨Nat.le_of_ble_eq_true rfl, Nat.le_of_ble_eq_true rfl⟩) hS (fun q _ h => hFc q h) hFc (fun rr u t H_94 locs ht hvm hw hB hz1 hk1 hS2 => ?_)
        rw [hw]
        clear hw
        obtain ⟨hP1, -, hD1⟩ := hB
        rw [ht] at hP1
        replace hD := hD1.weaken (fun _ _ _ h => hFc _ h)
        replace hP := hP1
        replace hS := hS2
        clear hP1 hD1 hS2 hFc hfc hz1 hk1 hvm ht
        refine lv_istore_n (lv' := [(2, .int r_92), (0, .ref (a h0)), (1, .int x0)]) hx hb dX18_coin_164 rfl hl (by decide) rfl (fun ls hl2 => ?_)
        replace hl := hl2
        clear hl2
        refine lv_aload_n hx hb dX18_coin_165 rfl (lv_at hl 1 rfl) ?_
        refine lv_iconst (v := 5) hx hb dX18_coin_166 (by decide) ?_
        obtain ⟨z_95, r_96, hfc, hf⟩ := cal_some hf
        have hFc := de_free hD hS hA
        refine va_calli (va_runV (As := [.int 5]) (rest := []) ⟨hx, hb, hml, hown, hts⟩ (de_X18_spend l dC dI cy a sh n H_94.size F z_91 h0 5 hfc) (cwV 1 hts gX18_coin_X18_spend rfl rfl rfl (by decide +kernel) ⟨Nat.le_of_ble_eq_true rfl, Nat.le_of_ble_eq_true rfl⟩) ⟨fun a U g mk q => by obtain ⟨q0, q1, qP, qK, qD, qN⟩ := q; exact ⟨q0, q1, qP, va_K.moved (u := U) (U := U.calling g mk a) (Vm.Alike.refl U.vm) qK, qD, qN.same rfl⟩, va_recv hK hP (ci := 18) (q0 := h0) rfl (Wd_ob kg_93 sg_93 (by decide)), fun U hU hW => ⟨rfl, by rw [hU], by rw [hU]; exact hP, va_K.moved hW.alike hK, hD.weaken (fun _ _ _ _ => trivial), hN.warm hW⟩⟩ rfl rfl hl.1 rfl (lv_room (Nat.le_of_ble_eq_true rfl)) dX18_coin_167 ⟨Nat.le_of_ble_eq_true rfl, Nat.le_of_ble_eq_true rfl⟩) hS (fun q _ h => hFc q h) hFc (fun rr u t H_97 locs ht hvm hw hB hz1 hk1 hS2 => ?_)
        rw [hw]
        clear hw
        obtain ⟨hP1, -, hD1⟩ := hB
        rw [ht] at hP1
        replace hD := hD1.weaken (fun _ _ _ h => hFc _ h)
        replace hP := hP1
        replace hS := hS2
        clear hP1 hD1 hS2 hFc hfc hz1 hk1 hvm ht
        refine lv_if_eq (tgt := 196) hx hb dX18_coin_170 (by decide) (fun c_98 => ?_) (fun c_98 => ?_)
        · skip
          rw [if_pos c_98] at hf
          refine lv_goto (tgt := 406) hx hb dX18_coin_196 (by decide) ?_
          obtain ⟨h8, h9⟩ := ret_some hf
          rw [h8]
          exact W.vret hx hb hr (fun t ht hW => ⟨⟨(), rfl, trivial, by rw [ht]; exact hP, va_K.moved hW.alike hK, hD⟩, hS.F ht⟩) hS.2.2 dX18_coin_406
        · skip
          rw [if_neg c_98] at hf
          refine lv_aload_n hx hb dX18_coin_173 rfl (lv_at hl 1 rfl) ?_
          refine lv_iconst (v := 3) hx hb dX18_coin_174 (by decide) ?_
          refine lv_lconst (v := 0) hx hb dX18_coin_175 (by decide) ?_
          refine lv_aload_n hx hb dX18_coin_176 rfl (lv_at hl 1 rfl) ?_
          obtain ⟨k_99, ek_99, hf⟩ := lnk_some hf
          refine va_get (D := (dC, dI)) (ci := 18) (v := .ref (a k_99)) (C := RX18) (T := TX18) (N := 78) hx hb hts iwd_X18_coin_X18 hown hK hP h0 (Wd_ob kg_93 sg_93 (by decide)) rfl 15 (by decide) (hts _ md_X18_coin_2) (fun _ h9 => h9) (fl_q rfl ek_99) dX18_coin_177 ?_
          obtain ⟨g_100, hf⟩ := grd_some hf
          obtain ⟨kg_100, sg_100⟩ := okO_at g_100
          obtain ⟨k_101, ek_101, hf⟩ := lnk_some hf
          refine va_getN (D := (dC, dI)) (ci := 15) (v := .ref (a k_101)) (C := RX15) (T := TX15) (N := 6) hx hb hts iwd_X18_coin_X15 hown hK hP k_99 (Wd_ob kg_100 sg_100 (by decide)) rfl 2 (by decide) (va_Nw.use rfl (NK_f_X18_77 hN)) (fun _ h9 => h9) (fl_q rfl ek_101) dX18_coin_180 ?_
          refine lv_aload_n hx hb dX18_coin_183 rfl (lv_at hl 1 rfl) ?_
          obtain ⟨k_102, ek_102, hf⟩ := lnk_some hf
          refine va_get (D := (dC, dI)) (ci := 18) (v := .ref (a k_102)) (C := RX18) (T := TX18) (N := 78) hx hb hts iwd_X18_coin_X18 hown hK hP h0 (Wd_ob kg_93 sg_93 (by decide)) rfl 15 (by decide) (hts _ md_X18_coin_2) (fun _ h9 => h9) (fl_q rfl ek_102) dX18_coin_184 ?_
          obtain ⟨g_103, hf⟩ := grd_some hf
          obtain ⟨kg_103, sg_103⟩ := okO_at g_103
          obtain ⟨k_104, ek_104, hf⟩ := lnk_some hf
          refine va_getN (D := (dC, dI)) (ci := 15) (v := .ref (a k_104)) (C := RX15) (T := TX15) (N := 6) hx hb hts iwd_X18_coin_X15 hown hK hP k_102 (Wd_ob kg_103 sg_103 (by decide)) rfl 3 (by decide) (va_Nw.use rfl (NK_f_X18_84 hN)) (fun _ h9 => h9) (fl_q rfl ek_104) dX18_coin_187 ?_
          refine lv_iload_n hx hb dX18_coin_190 rfl (lv_at hl 0 rfl) ?_
          obtain ⟨g_105, hf⟩ := grd_some hf
          obtain ⟨kg_105, sg_105, ig_105⟩ := okA_at g_105
          refine va_iald hx hb hK hP k_104 1 (Wd_ai kg_105 sg_105) rfl ig_105 dX18_coin_191 ?_
          obtain ⟨g_106, hf⟩ := grd_some hf
          obtain ⟨kg_106, sg_106, ig_106⟩ := okA_at g_106
          refine va_lald hx hb hK hP k_101 2 (Wd_al kg_106 sg_106) rfl ig_106 dX18_coin_192 ?_
          obtain ⟨z_107, _u, hfc, hf⟩ := cal_some hf
          have hFc := de_free hD hS hA
          refine va_callv (va_runV (As := [.int 3, .long 0, .long (z_95.2.1 k_101 (z_95.1 k_104 r_92.toNatClampNeg).toNatClampNeg)]) (rest := []) ⟨hx, hb, hml, hown, hts⟩ (de_X18_make l dC dI cy a sh n H_97.size F z_95 h0 3 0 (z_95.2.1 k_101 (z_95.1 k_104 r_92.toNatClampNeg).toNatClampNeg) hfc) (cwV 3 hts gX18_coin_X18_make rfl rfl rfl (by decide +kernel) ⟨Nat.le_of_ble_eq_true rfl, Nat.le_of_ble_eq_true rfl⟩) ⟨fun a U g mk q => by obtain ⟨q0, q1, qP, qK, qD, qN⟩ := q; exact ⟨q0, q1, qP, va_K.moved (u := U) (U := U.calling g mk a) (Vm.Alike.refl U.vm) qK, qD, qN.same rfl⟩, va_recv hK hP (ci := 18) (q0 := h0) rfl (Wd_ob kg_93 sg_93 (by decide)), fun U hU hW => ⟨rfl, by rw [hU], by rw [hU]; exact hP, va_K.moved hW.alike hK, hD.weaken (fun _ _ _ _ => trivial), hN.warm hW⟩⟩ rfl rfl hl.1 rfl (lv_room (Nat.le_of_ble_eq_true rfl)) dX18_coin_193 ⟨Nat.le_of_ble_eq_true rfl, Nat.le_of_ble_eq_true rfl⟩) hS (fun q _ h => hFc q h) hFc (fun u t H_108 locs ht hvm hw hB hz1 hk1 hS2 => ?_)
          obtain ⟨hP1, -, hD1⟩ := hB
          rw [ht] at hP1
          replace hD := hD1.weaken (fun _ _ _ h => hFc _ h)
          replace hP := hP1
          replace hS := hS2
          clear hP1 hD1 hS2 hFc hfc hz1 hk1 hvm ht
          refine lv_goto (tgt := 406) hx hb dX18_coin_196 (by decide) ?_
          obtain ⟨h8, h9⟩ := ret_some hf
          rw [h8]
          exact W.vret hx hb hr (fun t ht hW => ⟨⟨(), rfl, trivial, by rw [ht]; exact hP, va_K.moved hW.alike hK, hD⟩, hS.F ht⟩) hS.2.2 dX18_coin_406
    · skip
      rw [if_pos c_2] at hf
      refine lv_aload_n hx hb dX18_coin_61 rfl (lv_at hl 0 rfl) ?_
      refine lv_bipush (v := 6) hx hb dX18_coin_62 (by decide) ?_
      obtain ⟨g_111, hf⟩ := grd_some hf
      obtain ⟨kg_111, sg_111⟩ := okO_at g_111
      obtain ⟨z_109, r_110, hfc, hf⟩ := cal_some hf
      have hFc := de_free hD hS hA
      refine va_calli (va_runV (As := [.int 6]) (rest := []) ⟨hx, hb, hml, hown, hts⟩ (de_X18_take l dC dI cy a sh n H.size F z h0 6 hfc) (cwV 1 hts gX18_coin_X18_take rfl rfl rfl (by decide +kernel) ⟨Nat.le_of_ble_eq_true rfl, Nat.le_of_ble_eq_true rfl⟩) ⟨fun a U g mk q => by obtain ⟨q0, q1, qP, qK, qD, qN⟩ := q; exact ⟨q0, q1, qP, va_K.moved (u := U) (U := U.calling g mk a) (Vm.Alike.refl U.vm) qK, qD, qN.same rfl⟩, va_recv hK hP (ci := 18) (q0 := h0) rfl (Wd_ob kg_111 sg_111 (by decide)), fun U hU hW => ⟨rfl, by rw [hU], by rw [hU]; exact hP, va_K.moved hW.alike hK, hD.weaken (fun _ _ _ _ => trivial), hN.warm hW⟩⟩ rfl rfl hl.1 rfl (lv_room (Nat.le_of_ble_eq_true rfl)) dX18_coin_64 ⟨Nat.le_of_ble_eq_true rfl, Nat.le_of_ble_eq_true rfl⟩) hS (fun q _ h => hFc q h) hFc (fun rr u t H_112 locs ht hvm hw hB hz1 hk1 hS2 => ?_)
      rw [hw]
      clear hw
      obtain ⟨hP1, -, hD1⟩ := hB
      rw [ht] at hP1
      replace hD := hD1.weaken (fun _ _ _ h => hFc _ h)
      replace hP := hP1
      replace hS := hS2
      clear hP1 hD1 hS2 hFc hfc hz1 hk1 hvm ht
      refine lv_istore_n (lv' := [(2, .int r_110), (0, .ref (a h0)), (1, .int x0)]) hx hb dX18_coin_67 rfl hl (by decide) rfl (fun ls hl2 => ?_)
      replace hl := hl2
      clear hl2
      refine lv_aload_n hx hb dX18_coin_68 rfl (lv_at hl 1 rfl) ?_
      refine lv_iconst (v := 5) hx hb dX18_coin_69 (by decide) ?_
      obtain ⟨z_113, r_114, hfc, hf⟩ := cal_some hf
      have hFc := de_free hD hS hA
      refine va_calli (va_runV (As := [.int 5]) (rest := []) ⟨hx, hb, hml, hown, hts⟩ (de_X18_take l dC dI cy a sh n H_112.size F z_109 h0 5 hfc) (cwV 1 hts gX18_coin_X18_take rfl rfl rfl (by decide +kernel) ⟨Nat.le_of_ble_eq_true rfl, Nat.le_of_ble_eq_true rfl⟩) ⟨fun a U g mk q => by obtain ⟨q0, q1, qP, qK, qD, qN⟩ := q; exact ⟨q0, q1, qP, va_K.moved (u := U) (U := U.calling g mk a) (Vm.Alike.refl U.vm) qK, qD, qN.same rfl⟩, va_recv hK hP (ci := 18) (q0 := h0) rfl (Wd_ob kg_111 sg_111 (by decide)), fun U hU hW => ⟨rfl, by rw [hU], by rw [hU]; exact hP, va_K.moved hW.alike hK, hD.weaken (fun _ _ _ _ => trivial), hN.warm hW⟩⟩ rfl rfl hl.1 rfl (lv_room (Nat.le_of_ble_eq_true rfl)) dX18_coin_70 ⟨Nat.le_of_ble_eq_true rfl, Nat.le_of_ble_eq_true rfl⟩) hS (fun q _ h => hFc q h) hFc (fun rr u t H_115 locs ht hvm hw hB hz1 hk1 hS2 => ?_)
      rw [hw]
      clear hw
      obtain ⟨hP1, -, hD1⟩ := hB
      rw [ht] at hP1
      replace hD := hD1.weaken (fun _ _ _ h => hFc _ h)
      replace hP := hP1
      replace hS := hS2
      clear hP1 hD1 hS2 hFc hfc hz1 hk1 hvm ht
      refine lv_istore_n (lv' := [(3, .int r_114), (2, .int r_110), (0, .ref (a h0)), (1, .int x0)]) hx hb dX18_coin_73 rfl hl (by decide) rfl (fun ls hl2 => ?_)
      replace hl := hl2
      clear hl2
      refine lv_aload_n hx hb dX18_coin_74 rfl (lv_at hl 2 rfl) ?_
      obtain ⟨z_116, r_117, hfc, hf⟩ := cal_some hf
      have hFc := de_free hD hS hA
      refine va_calli (va_runV (As := []) (rest := []) ⟨hx, hb, hml, hown, hts⟩ (de_X18_goesOn l dC dI cy a sh n H_115.size F z_113 h0 hfc) (cwV 0 hts gX18_coin_X18_goesOn rfl rfl rfl (by decide +kernel) ⟨Nat.le_of_ble_eq_true rfl, Nat.le_of_ble_eq_true rfl⟩) ⟨fun a U g mk q => by obtain ⟨q0, q1, qP, qK, qD, qN⟩ := q; exact ⟨q0, q1, qP, va_K.moved (u := U) (U := U.calling g mk a) (Vm.Alike.refl U.vm) qK, qD, qN.same rfl⟩, va_recv hK hP (ci := 18) (q0 := h0) rfl (Wd_ob kg_111 sg_111 (by decide)), fun U hU hW => ⟨rfl, by rw [hU], by rw [hU]; exact hP, va_K.moved hW.alike hK, hD.weaken (fun _ _ _ _ => trivial), hN.warm hW⟩⟩ rfl rfl hl.1 rfl (lv_room (Nat.le_of_ble_eq_true rfl)) dX18_coin_75 ⟨Nat.le_of_ble_eq_true rfl, Nat.le_of_ble_eq_true rfl⟩) hS (fun q _ h => hFc q h) hFc (fun rr u t H_118 locs ht hvm hw hB hz1 hk1 hS2 => ?_)
      rw [hw]
      clear hw
      obtain ⟨hP1, -, hD1⟩ := hB
      rw [ht] at hP1
      replace hD := hD1.weaken (fun _ _ _ h => hFc _ h)
      replace hP := hP1
      replace hS := hS2
      clear hP1 hD1 hS2 hFc hfc hz1 hk1 hvm ht
      refine de_cut (h := 100) (fun (x : St × Int32) => [.int x.2]) (fun x ls H locs => lv_has ls 7 [(2, .int r_110), (0, .ref (a h0))] ∧ va_P (dC, dI) vwCl (Wd cy a sh n x.1) H ∧ va_D A (Wd cy a sh n x.1) ∧ va_S A s.heap H locs) (fun x => fn_X18_coin_B100 F sh n h0 r_110 x.1 x.2) (z8, r8) ?_ (fun B100 => ?_)
      · intro x ls H locs hI hf
        obtain ⟨z_120, p_119⟩ := x
        obtain ⟨hl2, hP2, hD2, hS2⟩ := hI
        replace hl : lv_has ls 7 [(2, .int r_110), (0, .ref (a h0))] := hl2
        replace hP := hP2
        replace hD := hD2
        replace hS := hS2
        clear hl2 hP2 hD2 hS2
        replace hf := fn_X18_coin_B100_s hf
        refine W.eq (g2 := F0 m 100 ls [.int p_119]) rfl ?_
        refine lv_istore (lv' := [(4, .int p_119), (2, .int r_110), (0, .ref (a h0))]) hx hb dX18_coin_100 hl (by decide) rfl (fun ls hl2 => ?_)
        replace hl := hl2
        clear hl2
        refine lv_iload hx hb dX18_coin_102 (lv_at hl 0 rfl) ?_
        refine lv_if_lt (tgt := 115) hx hb dX18_coin_104 (by decide) (fun c_121 => ?_) (fun c_121 => ?_)
        · skip
          rw [if_pos c_121] at hf
          obtain ⟨h8, h9⟩ := ret_some hf
          rw [h8]
          exact W.vret hx hb hr (fun t ht hW => ⟨⟨(), rfl, trivial, by rw [ht]; exact hP, va_K.moved hW.alike hK, hD⟩, hS.F ht⟩) hS.2.2 dX18_coin_115
        · skip
          rw [if_neg c_121] at hf
          refine lv_aload_n hx hb dX18_coin_107 rfl (lv_at hl 2 rfl) ?_
          refine lv_iconst (v := 5) hx hb dX18_coin_108 (by decide) ?_
          obtain ⟨z_122, r_123, hfc, hf⟩ := cal_some hf
          have hFc := de_free hD hS hA
          refine va_calli (va_runV (As := [.int 5]) (rest := []) ⟨hx, hb, hml, hown, hts⟩ (de_X18_spend l dC dI cy a sh n H.size F z_120 h0 5 hfc) (cwV 1 hts gX18_coin_X18_spend rfl rfl rfl (by decide +kernel) ⟨Nat.le_of_ble_eq_true rfl, Nat.le_of_ble_eq_true rfl⟩) ⟨fun a U g mk q => by obtain ⟨q0, q1, qP, qK, qD, qN⟩ := q; exact ⟨q0, q1, qP, va_K.moved (u := U) (U := U.calling g mk a) (Vm.Alike.refl U.vm) qK, qD, qN.same rfl⟩, va_recv hK hP (ci := 18) (q0 := h0) rfl (Wd_ob kg_111 sg_111 (by decide)), fun U hU hW => ⟨rfl, by rw [hU], by rw [hU]; exact hP, va_K.moved hW.alike hK, hD.weaken (fun _ _ _ _ => trivial), hN.warm hW⟩⟩ rfl rfl hl.1 rfl (lv_room (Nat.le_of_ble_eq_true rfl)) dX18_coin_109 ⟨Nat.le_of_ble_eq_true rfl, Nat.le_of_ble_eq_true rfl⟩) hS (fun q _ h => hFc q h) hFc (fun rr u t H_124 locs ht hvm hw hB hz1 hk1 hS2 => ?_)
          rw [hw]
          clear hw
          obtain ⟨hP1, -, hD1⟩ := hB
          rw [ht] at hP1
          replace hD := hD1.weaken (fun _ _ _ h => hFc _ h)
          replace hP := hP1
          replace hS := hS2
          clear hP1 hD1 hS2 hFc hfc hz1 hk1 hvm ht
          refine lv_if_ne (tgt := 116) hx hb dX18_coin_112 (by decide) (fun c_125 => ?_) (fun c_125 => ?_)
          · skip
            rw [if_neg c_125] at hf
            refine lv_aload_n hx hb dX18_coin_116 rfl (lv_at hl 2 rfl) ?_
            obtain ⟨k_126, ek_126, hf⟩ := lnk_some hf
            refine va_get (D := (dC, dI)) (ci := 18) (v := .ref (a k_126)) (C := RX18) (T := TX18) (N := 78) hx hb hts iwd_X18_coin_X18 hown hK hP h0 (Wd_ob kg_111 sg_111 (by decide)) rfl 33 (by decide) (hts _ md_X18_coin_1) (fun _ h9 => h9) (fl_q rfl ek_126) dX18_coin_117 ?_
            refine lv_iload hx hb dX18_coin_120 (lv_at hl 0 rfl) ?_
            refine lv_dup2_11 hx hb dX18_coin_122 rfl rfl ?_
            obtain ⟨g_127, hf⟩ := grd_some hf
            obtain ⟨kg_127, sg_127, ig_127⟩ := okA_at g_127
            refine va_lald hx hb hK hP k_126 2 (Wd_al kg_127 sg_127) rfl ig_127 dX18_coin_123 ?_
            refine lv_aload_n hx hb dX18_coin_124 rfl (lv_at hl 2 rfl) ?_
            obtain ⟨k_128, ek_128, hf⟩ := lnk_some hf
            refine va_get (D := (dC, dI)) (ci := 18) (v := .ref (a k_128)) (C := RX18) (T := TX18) (N := 78) hx hb hts iwd_X18_coin_X18 hown hK hP h0 (Wd_ob kg_111 sg_111 (by decide)) rfl 15 (by decide) (hts _ md_X18_coin_2) (fun _ h9 => h9) (fl_q rfl ek_128) dX18_coin_125 ?_
            obtain ⟨g_129, hf⟩ := grd_some hf
            obtain ⟨kg_129, sg_129⟩ := okO_at g_129
            obtain ⟨k_130, ek_130, hf⟩ := lnk_some hf
            refine va_getN (D := (dC, dI)) (ci := 15) (v := .ref (a k_130)) (C := RX15) (T := TX15) (N := 6) hx hb hts iwd_X18_coin_X15 hown hK hP k_128 (Wd_ob kg_129 sg_129 (by decide)) rfl 2 (by decide) (va_Nw.use rfl (NK_f_X18_77 hN)) (fun _ h9 => h9) (fl_q rfl ek_130) dX18_coin_128 ?_
            refine lv_aload_n hx hb dX18_coin_131 rfl (lv_at hl 2 rfl) ?_
            obtain ⟨k_131, ek_131, hf⟩ := lnk_some hf
            refine va_get (D := (dC, dI)) (ci := 18) (v := .ref (a k_131)) (C := RX18) (T := TX18) (N := 78) hx hb hts iwd_X18_coin_X18 hown hK hP h0 (Wd_ob kg_111 sg_111 (by decide)) rfl 15 (by decide) (hts _ md_X18_coin_2) (fun _ h9 => h9) (fl_q rfl ek_131) dX18_coin_132 ?_
            obtain ⟨g_132, hf⟩ := grd_some hf
            obtain ⟨kg_132, sg_132⟩ := okO_at g_132
            obtain ⟨k_133, ek_133, hf⟩ := lnk_some hf
            refine va_getN (D := (dC, dI)) (ci := 15) (v := .ref (a k_133)) (C := RX15) (T := TX15) (N := 6) hx hb hts iwd_X18_coin_X15 hown hK hP k_131 (Wd_ob kg_132 sg_132 (by decide)) rfl 3 (by decide) (va_Nw.use rfl (NK_f_X18_84 hN)) (fun _ h9 => h9) (fl_q rfl ek_133) dX18_coin_135 ?_
            refine lv_iload_n hx hb dX18_coin_138 rfl (lv_at hl 1 rfl) ?_
            obtain ⟨g_134, hf⟩ := grd_some hf
            obtain ⟨kg_134, sg_134, ig_134⟩ := okA_at g_134
            refine va_iald hx hb hK hP k_133 1 (Wd_ai kg_134 sg_134) rfl ig_134 dX18_coin_139 ?_
            obtain ⟨g_135, hf⟩ := grd_some hf
            obtain ⟨kg_135, sg_135, ig_135⟩ := okA_at g_135
            refine va_lald hx hb hK hP k_130 2 (Wd_al kg_135 sg_135) rfl ig_135 dX18_coin_140 ?_
            refine lv_ladd hx hb dX18_coin_141 ?_
            obtain ⟨g_136, hf⟩ := grd_some hf
            obtain ⟨kg_136, sg_136, ig_136⟩ := okA_at g_136
            refine va_last hx hb hK hP hD hS k_126 2 (Wd_al kg_136 sg_136) rfl ig_136 dX18_coin_142 (fun H_137 locs hP2 hD2 hS2 => ?_)
            rw [Wd_tl sg_136] at hP2 hD2
            obtain ⟨z_138, ez_138⟩ : ∃ w, w = sl z_122 k_126 p_119.toNatClampNeg ((z_122.2.1 k_126 p_119.toNatClampNeg) + (z_122.2.1 k_130 (z_122.1 k_133 r_110.toNatClampNeg).toNatClampNeg)) := ⟨_, rfl⟩
            rw [← ez_138] at hP2 hD2
            replace hf := lt_at ez_138 hf
            clear ez_138
            replace hP := hP2
            replace hD := hD2
            replace hS := hS2
            clear hP2 hD2 hS2
            refine lv_aload_n hx hb dX18_coin_143 rfl (lv_at hl 2 rfl) ?_
            obtain ⟨k_139, ek_139, hf⟩ := lnk_some hf
            refine va_get (D := (dC, dI)) (ci := 18) (v := .ref (a k_139)) (C := RX18) (T := TX18) (N := 78) hx hb hts iwd_X18_coin_X18 hown hK hP h0 (Wd_ob kg_111 sg_111 (by decide)) rfl 35 (by decide) (hts _ md_X18_coin_3) (fun _ h9 => h9) (fl_q rfl ek_139) dX18_coin_144 ?_
            refine lv_iload hx hb dX18_coin_147 (lv_at hl 0 rfl) ?_
            refine lv_iconst (v := 1) hx hb dX18_coin_149 (by decide) ?_
            obtain ⟨g_140, hf⟩ := grd_some hf
            obtain ⟨kg_140, sg_140, ig_140⟩ := okA_at g_140
            refine va_zast hx hb hK hP hD hS k_139 3 (Wd_az kg_140 sg_140) rfl ig_140 dX18_coin_150 (fun H_141 locs hP2 hD2 hS2 => ?_)
            rw [Wd_tz sg_140] at hP2 hD2
            obtain ⟨z_142, ez_142⟩ : ∃ w, w = si z_138 k_139 p_119.toNatClampNeg (vp_nar .boolean 1) := ⟨_, rfl⟩
            rw [← ez_142] at hP2 hD2
            replace hf := lt_at ez_142 hf
            clear ez_142
            replace hP := hP2
            replace hD := hD2
            replace hS := hS2
            clear hP2 hD2 hS2
            refine lv_goto (tgt := 406) hx hb dX18_coin_151 (by decide) ?_
            obtain ⟨h8, h9⟩ := ret_some hf
            rw [h8]
            exact W.vret hx hb hr (fun t ht hW => ⟨⟨(), rfl, trivial, by rw [ht]; exact hP, va_K.moved hW.alike hK, hD⟩, hS.F ht⟩) hS.2.2 dX18_coin_406
          · skip
            rw [if_pos c_125] at hf
            obtain ⟨h8, h9⟩ := ret_some hf
            rw [h8]
            exact W.vret hx hb hr (fun t ht hW => ⟨⟨(), rfl, trivial, by rw [ht]; exact hP, va_K.moved hW.alike hK, hD⟩, hS.F ht⟩) hS.2.2 dX18_coin_115
      refine lv_if_eq (tgt := 99) hx hb dX18_coin_78 (by decide) (fun c_143 => ?_) (fun c_143 => ?_)
      · skip
        rw [if_pos c_143] at hf
        refine lv_iconst (v := (-1)) hx hb dX18_coin_99 (by decide) ?_
        exact B100 (z_116, (-1)) ls H_118 locs ⟨lv_sub hl [1, 2] rfl, hP, hD, hS⟩ hf
      · skip
        rw [if_neg c_143] at hf
        refine lv_aload_n hx hb dX18_coin_81 rfl (lv_at hl 2 rfl) ?_
        refine lv_iconst (v := 1) hx hb dX18_coin_82 (by decide) ?_
        refine lv_aload_n hx hb dX18_coin_83 rfl (lv_at hl 2 rfl) ?_
        obtain ⟨k_144, ek_144, hf⟩ := lnk_some hf
        refine va_get (D := (dC, dI)) (ci := 18) (v := .ref (a k_144)) (C := RX18) (T := TX18) (N := 78) hx hb hts iwd_X18_coin_X18 hown hK hP h0 (Wd_ob kg_111 sg_111 (by decide)) rfl 15 (by decide) (hts _ md_X18_coin_2) (fun _ h9 => h9) (fl_q rfl ek_144) dX18_coin_84 ?_
        obtain ⟨g_145, hf⟩ := grd_some hf
        obtain ⟨kg_145, sg_145⟩ := okO_at g_145
        obtain ⟨k_146, ek_146, hf⟩ := lnk_some hf
        refine va_getN (D := (dC, dI)) (ci := 15) (v := .ref (a k_146)) (C := RX15) (T := TX15) (N := 6) hx hb hts iwd_X18_coin_X15 hown hK hP k_144 (Wd_ob kg_145 sg_145 (by decide)) rfl 2 (by decide) (va_Nw.use rfl (NK_f_X18_77 hN)) (fun _ h9 => h9) (fl_q rfl ek_146) dX18_coin_87 ?_
        refine lv_iload_n hx hb dX18_coin_90 rfl (lv_at hl 0 rfl) ?_
        obtain ⟨g_147, hf⟩ := grd_some hf
        obtain ⟨kg_147, sg_147, ig_147⟩ := okA_at g_147
        refine va_lald hx hb hK hP k_146 2 (Wd_al kg_147 sg_147) rfl ig_147 dX18_coin_91 ?_
        refine lv_iconst (v := 0) hx hb dX18_coin_92 (by decide) ?_
        obtain ⟨z_148, r_149, hfc, hf⟩ := cal_some hf
        have hFc := de_free hD hS hA
        refine va_calli (va_runV (As := [.int 1, .long (z_116.2.1 k_146 r_114.toNatClampNeg), .int 0]) (rest := []) ⟨hx, hb, hml, hown, hts⟩ (de_X18_ask l dC dI cy a sh n H_118.size F z_116 h0 1 (z_116.2.1 k_146 r_114.toNatClampNeg) 0 hfc) (cwV 3 hts gX18_coin_X18_ask rfl rfl rfl (by decide +kernel) ⟨Nat.le_of_ble_eq_true rfl, Nat.le_of_ble_eq_true rfl⟩) ⟨fun a U g mk q => by obtain ⟨q0, q1, qP, qK, qD, qN⟩ := q; exact ⟨q0, q1, qP, va_K.moved (u := U) (U := U.calling g mk a) (Vm.Alike.refl U.vm) qK, qD, qN.same rfl⟩, va_recv hK hP (ci := 18) (q0 := h0) rfl (Wd_ob kg_111 sg_111 (by decide)), fun U hU hW => ⟨rfl, by rw [hU], by rw [hU]; exact hP, va_K.moved hW.alike hK, hD.weaken (fun _ _ _ _ => trivial), hN.warm hW⟩⟩ rfl rfl hl.1 rfl (lv_room (Nat.le_of_ble_eq_true rfl)) dX18_coin_93 ⟨Nat.le_of_ble_eq_true rfl, Nat.le_of_ble_eq_true rfl⟩) hS (fun q _ h => hFc q h) hFc (fun rr u t H_150 locs ht hvm hw hB hz1 hk1 hS2 => ?_)
        rw [hw]
        clear hw
        obtain ⟨hP1, -, hD1⟩ := hB
        rw [ht] at hP1
        replace hD := hD1.weaken (fun _ _ _ h => hFc _ h)
        replace hP := hP1
        replace hS := hS2
        clear hP1 hD1 hS2 hFc hfc hz1 hk1 hvm ht
        refine lv_goto (tgt := 100) hx hb dX18_coin_96 (by decide) ?_
        exact B100 (z_148, r_149) ls H_150 locs ⟨lv_sub hl [1, 2] rfl, hP, hD, hS⟩ hf
  · skip
    rw [if_pos c_1] at hf
    refine lv_aload_n hx hb dX18_coin_4 rfl (lv_at hl 0 rfl) ?_
    obtain ⟨g_153, hf⟩ := grd_some hf
    obtain ⟨kg_153, sg_153⟩ := okO_at g_153
    obtain ⟨z_151, r_152, hfc, hf⟩ := cal_some hf
    have hFc := de_free hD hS hA
    refine va_calll (va_runV (As := []) (rest := []) ⟨hx, hb, hml, hown, hts⟩ (de_X18_takeLong l dC dI cy a sh n H.size F z h0 hfc) (cwV 0 hts gX18_coin_X18_takeLong rfl rfl rfl (by decide +kernel) ⟨Nat.le_of_ble_eq_true rfl, Nat.le_of_ble_eq_true rfl⟩) ⟨fun a U g mk q => by obtain ⟨q0, q1, qP, qK, qD, qN⟩ := q; exact ⟨q0, q1, qP, va_K.moved (u := U) (U := U.calling g mk a) (Vm.Alike.refl U.vm) qK, qD, qN.same rfl⟩, va_recv hK hP (ci := 18) (q0 := h0) rfl (Wd_ob kg_153 sg_153 (by decide)), fun U hU hW => ⟨rfl, by rw [hU], by rw [hU]; exact hP, va_K.moved hW.alike hK, hD.weaken (fun _ _ _ _ => trivial), hN.warm hW⟩⟩ rfl rfl hl.1 rfl (lv_room (Nat.le_of_ble_eq_true rfl)) dX18_coin_5 ⟨Nat.le_of_ble_eq_true rfl, Nat.le_of_ble_eq_true rfl⟩) hS (fun q _ h => hFc q h) hFc (fun rr u t H_154 locs ht hvm hw hB hz1 hk1 hS2 => ?_)
    rw [hw]
    clear hw
    obtain ⟨hP1, -, hD1⟩ := hB
    rw [ht] at hP1
    replace hD := hD1.weaken (fun _ _ _ h => hFc _ h)
    replace hP := hP1
    replace hS := hS2
    clear hP1 hD1 hS2 hFc hfc hz1 hk1 hvm ht
    refine lv_lstore_n (lv' := [(2, .long r_152), (0, .ref (a h0)), (1, .int x0)]) hx hb dX18_coin_8 rfl hl (by decide) rfl (fun ls hl2 => ?_)
    replace hl := hl2
    clear hl2
    refine lv_aload_n hx hb dX18_coin_9 rfl (lv_at hl 1 rfl) ?_
    refine lv_iconst (v := 5) hx hb dX18_coin_10 (by decide) ?_
    obtain ⟨z_155, r_156, hfc, hf⟩ := cal_some hf
    have hFc := de_free hD hS hA
    refine va_calli (va_runV (As := [.int 5]) (rest := []) ⟨hx, hb, hml, hown, hts⟩ (de_X18_spend l dC dI cy a sh n H_154.size F z_151 h0 5 hfc) (cwV 1 hts gX18_coin_X18_spend rfl rfl rfl (by decide +kernel) ⟨Nat.le_of_ble_eq_true rfl, Nat.le_of_ble_eq_true rfl⟩) ⟨fun a U g mk q => by obtain ⟨q0, q1, qP, qK, qD, qN⟩ := q; exact ⟨q0, q1, qP, va_K.moved (u := U) (U := U.calling g mk a) (Vm.Alike.refl U.vm) qK, qD, qN.same rfl⟩, va_recv hK hP (ci := 18) (q0 := h0) rfl (Wd_ob kg_153 sg_153 (by decide)), fun U hU hW => ⟨rfl, by rw [hU], by rw [hU]; exact hP, va_K.moved hW.alike hK, hD.weaken (fun _ _ _ _ => trivial), hN.warm hW⟩⟩ rfl rfl hl.1 rfl (lv_room (Nat.le_of_ble_eq_true rfl)) dX18_coin_11 ⟨Nat.le_of_ble_eq_true rfl, Nat.le_of_ble_eq_true rfl⟩) hS (fun q _ h => hFc q h) hFc (fun rr u t H_157 locs ht hvm hw hB hz1 hk1 hS2 => ?_)
    rw [hw]
    clear hw
    obtain ⟨hP1, -, hD1⟩ := hB
    rw [ht] at hP1
    replace hD := hD1.weaken (fun _ _ _ h => hFc _ h)
    replace hP := hP1
    replace hS := hS2
    clear hP1 hD1 hS2 hFc hfc hz1 hk1 hvm ht
    refine lv_if_ne (tgt := 18) hx hb dX18_coin_14 (by decide) (fun c_158 => ?_) (fun c_158 => ?_)
    · skip
      rw [if_neg c_158] at hf
      refine lv_aload_n hx hb dX18_coin_18 rfl (lv_at hl 1 rfl) ?_
      obtain ⟨k_159, ek_159, hf⟩ := lnk_some hf
      refine va_get (D := (dC, dI)) (ci := 18) (v := .ref (a k_159)) (C := RX18) (T := TX18) (N := 78) hx hb hts iwd_X18_coin_X18 hown hK hP h0 (Wd_ob kg_153 sg_153 (by decide)) rfl 33 (by decide) (hts _ md_X18_coin_1) (fun _ h9 => h9) (fl_q rfl ek_159) dX18_coin_19 ?_
      refine lv_iconst (v := 0) hx hb dX18_coin_22 (by decide) ?_
      obtain ⟨g_160, hf⟩ := grd_some hf
      obtain ⟨kg_160, sg_160, ig_160⟩ := okA_at g_160
      refine va_lald hx hb hK hP k_159 2 (Wd_al kg_160 sg_160) rfl ig_160 dX18_coin_23 ?_
      refine lv_lload_n hx hb dX18_coin_24 rfl (lv_at hl 0 rfl) ?_
      obtain ⟨z_161, r_162, hfc, hf⟩ := cal_some hf
      have hFc := de_free hD hS hA
      refine va_calli (va_runS (As := [.long (z_155.2.1 k_159 (0 : Int32).toNatClampNeg), .long r_152]) (rest := []) ⟨hx, hb, hml, hown, hts⟩ (de_X18_isBelow l dC dI cy a sh n H_157.size F z_155 (z_155.2.1 k_159 (0 : Int32).toNatClampNeg) r_152 hfc) (va_cwS 2 hts gX18_coin_X18_isBelow rfl rfl rfl (by decide +kernel) ⟨Nat.le_of_ble_eq_true rfl, Nat.le_of_ble_eq_true rfl⟩) ⟨fun a U g mk q => by obtain ⟨q0, q1, qP, qK, qD, qN⟩ := q; exact ⟨q0, q1, qP, va_K.moved (u := U) (U := U.calling g mk a) (Vm.Alike.refl U.vm) qK, qD, qN.same rfl⟩, fun U hU hW => ⟨rfl, by rw [hU], by rw [hU]; exact hP, va_K.moved hW.alike hK, hD.weaken (fun _ _ _ _ => trivial), hN.warm hW⟩⟩ rfl rfl hl.1 rfl (lv_room (Nat.le_of_ble_eq_true rfl)) dX18_coin_25 ⟨Nat.le_of_ble_eq_true rfl, Nat.le_of_ble_eq_true rfl⟩) hS (fun q _ h => hFc q h) hFc (fun rr u t H_163 locs ht hvm hw hB hz1 hk1 hS2 => ?_)
      rw [hw]
      clear hw
      obtain ⟨hP1, -, hD1⟩ := hB
      rw [ht] at hP1
      replace hD := hD1.weaken (fun _ _ _ h => hFc _ h)
      replace hP := hP1
      replace hS := hS2
      clear hP1 hD1 hS2 hFc hfc hz1 hk1 hvm ht
      refine lv_if_eq (tgt := 38) hx hb dX18_coin_28 (by decide) (fun c_164 => ?_) (fun c_164 => ?_)
      · skip
        rw [if_pos c_164] at hf
        refine lv_aload_n hx hb dX18_coin_38 rfl (lv_at hl 1 rfl) ?_
        obtain ⟨k_165, ek_165, hf⟩ := lnk_some hf
        refine va_get (D := (dC, dI)) (ci := 18) (v := .ref (a k_165)) (C := RX18) (T := TX18) (N := 78) hx hb hts iwd_X18_coin_X18 hown hK hP h0 (Wd_ob kg_153 sg_153 (by decide)) rfl 33 (by decide) (hts _ md_X18_coin_1) (fun _ h9 => h9) (fl_q rfl ek_165) dX18_coin_39 ?_
        refine lv_iconst (v := 0) hx hb dX18_coin_42 (by decide) ?_
        refine lv_dup2_11 hx hb dX18_coin_43 rfl rfl ?_
        obtain ⟨g_166, hf⟩ := grd_some hf
        obtain ⟨kg_166, sg_166, ig_166⟩ := okA_at g_166
        refine va_lald hx hb hK hP k_165 2 (Wd_al kg_166 sg_166) rfl ig_166 dX18_coin_44 ?_
        refine lv_lload_n hx hb dX18_coin_45 rfl (lv_at hl 0 rfl) ?_
        refine lv_lsub hx hb dX18_coin_46 ?_
        obtain ⟨g_167, hf⟩ := grd_some hf
        obtain ⟨kg_167, sg_167, ig_167⟩ := okA_at g_167
        refine va_last hx hb hK hP hD hS k_165 2 (Wd_al kg_167 sg_167) rfl ig_167 dX18_coin_47 (fun H_168 locs hP2 hD2 hS2 => ?_)
        rw [Wd_tl sg_167] at hP2 hD2
        obtain ⟨z_169, ez_169⟩ : ∃ w, w = sl z_161 k_165 (0 : Int32).toNatClampNeg ((z_161.2.1 k_165 (0 : Int32).toNatClampNeg) - r_152) := ⟨_, rfl⟩
        rw [← ez_169] at hP2 hD2
        replace hf := lt_at ez_169 hf
        clear ez_169
        replace hP := hP2
        replace hD := hD2
        replace hS := hS2
        clear hP2 hD2 hS2
        refine lv_aload_n hx hb dX18_coin_48 rfl (lv_at hl 1 rfl) ?_
        refine lv_lload_n hx hb dX18_coin_49 rfl (lv_at hl 0 rfl) ?_
        obtain ⟨z_170, _u, hfc, hf⟩ := cal_some hf
        have hFc := de_free hD hS hA
        refine va_callv (va_runV (As := [.long r_152]) (rest := []) ⟨hx, hb, hml, hown, hts⟩ (de_X18_makeCoin l dC dI cy a sh n H_168.size F z_169 h0 r_152 hfc) (cwV 1 hts gX18_coin_X18_makeCoin rfl rfl rfl (by decide +kernel) ⟨Nat.le_of_ble_eq_true rfl, Nat.le_of_ble_eq_true rfl⟩) ⟨fun a U g mk q => by obtain ⟨q0, q1, qP, qK, qD, qN⟩ := q; exact ⟨q0, q1, qP, va_K.moved (u := U) (U := U.calling g mk a) (Vm.Alike.refl U.vm) qK, qD, qN.same rfl⟩, va_recv hK hP (ci := 18) (q0 := h0) rfl (Wd_ob kg_153 sg_153 (by decide)), fun U hU hW => ⟨rfl, by rw [hU], by rw [hU]; exact hP, va_K.moved hW.alike hK, hD.weaken (fun _ _ _ _ => trivial), hN.warm hW⟩⟩ rfl rfl hl.1 rfl (lv_room (Nat.le_of_ble_eq_true rfl)) dX18_coin_50 ⟨Nat.le_of_ble_eq_true rfl, Nat.le_of_ble_eq_true rfl⟩) hS (fun q _ h => hFc q h) hFc (fun u t H_171 locs ht hvm hw hB hz1 hk1 hS2 => ?_)
        obtain ⟨hP1, -, hD1⟩ := hB
        rw [ht] at hP1
        replace hD := hD1.weaken (fun _ _ _ h => hFc _ h)
        replace hP := hP1
        replace hS := hS2
        clear hP1 hD1 hS2 hFc hfc hz1 hk1 hvm ht
        refine lv_goto (tgt := 406) hx hb dX18_coin_53 (by decide) ?_
        obtain ⟨h8, h9⟩ := ret_some hf
        rw [h8]
        exact W.vret hx hb hr (fun t ht hW => ⟨⟨(), rfl, trivial, by rw [ht]; exact hP, va_K.moved hW.alike hK, hD⟩, hS.F ht⟩) hS.2.2 dX18_coin_406
      · skip
        rw [if_neg c_164] at hf
        refine lv_aload_n hx hb dX18_coin_31 rfl (lv_at hl 1 rfl) ?_
        refine lv_iconst (v := 1) hx hb dX18_coin_32 (by decide) ?_
        refine lv_lconst (v := 1) hx hb dX18_coin_33 (by decide) ?_
        obtain ⟨z_172, _u, hfc, hf⟩ := cal_some hf
        have hFc := de_free hD hS hA
        refine va_callv (va_runV (As := [.int 1, .long 1]) (rest := []) ⟨hx, hb, hml, hown, hts⟩ (de_X18_end l dC dI cy a sh n H_163.size F z_161 h0 1 1 hfc) (cwV 2 hts gX18_coin_X18_end rfl rfl rfl (by decide +kernel) ⟨Nat.le_of_ble_eq_true rfl, Nat.le_of_ble_eq_true rfl⟩) ⟨fun a U g mk q => by obtain ⟨q0, q1, qP, qK, qD, qN⟩ := q; exact ⟨q0, q1, qP, va_K.moved (u := U) (U := U.calling g mk a) (Vm.Alike.refl U.vm) qK, qD, qN.same rfl⟩, va_recv hK hP (ci := 18) (q0 := h0) rfl (Wd_ob kg_153 sg_153 (by decide)), fun U hU hW => ⟨rfl, by rw [hU], by rw [hU]; exact hP, va_K.moved hW.alike hK, hD.weaken (fun _ _ _ _ => trivial), hN.warm hW⟩⟩ rfl rfl hl.1 rfl (lv_room (Nat.le_of_ble_eq_true rfl)) dX18_coin_34 ⟨Nat.le_of_ble_eq_true rfl, Nat.le_of_ble_eq_true rfl⟩) hS (fun q _ h => hFc q h) hFc (fun u t H_173 locs ht hvm hw hB hz1 hk1 hS2 => ?_)
        obtain ⟨hP1, -, hD1⟩ := hB
        rw [ht] at hP1
        replace hD := hD1.weaken (fun _ _ _ h => hFc _ h)
        replace hP := hP1
        replace hS := hS2
        clear hP1 hD1 hS2 hFc hfc hz1 hk1 hvm ht
        obtain ⟨h8, h9⟩ := ret_some hf
        rw [h8]
        exact W.vret hx hb hr (fun t ht hW => ⟨⟨(), rfl, trivial, by rw [ht]; exact hP, va_K.moved hW.alike hK, hD⟩, hS.F ht⟩) hS.2.2 dX18_coin_37
    · skip
      rw [if_pos c_158] at hf
      obtain ⟨h8, h9⟩ := ret_some hf
      rw [h8]
      exact W.vret hx hb hr (fun t ht hW => ⟨⟨(), rfl, trivial, by rw [ht]; exact hP, va_K.moved hW.alike hK, hD⟩, hS.F ht⟩) hS.2.2 dX18_coin_17

theorem md_X18_manyThere_1 : (.fieldLink RX18 17 "ResourceLedgerModel" "units" "[LResourceLedgerModel$Unit;" : Cond) ∈ wsX18_manyThere := List.mem_of_getElem? (i := 1) rfl
theorem iwd_X18_manyThere_X18 : ∀ w ∈ wsX180, w ∈ wsX18_manyThere := fun _ h => List.mem_cons_of_mem _ (List.mem_append_left _ (List.mem_append_right _ h))
set_option maxHeartbeats 4000000 in
set_option maxRecDepth 100000 in
theorem de_X18_manyThere (l : Launch) (dC : Nat → ClassId) (dI : Nat → Nat → Nat) (cy : Nat → ClassId) (a : Nat → Nat) (sh : Nat → Nat × Nat) (n sz : Nat) (F : Nat) (z : St) (h0 : Nat) (x0 : Int32) (x1 : Int32) (x2 : Int32) {z8 : St} {r8 : Int32} (hf : fn_X18_manyThere F sh n z h0 x0 x1 x2 = some (z8, r8)) : Met l yX18_manyThere wsX18_manyThere ({ frames := 6, cells := 0, slots := 0, locals := 136 }) (va_Pc [.ref (a h0), .int x0, .int x1, .int x2] (fun U => U.heap.size = sz ∧ va_P (dC, dI) vwCl (Wd cy a sh n z) U.heap ∧ va_K (dC, dI) vwCl (TYS cy) U ∧ va_D (fun _ => True) (Wd cy a sh n z) ∧ NK U)) (va_Qi (fun (r9 : Int32) (u : Unit) => r9 = r8) (fun u t => va_P (dC, dI) vwCl (Wd cy a sh n z8) t.heap ∧ va_K (dC, dI) vwCl (TYS cy) t ∧ va_D (va_A (Wd cy a sh n z) sz) (Wd cy a sh n z8)) (va_A (Wd cy a sh n z) sz)) 0 0 (va_A (Wd cy a sh n z) sz) := by
  refine Met.ofW (cc := cX18_manyThere) (maxL := 4) (ret := (some .int)) (by decide) rfl ?_
  intro p e s m args below meth c s₁ B hml hv
  obtain ⟨rfl, hsz, hP, hK, hD0, hN⟩ := hv
  have hx := B.exec
  have hb := B.bytes
  have hr := B.returns
  have hts := atoms_spec (ws := wsX18_manyThere) B.pre
  have hown : s.vm.findClass RX18 = some m.cls := findClass_of_methodNamed B.named
  have hlocks := B.notSynchronized
  subst hsz
  have hD := hD0.self (sz := s.heap.size)
  clear hD0
  generalize hAe : va_A (Wd cy a sh n z) s.heap.size = A at hD ⊢
  have hA : ∀ q : Nat, s.heap.size ≤ q → A q := fun q h => by rw [← hAe]; exact Or.inr h
  clear hAe
  have hS : va_S A s.heap s.heap [] := va_S.rf
  have hl := lv_entry ([.ref (a h0), .int x0, .int x1, .int x2]) (n := 4) (Nat.le_of_ble_eq_true rfl)
  rw [lg_entry_eq]
  generalize (lg_sl ([.ref (a h0), .int x0, .int x1, .int x2]) ++ List.replicate (4 - (lg_sl ([.ref (a h0), .int x0, .int x1, .int x2])).length) Slot.unset).toArray = ls at hl ⊢
  replace hl : lv_has ls 4 [(0, .ref (a h0)), (1, .int x0), (2, .int x1), (3, .int x2)] := hl
  unfold fn_X18_manyThere at hf
  refine de_start hS hP (fun H locs hS hP => ?_)
  refine lv_iload_n hx hb dX18_manyThere_0 rfl (lv_at hl 1 rfl) ?_
  refine lv_if_ne (tgt := 12) hx hb dX18_manyThere_1 (by decide) (fun c_1 => ?_) (fun c_1 => ?_)
  · skip
    rw [if_neg c_1] at hf
    refine lv_aload_n hx hb dX18_manyThere_12 rfl (lv_at hl 0 rfl) ?_
    obtain ⟨g_2, hf⟩ := grd_some hf
    obtain ⟨kg_2, sg_2⟩ := okO_at g_2
    obtain ⟨k_3, ek_3, hf⟩ := lnk_some hf
    refine va_get (D := (dC, dI)) (ci := 18) (v := .ref (a k_3)) (C := RX18) (T := TX18) (N := 78) hx hb hts iwd_X18_manyThere_X18 hown hK hP h0 (Wd_ob kg_2 sg_2 (by decide)) rfl 4 (by decide) (hts _ md_X18_manyThere_1) (fun _ h9 => h9) (fl_q rfl ek_3) dX18_manyThere_13 ?_
    refine lv_aload_n hx hb dX18_manyThere_16 rfl (lv_at hl 0 rfl) ?_
    refine lv_iload_n hx hb dX18_manyThere_17 rfl (lv_at hl 1 rfl) ?_
    obtain ⟨z_4, r_5, hfc, hf⟩ := cal_some hf
    have hFc := de_free hD hS hA
    refine va_calli (va_runV (As := [.int x0]) (rest := [.ref (a k_3)]) ⟨hx, hb, hml, hown, hts⟩ (de_X18_findModule l dC dI cy a sh n H.size F z h0 x0 hfc) (cwV 1 hts gX18_manyThere_X18_findModule rfl rfl rfl (by decide +kernel) ⟨Nat.le_of_ble_eq_true rfl, Nat.le_of_ble_eq_true rfl⟩) ⟨fun a U g mk q => by obtain ⟨q0, q1, qP, qK, qD, qN⟩ := q; exact ⟨q0, q1, qP, va_K.moved (u := U) (U := U.calling g mk a) (Vm.Alike.refl U.vm) qK, qD, qN.same rfl⟩, va_recv hK hP (ci := 18) (q0 := h0) rfl (Wd_ob kg_2 sg_2 (by decide)), fun U hU hW => ⟨rfl, by rw [hU], by rw [hU]; exact hP, va_K.moved hW.alike hK, hD.weaken (fun _ _ _ _ => trivial), hN.warm hW⟩⟩ rfl rfl hl.1 rfl (lv_room (Nat.le_of_ble_eq_true rfl)) dX18_manyThere_18 ⟨Nat.le_of_ble_eq_true rfl, Nat.le_of_ble_eq_true rfl⟩) hS (fun q _ h => hFc q h) hFc (fun rr u t H_6 locs ht hvm hw hB hz1 hk1 hS2 => ?_)
    rw [hw]
    clear hw
    obtain ⟨hP1, -, hD1⟩ := hB
    rw [ht] at hP1
    replace hD := hD1.weaken (fun _ _ _ h => hFc _ h)
    replace hP := hP1
    replace hS := hS2
    clear hP1 hD1 hS2 hFc hfc hz1 hk1 hvm ht
    obtain ⟨g_7, hf⟩ := grd_some hf
    obtain ⟨kg_7, sg_7, ig_7⟩ := okA_at g_7
    obtain ⟨k_8, ek_8, hf⟩ := lnk_some hf
    refine va_aldq (C := RX16) hx hb hK hP k_3 6 (Wd_aq kg_7 sg_7 (by decide)) rfl ig_7 dX18_manyThere_21 ?_
    refine W.eq (g2 := F0 m 22 ls [.ref (a k_8)]) (by rw [ek_8]; rfl) ?_
    refine lv_iload_n hx hb dX18_manyThere_22 rfl (lv_at hl 2 rfl) ?_
    refine lv_iload_n hx hb dX18_manyThere_23 rfl (lv_at hl 3 rfl) ?_
    obtain ⟨g_11, hf⟩ := grd_some hf
    obtain ⟨kg_11, sg_11⟩ := okO_at g_11
    obtain ⟨z_9, r_10, hfc, hf⟩ := cal_some hf
    have hFc := de_free hD hS hA
    refine va_calli (va_runV (As := [.int x1, .int x2]) (rest := []) ⟨hx, hb, hml, hown, hts⟩ (de_X16_many l dC dI cy a sh n H_6.size F z_4 k_8 x1 x2 hfc) (cwV 2 hts gX18_manyThere_X16_many rfl rfl rfl (by decide +kernel) ⟨Nat.le_of_ble_eq_true rfl, Nat.le_of_ble_eq_true rfl⟩) ⟨fun a U g mk q => by obtain ⟨q0, q1, qP, qK, qD, qN⟩ := q; exact ⟨q0, q1, qP, va_K.moved (u := U) (U := U.calling g mk a) (Vm.Alike.refl U.vm) qK, qD, qN.same rfl⟩, va_recv hK hP (ci := 16) (q0 := k_8) rfl (Wd_ob kg_11 sg_11 (by decide)), fun U hU hW => ⟨rfl, by rw [hU], by rw [hU]; exact hP, va_K.moved hW.alike hK, hD.weaken (fun _ _ _ _ => trivial), hN.warm hW⟩⟩ rfl rfl hl.1 rfl (lv_room (Nat.le_of_ble_eq_true rfl)) dX18_manyThere_24 ⟨Nat.le_of_ble_eq_true rfl, Nat.le_of_ble_eq_true rfl⟩) hS (fun q _ h => hFc q h) hFc (fun rr u t H_12 locs ht hvm hw hB hz1 hk1 hS2 => ?_)
    rw [hw]
    clear hw
    obtain ⟨hP1, -, hD1⟩ := hB
    rw [ht] at hP1
    replace hD := hD1.weaken (fun _ _ _ h => hFc _ h)
    replace hP := hP1
    replace hS := hS2
    clear hP1 hD1 hS2 hFc hfc hz1 hk1 hvm ht
    obtain ⟨h8, h9⟩ := ret_some hf
    rw [h8, h9]
    exact W.iret (v := r_10) hx hb hr (fun t ht hW => ⟨⟨r_10, (), rfl, rfl, by rw [ht]; exact hP, va_K.moved hW.alike hK, hD⟩, hS.F ht⟩) hS.2.2 dX18_manyThere_27
  · skip
    rw [if_pos c_1] at hf
    refine lv_iload_n hx hb dX18_manyThere_4 rfl (lv_at hl 2 rfl) ?_
    refine lv_iload_n hx hb dX18_manyThere_5 rfl (lv_at hl 3 rfl) ?_
    obtain ⟨z_13, r_14, hfc, hf⟩ := cal_some hf
    have hFc := de_free hD hS hA
    refine va_calli (va_runS (As := [.int x1, .int x2]) (rest := []) ⟨hx, hb, hml, hown, hts⟩ (de_X18_coinMany l dC dI cy a sh n H.size F z x1 x2 hfc) (va_cwS 2 hts gX18_manyThere_X18_coinMany rfl rfl rfl (by decide +kernel) ⟨Nat.le_of_ble_eq_true rfl, Nat.le_of_ble_eq_true rfl⟩) ⟨fun a U g mk q => by obtain ⟨q0, q1, qP, qK, qD, qN⟩ := q; exact ⟨q0, q1, qP, va_K.moved (u := U) (U := U.calling g mk a) (Vm.Alike.refl U.vm) qK, qD, qN.same rfl⟩, fun U hU hW => ⟨rfl, by rw [hU], by rw [hU]; exact hP, va_K.moved hW.alike hK, hD.weaken (fun _ _ _ _ => trivial), hN.warm hW⟩⟩ rfl rfl hl.1 rfl (lv_room (Nat.le_of_ble_eq_true rfl)) dX18_manyThere_6 ⟨Nat.le_of_ble_eq_true rfl, Nat.le_of_ble_eq_true rfl⟩) hS (fun q _ h => hFc q h) hFc (fun rr u t H_15 locs ht hvm hw hB hz1 hk1 hS2 => ?_)
    rw [hw]
    clear hw
    obtain ⟨hP1, -, hD1⟩ := hB
    rw [ht] at hP1
    replace hD := hD1.weaken (fun _ _ _ h => hFc _ h)
    replace hP := hP1
    replace hS := hS2
    clear hP1 hD1 hS2 hFc hfc hz1 hk1 hvm ht
    refine lv_goto (tgt := 27) hx hb dX18_manyThere_9 (by decide) ?_
    obtain ⟨h8, h9⟩ := ret_some hf
    rw [h8, h9]
    exact W.iret (v := r_14) hx hb hr (fun t ht hW => ⟨⟨r_14, (), rfl, rfl, by rw [ht]; exact hP, va_K.moved hW.alike hK, hD⟩, hS.F ht⟩) hS.2.2 dX18_manyThere_27

theorem md_X18_typeThere_1 : (.fieldLink RX18 17 "ResourceLedgerModel" "units" "[LResourceLedgerModel$Unit;" : Cond) ∈ wsX18_typeThere := List.mem_of_getElem? (i := 1) rfl
theorem iwd_X18_typeThere_X18 : ∀ w ∈ wsX180, w ∈ wsX18_typeThere := fun _ h => List.mem_cons_of_mem _ (List.mem_append_left _ (List.mem_append_right _ h))
set_option maxHeartbeats 4000000 in
set_option maxRecDepth 100000 in
theorem de_X18_typeThere (l : Launch) (dC : Nat → ClassId) (dI : Nat → Nat → Nat) (cy : Nat → ClassId) (a : Nat → Nat) (sh : Nat → Nat × Nat) (n sz : Nat) (F : Nat) (z : St) (h0 : Nat) (x0 : Int32) (x1 : Int32) (x2 : Int32) (x3 : Int32) {z8 : St} {r8 : Int64} (hf : fn_X18_typeThere F sh n z h0 x0 x1 x2 x3 = some (z8, r8)) : Met l yX18_typeThere wsX18_typeThere ({ frames := 6, cells := 0, slots := 0, locals := 139 }) (va_Pc [.ref (a h0), .int x0, .int x1, .int x2, .int x3] (fun U => U.heap.size = sz ∧ va_P (dC, dI) vwCl (Wd cy a sh n z) U.heap ∧ va_K (dC, dI) vwCl (TYS cy) U ∧ va_D (fun _ => True) (Wd cy a sh n z) ∧ NK U)) (va_Ql (fun (r9 : Int64) (u : Unit) => r9 = r8) (fun u t => va_P (dC, dI) vwCl (Wd cy a sh n z8) t.heap ∧ va_K (dC, dI) vwCl (TYS cy) t ∧ va_D (va_A (Wd cy a sh n z) sz) (Wd cy a sh n z8)) (va_A (Wd cy a sh n z) sz)) 0 0 (va_A (Wd cy a sh n z) sz) := by
  refine Met.ofW (cc := cX18_typeThere) (maxL := 5) (ret := (some .long)) (by decide) rfl ?_
  intro p e s m args below meth c s₁ B hml hv
  obtain ⟨rfl, hsz, hP, hK, hD0, hN⟩ := hv
  have hx := B.exec
  have hb := B.bytes
  have hr := B.returns
  have hts := atoms_spec (ws := wsX18_typeThere) B.pre
  have hown : s.vm.findClass RX18 = some m.cls := findClass_of_methodNamed B.named
  have hlocks := B.notSynchronized
  subst hsz
  have hD := hD0.self (sz := s.heap.size)
  clear hD0
  generalize hAe : va_A (Wd cy a sh n z) s.heap.size = A at hD ⊢
  have hA : ∀ q : Nat, s.heap.size ≤ q → A q := fun q h => by rw [← hAe]; exact Or.inr h
  clear hAe
  have hS : va_S A s.heap s.heap [] := va_S.rf
  have hl := lv_entry ([.ref (a h0), .int x0, .int x1, .int x2, .int x3]) (n := 5) (Nat.le_of_ble_eq_true rfl)
  rw [lg_entry_eq]
  generalize (lg_sl ([.ref (a h0), .int x0, .int x1, .int x2, .int x3]) ++ List.replicate (5 - (lg_sl ([.ref (a h0), .int x0, .int x1, .int x2, .int x3])).length) Slot.unset).toArray = ls at hl ⊢
  replace hl : lv_has ls 5 [(0, .ref (a h0)), (1, .int x0), (2, .int x1), (3, .int x2), (4, .int x3)] := hl
  unfold fn_X18_typeThere at hf
  refine de_start hS hP (fun H locs hS hP => ?_)
  refine lv_iload_n hx hb dX18_typeThere_0 rfl (lv_at hl 1 rfl) ?_
  refine lv_if_ne (tgt := 14) hx hb dX18_typeThere_1 (by decide) (fun c_1 => ?_) (fun c_1 => ?_)
  · skip
    rw [if_neg c_1] at hf
    refine lv_aload_n hx hb dX18_typeThere_14 rfl (lv_at hl 0 rfl) ?_
    obtain ⟨g_2, hf⟩ := grd_some hf
    obtain ⟨kg_2, sg_2⟩ := okO_at g_2
    obtain ⟨k_3, ek_3, hf⟩ := lnk_some hf
    refine va_get (D := (dC, dI)) (ci := 18) (v := .ref (a k_3)) (C := RX18) (T := TX18) (N := 78) hx hb hts iwd_X18_typeThere_X18 hown hK hP h0 (Wd_ob kg_2 sg_2 (by decide)) rfl 4 (by decide) (hts _ md_X18_typeThere_1) (fun _ h9 => h9) (fl_q rfl ek_3) dX18_typeThere_15 ?_
    refine lv_aload_n hx hb dX18_typeThere_18 rfl (lv_at hl 0 rfl) ?_
    refine lv_iload_n hx hb dX18_typeThere_19 rfl (lv_at hl 1 rfl) ?_
    obtain ⟨z_4, r_5, hfc, hf⟩ := cal_some hf
    have hFc := de_free hD hS hA
    refine va_calli (va_runV (As := [.int x0]) (rest := [.ref (a k_3)]) ⟨hx, hb, hml, hown, hts⟩ (de_X18_findModule l dC dI cy a sh n H.size F z h0 x0 hfc) (cwV 1 hts gX18_typeThere_X18_findModule rfl rfl rfl (by decide +kernel) ⟨Nat.le_of_ble_eq_true rfl, Nat.le_of_ble_eq_true rfl⟩) ⟨fun a U g mk q => by obtain ⟨q0, q1, qP, qK, qD, qN⟩ := q; exact ⟨q0, q1, qP, va_K.moved (u := U) (U := U.calling g mk a) (Vm.Alike.refl U.vm) qK, qD, qN.same rfl⟩, va_recv hK hP (ci := 18) (q0 := h0) rfl (Wd_ob kg_2 sg_2 (by decide)), fun U hU hW => ⟨rfl, by rw [hU], by rw [hU]; exact hP, va_K.moved hW.alike hK, hD.weaken (fun _ _ _ _ => trivial), hN.warm hW⟩⟩ rfl rfl hl.1 rfl (lv_room (Nat.le_of_ble_eq_true rfl)) dX18_typeThere_20 ⟨Nat.le_of_ble_eq_true rfl, Nat.le_of_ble_eq_true rfl⟩) hS (fun q _ h => hFc q h) hFc (fun rr u t H_6 locs ht hvm hw hB hz1 hk1 hS2 => ?_)
    rw [hw]
    clear hw
    obtain ⟨hP1, -, hD1⟩ := hB
    rw [ht] at hP1
    replace hD := hD1.weaken (fun _ _ _ h => hFc _ h)
    replace hP := hP1
    replace hS := hS2
    clear hP1 hD1 hS2 hFc hfc hz1 hk1 hvm ht
    obtain ⟨g_7, hf⟩ := grd_some hf
    obtain ⟨kg_7, sg_7, ig_7⟩ := okA_at g_7
    obtain ⟨k_8, ek_8, hf⟩ := lnk_some hf
    refine va_aldq (C := RX16) hx hb hK hP k_3 6 (Wd_aq kg_7 sg_7 (by decide)) rfl ig_7 dX18_typeThere_23 ?_
    refine W.eq (g2 := F0 m 24 ls [.ref (a k_8)]) (by rw [ek_8]; rfl) ?_
    refine lv_iload_n hx hb dX18_typeThere_24 rfl (lv_at hl 2 rfl) ?_
    refine lv_iload_n hx hb dX18_typeThere_25 rfl (lv_at hl 3 rfl) ?_
    refine lv_iload hx hb dX18_typeThere_26 (lv_at hl 4 rfl) ?_
    obtain ⟨g_11, hf⟩ := grd_some hf
    obtain ⟨kg_11, sg_11⟩ := okO_at g_11
    obtain ⟨z_9, r_10, hfc, hf⟩ := cal_some hf
    have hFc := de_free hD hS hA
    refine va_calll (va_runV (As := [.int x1, .int x2, .int x3]) (rest := []) ⟨hx, hb, hml, hown, hts⟩ (de_X16_listed l dC dI cy a sh n H_6.size F z_4 k_8 x1 x2 x3 hfc) (cwV 3 hts gX18_typeThere_X16_listed rfl rfl rfl (by decide +kernel) ⟨Nat.le_of_ble_eq_true rfl, Nat.le_of_ble_eq_true rfl⟩) ⟨fun a U g mk q => by obtain ⟨q0, q1, qP, qK, qD, qN⟩ := q; exact ⟨q0, q1, qP, va_K.moved (u := U) (U := U.calling g mk a) (Vm.Alike.refl U.vm) qK, qD, qN.same rfl⟩, va_recv hK hP (ci := 16) (q0 := k_8) rfl (Wd_ob kg_11 sg_11 (by decide)), fun U hU hW => ⟨rfl, by rw [hU], by rw [hU]; exact hP, va_K.moved hW.alike hK, hD.weaken (fun _ _ _ _ => trivial), hN.warm hW⟩⟩ rfl rfl hl.1 rfl (lv_room (Nat.le_of_ble_eq_true rfl)) dX18_typeThere_28 ⟨Nat.le_of_ble_eq_true rfl, Nat.le_of_ble_eq_true rfl⟩) hS (fun q _ h => hFc q h) hFc (fun rr u t H_12 locs ht hvm hw hB hz1 hk1 hS2 => ?_)
    rw [hw]
    clear hw
    obtain ⟨hP1, -, hD1⟩ := hB
    rw [ht] at hP1
    replace hD := hD1.weaken (fun _ _ _ h => hFc _ h)
    replace hP := hP1
    replace hS := hS2
    clear hP1 hD1 hS2 hFc hfc hz1 hk1 hvm ht
    obtain ⟨h8, h9⟩ := ret_some hf
    rw [h8, h9]
    exact W.lret (v := r_10) hx hb hr (fun t ht hW => ⟨⟨r_10, (), rfl, rfl, by rw [ht]; exact hP, va_K.moved hW.alike hK, hD⟩, hS.F ht⟩) hS.2.2 dX18_typeThere_31
  · skip
    rw [if_pos c_1] at hf
    refine lv_iload_n hx hb dX18_typeThere_4 rfl (lv_at hl 2 rfl) ?_
    refine lv_iload_n hx hb dX18_typeThere_5 rfl (lv_at hl 3 rfl) ?_
    refine lv_iload hx hb dX18_typeThere_6 (lv_at hl 4 rfl) ?_
    obtain ⟨z_13, r_14, hfc, hf⟩ := cal_some hf
    have hFc := de_free hD hS hA
    refine va_calll (va_runS (As := [.int x1, .int x2, .int x3]) (rest := []) ⟨hx, hb, hml, hown, hts⟩ (de_X18_coinType l dC dI cy a sh n H.size F z x1 x2 x3 hfc) (va_cwS 3 hts gX18_typeThere_X18_coinType rfl rfl rfl (by decide +kernel) ⟨Nat.le_of_ble_eq_true rfl, Nat.le_of_ble_eq_true rfl⟩) ⟨fun a U g mk q => by obtain ⟨q0, q1, qP, qK, qD, qN⟩ := q; exact ⟨q0, q1, qP, va_K.moved (u := U) (U := U.calling g mk a) (Vm.Alike.refl U.vm) qK, qD, qN.same rfl⟩, fun U hU hW => ⟨rfl, by rw [hU], by rw [hU]; exact hP, va_K.moved hW.alike hK, hD.weaken (fun _ _ _ _ => trivial), hN.warm hW⟩⟩ rfl rfl hl.1 rfl (lv_room (Nat.le_of_ble_eq_true rfl)) dX18_typeThere_8 ⟨Nat.le_of_ble_eq_true rfl, Nat.le_of_ble_eq_true rfl⟩) hS (fun q _ h => hFc q h) hFc (fun rr u t H_15 locs ht hvm hw hB hz1 hk1 hS2 => ?_)
    rw [hw]
    clear hw
    obtain ⟨hP1, -, hD1⟩ := hB
    rw [ht] at hP1
    replace hD := hD1.weaken (fun _ _ _ h => hFc _ h)
    replace hP := hP1
    replace hS := hS2
    clear hP1 hD1 hS2 hFc hfc hz1 hk1 hvm ht
    refine lv_goto (tgt := 31) hx hb dX18_typeThere_11 (by decide) ?_
    obtain ⟨h8, h9⟩ := ret_some hf
    rw [h8, h9]
    exact W.lret (v := r_14) hx hb hr (fun t ht hW => ⟨⟨r_14, (), rfl, rfl, by rw [ht]; exact hP, va_K.moved hW.alike hK, hD⟩, hS.F ht⟩) hS.2.2 dX18_typeThere_31

theorem md_X18_giveBack_1 : (.fieldLink RX18 369 "ResourceLedgerModel" "unit" "LResourceLedgerModel$Unit;" : Cond) ∈ wsX18_giveBack := List.mem_of_getElem? (i := 1) rfl
theorem iwd_X18_giveBack_X18 : ∀ w ∈ wsX180, w ∈ wsX18_giveBack := fun _ h => List.mem_cons_of_mem _ (List.mem_append_left _ (List.mem_append_right _ h))
theorem md_X18_giveBack_2 : (.fieldLink RX18 444 "ResourceLedgerModel" "frameFunctions" "[I" : Cond) ∈ wsX18_giveBack := List.mem_of_getElem? (i := 2) rfl
theorem md_X18_giveBack_3 : (.fieldLink RX18 328 "ResourceLedgerModel" "frames" "I" : Cond) ∈ wsX18_giveBack := List.mem_of_getElem? (i := 3) rfl
theorem md_X18_giveBack_4 : (.fieldLink RX18 312 "ResourceLedgerModel" "height" "I" : Cond) ∈ wsX18_giveBack := List.mem_of_getElem? (i := 4) rfl
theorem md_X18_giveBack_5 : (.fieldLink RX18 325 "ResourceLedgerModel" "bases" "[I" : Cond) ∈ wsX18_giveBack := List.mem_of_getElem? (i := 5) rfl
set_option maxHeartbeats 4000000 in
set_option maxRecDepth 100000 in
theorem de_X18_giveBack (l : Launch) (dC : Nat → ClassId) (dI : Nat → Nat → Nat) (cy : Nat → ClassId) (a : Nat → Nat) (sh : Nat → Nat × Nat) (n sz : Nat) (F : Nat) (z : St) (h0 : Nat) {z8 : St} {r8 : Unit} (hf : fn_X18_giveBack F sh n z h0 = some (z8, r8)) : Met l yX18_giveBack wsX18_giveBack ({ frames := 6, cells := 0, slots := 0, locals := 136 }) (va_Pc [.ref (a h0)] (fun U => U.heap.size = sz ∧ va_P (dC, dI) vwCl (Wd cy a sh n z) U.heap ∧ va_K (dC, dI) vwCl (TYS cy) U ∧ va_D (fun _ => True) (Wd cy a sh n z) ∧ NK U)) (va_Qv (fun u : Unit => True) (fun u t => va_P (dC, dI) vwCl (Wd cy a sh n z8) t.heap ∧ va_K (dC, dI) vwCl (TYS cy) t ∧ va_D (va_A (Wd cy a sh n z) sz) (Wd cy a sh n z8)) (va_A (Wd cy a sh n z) sz)) 0 0 (va_A (Wd cy a sh n z) sz) := by
  refine Met.ofW (cc := cX18_giveBack) (maxL := 2) (ret := none) (by decide) rfl ?_
  intro p e s m args below meth c s₁ B hml hv
  obtain ⟨rfl, hsz, hP, hK, hD0, hN⟩ := hv
  have hx := B.exec
  have hb := B.bytes
  have hr := B.returns
  have hts := atoms_spec (ws := wsX18_giveBack) B.pre
  have hown : s.vm.findClass RX18 = some m.cls := findClass_of_methodNamed B.named
  have hlocks := B.notSynchronized
  subst hsz
  have hD := hD0.self (sz := s.heap.size)
  clear hD0
  generalize hAe : va_A (Wd cy a sh n z) s.heap.size = A at hD ⊢
  have hA : ∀ q : Nat, s.heap.size ≤ q → A q := fun q h => by rw [← hAe]; exact Or.inr h
  clear hAe
  have hS : va_S A s.heap s.heap [] := va_S.rf
  have hl := lv_entry ([.ref (a h0)]) (n := 2) (Nat.le_of_ble_eq_true rfl)
  rw [lg_entry_eq]
  generalize (lg_sl ([.ref (a h0)]) ++ List.replicate (2 - (lg_sl ([.ref (a h0)])).length) Slot.unset).toArray = ls at hl ⊢
  replace hl : lv_has ls 2 [(0, .ref (a h0))] := hl
  unfold fn_X18_giveBack at hf
  refine de_start hS hP (fun H locs hS hP => ?_)
  refine lv_aload_n hx hb dX18_giveBack_0 rfl (lv_at hl 0 rfl) ?_
  obtain ⟨g_1, hf⟩ := grd_some hf
  obtain ⟨kg_1, sg_1⟩ := okO_at g_1
  obtain ⟨k_2, ek_2, hf⟩ := lnk_some hf
  refine va_get (D := (dC, dI)) (ci := 18) (v := .ref (a k_2)) (C := RX18) (T := TX18) (N := 78) hx hb hts iwd_X18_giveBack_X18 hown hK hP h0 (Wd_ob kg_1 sg_1 (by decide)) rfl 48 (by decide) (hts _ md_X18_giveBack_1) (fun _ h9 => h9) (fl_q rfl ek_2) dX18_giveBack_1 ?_
  refine lv_aload_n hx hb dX18_giveBack_4 rfl (lv_at hl 0 rfl) ?_
  obtain ⟨k_3, ek_3, hf⟩ := lnk_some hf
  refine va_get (D := (dC, dI)) (ci := 18) (v := .ref (a k_3)) (C := RX18) (T := TX18) (N := 78) hx hb hts iwd_X18_giveBack_X18 hown hK hP h0 (Wd_ob kg_1 sg_1 (by decide)) rfl 38 (by decide) (hts _ md_X18_giveBack_2) (fun _ h9 => h9) (fl_q rfl ek_3) dX18_giveBack_5 ?_
  refine lv_aload_n hx hb dX18_giveBack_8 rfl (lv_at hl 0 rfl) ?_
  refine va_get (D := (dC, dI)) (ci := 18) (v := .int (z.1 h0 36)) (C := RX18) (T := TX18) (N := 78) hx hb hts iwd_X18_giveBack_X18 hown hK hP h0 (Wd_ob kg_1 sg_1 (by decide)) rfl 36 (by decide) (hts _ md_X18_giveBack_3) (fun _ h9 => h9) (fl_at (t := 0) rfl) dX18_giveBack_9 ?_
  refine lv_iconst (v := 1) hx hb dX18_giveBack_12 (by decide) ?_
  refine lv_isub hx hb dX18_giveBack_13 ?_
  obtain ⟨g_4, hf⟩ := grd_some hf
  obtain ⟨kg_4, sg_4, ig_4⟩ := okA_at g_4
  refine va_iald hx hb hK hP k_3 1 (Wd_ai kg_4 sg_4) rfl ig_4 dX18_giveBack_14 ?_
  refine lv_iconst (v := 1) hx hb dX18_giveBack_15 (by decide) ?_
  obtain ⟨g_7, hf⟩ := grd_some hf
  obtain ⟨kg_7, sg_7⟩ := okO_at g_7
  obtain ⟨z_5, r_6, hfc, hf⟩ := cal_some hf
  have hFc := de_free hD hS hA
  refine va_calli (va_runV (As := [.int (z.1 k_3 ((z.1 h0 36) - 1).toNatClampNeg), .int 1]) (rest := []) ⟨hx, hb, hml, hown, hts⟩ (de_X16_many l dC dI cy a sh n H.size F z k_2 (z.1 k_3 ((z.1 h0 36) - 1).toNatClampNeg) 1 hfc) (cwV 2 hts gX18_giveBack_X16_many rfl rfl rfl (by decide +kernel) ⟨Nat.le_of_ble_eq_true rfl, Nat.le_of_ble_eq_true rfl⟩) ⟨fun a U g mk q => by obtain ⟨q0, q1, qP, qK, qD, qN⟩ := q; exact ⟨q0, q1, qP, va_K.moved (u := U) (U := U.calling g mk a) (Vm.Alike.refl U.vm) qK, qD, qN.same rfl⟩, va_recv hK hP (ci := 16) (q0 := k_2) rfl (Wd_ob kg_7 sg_7 (by decide)), fun U hU hW => ⟨rfl, by rw [hU], by rw [hU]; exact hP, va_K.moved hW.alike hK, hD.weaken (fun _ _ _ _ => trivial), hN.warm hW⟩⟩ rfl rfl hl.1 rfl (lv_room (Nat.le_of_ble_eq_true rfl)) dX18_giveBack_16 ⟨Nat.le_of_ble_eq_true rfl, Nat.le_of_ble_eq_true rfl⟩) hS (fun q _ h => hFc q h) hFc (fun rr u t H_8 locs ht hvm hw hB hz1 hk1 hS2 => ?_)
  rw [hw]
  clear hw
  obtain ⟨hP1, -, hD1⟩ := hB
  rw [ht] at hP1
  replace hD := hD1.weaken (fun _ _ _ h => hFc _ h)
  replace hP := hP1
  replace hS := hS2
  clear hP1 hD1 hS2 hFc hfc hz1 hk1 hvm ht
  refine lv_istore_n (lv' := [(1, .int r_6), (0, .ref (a h0))]) hx hb dX18_giveBack_19 rfl hl (by decide) rfl (fun ls hl2 => ?_)
  replace hl := hl2
  clear hl2
  refine lv_aload_n hx hb dX18_giveBack_20 rfl (lv_at hl 1 rfl) ?_
  refine va_get (D := (dC, dI)) (ci := 18) (v := .int (z_5.1 h0 45)) (C := RX18) (T := TX18) (N := 78) hx hb hts iwd_X18_giveBack_X18 hown hK hP h0 (Wd_ob kg_1 sg_1 (by decide)) rfl 45 (by decide) (hts _ md_X18_giveBack_4) (fun _ h9 => h9) (fl_at (t := 0) rfl) dX18_giveBack_21 ?_
  refine lv_aload_n hx hb dX18_giveBack_24 rfl (lv_at hl 1 rfl) ?_
  obtain ⟨k_9, ek_9, hf⟩ := lnk_some hf
  refine va_get (D := (dC, dI)) (ci := 18) (v := .ref (a k_9)) (C := RX18) (T := TX18) (N := 78) hx hb hts iwd_X18_giveBack_X18 hown hK hP h0 (Wd_ob kg_1 sg_1 (by decide)) rfl 40 (by decide) (hts _ md_X18_giveBack_5) (fun _ h9 => h9) (fl_q rfl ek_9) dX18_giveBack_25 ?_
  refine lv_aload_n hx hb dX18_giveBack_28 rfl (lv_at hl 1 rfl) ?_
  refine va_get (D := (dC, dI)) (ci := 18) (v := .int (z_5.1 h0 36)) (C := RX18) (T := TX18) (N := 78) hx hb hts iwd_X18_giveBack_X18 hown hK hP h0 (Wd_ob kg_1 sg_1 (by decide)) rfl 36 (by decide) (hts _ md_X18_giveBack_3) (fun _ h9 => h9) (fl_at (t := 0) rfl) dX18_giveBack_29 ?_
  refine lv_iconst (v := 1) hx hb dX18_giveBack_32 (by decide) ?_
  refine lv_isub hx hb dX18_giveBack_33 ?_
  obtain ⟨g_10, hf⟩ := grd_some hf
  obtain ⟨kg_10, sg_10, ig_10⟩ := okA_at g_10
  refine va_iald hx hb hK hP k_9 1 (Wd_ai kg_10 sg_10) rfl ig_10 dX18_giveBack_34 ?_
  refine lv_isub hx hb dX18_giveBack_35 ?_
  refine lv_iload_n hx hb dX18_giveBack_36 rfl (lv_at hl 0 rfl) ?_
  refine de_cut (h := 44) (fun (x : St) => []) (fun x ls H locs => lv_has ls 2 [(0, .ref (a h0))] ∧ va_P (dC, dI) vwCl (Wd cy a sh n x) H ∧ va_D A (Wd cy a sh n x) ∧ va_S A s.heap H locs) (fun x => fn_X18_giveBack_B44 F sh n h0 x) (z8, r8) ?_ (fun B44 => ?_)
  · intro x ls H locs hI hf
    obtain ⟨z_11, ez⟩ : ∃ w, w = x := ⟨_, rfl⟩
    subst ez
    obtain ⟨hl2, hP2, hD2, hS2⟩ := hI
    replace hl : lv_has ls 2 [(0, .ref (a h0))] := hl2
    replace hP := hP2
    replace hD := hD2
    replace hS := hS2
    clear hl2 hP2 hD2 hS2
    replace hf := fn_X18_giveBack_B44_s hf
    refine W.eq (g2 := F0 m 44 ls []) rfl ?_
    refine lv_aload_n hx hb dX18_giveBack_44 rfl (lv_at hl 0 rfl) ?_
    refine lv_dup hx hb dX18_giveBack_45 rfl ?_
    refine va_get (D := (dC, dI)) (ci := 18) (v := .int (z_11.1 h0 36)) (C := RX18) (T := TX18) (N := 78) hx hb hts iwd_X18_giveBack_X18 hown hK hP h0 (Wd_ob kg_1 sg_1 (by decide)) rfl 36 (by decide) (hts _ md_X18_giveBack_3) (fun _ h9 => h9) (fl_at (t := 0) rfl) dX18_giveBack_46 ?_
    refine lv_iconst (v := 1) hx hb dX18_giveBack_49 (by decide) ?_
    refine lv_isub hx hb dX18_giveBack_50 ?_
    refine va_put (D := (dC, dI)) (ci := 18) (v := .int ((z_11.1 h0 36) - 1)) (ty := .int) (C := RX18) (T := TX18) (N := 78) hx hb hts iwd_X18_giveBack_X18 tyX18 tyX18_ok nmX18 hown hK hP hD hS h0 (Wd_ob kg_1 sg_1 (by decide)) rfl 36 (by decide) (hts _ md_X18_giveBack_3) (fun _ h9 => h9) rfl (by decide +kernel) rfl rfl (by rw [fl_len]; decide) dX18_giveBack_51 (fun H_12 locs hP2 hD2 hS2 => ?_)
    rw [Wd_si sg_1 (by decide) rfl] at hP2 hD2
    obtain ⟨z_13, ez_13⟩ : ∃ w, w = si z_11 h0 36 ((z_11.1 h0 36) - 1) := ⟨_, rfl⟩
    rw [← ez_13] at hP2 hD2
    replace hf := lt_at ez_13 hf
    clear ez_13
    replace hP := hP2
    replace hD := hD2
    replace hS := hS2
    clear hP2 hD2 hS2
    refine lv_aload_n hx hb dX18_giveBack_54 rfl (lv_at hl 0 rfl) ?_
    refine va_get (D := (dC, dI)) (ci := 18) (v := .int (z_13.1 h0 36)) (C := RX18) (T := TX18) (N := 78) hx hb hts iwd_X18_giveBack_X18 hown hK hP h0 (Wd_ob kg_1 sg_1 (by decide)) rfl 36 (by decide) (hts _ md_X18_giveBack_3) (fun _ h9 => h9) (fl_at (t := 0) rfl) dX18_giveBack_55 ?_
    refine lv_if_ne (tgt := 67) hx hb dX18_giveBack_58 (by decide) (fun c_14 => ?_) (fun c_14 => ?_)
    · skip
      rw [if_neg c_14] at hf
      obtain ⟨h8, h9⟩ := ret_some hf
      rw [h8]
      exact W.vret hx hb hr (fun t ht hW => ⟨⟨(), rfl, trivial, by rw [ht]; exact hP, va_K.moved hW.alike hK, hD⟩, hS.F ht⟩) hS.2.2 dX18_giveBack_67
    · skip
      rw [if_pos c_14] at hf
      refine lv_aload_n hx hb dX18_giveBack_61 rfl (lv_at hl 0 rfl) ?_
      refine lv_iconst (v := 0) hx hb dX18_giveBack_62 (by decide) ?_
      refine lv_lconst (v := 0) hx hb dX18_giveBack_63 (by decide) ?_
      obtain ⟨z_15, _u, hfc, hf⟩ := cal_some hf
      have hFc := de_free hD hS hA
      refine va_callv (va_runV (As := [.int 0, .long 0]) (rest := []) ⟨hx, hb, hml, hown, hts⟩ (de_X18_end l dC dI cy a sh n H_12.size F z_13 h0 0 0 hfc) (cwV 2 hts gX18_giveBack_X18_end rfl rfl rfl (by decide +kernel) ⟨Nat.le_of_ble_eq_true rfl, Nat.le_of_ble_eq_true rfl⟩) ⟨fun a U g mk q => by obtain ⟨q0, q1, qP, qK, qD, qN⟩ := q; exact ⟨q0, q1, qP, va_K.moved (u := U) (U := U.calling g mk a) (Vm.Alike.refl U.vm) qK, qD, qN.same rfl⟩, va_recv hK hP (ci := 18) (q0 := h0) rfl (Wd_ob kg_1 sg_1 (by decide)), fun U hU hW => ⟨rfl, by rw [hU], by rw [hU]; exact hP, va_K.moved hW.alike hK, hD.weaken (fun _ _ _ _ => trivial), hN.warm hW⟩⟩ rfl rfl hl.1 rfl (lv_room (Nat.le_of_ble_eq_true rfl)) dX18_giveBack_64 ⟨Nat.le_of_ble_eq_true rfl, Nat.le_of_ble_eq_true rfl⟩) hS (fun q _ h => hFc q h) hFc (fun u t H_16 locs ht hvm hw hB hz1 hk1 hS2 => ?_)
      obtain ⟨hP1, -, hD1⟩ := hB
      rw [ht] at hP1
      replace hD := hD1.weaken (fun _ _ _ h => hFc _ h)
      replace hP := hP1
      replace hS := hS2
      clear hP1 hD1 hS2 hFc hfc hz1 hk1 hvm ht
      obtain ⟨h8, h9⟩ := ret_some hf
      rw [h8]
      exact W.vret hx hb hr (fun t ht hW => ⟨⟨(), rfl, trivial, by rw [ht]; exact hP, va_K.moved hW.alike hK, hD⟩, hS.F ht⟩) hS.2.2 dX18_giveBack_67
  refine lv_icmp_eq (tgt := 44) hx hb dX18_giveBack_37 (by decide) (fun c_17 => ?_) (fun c_17 => ?_)
  · skip
    rw [if_pos c_17] at hf
    exact B44 (z_5) ls H_8 locs ⟨lv_sub hl [1] rfl, hP, hD, hS⟩ hf
  · skip
    rw [if_neg c_17] at hf
    refine lv_aload_n hx hb dX18_giveBack_40 rfl (lv_at hl 1 rfl) ?_
    obtain ⟨z_18, _u, hfc, hf⟩ := cal_some hf
    have hFc := de_free hD hS hA
    refine va_callv (va_runV (As := []) (rest := []) ⟨hx, hb, hml, hown, hts⟩ (de_X18_slip l dC dI cy a sh n H_8.size F z_5 h0 hfc) (cwV 0 hts gX18_giveBack_X18_slip rfl rfl rfl (by decide +kernel) ⟨Nat.le_of_ble_eq_true rfl, Nat.le_of_ble_eq_true rfl⟩) ⟨fun a U g mk q => by obtain ⟨q0, q1, qP, qK, qD, qN⟩ := q; exact ⟨q0, q1, qP, va_K.moved (u := U) (U := U.calling g mk a) (Vm.Alike.refl U.vm) qK, qD, qN.same rfl⟩, va_recv hK hP (ci := 18) (q0 := h0) rfl (Wd_ob kg_1 sg_1 (by decide)), fun U hU hW => ⟨rfl, by rw [hU], by rw [hU]; exact hP, va_K.moved hW.alike hK, hD.weaken (fun _ _ _ _ => trivial), hN.warm hW⟩⟩ rfl rfl hl.1 rfl (lv_room (Nat.le_of_ble_eq_true rfl)) dX18_giveBack_41 ⟨Nat.le_of_ble_eq_true rfl, Nat.le_of_ble_eq_true rfl⟩) hS (fun q _ h => hFc q h) hFc (fun u t H_19 locs ht hvm hw hB hz1 hk1 hS2 => ?_)
    obtain ⟨hP1, -, hD1⟩ := hB
    rw [ht] at hP1
    replace hD := hD1.weaken (fun _ _ _ h => hFc _ h)
    replace hP := hP1
    replace hS := hS2
    clear hP1 hD1 hS2 hFc hfc hz1 hk1 hvm ht
    exact B44 (z_18) ls H_19 locs ⟨lv_sub hl [1] rfl, hP, hD, hS⟩ hf

theorem md_X9_rebuild_1 : (.fieldLink RX9 48 "ResourceLedger$Tree" "stale" "Z" : Cond) ∈ wsX9_rebuild := List.mem_of_getElem? (i := 1) rfl
theorem iwd_X9_rebuild_X9 : ∀ w ∈ wsX90, w ∈ wsX9_rebuild := fun _ h => List.mem_cons_of_mem _ (List.mem_append_left _ (List.mem_append_left _ (List.mem_append_left _ (List.mem_append_right _ h))))
theorem md_X9_rebuild_2 : (.fieldLink RX9 52 "ResourceLedger$Tree" "count" "I" : Cond) ∈ wsX9_rebuild := List.mem_of_getElem? (i := 2) rfl
theorem md_X9_rebuild_3 : (.fieldLink RX9 69 "ResourceLedger$Tree" "waitingCount" "I" : Cond) ∈ wsX9_rebuild := List.mem_of_getElem? (i := 3) rfl
theorem md_X9_rebuild_4 : (.fieldLink RX9 9 "ResourceLedger$Tree" "top" "[J" : Cond) ∈ wsX9_rebuild := List.mem_of_getElem? (i := 4) rfl
theorem md_X9_rebuild_5 : (.fieldLink RX9 42 "ResourceLedger$Tree" "waiting" "[J" : Cond) ∈ wsX9_rebuild := List.mem_of_getElem? (i := 5) rfl
set_option maxHeartbeats 4000000 in
set_option maxRecDepth 100000 in
theorem de_X9_rebuild (l : Launch) (dC : Nat → ClassId) (dI : Nat → Nat → Nat) (cy : Nat → ClassId) (a : Nat → Nat) (sh : Nat → Nat × Nat) (n sz : Nat) (F : Nat) (sk : Nat → Nat) (z : St) (h0 : Nat) (x0 : Nat) {z8 : St} {r8 : Unit} (hf : fn_X9_rebuild F sh n z h0 x0 = some (z8, r8)) : Met l yX9_rebuild wsX9_rebuild ({ frames := 6, cells := 0, slots := 0, locals := 150 }) (va_Pc [.ref (a h0), .ref (a x0)] (fun U => U.heap.size = sz ∧ va_P (dC, dI) vwCl (Wd cy a sh n z) U.heap ∧ va_K (dC, dI) vwCl (TYS cy) U ∧ va_D (fun _ => True) (Wd cy a sh n z) ∧ NK U ∧ SKs sk (a CBK) (va_A (Wd cy a sh n z) sz) U U.heap)) (va_Qv (fun u : Unit => True) (fun u t => va_P (dC, dI) vwCl (Wd cy a sh n z8) t.heap ∧ va_K (dC, dI) vwCl (TYS cy) t ∧ va_D (va_A (Wd cy a sh n z) sz) (Wd cy a sh n z8)) (va_A (Wd cy a sh n z) sz)) 0 0 (va_A (Wd cy a sh n z) sz) := by
  refine Met.ofW (cc := cX9_rebuild) (maxL := 3) (ret := none) (by decide) rfl ?_
  intro p e s m args below meth c s₁ B hml hv
  obtain ⟨rfl, hsz, hP, hK, hD0, hN, hSK⟩ := hv
  have hx := B.exec
  have hb := B.bytes
  have hr := B.returns
  have hts := atoms_spec (ws := wsX9_rebuild) B.pre
  have hown : s.vm.findClass RX9 = some m.cls := findClass_of_methodNamed B.named
  have hlocks := B.notSynchronized
  subst hsz
  have hD := hD0.self (sz := s.heap.size)
  clear hD0
  generalize hAe : va_A (Wd cy a sh n z) s.heap.size = A at hD hSK ⊢
  have hA : ∀ q : Nat, s.heap.size ≤ q → A q := fun q h => by rw [← hAe]; exact Or.inr h
  clear hAe
  have hS : va_S A s.heap s.heap [] := va_S.rf
  have hl := lv_entry ([.ref (a h0), .ref (a x0)]) (n := 3) (Nat.le_of_ble_eq_true rfl)
  rw [lg_entry_eq]
  generalize (lg_sl ([.ref (a h0), .ref (a x0)]) ++ List.replicate (3 - (lg_sl ([.ref (a h0), .ref (a x0)])).length) Slot.unset).toArray = ls at hl ⊢
  replace hl : lv_has ls 3 [(0, .ref (a h0)), (1, .ref (a x0))] := hl
  unfold fn_X9_rebuild at hf
  refine de_start hS hP (fun H locs hS hP => ?_)
  refine lv_aload_n hx hb dX9_rebuild_0 rfl (lv_at hl 0 rfl) ?_
  refine lv_iconst (v := 0) hx hb dX9_rebuild_1 (by decide) ?_
  obtain ⟨g_1, hf⟩ := grd_some hf
  obtain ⟨kg_1, sg_1⟩ := okO_at g_1
  refine va_put (D := (dC, dI)) (ci := 9) (v := .int 0) (ty := .boolean) (C := RX9) (T := TX9) (N := 13) hx hb hts iwd_X9_rebuild_X9 tyX9 tyX9_ok nmX9 hown hK hP hD hS h0 (Wd_ob kg_1 sg_1 (by decide)) rfl 1 (by decide) (hts _ md_X9_rebuild_1) (fun _ h9 => h9) rfl (by decide +kernel) rfl rfl (by rw [fl_len]; decide) dX9_rebuild_2 (fun H_2 locs hP2 hD2 hS2 => ?_)
  rw [Wd_si sg_1 (by decide) rfl] at hP2 hD2
  obtain ⟨z_3, ez_3⟩ : ∃ w, w = si z h0 1 0 := ⟨_, rfl⟩
  rw [← ez_3] at hP2 hD2
  replace hf := lt_at ez_3 hf
  clear ez_3
  replace hP := hP2
  replace hD := hD2
  replace hS := hS2
  clear hP2 hD2 hS2
  refine lv_aload_n hx hb dX9_rebuild_5 rfl (lv_at hl 0 rfl) ?_
  refine lv_iconst (v := 0) hx hb dX9_rebuild_6 (by decide) ?_
  refine va_put (D := (dC, dI)) (ci := 9) (v := .int 0) (ty := .int) (C := RX9) (T := TX9) (N := 13) hx hb hts iwd_X9_rebuild_X9 tyX9 tyX9_ok nmX9 hown hK hP hD hS h0 (Wd_ob kg_1 sg_1 (by decide)) rfl 7 (by decide) (hts _ md_X9_rebuild_2) (fun _ h9 => h9) rfl (by decide +kernel) rfl rfl (by rw [fl_len]; decide) dX9_rebuild_7 (fun H_4 locs hP2 hD2 hS2 => ?_)
  rw [Wd_si sg_1 (by decide) rfl] at hP2 hD2
  obtain ⟨z_5, ez_5⟩ : ∃ w, w = si z_3 h0 7 0 := ⟨_, rfl⟩
  rw [← ez_5] at hP2 hD2
  replace hf := lt_at ez_5 hf
  clear ez_5
  replace hP := hP2
  replace hD := hD2
  replace hS := hS2
  clear hP2 hD2 hS2
  refine lv_aload_n hx hb dX9_rebuild_10 rfl (lv_at hl 0 rfl) ?_
  refine lv_aload_n hx hb dX9_rebuild_11 rfl (lv_at hl 1 rfl) ?_
  obtain ⟨z_6, _u, hfc, hf⟩ := cal_some hf
  have hFc := de_free hD hS hA
  refine va_callv (va_runV (As := [.ref (a x0)]) (rest := []) ⟨hx, hb, hml, hown, hts⟩ (de_X9_gatherAccounts l dC dI cy a sh n H_4.size F sk z_5 h0 x0 hfc) (cwV 1 hts gX9_rebuild_X9_gatherAccounts rfl rfl rfl (by decide +kernel) ⟨Nat.le_of_ble_eq_true rfl, Nat.le_of_ble_eq_true rfl⟩) ⟨fun a U g mk q => by obtain ⟨q0, q1, qP, qK, qD, qN, qS⟩ := q; exact ⟨q0, q1, qP, va_K.moved (u := U) (U := U.calling g mk a) (Vm.Alike.refl U.vm) qK, qD, qN.same rfl, SKs.moved (u := U) (U := U.calling g mk a) (Vm.Alike.refl U.vm) qS⟩, va_recv hK hP (ci := 9) (q0 := h0) rfl (Wd_ob kg_1 sg_1 (by decide)), fun U hU hW => ⟨rfl, by rw [hU], by rw [hU]; exact hP, va_K.moved hW.alike hK, hD.weaken (fun _ _ _ _ => trivial), hN.warm hW, by rw [hU]; exact ((hSK.kept hS.2.1).narrow hFc).moved hW.alike⟩⟩ rfl rfl hl.1 rfl (lv_room (Nat.le_of_ble_eq_true rfl)) dX9_rebuild_12 ⟨Nat.le_of_ble_eq_true rfl, Nat.le_of_ble_eq_true rfl⟩) hS (fun q _ h => hFc q h) hFc (fun u t H_7 locs ht hvm hw hB hz1 hk1 hS2 => ?_)
  obtain ⟨hP1, -, hD1⟩ := hB
  rw [ht] at hP1
  replace hD := hD1.weaken (fun _ _ _ h => hFc _ h)
  replace hP := hP1
  replace hS := hS2
  clear hP1 hD1 hS2 hFc hfc hz1 hk1 hvm ht
  refine lv_aload_n hx hb dX9_rebuild_15 rfl (lv_at hl 0 rfl) ?_
  refine lv_aload_n hx hb dX9_rebuild_16 rfl (lv_at hl 1 rfl) ?_
  obtain ⟨z_8, _u, hfc, hf⟩ := cal_some hf
  have hFc := de_free hD hS hA
  refine va_callv (va_runV (As := [.ref (a x0)]) (rest := []) ⟨hx, hb, hml, hown, hts⟩ (de_X9_gatherModules l dC dI cy a sh n H_7.size F sk z_6 h0 x0 hfc) (cwV 1 hts gX9_rebuild_X9_gatherModules rfl rfl rfl (by decide +kernel) ⟨Nat.le_of_ble_eq_true rfl, Nat.le_of_ble_eq_true rfl⟩) ⟨fun a U g mk q => by obtain ⟨q0, q1, qP, qK, qD, qN, qS⟩ := q; exact ⟨q0, q1, qP, va_K.moved (u := U) (U := U.calling g mk a) (Vm.Alike.refl U.vm) qK, qD, qN.same rfl, SKs.moved (u := U) (U := U.calling g mk a) (Vm.Alike.refl U.vm) qS⟩, va_recv hK hP (ci := 9) (q0 := h0) rfl (Wd_ob kg_1 sg_1 (by decide)), fun U hU hW => ⟨rfl, by rw [hU], by rw [hU]; exact hP, va_K.moved hW.alike hK, hD.weaken (fun _ _ _ _ => trivial), hN.warm hW, by rw [hU]; exact ((hSK.kept hS.2.1).narrow hFc).moved hW.alike⟩⟩ rfl rfl hl.1 rfl (lv_room (Nat.le_of_ble_eq_true rfl)) dX9_rebuild_17 ⟨Nat.le_of_ble_eq_true rfl, Nat.le_of_ble_eq_true rfl⟩) hS (fun q _ h => hFc q h) hFc (fun u t H_9 locs ht hvm hw hB hz1 hk1 hS2 => ?_)
  obtain ⟨hP1, -, hD1⟩ := hB
  rw [ht] at hP1
  replace hD := hD1.weaken (fun _ _ _ h => hFc _ h)
  replace hP := hP1
  replace hS := hS2
  clear hP1 hD1 hS2 hFc hfc hz1 hk1 hvm ht
  refine lv_aload_n hx hb dX9_rebuild_20 rfl (lv_at hl 0 rfl) ?_
  refine lv_aload_n hx hb dX9_rebuild_21 rfl (lv_at hl 1 rfl) ?_
  obtain ⟨z_10, _u, hfc, hf⟩ := cal_some hf
  have hFc := de_free hD hS hA
  refine va_callv (va_runV (As := [.ref (a x0)]) (rest := []) ⟨hx, hb, hml, hown, hts⟩ (de_X9_gatherResources l dC dI cy a sh n H_9.size F sk z_8 h0 x0 hfc) (cwV 1 hts gX9_rebuild_X9_gatherResources rfl rfl rfl (by decide +kernel) ⟨Nat.le_of_ble_eq_true rfl, Nat.le_of_ble_eq_true rfl⟩) ⟨fun a U g mk q => by obtain ⟨q0, q1, qP, qK, qD, qN, qS⟩ := q; exact ⟨q0, q1, qP, va_K.moved (u := U) (U := U.calling g mk a) (Vm.Alike.refl U.vm) qK, qD, qN.same rfl, SKs.moved (u := U) (U := U.calling g mk a) (Vm.Alike.refl U.vm) qS⟩, va_recv hK hP (ci := 9) (q0 := h0) rfl (Wd_ob kg_1 sg_1 (by decide)), fun U hU hW => ⟨rfl, by rw [hU], by rw [hU]; exact hP, va_K.moved hW.alike hK, hD.weaken (fun _ _ _ _ => trivial), hN.warm hW, by rw [hU]; exact ((hSK.kept hS.2.1).narrow hFc).moved hW.alike⟩⟩ rfl rfl hl.1 rfl (lv_room (Nat.le_of_ble_eq_true rfl)) dX9_rebuild_22 ⟨Nat.le_of_ble_eq_true rfl, Nat.le_of_ble_eq_true rfl⟩) hS (fun q _ h => hFc q h) hFc (fun u t H_11 locs ht hvm hw hB hz1 hk1 hS2 => ?_)
  obtain ⟨hP1, -, hD1⟩ := hB
  rw [ht] at hP1
  replace hD := hD1.weaken (fun _ _ _ h => hFc _ h)
  replace hP := hP1
  replace hS := hS2
  clear hP1 hD1 hS2 hFc hfc hz1 hk1 hvm ht
  refine lv_aload_n hx hb dX9_rebuild_25 rfl (lv_at hl 0 rfl) ?_
  obtain ⟨z_12, _u, hfc, hf⟩ := cal_some hf
  have hFc := de_free hD hS hA
  refine va_callv (va_runV (As := []) (rest := []) ⟨hx, hb, hml, hown, hts⟩ (de_X9_leaveOutDoubles l dC dI cy a sh n H_11.size F z_10 h0 hfc) (cwV 0 hts gX9_rebuild_X9_leaveOutDoubles rfl rfl rfl (by decide +kernel) ⟨Nat.le_of_ble_eq_true rfl, Nat.le_of_ble_eq_true rfl⟩) ⟨fun a U g mk q => by obtain ⟨q0, q1, qP, qK, qD, qN⟩ := q; exact ⟨q0, q1, qP, va_K.moved (u := U) (U := U.calling g mk a) (Vm.Alike.refl U.vm) qK, qD, qN.same rfl⟩, va_recv hK hP (ci := 9) (q0 := h0) rfl (Wd_ob kg_1 sg_1 (by decide)), fun U hU hW => ⟨rfl, by rw [hU], by rw [hU]; exact hP, va_K.moved hW.alike hK, hD.weaken (fun _ _ _ _ => trivial), hN.warm hW⟩⟩ rfl rfl hl.1 rfl (lv_room (Nat.le_of_ble_eq_true rfl)) dX9_rebuild_26 ⟨Nat.le_of_ble_eq_true rfl, Nat.le_of_ble_eq_true rfl⟩) hS (fun q _ h => hFc q h) hFc (fun u t H_13 locs ht hvm hw hB hz1 hk1 hS2 => ?_)
  obtain ⟨hP1, -, hD1⟩ := hB
  rw [ht] at hP1
  replace hD := hD1.weaken (fun _ _ _ h => hFc _ h)
  replace hP := hP1
  replace hS := hS2
  clear hP1 hD1 hS2 hFc hfc hz1 hk1 hvm ht
  refine lv_aload_n hx hb dX9_rebuild_29 rfl (lv_at hl 0 rfl) ?_
  refine lv_iconst (v := 0) hx hb dX9_rebuild_30 (by decide) ?_
  refine va_put (D := (dC, dI)) (ci := 9) (v := .int 0) (ty := .int) (C := RX9) (T := TX9) (N := 13) hx hb hts iwd_X9_rebuild_X9 tyX9 tyX9_ok nmX9 hown hK hP hD hS h0 (Wd_ob kg_1 sg_1 (by decide)) rfl 12 (by decide) (hts _ md_X9_rebuild_3) (fun _ h9 => h9) rfl (by decide +kernel) rfl rfl (by rw [fl_len]; decide) dX9_rebuild_31 (fun H_14 locs hP2 hD2 hS2 => ?_)
  rw [Wd_si sg_1 (by decide) rfl] at hP2 hD2
  obtain ⟨z_15, ez_15⟩ : ∃ w, w = si z_12 h0 12 0 := ⟨_, rfl⟩
  rw [← ez_15] at hP2 hD2
  replace hf := lt_at ez_15 hf
  clear ez_15
  replace hP := hP2
  replace hD := hD2
  replace hS := hS2
  clear hP2 hD2 hS2
  refine lv_iconst (v := 0) hx hb dX9_rebuild_34 (by decide) ?_
  refine lv_istore_n (lv' := [(2, .int 0), (0, .ref (a h0)), (1, .ref (a x0))]) hx hb dX9_rebuild_35 rfl hl (by decide) rfl (fun ls hl2 => ?_)
  replace hl := hl2
  clear hl2
  have hl0 : lv_has ls 3 [(2, .int 0), (0, .ref (a h0))] := lv_sub hl [0, 1] rfl
  refine de_loop (h := 36) (fun (x : St × Int32) ls H locs => lv_has ls 3 [(2, .int x.2), (0, .ref (a h0))] ∧ va_P (dC, dI) vwCl (Wd cy a sh n x.1) H ∧ va_D A (Wd cy a sh n x.1) ∧ va_S A s.heap H locs) (fun f x => fn_X9_rebuild_L36 F sh n h0 f x.1 x.2) (z8, r8) ?_ (fun _ => rfl) F (z_15, 0) ls H_14 locs ⟨hl0, hP, hD, hS⟩ hf
  intro f_18 x ls H locs ih36 hI hf
  obtain ⟨z_17, p_16⟩ := x
  obtain ⟨hl2, hP2, hD2, hS2⟩ := hI
  replace hl : lv_has ls 3 [(2, .int p_16), (0, .ref (a h0))] := hl2
  replace hP := hP2
  replace hD := hD2
  replace hS := hS2
  clear hl2 hP2 hD2 hS2 hl0
  replace hf := fn_X9_rebuild_L36_s hf
  refine lv_iload_n hx hb dX9_rebuild_36 rfl (lv_at hl 0 rfl) ?_
  refine lv_aload_n hx hb dX9_rebuild_37 rfl (lv_at hl 1 rfl) ?_
  refine va_get (D := (dC, dI)) (ci := 9) (v := .int (z_17.1 h0 7)) (C := RX9) (T := TX9) (N := 13) hx hb hts iwd_X9_rebuild_X9 hown hK hP h0 (Wd_ob kg_1 sg_1 (by decide)) rfl 7 (by decide) (hts _ md_X9_rebuild_2) (fun _ h9 => h9) (fl_at (t := 0) rfl) dX9_rebuild_38 ?_
  refine lv_icmp_ge (tgt := 55) hx hb dX9_rebuild_41 (by decide) (fun c_19 => ?_) (fun c_19 => ?_)
  · skip
    rw [if_pos c_19] at hf
    refine lv_iconst (v := 0) hx hb dX9_rebuild_55 (by decide) ?_
    refine lv_istore_n (lv' := [(2, .int 0), (0, .ref (a h0))]) hx hb dX9_rebuild_56 rfl hl (by decide) rfl (fun ls hl2 => ?_)
    replace hl := hl2
    clear hl2
    have hl0 : lv_has ls 3 [(2, .int 0), (0, .ref (a h0))] := lv_sub hl [0, 1] rfl
    refine de_loop (h := 57) (fun (x : St × Int32) ls H locs => lv_has ls 3 [(2, .int x.2), (0, .ref (a h0))] ∧ va_P (dC, dI) vwCl (Wd cy a sh n x.1) H ∧ va_D A (Wd cy a sh n x.1) ∧ va_S A s.heap H locs) (fun f x => fn_X9_rebuild_L57 F sh n h0 f x.1 x.2) (z8, r8) ?_ (fun _ => rfl) F (z_17, 0) ls H locs ⟨hl0, hP, hD, hS⟩ hf
    intro f_22 x ls H locs ih57 hI hf
    obtain ⟨z_21, p_20⟩ := x
    obtain ⟨hl2, hP2, hD2, hS2⟩ := hI
    replace hl : lv_has ls 3 [(2, .int p_20), (0, .ref (a h0))] := hl2
    replace hP := hP2
    replace hD := hD2
    replace hS := hS2
    clear hl2 hP2 hD2 hS2 hl0
    replace hf := fn_X9_rebuild_L57_s hf
    refine lv_iload_n hx hb dX9_rebuild_57 rfl (lv_at hl 0 rfl) ?_
    refine lv_iconst (v := 4) hx hb dX9_rebuild_58 (by decide) ?_
    refine lv_icmp_ge (tgt := 91) hx hb dX9_rebuild_59 (by decide) (fun c_23 => ?_) (fun c_23 => ?_)
    · skip
      rw [if_pos c_23] at hf
      obtain ⟨h8, h9⟩ := ret_some hf
      rw [h8]
      exact W.vret hx hb hr (fun t ht hW => ⟨⟨(), rfl, trivial, by rw [ht]; exact hP, va_K.moved hW.alike hK, hD⟩, hS.F ht⟩) hS.2.2 dX9_rebuild_91
    · skip
      rw [if_neg c_23] at hf
      refine lv_aload_n hx hb dX9_rebuild_62 rfl (lv_at hl 1 rfl) ?_
      obtain ⟨k_24, ek_24, hf⟩ := lnk_some hf
      refine va_get (D := (dC, dI)) (ci := 9) (v := .ref (a k_24)) (C := RX9) (T := TX9) (N := 13) hx hb hts iwd_X9_rebuild_X9 hown hK hP h0 (Wd_ob kg_1 sg_1 (by decide)) rfl 0 (by decide) (hts _ md_X9_rebuild_4) (fun _ h9 => h9) (fl_q rfl ek_24) dX9_rebuild_63 ?_
      refine lv_iload_n hx hb dX9_rebuild_66 rfl (lv_at hl 0 rfl) ?_
      refine lv_aload_n hx hb dX9_rebuild_67 rfl (lv_at hl 1 rfl) ?_
      refine va_get (D := (dC, dI)) (ci := 9) (v := .int (z_21.1 h0 7)) (C := RX9) (T := TX9) (N := 13) hx hb hts iwd_X9_rebuild_X9 hown hK hP h0 (Wd_ob kg_1 sg_1 (by decide)) rfl 7 (by decide) (hts _ md_X9_rebuild_2) (fun _ h9 => h9) (fl_at (t := 0) rfl) dX9_rebuild_68 ?_
      refine de_cut (h := 84) (fun (x : St × Int64) => [.long x.2, .int p_20, .ref (a k_24)]) (fun x ls H locs => lv_has ls 3 [(2, .int p_20), (0, .ref (a h0))] ∧ va_P (dC, dI) vwCl (Wd cy a sh n x.1) H ∧ va_D A (Wd cy a sh n x.1) ∧ va_S A s.heap H locs) (fun x => fn_X9_rebuild_B84 F sh n k_24 p_20 (fun z9 q2 => fn_X9_rebuild_L57 F sh n h0 f_22 z9 q2) x.1 x.2) (z8, r8) ?_ (fun B84 => ?_)
      · intro x ls H locs hI hf
        obtain ⟨z_26, p_25⟩ := x
        obtain ⟨hl2, hP2, hD2, hS2⟩ := hI
        replace hl : lv_has ls 3 [(2, .int p_20), (0, .ref (a h0))] := hl2
        replace hP := hP2
        replace hD := hD2
        replace hS := hS2
        clear hl2 hP2 hD2 hS2
        replace hf := fn_X9_rebuild_B84_s hf
        refine W.eq (g2 := F0 m 84 ls [.long p_25, .int p_20, .ref (a k_24)]) rfl ?_
        obtain ⟨g_27, hf⟩ := grd_some hf
        obtain ⟨kg_27, sg_27, ig_27⟩ := okA_at g_27
        refine va_last hx hb hK hP hD hS k_24 2 (Wd_al kg_27 sg_27) rfl ig_27 dX9_rebuild_84 (fun H_28 locs hP2 hD2 hS2 => ?_)
        rw [Wd_tl sg_27] at hP2 hD2
        obtain ⟨z_29, ez_29⟩ : ∃ w, w = sl z_26 k_24 p_20.toNatClampNeg p_25 := ⟨_, rfl⟩
        rw [← ez_29] at hP2 hD2
        replace hf := lt_at ez_29 hf
        clear ez_29
        replace hP := hP2
        replace hD := hD2
        replace hS := hS2
        clear hP2 hD2 hS2
        refine lv_iinc (v := (p_20 + 1)) (lv' := [(2, .int (p_20 + 1)), (0, .ref (a h0))]) hx hb dX9_rebuild_85 hl (k := 0) rfl rfl (by decide) rfl (fun ls hl2 => ?_)
        replace hl := hl2
        clear hl2
        refine lv_goto (tgt := 57) hx hb dX9_rebuild_88 (by decide) ?_
        exact ih57 (z_29, (p_20 + 1)) ls H_28 locs ⟨lv_sub hl [0, 1] rfl, hP, hD, hS⟩ hf
      refine lv_if_ne (tgt := 78) hx hb dX9_rebuild_71 (by decide) (fun c_30 => ?_) (fun c_30 => ?_)
      · skip
        rw [if_neg c_30] at hf
        refine lv_aload_n hx hb dX9_rebuild_78 rfl (lv_at hl 1 rfl) ?_
        obtain ⟨k_31, ek_31, hf⟩ := lnk_some hf
        refine va_get (D := (dC, dI)) (ci := 9) (v := .ref (a k_31)) (C := RX9) (T := TX9) (N := 13) hx hb hts iwd_X9_rebuild_X9 hown hK hP h0 (Wd_ob kg_1 sg_1 (by decide)) rfl 10 (by decide) (hts _ md_X9_rebuild_5) (fun _ h9 => h9) (fl_q rfl ek_31) dX9_rebuild_79 ?_
        refine lv_iload_n hx hb dX9_rebuild_82 rfl (lv_at hl 0 rfl) ?_
        obtain ⟨g_32, hf⟩ := grd_some hf
        obtain ⟨kg_32, sg_32, ig_32⟩ := okA_at g_32
        refine va_lald hx hb hK hP k_31 2 (Wd_al kg_32 sg_32) rfl ig_32 dX9_rebuild_83 ?_
        exact B84 (z_21, (z_21.2.1 k_31 p_20.toNatClampNeg)) ls H locs ⟨lv_sub hl [0, 1] rfl, hP, hD, hS⟩ hf
      · skip
        rw [if_pos c_30] at hf
        refine lv_lconst (v := 0) hx hb dX9_rebuild_74 (by decide) ?_
        refine lv_goto (tgt := 84) hx hb dX9_rebuild_75 (by decide) ?_
        exact B84 (z_21, 0) ls H locs ⟨lv_sub hl [0, 1] rfl, hP, hD, hS⟩ hf
  · skip
    rw [if_neg c_19] at hf
    refine lv_aload_n hx hb dX9_rebuild_44 rfl (lv_at hl 1 rfl) ?_
    refine lv_iload_n hx hb dX9_rebuild_45 rfl (lv_at hl 0 rfl) ?_
    obtain ⟨z_33, _u, hfc, hf⟩ := cal_some hf
    have hFc := de_free hD hS hA
    refine va_callv (va_runV (As := [.int p_16]) (rest := []) ⟨hx, hb, hml, hown, hts⟩ (de_X9_climb l dC dI cy a sh n H.size F sk z_17 h0 p_16 hfc) (cwV 1 hts gX9_rebuild_X9_climb rfl rfl rfl (by decide +kernel) ⟨Nat.le_of_ble_eq_true rfl, Nat.le_of_ble_eq_true rfl⟩) ⟨fun a U g mk q => by obtain ⟨q0, q1, qP, qK, qD, qN, qS⟩ := q; exact ⟨q0, q1, qP, va_K.moved (u := U) (U := U.calling g mk a) (Vm.Alike.refl U.vm) qK, qD, qN.same rfl, SKs.moved (u := U) (U := U.calling g mk a) (Vm.Alike.refl U.vm) qS⟩, va_recv hK hP (ci := 9) (q0 := h0) rfl (Wd_ob kg_1 sg_1 (by decide)), fun U hU hW => ⟨rfl, by rw [hU], by rw [hU]; exact hP, va_K.moved hW.alike hK, hD.weaken (fun _ _ _ _ => trivial), hN.warm hW, by rw [hU]; exact ((hSK.kept hS.2.1).narrow hFc).moved hW.alike⟩⟩ rfl rfl hl.1 rfl (lv_room (Nat.le_of_ble_eq_true rfl)) dX9_rebuild_46 ⟨Nat.le_of_ble_eq_true rfl, Nat.le_of_ble_eq_true rfl⟩) hS (fun q _ h => hFc q h) hFc (fun u t H_34 locs ht hvm hw hB hz1 hk1 hS2 => ?_)
    obtain ⟨hP1, -, hD1⟩ := hB
    rw [ht] at hP1
    replace hD := hD1.weaken (fun _ _ _ h => hFc _ h)
    replace hP := hP1
    replace hS := hS2
    clear hP1 hD1 hS2 hFc hfc hz1 hk1 hvm ht
    refine lv_iinc (v := (p_16 + 1)) (lv' := [(2, .int (p_16 + 1)), (0, .ref (a h0))]) hx hb dX9_rebuild_49 hl (k := 0) rfl rfl (by decide) rfl (fun ls hl2 => ?_)
    replace hl := hl2
    clear hl2
    refine lv_goto (tgt := 36) hx hb dX9_rebuild_52 (by decide) ?_
    exact ih36 (z_33, (p_16 + 1)) ls H_34 locs ⟨lv_sub hl [0, 1] rfl, hP, hD, hS⟩ hf

theorem md_X18_enterCall_1 : (.fieldLink RX18 441 "ResourceLedgerModel" "frameUnits" "[I" : Cond) ∈ wsX18_enterCall := List.mem_of_getElem? (i := 1) rfl
theorem iwd_X18_enterCall_X18 : ∀ w ∈ wsX180, w ∈ wsX18_enterCall := fun _ h => List.mem_cons_of_mem _ (List.mem_append_left _ (List.mem_append_left _ (List.mem_append_right _ h)))
theorem md_X18_enterCall_2 : (.fieldLink RX18 328 "ResourceLedgerModel" "frames" "I" : Cond) ∈ wsX18_enterCall := List.mem_of_getElem? (i := 2) rfl
theorem md_X18_enterCall_3 : (.fieldLink RX18 369 "ResourceLedgerModel" "unit" "LResourceLedgerModel$Unit;" : Cond) ∈ wsX18_enterCall := List.mem_of_getElem? (i := 3) rfl
theorem md_X18_enterCall_4 : (.fieldLink RX18 312 "ResourceLedgerModel" "height" "I" : Cond) ∈ wsX18_enterCall := List.mem_of_getElem? (i := 4) rfl
theorem md_X18_enterCall_5 : (.fieldLink RX18 325 "ResourceLedgerModel" "bases" "[I" : Cond) ∈ wsX18_enterCall := List.mem_of_getElem? (i := 5) rfl
theorem iwd_X18_enterCall_X16 : ∀ w ∈ wsX160, w ∈ wsX18_enterCall := fun _ h => List.mem_cons_of_mem _ (List.mem_append_left _ (List.mem_append_right _ h))
theorem md_X18_enterCall_6 : (.constantLong RX18 283 (4) : Cond) ∈ wsX18_enterCall := List.mem_of_getElem? (i := 6) rfl
set_option maxHeartbeats 4000000 in
set_option maxRecDepth 100000 in
theorem de_X18_enterCall (l : Launch) (dC : Nat → ClassId) (dI : Nat → Nat → Nat) (cy : Nat → ClassId) (a : Nat → Nat) (sh : Nat → Nat × Nat) (n sz : Nat) (F : Nat) (z : St) (h0 : Nat) (x0 : Int32) {z8 : St} {r8 : Unit} (hf : fn_X18_enterCall F sh n z h0 x0 = some (z8, r8)) : Met l yX18_enterCall wsX18_enterCall ({ frames := 53, cells := 0, slots := 0, locals := 1227 }) (va_Pc [.ref (a h0), .int x0] (fun U => U.heap.size = sz ∧ va_P (dC, dI) vwCl (Wd cy a sh n z) U.heap ∧ va_K (dC, dI) vwCl (TYS cy) U ∧ va_D (fun _ => True) (Wd cy a sh n z) ∧ NK U)) (va_Qv (fun u : Unit => True) (fun u t => va_P (dC, dI) vwCl (Wd cy a sh n z8) t.heap ∧ va_K (dC, dI) vwCl (TYS cy) t ∧ va_D (va_A (Wd cy a sh n z) sz) (Wd cy a sh n z8)) (va_A (Wd cy a sh n z) sz)) 0 0 (va_A (Wd cy a sh n z) sz) := by
  refine Met.ofW (cc := cX18_enterCall) (maxL := 6) (ret := none) (by decide) rfl ?_
  intro p e s m args below meth c s₁ B hml hv
  obtain ⟨rfl, hsz, hP, hK, hD0, hN⟩ := hv
  have hx := B.exec
  have hb := B.bytes
  have hr := B.returns
  have hts := atoms_spec (ws := wsX18_enterCall) B.pre
  have hown : s.vm.findClass RX18 = some m.cls := findClass_of_methodNamed B.named
  have hlocks := B.notSynchronized
  subst hsz
  have hD := hD0.self (sz := s.heap.size)
  clear hD0
  generalize hAe : va_A (Wd cy a sh n z) s.heap.size = A at hD ⊢
  have hA : ∀ q : Nat, s.heap.size ≤ q → A q := fun q h => by rw [← hAe]; exact Or.inr h
  clear hAe
  have hS : va_S A s.heap s.heap [] := va_S.rf
  have hl := lv_entry ([.ref (a h0), .int x0]) (n := 6) (Nat.le_of_ble_eq_true rfl)
  rw [lg_entry_eq]
  generalize (lg_sl ([.ref (a h0), .int x0]) ++ List.replicate (6 - (lg_sl ([.ref (a h0), .int x0])).length) Slot.unset).toArray = ls at hl ⊢
  replace hl : lv_has ls 6 [(0, .ref (a h0)), (1, .int x0)] := hl
  unfold fn_X18_enterCall at hf
  refine de_start hS hP (fun H locs hS hP => ?_)
  refine lv_aload_n hx hb dX18_enterCall_0 rfl (lv_at hl 0 rfl) ?_
  obtain ⟨g_1, hf⟩ := grd_some hf
  obtain ⟨kg_1, sg_1⟩ := okO_at g_1
  obtain ⟨k_2, ek_2, hf⟩ := lnk_some hf
  refine va_get (D := (dC, dI)) (ci := 18) (v := .ref (a k_2)) (C := RX18) (T := TX18) (N := 78) hx hb hts iwd_X18_enterCall_X18 hown hK hP h0 (Wd_ob kg_1 sg_1 (by decide)) rfl 37 (by decide) (hts _ md_X18_enterCall_1) (fun _ h9 => h9) (fl_q rfl ek_2) dX18_enterCall_1 ?_
  refine lv_aload_n hx hb dX18_enterCall_4 rfl (lv_at hl 0 rfl) ?_
  refine va_get (D := (dC, dI)) (ci := 18) (v := .int (z.1 h0 36)) (C := RX18) (T := TX18) (N := 78) hx hb hts iwd_X18_enterCall_X18 hown hK hP h0 (Wd_ob kg_1 sg_1 (by decide)) rfl 36 (by decide) (hts _ md_X18_enterCall_2) (fun _ h9 => h9) (fl_at (t := 0) rfl) dX18_enterCall_5 ?_
  refine lv_iconst (v := 1) hx hb dX18_enterCall_8 (by decide) ?_
  refine lv_isub hx hb dX18_enterCall_9 ?_
  obtain ⟨g_3, hf⟩ := grd_some hf
  obtain ⟨kg_3, sg_3, ig_3⟩ := okA_at g_3
  refine va_iald hx hb hK hP k_2 1 (Wd_ai kg_3 sg_3) rfl ig_3 dX18_enterCall_10 ?_
  refine lv_topi (fun v_4 ev_4 => ?_)
  replace hf := lt_at ev_4 hf
  clear ev_4
  refine lv_istore_n (lv' := [(2, .int v_4), (0, .ref (a h0)), (1, .int x0)]) hx hb dX18_enterCall_11 rfl hl (by decide) rfl (fun ls hl2 => ?_)
  replace hl := hl2
  clear hl2
  refine lv_iload_n hx hb dX18_enterCall_12 rfl (lv_at hl 2 rfl) ?_
  refine lv_istore_n (lv' := [(3, .int x0), (2, .int v_4), (0, .ref (a h0)), (1, .int x0)]) hx hb dX18_enterCall_13 rfl hl (by decide) rfl (fun ls hl2 => ?_)
  replace hl := hl2
  clear hl2
  refine lv_aload_n hx hb dX18_enterCall_14 rfl (lv_at hl 2 rfl) ?_
  obtain ⟨k_5, ek_5, hf⟩ := lnk_some hf
  refine va_get (D := (dC, dI)) (ci := 18) (v := .ref (a k_5)) (C := RX18) (T := TX18) (N := 78) hx hb hts iwd_X18_enterCall_X18 hown hK hP h0 (Wd_ob kg_1 sg_1 (by decide)) rfl 48 (by decide) (hts _ md_X18_enterCall_3) (fun _ h9 => h9) (fl_q rfl ek_5) dX18_enterCall_15 ?_
  refine lv_iload_n hx hb dX18_enterCall_18 rfl (lv_at hl 3 rfl) ?_
  refine lv_iconst (v := 0) hx hb dX18_enterCall_19 (by decide) ?_
  obtain ⟨g_8, hf⟩ := grd_some hf
  obtain ⟨kg_8, sg_8⟩ := okO_at g_8
  obtain ⟨z_6, r_7, hfc, hf⟩ := cal_some hf
  have hFc := de_free hD hS hA
  refine va_calli (va_runV (As := [.int x0, .int 0]) (rest := []) ⟨hx, hb, hml, hown, hts⟩ (de_X16_many l dC dI cy a sh n H.size F z k_5 x0 0 hfc) (cwV 2 hts gX18_enterCall_X16_many rfl rfl rfl (by decide +kernel) ⟨Nat.le_of_ble_eq_true rfl, Nat.le_of_ble_eq_true rfl⟩) ⟨fun a U g mk q => by obtain ⟨q0, q1, qP, qK, qD, qN⟩ := q; exact ⟨q0, q1, qP, va_K.moved (u := U) (U := U.calling g mk a) (Vm.Alike.refl U.vm) qK, qD, qN.same rfl⟩, va_recv hK hP (ci := 16) (q0 := k_5) rfl (Wd_ob kg_8 sg_8 (by decide)), fun U hU hW => ⟨rfl, by rw [hU], by rw [hU]; exact hP, va_K.moved hW.alike hK, hD.weaken (fun _ _ _ _ => trivial), hN.warm hW⟩⟩ rfl rfl hl.1 rfl (lv_room (Nat.le_of_ble_eq_true rfl)) dX18_enterCall_20 ⟨Nat.le_of_ble_eq_true rfl, Nat.le_of_ble_eq_true rfl⟩) hS (fun q _ h => hFc q h) hFc (fun rr u t H_9 locs ht hvm hw hB hz1 hk1 hS2 => ?_)
  rw [hw]
  clear hw
  obtain ⟨hP1, -, hD1⟩ := hB
  rw [ht] at hP1
  replace hD := hD1.weaken (fun _ _ _ h => hFc _ h)
  replace hP := hP1
  replace hS := hS2
  clear hP1 hD1 hS2 hFc hfc hz1 hk1 hvm ht
  refine lv_istore (lv' := [(4, .int r_7), (3, .int x0), (2, .int v_4), (0, .ref (a h0)), (1, .int x0)]) hx hb dX18_enterCall_23 hl (by decide) rfl (fun ls hl2 => ?_)
  replace hl := hl2
  clear hl2
  refine lv_aload_n hx hb dX18_enterCall_25 rfl (lv_at hl 3 rfl) ?_
  refine va_get (D := (dC, dI)) (ci := 18) (v := .int (z_6.1 h0 45)) (C := RX18) (T := TX18) (N := 78) hx hb hts iwd_X18_enterCall_X18 hown hK hP h0 (Wd_ob kg_1 sg_1 (by decide)) rfl 45 (by decide) (hts _ md_X18_enterCall_4) (fun _ h9 => h9) (fl_at (t := 0) rfl) dX18_enterCall_26 ?_
  refine lv_aload_n hx hb dX18_enterCall_29 rfl (lv_at hl 3 rfl) ?_
  obtain ⟨k_10, ek_10, hf⟩ := lnk_some hf
  refine va_get (D := (dC, dI)) (ci := 18) (v := .ref (a k_10)) (C := RX18) (T := TX18) (N := 78) hx hb hts iwd_X18_enterCall_X18 hown hK hP h0 (Wd_ob kg_1 sg_1 (by decide)) rfl 40 (by decide) (hts _ md_X18_enterCall_5) (fun _ h9 => h9) (fl_q rfl ek_10) dX18_enterCall_30 ?_
  refine lv_aload_n hx hb dX18_enterCall_33 rfl (lv_at hl 3 rfl) ?_
  refine va_get (D := (dC, dI)) (ci := 18) (v := .int (z_6.1 h0 36)) (C := RX18) (T := TX18) (N := 78) hx hb hts iwd_X18_enterCall_X18 hown hK hP h0 (Wd_ob kg_1 sg_1 (by decide)) rfl 36 (by decide) (hts _ md_X18_enterCall_2) (fun _ h9 => h9) (fl_at (t := 0) rfl) dX18_enterCall_34 ?_
  refine lv_iconst (v := 1) hx hb dX18_enterCall_37 (by decide) ?_
  refine lv_isub hx hb dX18_enterCall_38 ?_
  obtain ⟨g_11, hf⟩ := grd_some hf
  obtain ⟨kg_11, sg_11, ig_11⟩ := okA_at g_11
  refine va_iald hx hb hK hP k_10 1 (Wd_ai kg_11 sg_11) rfl ig_11 dX18_enterCall_39 ?_
  refine lv_isub hx hb dX18_enterCall_40 ?_
  refine lv_iload hx hb dX18_enterCall_41 (lv_at hl 0 rfl) ?_
  refine de_cut (h := 50) (fun (x : St) => []) (fun x ls H locs => lv_has ls 6 [(4, .int r_7), (3, .int x0), (2, .int v_4), (0, .ref (a h0)), (1, .int x0)] ∧ va_P (dC, dI) vwCl (Wd cy a sh n x) H ∧ va_D A (Wd cy a sh n x) ∧ va_S A s.heap H locs) (fun x => fn_X18_enterCall_B50 F sh n h0 x0 r_7 v_4 x) (z8, r8) ?_ (fun B50 => ?_)
  · intro x ls H locs hI hf
    obtain ⟨z_12, ez⟩ : ∃ w, w = x := ⟨_, rfl⟩
    subst ez
    obtain ⟨hl2, hP2, hD2, hS2⟩ := hI
    replace hl : lv_has ls 6 [(4, .int r_7), (3, .int x0), (2, .int v_4), (0, .ref (a h0)), (1, .int x0)] := hl2
    replace hP := hP2
    replace hD := hD2
    replace hS := hS2
    clear hl2 hP2 hD2 hS2
    replace hf := fn_X18_enterCall_B50_s hf
    refine W.eq (g2 := F0 m 50 ls []) rfl ?_
    refine lv_iload_n hx hb dX18_enterCall_50 rfl (lv_at hl 4 rfl) ?_
    refine lv_aload_n hx hb dX18_enterCall_51 rfl (lv_at hl 3 rfl) ?_
    obtain ⟨k_13, ek_13, hf⟩ := lnk_some hf
    refine va_get (D := (dC, dI)) (ci := 18) (v := .ref (a k_13)) (C := RX18) (T := TX18) (N := 78) hx hb hts iwd_X18_enterCall_X18 hown hK hP h0 (Wd_ob kg_1 sg_1 (by decide)) rfl 48 (by decide) (hts _ md_X18_enterCall_3) (fun _ h9 => h9) (fl_q rfl ek_13) dX18_enterCall_52 ?_
    obtain ⟨g_14, hf⟩ := grd_some hf
    obtain ⟨kg_14, sg_14⟩ := okO_at g_14
    refine va_getN (D := (dC, dI)) (ci := 16) (v := .int (z_12.1 k_13 9)) (C := RX16) (T := TX16) (N := 18) hx hb hts iwd_X18_enterCall_X16 hown hK hP k_13 (Wd_ob kg_14 sg_14 (by decide)) rfl 9 (by decide) (va_Nw.use rfl (NK_f_X18_112 hN)) (fun _ h9 => h9) (fl_at (t := 0) rfl) dX18_enterCall_55 ?_
    refine de_cut (h := 111) (fun (x : St × Int32 × Int32) => []) (fun x ls H locs => lv_has ls 6 [(2, .int x.2.1), (3, .int x.2.2), (4, .int r_7), (0, .ref (a h0))] ∧ va_P (dC, dI) vwCl (Wd cy a sh n x.1) H ∧ va_D A (Wd cy a sh n x.1) ∧ va_S A s.heap H locs) (fun x => fn_X18_enterCall_B111 F sh n h0 r_7 x.1 x.2.1 x.2.2) (z8, r8) ?_ (fun B111 => ?_)
    · intro x ls H locs hI hf
      obtain ⟨z_17, p_15, p_16⟩ := x
      obtain ⟨hl2, hP2, hD2, hS2⟩ := hI
      replace hl : lv_has ls 6 [(2, .int p_15), (3, .int p_16), (4, .int r_7), (0, .ref (a h0))] := hl2
      replace hP := hP2
      replace hD := hD2
      replace hS := hS2
      clear hl2 hP2 hD2 hS2
      replace hf := fn_X18_enterCall_B111_s hf
      refine W.eq (g2 := F0 m 111 ls []) rfl ?_
      refine lv_aload_n hx hb dX18_enterCall_111 rfl (lv_at hl 3 rfl) ?_
      refine va_get (D := (dC, dI)) (ci := 18) (v := .int (z_17.1 h0 36)) (C := RX18) (T := TX18) (N := 78) hx hb hts iwd_X18_enterCall_X18 hown hK hP h0 (Wd_ob kg_1 sg_1 (by decide)) rfl 36 (by decide) (hts _ md_X18_enterCall_2) (fun _ h9 => h9) (fl_at (t := 0) rfl) dX18_enterCall_112 ?_
      refine lv_bipush (v := 32) hx hb dX18_enterCall_115 (by decide) ?_
      refine de_cut (h := 128) (fun (x : St) => []) (fun x ls H locs => lv_has ls 6 [(2, .int p_15), (3, .int p_16), (4, .int r_7), (0, .ref (a h0))] ∧ va_P (dC, dI) vwCl (Wd cy a sh n x) H ∧ va_D A (Wd cy a sh n x) ∧ va_S A s.heap H locs) (fun x => fn_X18_enterCall_B128 F sh n h0 p_15 p_16 r_7 x) (z8, r8) ?_ (fun B128 => ?_)
      · intro x ls H locs hI hf
        obtain ⟨z_18, ez⟩ : ∃ w, w = x := ⟨_, rfl⟩
        subst ez
        obtain ⟨hl2, hP2, hD2, hS2⟩ := hI
        replace hl : lv_has ls 6 [(2, .int p_15), (3, .int p_16), (4, .int r_7), (0, .ref (a h0))] := hl2
        replace hP := hP2
        replace hD := hD2
        replace hS := hS2
        clear hl2 hP2 hD2 hS2
        replace hf := fn_X18_enterCall_B128_s hf
        refine W.eq (g2 := F0 m 128 ls []) rfl ?_
        refine lv_aload_n hx hb dX18_enterCall_128 rfl (lv_at hl 3 rfl) ?_
        refine lv_iconst (v := 5) hx hb dX18_enterCall_129 (by decide) ?_
        obtain ⟨z_19, r_20, hfc, hf⟩ := cal_some hf
        have hFc := de_free hD hS hA
        refine va_calli (va_runV (As := [.int 5]) (rest := []) ⟨hx, hb, hml, hown, hts⟩ (de_X18_spend l dC dI cy a sh n H.size F z_18 h0 5 hfc) (cwV 1 hts gX18_enterCall_X18_spend rfl rfl rfl (by decide +kernel) ⟨Nat.le_of_ble_eq_true rfl, Nat.le_of_ble_eq_true rfl⟩) ⟨fun a U g mk q => by obtain ⟨q0, q1, qP, qK, qD, qN⟩ := q; exact ⟨q0, q1, qP, va_K.moved (u := U) (U := U.calling g mk a) (Vm.Alike.refl U.vm) qK, qD, qN.same rfl⟩, va_recv hK hP (ci := 18) (q0 := h0) rfl (Wd_ob kg_1 sg_1 (by decide)), fun U hU hW => ⟨rfl, by rw [hU], by rw [hU]; exact hP, va_K.moved hW.alike hK, hD.weaken (fun _ _ _ _ => trivial), hN.warm hW⟩⟩ rfl rfl hl.1 rfl (lv_room (Nat.le_of_ble_eq_true rfl)) dX18_enterCall_130 ⟨Nat.le_of_ble_eq_true rfl, Nat.le_of_ble_eq_true rfl⟩) hS (fun q _ h => hFc q h) hFc (fun rr u t H_21 locs ht hvm hw hB hz1 hk1 hS2 => ?_)
        rw [hw]
        clear hw
        obtain ⟨hP1, -, hD1⟩ := hB
        rw [ht] at hP1
        replace hD := hD1.weaken (fun _ _ _ h => hFc _ h)
        replace hP := hP1
        replace hS := hS2
        clear hP1 hD1 hS2 hFc hfc hz1 hk1 hvm ht
        refine lv_if_eq (tgt := 144) hx hb dX18_enterCall_133 (by decide) (fun c_22 => ?_) (fun c_22 => ?_)
        · skip
          rw [if_pos c_22] at hf
          obtain ⟨h8, h9⟩ := ret_some hf
          rw [h8]
          exact W.vret hx hb hr (fun t ht hW => ⟨⟨(), rfl, trivial, by rw [ht]; exact hP, va_K.moved hW.alike hK, hD⟩, hS.F ht⟩) hS.2.2 dX18_enterCall_144
        · skip
          rw [if_neg c_22] at hf
          refine lv_aload_n hx hb dX18_enterCall_136 rfl (lv_at hl 3 rfl) ?_
          refine lv_iload_n hx hb dX18_enterCall_137 rfl (lv_at hl 0 rfl) ?_
          refine lv_iload_n hx hb dX18_enterCall_138 rfl (lv_at hl 1 rfl) ?_
          refine lv_iload hx hb dX18_enterCall_139 (lv_at hl 2 rfl) ?_
          obtain ⟨z_23, _u, hfc, hf⟩ := cal_some hf
          have hFc := de_free hD hS hA
          refine va_callv (va_runV (As := [.int p_15, .int p_16, .int r_7]) (rest := []) ⟨hx, hb, hml, hown, hts⟩ (de_X18_enter l dC dI cy a sh n H_21.size F z_19 h0 p_15 p_16 r_7 hfc) (cwV 3 hts gX18_enterCall_X18_enter rfl rfl rfl (by decide +kernel) ⟨Nat.le_of_ble_eq_true rfl, Nat.le_of_ble_eq_true rfl⟩) ⟨fun a U g mk q => by obtain ⟨q0, q1, qP, qK, qD, qN⟩ := q; exact ⟨q0, q1, qP, va_K.moved (u := U) (U := U.calling g mk a) (Vm.Alike.refl U.vm) qK, qD, qN.same rfl⟩, va_recv hK hP (ci := 18) (q0 := h0) rfl (Wd_ob kg_1 sg_1 (by decide)), fun U hU hW => ⟨rfl, by rw [hU], by rw [hU]; exact hP, va_K.moved hW.alike hK, hD.weaken (fun _ _ _ _ => trivial), hN.warm hW⟩⟩ rfl rfl hl.1 rfl (lv_room (Nat.le_of_ble_eq_true rfl)) dX18_enterCall_141 ⟨Nat.le_of_ble_eq_true rfl, Nat.le_of_ble_eq_true rfl⟩) hS (fun q _ h => hFc q h) hFc (fun u t H_24 locs ht hvm hw hB hz1 hk1 hS2 => ?_)
          obtain ⟨hP1, -, hD1⟩ := hB
          rw [ht] at hP1
          replace hD := hD1.weaken (fun _ _ _ h => hFc _ h)
          replace hP := hP1
          replace hS := hS2
          clear hP1 hD1 hS2 hFc hfc hz1 hk1 hvm ht
          obtain ⟨h8, h9⟩ := ret_some hf
          rw [h8]
          exact W.vret hx hb hr (fun t ht hW => ⟨⟨(), rfl, trivial, by rw [ht]; exact hP, va_K.moved hW.alike hK, hD⟩, hS.F ht⟩) hS.2.2 dX18_enterCall_144
      refine lv_icmp_ne (tgt := 128) hx hb dX18_enterCall_117 (by decide) (fun c_25 => ?_) (fun c_25 => ?_)
      · skip
        rw [if_neg c_25] at hf
        exact B128 (z_17) ls H locs ⟨lv_sub hl [0, 1, 2, 3] rfl, hP, hD, hS⟩ hf
      · skip
        rw [if_pos c_25] at hf
        refine lv_aload_n hx hb dX18_enterCall_120 rfl (lv_at hl 3 rfl) ?_
        refine lv_iconst (v := 2) hx hb dX18_enterCall_121 (by decide) ?_
        refine lv_ldc2 hx hb hown (hts _ md_X18_enterCall_6) dX18_enterCall_122 ?_
        obtain ⟨z_26, _u, hfc, hf⟩ := cal_some hf
        have hFc := de_free hD hS hA
        refine va_callv (va_runV (As := [.int 2, .long 4]) (rest := []) ⟨hx, hb, hml, hown, hts⟩ (de_X18_end l dC dI cy a sh n H.size F z_17 h0 2 4 hfc) (cwV 2 hts gX18_enterCall_X18_end rfl rfl rfl (by decide +kernel) ⟨Nat.le_of_ble_eq_true rfl, Nat.le_of_ble_eq_true rfl⟩) ⟨fun a U g mk q => by obtain ⟨q0, q1, qP, qK, qD, qN⟩ := q; exact ⟨q0, q1, qP, va_K.moved (u := U) (U := U.calling g mk a) (Vm.Alike.refl U.vm) qK, qD, qN.same rfl⟩, va_recv hK hP (ci := 18) (q0 := h0) rfl (Wd_ob kg_1 sg_1 (by decide)), fun U hU hW => ⟨rfl, by rw [hU], by rw [hU]; exact hP, va_K.moved hW.alike hK, hD.weaken (fun _ _ _ _ => trivial), hN.warm hW⟩⟩ rfl rfl hl.1 rfl (lv_room (Nat.le_of_ble_eq_true rfl)) dX18_enterCall_125 ⟨Nat.le_of_ble_eq_true rfl, Nat.le_of_ble_eq_true rfl⟩) hS (fun q _ h => hFc q h) hFc (fun u t H_27 locs ht hvm hw hB hz1 hk1 hS2 => ?_)
        obtain ⟨hP1, -, hD1⟩ := hB
        rw [ht] at hP1
        replace hD := hD1.weaken (fun _ _ _ h => hFc _ h)
        replace hP := hP1
        replace hS := hS2
        clear hP1 hD1 hS2 hFc hfc hz1 hk1 hvm ht
        exact B128 (z_26) ls H_27 locs ⟨lv_sub hl [0, 1, 2, 3] rfl, hP, hD, hS⟩ hf
    refine lv_icmp_lt (tgt := 111) hx hb dX18_enterCall_58 (by decide) (fun c_28 => ?_) (fun c_28 => ?_)
    · skip
      rw [if_pos c_28] at hf
      exact B111 (z_12, v_4, x0) ls H locs ⟨lv_sub hl [2, 1, 0, 3] rfl, hP, hD, hS⟩ hf
    · skip
      rw [if_neg c_28] at hf
      refine lv_aload_n hx hb dX18_enterCall_61 rfl (lv_at hl 3 rfl) ?_
      obtain ⟨k_29, ek_29, hf⟩ := lnk_some hf
      refine va_get (D := (dC, dI)) (ci := 18) (v := .ref (a k_29)) (C := RX18) (T := TX18) (N := 78) hx hb hts iwd_X18_enterCall_X18 hown hK hP h0 (Wd_ob kg_1 sg_1 (by decide)) rfl 48 (by decide) (hts _ md_X18_enterCall_3) (fun _ h9 => h9) (fl_q rfl ek_29) dX18_enterCall_62 ?_
      refine lv_iload_n hx hb dX18_enterCall_65 rfl (lv_at hl 4 rfl) ?_
      obtain ⟨g_32, hf⟩ := grd_some hf
      obtain ⟨kg_32, sg_32⟩ := okO_at g_32
      obtain ⟨z_30, r_31, hfc, hf⟩ := cal_some hf
      have hFc := de_free hD hS hA
      refine va_calli (va_runV (As := [.int x0]) (rest := []) ⟨hx, hb, hml, hown, hts⟩ (de_X16_foreignNumber l dC dI cy a sh n H.size F z_12 k_29 x0 hfc) (cwV 1 hts gX18_enterCall_X16_foreignNumber rfl rfl rfl (by decide +kernel) ⟨Nat.le_of_ble_eq_true rfl, Nat.le_of_ble_eq_true rfl⟩) ⟨fun a U g mk q => by obtain ⟨q0, q1, qP, qK, qD, qN⟩ := q; exact ⟨q0, q1, qP, va_K.moved (u := U) (U := U.calling g mk a) (Vm.Alike.refl U.vm) qK, qD, qN.same rfl⟩, va_recv hK hP (ci := 16) (q0 := k_29) rfl (Wd_ob kg_32 sg_32 (by decide)), fun U hU hW => ⟨rfl, by rw [hU], by rw [hU]; exact hP, va_K.moved hW.alike hK, hD.weaken (fun _ _ _ _ => trivial), hN.warm hW⟩⟩ rfl rfl hl.1 rfl (lv_room (Nat.le_of_ble_eq_true rfl)) dX18_enterCall_66 ⟨Nat.le_of_ble_eq_true rfl, Nat.le_of_ble_eq_true rfl⟩) hS (fun q _ h => hFc q h) hFc (fun rr u t H_33 locs ht hvm hw hB hz1 hk1 hS2 => ?_)
      rw [hw]
      clear hw
      obtain ⟨hP1, -, hD1⟩ := hB
      rw [ht] at hP1
      replace hD := hD1.weaken (fun _ _ _ h => hFc _ h)
      replace hP := hP1
      replace hS := hS2
      clear hP1 hD1 hS2 hFc hfc hz1 hk1 hvm ht
      refine lv_istore_n (lv' := [(3, .int r_31), (4, .int r_7), (2, .int v_4), (0, .ref (a h0)), (1, .int x0)]) hx hb dX18_enterCall_69 rfl hl (by decide) rfl (fun ls hl2 => ?_)
      replace hl := hl2
      clear hl2
      refine lv_aload_n hx hb dX18_enterCall_70 rfl (lv_at hl 3 rfl) ?_
      obtain ⟨k_34, ek_34, hf⟩ := lnk_some hf
      refine va_get (D := (dC, dI)) (ci := 18) (v := .ref (a k_34)) (C := RX18) (T := TX18) (N := 78) hx hb hts iwd_X18_enterCall_X18 hown hK hP h0 (Wd_ob kg_1 sg_1 (by decide)) rfl 48 (by decide) (hts _ md_X18_enterCall_3) (fun _ h9 => h9) (fl_q rfl ek_34) dX18_enterCall_71 ?_
      refine lv_iload_n hx hb dX18_enterCall_74 rfl (lv_at hl 4 rfl) ?_
      obtain ⟨g_37, hf⟩ := grd_some hf
      obtain ⟨kg_37, sg_37⟩ := okO_at g_37
      obtain ⟨z_35, r_36, hfc, hf⟩ := cal_some hf
      have hFc := de_free hD hS hA
      refine va_calli (va_runV (As := [.int x0]) (rest := []) ⟨hx, hb, hml, hown, hts⟩ (de_X16_foreignModule l dC dI cy a sh n H_33.size F z_30 k_34 x0 hfc) (cwV 1 hts gX18_enterCall_X16_foreignModule rfl rfl rfl (by decide +kernel) ⟨Nat.le_of_ble_eq_true rfl, Nat.le_of_ble_eq_true rfl⟩) ⟨fun a U g mk q => by obtain ⟨q0, q1, qP, qK, qD, qN⟩ := q; exact ⟨q0, q1, qP, va_K.moved (u := U) (U := U.calling g mk a) (Vm.Alike.refl U.vm) qK, qD, qN.same rfl⟩, va_recv hK hP (ci := 16) (q0 := k_34) rfl (Wd_ob kg_37 sg_37 (by decide)), fun U hU hW => ⟨rfl, by rw [hU], by rw [hU]; exact hP, va_K.moved hW.alike hK, hD.weaken (fun _ _ _ _ => trivial), hN.warm hW⟩⟩ rfl rfl hl.1 rfl (lv_room (Nat.le_of_ble_eq_true rfl)) dX18_enterCall_75 ⟨Nat.le_of_ble_eq_true rfl, Nat.le_of_ble_eq_true rfl⟩) hS (fun q _ h => hFc q h) hFc (fun rr u t H_38 locs ht hvm hw hB hz1 hk1 hS2 => ?_)
      rw [hw]
      clear hw
      obtain ⟨hP1, -, hD1⟩ := hB
      rw [ht] at hP1
      replace hD := hD1.weaken (fun _ _ _ h => hFc _ h)
      replace hP := hP1
      replace hS := hS2
      clear hP1 hD1 hS2 hFc hfc hz1 hk1 hvm ht
      refine lv_istore (lv' := [(5, .int r_36), (3, .int r_31), (4, .int r_7), (2, .int v_4), (0, .ref (a h0)), (1, .int x0)]) hx hb dX18_enterCall_78 hl (by decide) rfl (fun ls hl2 => ?_)
      replace hl := hl2
      clear hl2
      refine lv_iload hx hb dX18_enterCall_80 (lv_at hl 0 rfl) ?_
      refine lv_if_ne (tgt := 91) hx hb dX18_enterCall_82 (by decide) (fun c_39 => ?_) (fun c_39 => ?_)
      · skip
        rw [if_neg c_39] at hf
        refine lv_aload_n hx hb dX18_enterCall_91 rfl (lv_at hl 4 rfl) ?_
        refine lv_iconst (v := 2) hx hb dX18_enterCall_92 (by decide) ?_
        refine lv_iload hx hb dX18_enterCall_93 (lv_at hl 0 rfl) ?_
        refine lv_i2l (v := (r_36 : Int32).toInt64) hx hb dX18_enterCall_95 rfl ?_
        refine lv_iconst (v := 0) hx hb dX18_enterCall_96 (by decide) ?_
        obtain ⟨z_40, r_41, hfc, hf⟩ := cal_some hf
        have hFc := de_free hD hS hA
        refine va_calli (va_runV (As := [.int 2, .long ((r_36 : Int32).toInt64), .int 0]) (rest := []) ⟨hx, hb, hml, hown, hts⟩ (de_X18_ask l dC dI cy a sh n H_38.size F z_35 h0 2 ((r_36 : Int32).toInt64) 0 hfc) (cwV 3 hts gX18_enterCall_X18_ask rfl rfl rfl (by decide +kernel) ⟨Nat.le_of_ble_eq_true rfl, Nat.le_of_ble_eq_true rfl⟩) ⟨fun a U g mk q => by obtain ⟨q0, q1, qP, qK, qD, qN⟩ := q; exact ⟨q0, q1, qP, va_K.moved (u := U) (U := U.calling g mk a) (Vm.Alike.refl U.vm) qK, qD, qN.same rfl⟩, va_recv hK hP (ci := 18) (q0 := h0) rfl (Wd_ob kg_1 sg_1 (by decide)), fun U hU hW => ⟨rfl, by rw [hU], by rw [hU]; exact hP, va_K.moved hW.alike hK, hD.weaken (fun _ _ _ _ => trivial), hN.warm hW⟩⟩ rfl rfl hl.1 rfl (lv_room (Nat.le_of_ble_eq_true rfl)) dX18_enterCall_97 ⟨Nat.le_of_ble_eq_true rfl, Nat.le_of_ble_eq_true rfl⟩) hS (fun q _ h => hFc q h) hFc (fun rr u t H_42 locs ht hvm hw hB hz1 hk1 hS2 => ?_)
        rw [hw]
        clear hw
        obtain ⟨hP1, -, hD1⟩ := hB
        rw [ht] at hP1
        replace hD := hD1.weaken (fun _ _ _ h => hFc _ h)
        replace hP := hP1
        replace hS := hS2
        clear hP1 hD1 hS2 hFc hfc hz1 hk1 hvm ht
        refine lv_if_ge (tgt := 104) hx hb dX18_enterCall_100 (by decide) (fun c_43 => ?_) (fun c_43 => ?_)
        · skip
          rw [if_pos c_43] at hf
          refine lv_aload_n hx hb dX18_enterCall_104 rfl (lv_at hl 4 rfl) ?_
          refine lv_iload hx hb dX18_enterCall_105 (lv_at hl 0 rfl) ?_
          obtain ⟨z_44, r_45, hfc, hf⟩ := cal_some hf
          have hFc := de_free hD hS hA
          refine va_calli (va_runV (As := [.int r_36]) (rest := []) ⟨hx, hb, hml, hown, hts⟩ (de_X18_findModule l dC dI cy a sh n H_42.size F z_40 h0 r_36 hfc) (cwV 1 hts gX18_enterCall_X18_findModule rfl rfl rfl (by decide +kernel) ⟨Nat.le_of_ble_eq_true rfl, Nat.le_of_ble_eq_true rfl⟩) ⟨fun a U g mk q => by obtain ⟨q0, q1, qP, qK, qD, qN⟩ := q; exact ⟨q0, q1, qP, va_K.moved (u := U) (U := U.calling g mk a) (Vm.Alike.refl U.vm) qK, qD, qN.same rfl⟩, va_recv hK hP (ci := 18) (q0 := h0) rfl (Wd_ob kg_1 sg_1 (by decide)), fun U hU hW => ⟨rfl, by rw [hU], by rw [hU]; exact hP, va_K.moved hW.alike hK, hD.weaken (fun _ _ _ _ => trivial), hN.warm hW⟩⟩ rfl rfl hl.1 rfl (lv_room (Nat.le_of_ble_eq_true rfl)) dX18_enterCall_107 ⟨Nat.le_of_ble_eq_true rfl, Nat.le_of_ble_eq_true rfl⟩) hS (fun q _ h => hFc q h) hFc (fun rr u t H_46 locs ht hvm hw hB hz1 hk1 hS2 => ?_)
          rw [hw]
          clear hw
          obtain ⟨hP1, -, hD1⟩ := hB
          rw [ht] at hP1
          replace hD := hD1.weaken (fun _ _ _ h => hFc _ h)
          replace hP := hP1
          replace hS := hS2
          clear hP1 hD1 hS2 hFc hfc hz1 hk1 hvm ht
          refine lv_istore_n (lv' := [(2, .int r_45), (5, .int r_36), (3, .int r_31), (4, .int r_7), (0, .ref (a h0)), (1, .int x0)]) hx hb dX18_enterCall_110 rfl hl (by decide) rfl (fun ls hl2 => ?_)
          replace hl := hl2
          clear hl2
          exact B111 (z_44, r_45, r_31) ls H_46 locs ⟨lv_sub hl [0, 2, 3, 4] rfl, hP, hD, hS⟩ hf
        · skip
          rw [if_neg c_43] at hf
          obtain ⟨h8, h9⟩ := ret_some hf
          rw [h8]
          exact W.vret hx hb hr (fun t ht hW => ⟨⟨(), rfl, trivial, by rw [ht]; exact hP, va_K.moved hW.alike hK, hD⟩, hS.F ht⟩) hS.2.2 dX18_enterCall_103
      · skip
        rw [if_pos c_39] at hf
        refine lv_aload_n hx hb dX18_enterCall_85 rfl (lv_at hl 4 rfl) ?_
        refine lv_iload_n hx hb dX18_enterCall_86 rfl (lv_at hl 1 rfl) ?_
        obtain ⟨z_47, _u, hfc, hf⟩ := cal_some hf
        have hFc := de_free hD hS hA
        refine va_callv (va_runV (As := [.int r_31]) (rest := []) ⟨hx, hb, hml, hown, hts⟩ (de_X18_coin l dC dI cy a sh n H_38.size F z_35 h0 r_31 hfc) (cwV 1 hts gX18_enterCall_X18_coin rfl rfl rfl (by decide +kernel) ⟨Nat.le_of_ble_eq_true rfl, Nat.le_of_ble_eq_true rfl⟩) ⟨fun a U g mk q => by obtain ⟨q0, q1, qP, qK, qD, qN⟩ := q; exact ⟨q0, q1, qP, va_K.moved (u := U) (U := U.calling g mk a) (Vm.Alike.refl U.vm) qK, qD, qN.same rfl⟩, va_recv hK hP (ci := 18) (q0 := h0) rfl (Wd_ob kg_1 sg_1 (by decide)), fun U hU hW => ⟨rfl, by rw [hU], by rw [hU]; exact hP, va_K.moved hW.alike hK, hD.weaken (fun _ _ _ _ => trivial), hN.warm hW⟩⟩ rfl rfl hl.1 rfl (lv_room (Nat.le_of_ble_eq_true rfl)) dX18_enterCall_87 ⟨Nat.le_of_ble_eq_true rfl, Nat.le_of_ble_eq_true rfl⟩) hS (fun q _ h => hFc q h) hFc (fun u t H_48 locs ht hvm hw hB hz1 hk1 hS2 => ?_)
        obtain ⟨hP1, -, hD1⟩ := hB
        rw [ht] at hP1
        replace hD := hD1.weaken (fun _ _ _ h => hFc _ h)
        replace hP := hP1
        replace hS := hS2
        clear hP1 hD1 hS2 hFc hfc hz1 hk1 hvm ht
        obtain ⟨h8, h9⟩ := ret_some hf
        rw [h8]
        exact W.vret hx hb hr (fun t ht hW => ⟨⟨(), rfl, trivial, by rw [ht]; exact hP, va_K.moved hW.alike hK, hD⟩, hS.F ht⟩) hS.2.2 dX18_enterCall_90
  refine lv_icmp_ge (tgt := 50) hx hb dX18_enterCall_43 (by decide) (fun c_49 => ?_) (fun c_49 => ?_)
  · skip
    rw [if_pos c_49] at hf
    exact B50 (z_6) ls H_9 locs ⟨lv_sub hl [0, 1, 2, 3, 4] rfl, hP, hD, hS⟩ hf
  · skip
    rw [if_neg c_49] at hf
    refine lv_aload_n hx hb dX18_enterCall_46 rfl (lv_at hl 3 rfl) ?_
    obtain ⟨z_50, _u, hfc, hf⟩ := cal_some hf
    have hFc := de_free hD hS hA
    refine va_callv (va_runV (As := []) (rest := []) ⟨hx, hb, hml, hown, hts⟩ (de_X18_slip l dC dI cy a sh n H_9.size F z_6 h0 hfc) (cwV 0 hts gX18_enterCall_X18_slip rfl rfl rfl (by decide +kernel) ⟨Nat.le_of_ble_eq_true rfl, Nat.le_of_ble_eq_true rfl⟩) ⟨fun a U g mk q => by obtain ⟨q0, q1, qP, qK, qD, qN⟩ := q; exact ⟨q0, q1, qP, va_K.moved (u := U) (U := U.calling g mk a) (Vm.Alike.refl U.vm) qK, qD, qN.same rfl⟩, va_recv hK hP (ci := 18) (q0 := h0) rfl (Wd_ob kg_1 sg_1 (by decide)), fun U hU hW => ⟨rfl, by rw [hU], by rw [hU]; exact hP, va_K.moved hW.alike hK, hD.weaken (fun _ _ _ _ => trivial), hN.warm hW⟩⟩ rfl rfl hl.1 rfl (lv_room (Nat.le_of_ble_eq_true rfl)) dX18_enterCall_47 ⟨Nat.le_of_ble_eq_true rfl, Nat.le_of_ble_eq_true rfl⟩) hS (fun q _ h => hFc q h) hFc (fun u t H_51 locs ht hvm hw hB hz1 hk1 hS2 => ?_)
    obtain ⟨hP1, -, hD1⟩ := hB
    rw [ht] at hP1
    replace hD := hD1.weaken (fun _ _ _ h => hFc _ h)
    replace hP := hP1
    replace hS := hS2
    clear hP1 hD1 hS2 hFc hfc hz1 hk1 hvm ht
    exact B50 (z_50) ls H_51 locs ⟨lv_sub hl [0, 1, 2, 3, 4] rfl, hP, hD, hS⟩ hf

theorem md_X13_giveBack_1 : (.fieldLink RX13 92 "ResourceLedgerModel$Looker" "height" "I" : Cond) ∈ wsX13_giveBack := List.mem_of_getElem? (i := 1) rfl
theorem iwd_X13_giveBack_X13 : ∀ w ∈ wsX130, w ∈ wsX13_giveBack := fun _ h => List.mem_cons_of_mem _ (List.mem_append_left _ (List.mem_append_right _ h))
theorem md_X13_giveBack_2 : (.fieldLink RX13 72 "ResourceLedgerModel$Looker" "unit" "LResourceLedgerModel$Unit;" : Cond) ∈ wsX13_giveBack := List.mem_of_getElem? (i := 2) rfl
theorem md_X13_giveBack_3 : (.fieldLink RX13 176 "ResourceLedgerModel$Looker" "now" "I" : Cond) ∈ wsX13_giveBack := List.mem_of_getElem? (i := 3) rfl
theorem md_X13_giveBack_8 : (.fieldLink RX13 136 "ResourceLedgerModel$Looker" "locals" "I" : Cond) ∈ wsX13_giveBack := List.mem_of_getElem? (i := 8) rfl
theorem md_X13_giveBack_5 : (.fieldLink RX13 48 "ResourceLedgerModel$Looker" "fault" "I" : Cond) ∈ wsX13_giveBack := List.mem_of_getElem? (i := 5) rfl
theorem md_X13_giveBack_9 : (.fieldLink RX13 39 "ResourceLedgerModel$Looker" "there" "[Z" : Cond) ∈ wsX13_giveBack := List.mem_of_getElem? (i := 9) rfl
theorem md_X13_giveBack_10 : (.fieldLink RX13 7 "ResourceLedgerModel$Looker" "localTypes" "[J" : Cond) ∈ wsX13_giveBack := List.mem_of_getElem? (i := 10) rfl
theorem md_X13_giveBack_6 : (.fieldLink RX13 33 "ResourceLedgerModel$Looker" "origins" "[J" : Cond) ∈ wsX13_giveBack := List.mem_of_getElem? (i := 6) rfl
theorem md_X13_giveBack_7 : (.constantLong RX13 192 (-280375465082881) : Cond) ∈ wsX13_giveBack := List.mem_of_getElem? (i := 7) rfl
theorem md_X13_giveBack_4 : (.fieldLink RX13 30 "ResourceLedgerModel$Looker" "types" "[J" : Cond) ∈ wsX13_giveBack := List.mem_of_getElem? (i := 4) rfl
set_option maxHeartbeats 4000000 in
set_option maxRecDepth 100000 in
theorem de_X13_giveBack (l : Launch) (dC : Nat → ClassId) (dI : Nat → Nat → Nat) (cy : Nat → ClassId) (a : Nat → Nat) (sh : Nat → Nat × Nat) (n sz : Nat) (F : Nat) (z : St) (h0 : Nat) {z8 : St} {r8 : Unit} (hf : fn_X13_giveBack F sh n z h0 = some (z8, r8)) : Met l yX13_giveBack wsX13_giveBack ({ frames := 6, cells := 0, slots := 0, locals := 139 }) (va_Pc [.ref (a h0)] (fun U => U.heap.size = sz ∧ va_P (dC, dI) vwCl (Wd cy a sh n z) U.heap ∧ va_K (dC, dI) vwCl (TYS cy) U ∧ va_D (fun _ => True) (Wd cy a sh n z) ∧ NK U)) (va_Qv (fun u : Unit => True) (fun u t => va_P (dC, dI) vwCl (Wd cy a sh n z8) t.heap ∧ va_K (dC, dI) vwCl (TYS cy) t ∧ va_D (va_A (Wd cy a sh n z) sz) (Wd cy a sh n z8)) (va_A (Wd cy a sh n z) sz)) 0 0 (va_A (Wd cy a sh n z) sz) := by
  refine Met.ofW (cc := cX13_giveBack) (maxL := 3) (ret := none) (by decide) rfl ?_
  intro p e s m args below meth c s₁ B hml hv
  obtain ⟨rfl, hsz, hP, hK, hD0, hN⟩ := hv
  have hx := B.exec
  have hb := B.bytes
  have hr := B.returns
  have hts := atoms_spec (ws := wsX13_giveBack) B.pre
  have hown : s.vm.findClass RX13 = some m.cls := findClass_of_methodNamed B.named
  have hlocks := B.notSynchronized
  subst hsz
  have hD := hD0.self (sz := s.heap.size)
  clear hD0
  generalize hAe : va_A (Wd cy a sh n z) s.heap.size = A at hD ⊢
  have hA : ∀ q : Nat, s.heap.size ≤ q → A q := fun q h => by rw [← hAe]; exact Or.inr h
  clear hAe
  have hS : va_S A s.heap s.heap [] := va_S.rf
  have hl := lv_entry ([.ref (a h0)]) (n := 3) (Nat.le_of_ble_eq_true rfl)
  rw [lg_entry_eq]
  generalize (lg_sl ([.ref (a h0)]) ++ List.replicate (3 - (lg_sl ([.ref (a h0)])).length) Slot.unset).toArray = ls at hl ⊢
  replace hl : lv_has ls 3 [(0, .ref (a h0))] := hl
  unfold fn_X13_giveBack at hf
  refine de_start hS hP (fun H locs hS hP => ?_)
  refine lv_aload_n hx hb dX13_giveBack_0 rfl (lv_at hl 0 rfl) ?_
  obtain ⟨g_1, hf⟩ := grd_some hf
  obtain ⟨kg_1, sg_1⟩ := okO_at g_1
  refine va_get (D := (dC, dI)) (ci := 13) (v := .int (z.1 h0 14)) (C := RX13) (T := TX13) (N := 22) hx hb hts iwd_X13_giveBack_X13 hown hK hP h0 (Wd_ob kg_1 sg_1 (by decide)) rfl 14 (by decide) (hts _ md_X13_giveBack_1) (fun _ h9 => h9) (fl_at (t := 0) rfl) dX13_giveBack_1 ?_
  refine lv_aload_n hx hb dX13_giveBack_4 rfl (lv_at hl 0 rfl) ?_
  obtain ⟨k_2, ek_2, hf⟩ := lnk_some hf
  refine va_get (D := (dC, dI)) (ci := 13) (v := .ref (a k_2)) (C := RX13) (T := TX13) (N := 22) hx hb hts iwd_X13_giveBack_X13 hown hK hP h0 (Wd_ob kg_1 sg_1 (by decide)) rfl 0 (by decide) (hts _ md_X13_giveBack_2) (fun _ h9 => h9) (fl_q rfl ek_2) dX13_giveBack_5 ?_
  refine lv_aload_n hx hb dX13_giveBack_8 rfl (lv_at hl 0 rfl) ?_
  refine va_get (D := (dC, dI)) (ci := 13) (v := .int (z.1 h0 1)) (C := RX13) (T := TX13) (N := 22) hx hb hts iwd_X13_giveBack_X13 hown hK hP h0 (Wd_ob kg_1 sg_1 (by decide)) rfl 1 (by decide) (hts _ md_X13_giveBack_3) (fun _ h9 => h9) (fl_at (t := 0) rfl) dX13_giveBack_9 ?_
  refine lv_iconst (v := 1) hx hb dX13_giveBack_12 (by decide) ?_
  obtain ⟨g_5, hf⟩ := grd_some hf
  obtain ⟨kg_5, sg_5⟩ := okO_at g_5
  obtain ⟨z_3, r_4, hfc, hf⟩ := cal_some hf
  have hFc := de_free hD hS hA
  refine va_calli (va_runV (As := [.int (z.1 h0 1), .int 1]) (rest := [.int (z.1 h0 14)]) ⟨hx, hb, hml, hown, hts⟩ (de_X16_many l dC dI cy a sh n H.size F z k_2 (z.1 h0 1) 1 hfc) (cwV 2 hts gX13_giveBack_X16_many rfl rfl rfl (by decide +kernel) ⟨Nat.le_of_ble_eq_true rfl, Nat.le_of_ble_eq_true rfl⟩) ⟨fun a U g mk q => by obtain ⟨q0, q1, qP, qK, qD, qN⟩ := q; exact ⟨q0, q1, qP, va_K.moved (u := U) (U := U.calling g mk a) (Vm.Alike.refl U.vm) qK, qD, qN.same rfl⟩, va_recv hK hP (ci := 16) (q0 := k_2) rfl (Wd_ob kg_5 sg_5 (by decide)), fun U hU hW => ⟨rfl, by rw [hU], by rw [hU]; exact hP, va_K.moved hW.alike hK, hD.weaken (fun _ _ _ _ => trivial), hN.warm hW⟩⟩ rfl rfl hl.1 rfl (lv_room (Nat.le_of_ble_eq_true rfl)) dX13_giveBack_13 ⟨Nat.le_of_ble_eq_true rfl, Nat.le_of_ble_eq_true rfl⟩) hS (fun q _ h => hFc q h) hFc (fun rr u t H_6 locs ht hvm hw hB hz1 hk1 hS2 => ?_)
  rw [hw]
  clear hw
  obtain ⟨hP1, -, hD1⟩ := hB
  rw [ht] at hP1
  replace hD := hD1.weaken (fun _ _ _ h => hFc _ h)
  replace hP := hP1
  replace hS := hS2
  clear hP1 hD1 hS2 hFc hfc hz1 hk1 hvm ht
  refine de_cut (h := 24) (fun (x : St × Int32) => [.int x.2]) (fun x ls H locs => lv_has ls 3 [(0, .ref (a h0))] ∧ va_P (dC, dI) vwCl (Wd cy a sh n x.1) H ∧ va_D A (Wd cy a sh n x.1) ∧ va_S A s.heap H locs) (fun x => fn_X13_giveBack_B24 F sh n h0 x.1 x.2) (z8, r8) ?_ (fun B24 => ?_)
  · intro x ls H locs hI hf
    obtain ⟨z_8, p_7⟩ := x
    obtain ⟨hl2, hP2, hD2, hS2⟩ := hI
    replace hl : lv_has ls 3 [(0, .ref (a h0))] := hl2
    replace hP := hP2
    replace hD := hD2
    replace hS := hS2
    clear hl2 hP2 hD2 hS2
    replace hf := fn_X13_giveBack_B24_s hf
    refine W.eq (g2 := F0 m 24 ls [.int p_7]) rfl ?_
    refine lv_istore_n (lv' := [(1, .int p_7), (0, .ref (a h0))]) hx hb dX13_giveBack_24 rfl hl (by decide) rfl (fun ls hl2 => ?_)
    replace hl := hl2
    clear hl2
    refine lv_iconst (v := 0) hx hb dX13_giveBack_25 (by decide) ?_
    refine lv_istore_n (lv' := [(2, .int 0), (1, .int p_7), (0, .ref (a h0))]) hx hb dX13_giveBack_26 rfl hl (by decide) rfl (fun ls hl2 => ?_)
    replace hl := hl2
    clear hl2
    have hl0 : lv_has ls 3 [(2, .int 0), (1, .int p_7), (0, .ref (a h0))] := lv_sub hl [0, 1, 2] rfl
    refine de_loop (h := 27) (fun (x : St × Int32 × Int32) ls H locs => lv_has ls 3 [(2, .int x.2.2), (1, .int x.2.1), (0, .ref (a h0))] ∧ va_P (dC, dI) vwCl (Wd cy a sh n x.1) H ∧ va_D A (Wd cy a sh n x.1) ∧ va_S A s.heap H locs) (fun f x => fn_X13_giveBack_L27 F sh n h0 f x.1 x.2.1 x.2.2) (z8, r8) ?_ (fun _ => rfl) F (z_8, p_7, 0) ls H locs ⟨hl0, hP, hD, hS⟩ hf
    intro f_12 x ls H locs ih27 hI hf
    obtain ⟨z_11, p_9, p_10⟩ := x
    obtain ⟨hl2, hP2, hD2, hS2⟩ := hI
    replace hl : lv_has ls 3 [(2, .int p_10), (1, .int p_9), (0, .ref (a h0))] := hl2
    replace hP := hP2
    replace hD := hD2
    replace hS := hS2
    clear hl2 hP2 hD2 hS2 hl0
    replace hf := fn_X13_giveBack_L27_s hf
    refine lv_iload_n hx hb dX13_giveBack_27 rfl (lv_at hl 0 rfl) ?_
    refine lv_aload_n hx hb dX13_giveBack_28 rfl (lv_at hl 2 rfl) ?_
    refine va_get (D := (dC, dI)) (ci := 13) (v := .int (z_11.1 h0 14)) (C := RX13) (T := TX13) (N := 22) hx hb hts iwd_X13_giveBack_X13 hown hK hP h0 (Wd_ob kg_1 sg_1 (by decide)) rfl 14 (by decide) (hts _ md_X13_giveBack_1) (fun _ h9 => h9) (fl_at (t := 0) rfl) dX13_giveBack_29 ?_
    refine de_cut (h := 74) (fun (x : St × Int32) => []) (fun x ls H locs => lv_has ls 3 [(1, .int x.2), (0, .ref (a h0))] ∧ va_P (dC, dI) vwCl (Wd cy a sh n x.1) H ∧ va_D A (Wd cy a sh n x.1) ∧ va_S A s.heap H locs) (fun x => fn_X13_giveBack_B74 F sh n h0 x.1 x.2) (z8, r8) ?_ (fun B74 => ?_)
    · intro x ls H locs hI hf
      obtain ⟨z_14, p_13⟩ := x
      obtain ⟨hl2, hP2, hD2, hS2⟩ := hI
      replace hl : lv_has ls 3 [(1, .int p_13), (0, .ref (a h0))] := hl2
      replace hP := hP2
      replace hD := hD2
      replace hS := hS2
      clear hl2 hP2 hD2 hS2
      replace hf := fn_X13_giveBack_B74_s hf
      refine W.eq (g2 := F0 m 74 ls []) rfl ?_
      refine lv_aload_n hx hb dX13_giveBack_74 rfl (lv_at hl 1 rfl) ?_
      refine lv_iload_n hx hb dX13_giveBack_75 rfl (lv_at hl 0 rfl) ?_
      refine lv_bipush (v := 12) hx hb dX13_giveBack_76 (by decide) ?_
      obtain ⟨z_15, _u, hfc, hf⟩ := cal_some hf
      have hFc := de_free hD hS hA
      refine va_callv (va_runV (As := [.int p_13, .int 12]) (rest := []) ⟨hx, hb, hml, hown, hts⟩ (de_X13_need l dC dI cy a sh n H.size F z_14 h0 p_13 12 hfc) (cwV 2 hts gX13_giveBack_X13_need rfl rfl rfl (by decide +kernel) ⟨Nat.le_of_ble_eq_true rfl, Nat.le_of_ble_eq_true rfl⟩) ⟨fun a U g mk q => by obtain ⟨q0, q1, qP, qK, qD, qN⟩ := q; exact ⟨q0, q1, qP, va_K.moved (u := U) (U := U.calling g mk a) (Vm.Alike.refl U.vm) qK, qD, qN.same rfl⟩, va_recv hK hP (ci := 13) (q0 := h0) rfl (Wd_ob kg_1 sg_1 (by decide)), fun U hU hW => ⟨rfl, by rw [hU], by rw [hU]; exact hP, va_K.moved hW.alike hK, hD.weaken (fun _ _ _ _ => trivial), hN.warm hW⟩⟩ rfl rfl hl.1 rfl (lv_room (Nat.le_of_ble_eq_true rfl)) dX13_giveBack_78 ⟨Nat.le_of_ble_eq_true rfl, Nat.le_of_ble_eq_true rfl⟩) hS (fun q _ h => hFc q h) hFc (fun u t H_16 locs ht hvm hw hB hz1 hk1 hS2 => ?_)
      obtain ⟨hP1, -, hD1⟩ := hB
      rw [ht] at hP1
      replace hD := hD1.weaken (fun _ _ _ h => hFc _ h)
      replace hP := hP1
      replace hS := hS2
      clear hP1 hD1 hS2 hFc hfc hz1 hk1 hvm ht
      refine lv_iconst (v := 0) hx hb dX13_giveBack_81 (by decide) ?_
      refine lv_istore_n (lv' := [(2, .int 0), (1, .int p_13), (0, .ref (a h0))]) hx hb dX13_giveBack_82 rfl hl (by decide) rfl (fun ls hl2 => ?_)
      replace hl := hl2
      clear hl2
      have hl0 : lv_has ls 3 [(2, .int 0), (0, .ref (a h0))] := lv_sub hl [0, 2] rfl
      refine de_loop (h := 83) (fun (x : St × Int32) ls H locs => lv_has ls 3 [(2, .int x.2), (0, .ref (a h0))] ∧ va_P (dC, dI) vwCl (Wd cy a sh n x.1) H ∧ va_D A (Wd cy a sh n x.1) ∧ va_S A s.heap H locs) (fun f x => fn_X13_giveBack_L83 F sh n h0 f x.1 x.2) (z8, r8) ?_ (fun _ => rfl) F (z_15, 0) ls H_16 locs ⟨hl0, hP, hD, hS⟩ hf
      intro f_19 x ls H locs ih83 hI hf
      obtain ⟨z_18, p_17⟩ := x
      obtain ⟨hl2, hP2, hD2, hS2⟩ := hI
      replace hl : lv_has ls 3 [(2, .int p_17), (0, .ref (a h0))] := hl2
      replace hP := hP2
      replace hD := hD2
      replace hS := hS2
      clear hl2 hP2 hD2 hS2 hl0
      replace hf := fn_X13_giveBack_L83_s hf
      refine lv_iload_n hx hb dX13_giveBack_83 rfl (lv_at hl 0 rfl) ?_
      refine lv_aload_n hx hb dX13_giveBack_84 rfl (lv_at hl 1 rfl) ?_
      refine va_get (D := (dC, dI)) (ci := 13) (v := .int (z_18.1 h0 14)) (C := RX13) (T := TX13) (N := 22) hx hb hts iwd_X13_giveBack_X13 hown hK hP h0 (Wd_ob kg_1 sg_1 (by decide)) rfl 14 (by decide) (hts _ md_X13_giveBack_1) (fun _ h9 => h9) (fl_at (t := 0) rfl) dX13_giveBack_85 ?_
      refine de_cut (h := 130) (fun (x : St) => []) (fun x ls H locs => lv_has ls 3 [(0, .ref (a h0))] ∧ va_P (dC, dI) vwCl (Wd cy a sh n x) H ∧ va_D A (Wd cy a sh n x) ∧ va_S A s.heap H locs) (fun x => fn_X13_giveBack_B130 F sh n h0 x) (z8, r8) ?_ (fun B130 => ?_)
      · intro x ls H locs hI hf
        obtain ⟨z_20, ez⟩ : ∃ w, w = x := ⟨_, rfl⟩
        subst ez
        obtain ⟨hl2, hP2, hD2, hS2⟩ := hI
        replace hl : lv_has ls 3 [(0, .ref (a h0))] := hl2
        replace hP := hP2
        replace hD := hD2
        replace hS := hS2
        clear hl2 hP2 hD2 hS2
        replace hf := fn_X13_giveBack_B130_s hf
        refine W.eq (g2 := F0 m 130 ls []) rfl ?_
        refine lv_iconst (v := 0) hx hb dX13_giveBack_130 (by decide) ?_
        refine lv_istore_n (lv' := [(2, .int 0), (0, .ref (a h0))]) hx hb dX13_giveBack_131 rfl hl (by decide) rfl (fun ls hl2 => ?_)
        replace hl := hl2
        clear hl2
        have hl0 : lv_has ls 3 [(2, .int 0), (0, .ref (a h0))] := lv_sub hl [0, 1] rfl
        refine de_loop (h := 132) (fun (x : St × Int32) ls H locs => lv_has ls 3 [(2, .int x.2), (0, .ref (a h0))] ∧ va_P (dC, dI) vwCl (Wd cy a sh n x.1) H ∧ va_D A (Wd cy a sh n x.1) ∧ va_S A s.heap H locs) (fun f x => fn_X13_giveBack_L132 F sh n h0 f x.1 x.2) (z8, r8) ?_ (fun _ => rfl) F (z_20, 0) ls H locs ⟨hl0, hP, hD, hS⟩ hf
        intro f_23 x ls H locs ih132 hI hf
        obtain ⟨z_22, p_21⟩ := x
        obtain ⟨hl2, hP2, hD2, hS2⟩ := hI
        replace hl : lv_has ls 3 [(2, .int p_21), (0, .ref (a h0))] := hl2
        replace hP := hP2
        replace hD := hD2
        replace hS := hS2
        clear hl2 hP2 hD2 hS2 hl0
        replace hf := fn_X13_giveBack_L132_s hf
        refine lv_iload_n hx hb dX13_giveBack_132 rfl (lv_at hl 0 rfl) ?_
        refine lv_aload_n hx hb dX13_giveBack_133 rfl (lv_at hl 1 rfl) ?_
        refine va_get (D := (dC, dI)) (ci := 13) (v := .int (z_22.1 h0 2)) (C := RX13) (T := TX13) (N := 22) hx hb hts iwd_X13_giveBack_X13 hown hK hP h0 (Wd_ob kg_1 sg_1 (by decide)) rfl 2 (by decide) (hts _ md_X13_giveBack_8) (fun _ h9 => h9) (fl_at (t := 0) rfl) dX13_giveBack_134 ?_
        refine lv_icmp_ge (tgt := 187) hx hb dX13_giveBack_137 (by decide) (fun c_24 => ?_) (fun c_24 => ?_)
        · skip
          rw [if_pos c_24] at hf
          obtain ⟨h8, h9⟩ := ret_some hf
          rw [h8]
          exact W.vret hx hb hr (fun t ht hW => ⟨⟨(), rfl, trivial, by rw [ht]; exact hP, va_K.moved hW.alike hK, hD⟩, hS.F ht⟩) hS.2.2 dX13_giveBack_187
        · skip
          rw [if_neg c_24] at hf
          refine lv_aload_n hx hb dX13_giveBack_140 rfl (lv_at hl 1 rfl) ?_
          refine va_get (D := (dC, dI)) (ci := 13) (v := .int (z_22.1 h0 18)) (C := RX13) (T := TX13) (N := 22) hx hb hts iwd_X13_giveBack_X13 hown hK hP h0 (Wd_ob kg_1 sg_1 (by decide)) rfl 18 (by decide) (hts _ md_X13_giveBack_5) (fun _ h9 => h9) (fl_at (t := 0) rfl) dX13_giveBack_141 ?_
          refine lv_if_ne (tgt := 187) hx hb dX13_giveBack_144 (by decide) (fun c_25 => ?_) (fun c_25 => ?_)
          · skip
            rw [if_neg c_25] at hf
            obtain ⟨h8, h9⟩ := ret_some hf
            rw [h8]
            exact W.vret hx hb hr (fun t ht hW => ⟨⟨(), rfl, trivial, by rw [ht]; exact hP, va_K.moved hW.alike hK, hD⟩, hS.F ht⟩) hS.2.2 dX13_giveBack_187
          · skip
            rw [if_pos c_25] at hf
            refine lv_aload_n hx hb dX13_giveBack_147 rfl (lv_at hl 1 rfl) ?_
            refine lv_aload_n hx hb dX13_giveBack_148 rfl (lv_at hl 1 rfl) ?_
            obtain ⟨k_26, ek_26, hf⟩ := lnk_some hf
            refine va_get (D := (dC, dI)) (ci := 13) (v := .ref (a k_26)) (C := RX13) (T := TX13) (N := 22) hx hb hts iwd_X13_giveBack_X13 hown hK hP h0 (Wd_ob kg_1 sg_1 (by decide)) rfl 15 (by decide) (hts _ md_X13_giveBack_9) (fun _ h9 => h9) (fl_q rfl ek_26) dX13_giveBack_149 ?_
            refine lv_iload_n hx hb dX13_giveBack_152 rfl (lv_at hl 0 rfl) ?_
            obtain ⟨g_27, hf⟩ := grd_some hf
            obtain ⟨kg_27, sg_27, ig_27⟩ := okA_at g_27
            refine va_zald hx hb hK hP k_26 3 (Wd_az kg_27 sg_27) rfl ig_27 dX13_giveBack_153 ?_
            refine de_cut (h := 176) (fun (x : St × Int32) => [.int x.2, .ref (a h0)]) (fun x ls H locs => lv_has ls 3 [(2, .int p_21), (0, .ref (a h0))] ∧ va_P (dC, dI) vwCl (Wd cy a sh n x.1) H ∧ va_D A (Wd cy a sh n x.1) ∧ va_S A s.heap H locs) (fun x => fn_X13_giveBack_B176 F sh n h0 p_21 (fun z9 q2 => fn_X13_giveBack_L132 F sh n h0 f_23 z9 q2) x.1 x.2) (z8, r8) ?_ (fun B176 => ?_)
            · intro x ls H locs hI hf
              obtain ⟨z_29, p_28⟩ := x
              obtain ⟨hl2, hP2, hD2, hS2⟩ := hI
              replace hl : lv_has ls 3 [(2, .int p_21), (0, .ref (a h0))] := hl2
              replace hP := hP2
              replace hD := hD2
              replace hS := hS2
              clear hl2 hP2 hD2 hS2
              replace hf := fn_X13_giveBack_B176_s hf
              refine W.eq (g2 := F0 m 176 ls [.int p_28, .ref (a h0)]) rfl ?_
              refine lv_bipush (v := 13) hx hb dX13_giveBack_176 (by decide) ?_
              obtain ⟨z_30, _u, hfc, hf⟩ := cal_some hf
              have hFc := de_free hD hS hA
              refine va_callv (va_runV (As := [.int p_28, .int 13]) (rest := []) ⟨hx, hb, hml, hown, hts⟩ (de_X13_need l dC dI cy a sh n H.size F z_29 h0 p_28 13 hfc) (cwV 2 hts gX13_giveBack_X13_need rfl rfl rfl (by decide +kernel) ⟨Nat.le_of_ble_eq_true rfl, Nat.le_of_ble_eq_true rfl⟩) ⟨fun a U g mk q => by obtain ⟨q0, q1, qP, qK, qD, qN⟩ := q; exact ⟨q0, q1, qP, va_K.moved (u := U) (U := U.calling g mk a) (Vm.Alike.refl U.vm) qK, qD, qN.same rfl⟩, va_recv hK hP (ci := 13) (q0 := h0) rfl (Wd_ob kg_1 sg_1 (by decide)), fun U hU hW => ⟨rfl, by rw [hU], by rw [hU]; exact hP, va_K.moved hW.alike hK, hD.weaken (fun _ _ _ _ => trivial), hN.warm hW⟩⟩ rfl rfl hl.1 rfl (lv_room (Nat.le_of_ble_eq_true rfl)) dX13_giveBack_178 ⟨Nat.le_of_ble_eq_true rfl, Nat.le_of_ble_eq_true rfl⟩) hS (fun q _ h => hFc q h) hFc (fun u t H_31 locs ht hvm hw hB hz1 hk1 hS2 => ?_)
              obtain ⟨hP1, -, hD1⟩ := hB
              rw [ht] at hP1
              replace hD := hD1.weaken (fun _ _ _ h => hFc _ h)
              replace hP := hP1
              replace hS := hS2
              clear hP1 hD1 hS2 hFc hfc hz1 hk1 hvm ht
              refine lv_iinc (v := (p_21 + 1)) (lv' := [(2, .int (p_21 + 1)), (0, .ref (a h0))]) hx hb dX13_giveBack_181 hl (k := 0) rfl rfl (by decide) rfl (fun ls hl2 => ?_)
              replace hl := hl2
              clear hl2
              refine lv_goto (tgt := 132) hx hb dX13_giveBack_184 (by decide) ?_
              exact ih132 (z_30, (p_21 + 1)) ls H_31 locs ⟨lv_sub hl [0, 1] rfl, hP, hD, hS⟩ hf
            refine de_cut (h := 171) (fun (x : St) => [.ref (a h0)]) (fun x ls H locs => lv_has ls 3 [(2, .int p_21), (0, .ref (a h0))] ∧ va_P (dC, dI) vwCl (Wd cy a sh n x) H ∧ va_D A (Wd cy a sh n x) ∧ va_S A s.heap H locs) (fun x => fn_X13_giveBack_B171 F sh n h0 p_21 (fun z9 q2 => fn_X13_giveBack_L132 F sh n h0 f_23 z9 q2) x) (z8, r8) ?_ (fun B171 => ?_)
            · intro x ls H locs hI hf
              obtain ⟨z_32, ez⟩ : ∃ w, w = x := ⟨_, rfl⟩
              subst ez
              obtain ⟨hl2, hP2, hD2, hS2⟩ := hI
              replace hl : lv_has ls 3 [(2, .int p_21), (0, .ref (a h0))] := hl2
              replace hP := hP2
              replace hD := hD2
              replace hS := hS2
              clear hl2 hP2 hD2 hS2
              replace hf := fn_X13_giveBack_B171_s hf
              refine W.eq (g2 := F0 m 171 ls [.ref (a h0)]) rfl ?_
              refine lv_iconst (v := 1) hx hb dX13_giveBack_171 (by decide) ?_
              refine lv_goto (tgt := 176) hx hb dX13_giveBack_172 (by decide) ?_
              exact B176 (z_32, 1) ls H locs ⟨lv_sub hl [0, 1] rfl, hP, hD, hS⟩ hf
            refine lv_if_eq (tgt := 171) hx hb dX13_giveBack_154 (by decide) (fun c_33 => ?_) (fun c_33 => ?_)
            · skip
              rw [if_pos c_33] at hf
              exact B171 (z_22) ls H locs ⟨lv_sub hl [0, 1] rfl, hP, hD, hS⟩ hf
            · skip
              rw [if_neg c_33] at hf
              refine lv_aload_n hx hb dX13_giveBack_157 rfl (lv_at hl 1 rfl) ?_
              refine lv_aload_n hx hb dX13_giveBack_158 rfl (lv_at hl 1 rfl) ?_
              obtain ⟨k_34, ek_34, hf⟩ := lnk_some hf
              refine va_get (D := (dC, dI)) (ci := 13) (v := .ref (a k_34)) (C := RX13) (T := TX13) (N := 22) hx hb hts iwd_X13_giveBack_X13 hown hK hP h0 (Wd_ob kg_1 sg_1 (by decide)) rfl 3 (by decide) (hts _ md_X13_giveBack_10) (fun _ h9 => h9) (fl_q rfl ek_34) dX13_giveBack_159 ?_
              refine lv_iload_n hx hb dX13_giveBack_162 rfl (lv_at hl 0 rfl) ?_
              obtain ⟨g_35, hf⟩ := grd_some hf
              obtain ⟨kg_35, sg_35, ig_35⟩ := okA_at g_35
              refine va_lald hx hb hK hP k_34 2 (Wd_al kg_35 sg_35) rfl ig_35 dX13_giveBack_163 ?_
              refine lv_iconst (v := 2) hx hb dX13_giveBack_164 (by decide) ?_
              obtain ⟨z_36, r_37, hfc, hf⟩ := cal_some hf
              have hFc := de_free hD hS hA
              refine va_calli (va_runV (As := [.long (z_22.2.1 k_34 p_21.toNatClampNeg), .int 2]) (rest := [.ref (a h0)]) ⟨hx, hb, hml, hown, hts⟩ (de_X13_has l dC dI cy a sh n H.size F z_22 h0 (z_22.2.1 k_34 p_21.toNatClampNeg) 2 hfc) (cwV 2 hts gX13_giveBack_X13_has rfl rfl rfl (by decide +kernel) ⟨Nat.le_of_ble_eq_true rfl, Nat.le_of_ble_eq_true rfl⟩) ⟨fun a U g mk q => by obtain ⟨q0, q1, qP, qK, qD, qN⟩ := q; exact ⟨q0, q1, qP, va_K.moved (u := U) (U := U.calling g mk a) (Vm.Alike.refl U.vm) qK, qD, qN.same rfl⟩, va_recv hK hP (ci := 13) (q0 := h0) rfl (Wd_ob kg_1 sg_1 (by decide)), fun U hU hW => ⟨rfl, by rw [hU], by rw [hU]; exact hP, va_K.moved hW.alike hK, hD.weaken (fun _ _ _ _ => trivial), hN.warm hW⟩⟩ rfl rfl hl.1 rfl (lv_room (Nat.le_of_ble_eq_true rfl)) dX13_giveBack_165 ⟨Nat.le_of_ble_eq_true rfl, Nat.le_of_ble_eq_true rfl⟩) hS (fun q _ h => hFc q h) hFc (fun rr u t H_38 locs ht hvm hw hB hz1 hk1 hS2 => ?_)
              rw [hw]
              clear hw
              obtain ⟨hP1, -, hD1⟩ := hB
              rw [ht] at hP1
              replace hD := hD1.weaken (fun _ _ _ h => hFc _ h)
              replace hP := hP1
              replace hS := hS2
              clear hP1 hD1 hS2 hFc hfc hz1 hk1 hvm ht
              refine lv_if_eq (tgt := 175) hx hb dX13_giveBack_168 (by decide) (fun c_39 => ?_) (fun c_39 => ?_)
              · skip
                rw [if_pos c_39] at hf
                refine lv_iconst (v := 0) hx hb dX13_giveBack_175 (by decide) ?_
                exact B176 (z_36, 0) ls H_38 locs ⟨lv_sub hl [0, 1] rfl, hP, hD, hS⟩ hf
              · skip
                rw [if_neg c_39] at hf
                exact B171 (z_36) ls H_38 locs ⟨lv_sub hl [0, 1] rfl, hP, hD, hS⟩ hf
      refine lv_icmp_ge (tgt := 130) hx hb dX13_giveBack_88 (by decide) (fun c_40 => ?_) (fun c_40 => ?_)
      · skip
        rw [if_pos c_40] at hf
        exact B130 (z_18) ls H locs ⟨lv_sub hl [1] rfl, hP, hD, hS⟩ hf
      · skip
        rw [if_neg c_40] at hf
        refine lv_aload_n hx hb dX13_giveBack_91 rfl (lv_at hl 1 rfl) ?_
        refine va_get (D := (dC, dI)) (ci := 13) (v := .int (z_18.1 h0 18)) (C := RX13) (T := TX13) (N := 22) hx hb hts iwd_X13_giveBack_X13 hown hK hP h0 (Wd_ob kg_1 sg_1 (by decide)) rfl 18 (by decide) (hts _ md_X13_giveBack_5) (fun _ h9 => h9) (fl_at (t := 0) rfl) dX13_giveBack_92 ?_
        refine lv_if_ne (tgt := 130) hx hb dX13_giveBack_95 (by decide) (fun c_41 => ?_) (fun c_41 => ?_)
        · skip
          rw [if_neg c_41] at hf
          exact B130 (z_18) ls H locs ⟨lv_sub hl [1] rfl, hP, hD, hS⟩ hf
        · skip
          rw [if_pos c_41] at hf
          refine lv_aload_n hx hb dX13_giveBack_98 rfl (lv_at hl 1 rfl) ?_
          refine lv_aload_n hx hb dX13_giveBack_99 rfl (lv_at hl 1 rfl) ?_
          obtain ⟨k_42, ek_42, hf⟩ := lnk_some hf
          refine va_get (D := (dC, dI)) (ci := 13) (v := .ref (a k_42)) (C := RX13) (T := TX13) (N := 22) hx hb hts iwd_X13_giveBack_X13 hown hK hP h0 (Wd_ob kg_1 sg_1 (by decide)) rfl 12 (by decide) (hts _ md_X13_giveBack_6) (fun _ h9 => h9) (fl_q rfl ek_42) dX13_giveBack_100 ?_
          refine lv_iload_n hx hb dX13_giveBack_103 rfl (lv_at hl 0 rfl) ?_
          obtain ⟨g_43, hf⟩ := grd_some hf
          obtain ⟨kg_43, sg_43, ig_43⟩ := okA_at g_43
          refine va_lald hx hb hK hP k_42 2 (Wd_al kg_43 sg_43) rfl ig_43 dX13_giveBack_104 ?_
          refine lv_ldc2 hx hb hown (hts _ md_X13_giveBack_7) dX13_giveBack_105 ?_
          refine lv_land hx hb dX13_giveBack_108 ?_
          refine lv_lconst (v := 0) hx hb dX13_giveBack_109 (by decide) ?_
          refine W.lcmp hx hb dX13_giveBack_110 ?_
          refine de_cut (h := 119) (fun (x : St × Int32) => [.int x.2, .ref (a h0)]) (fun x ls H locs => lv_has ls 3 [(2, .int p_17), (0, .ref (a h0))] ∧ va_P (dC, dI) vwCl (Wd cy a sh n x.1) H ∧ va_D A (Wd cy a sh n x.1) ∧ va_S A s.heap H locs) (fun x => fn_X13_giveBack_B119 F sh n h0 p_17 (fun z9 q2 => fn_X13_giveBack_L83 F sh n h0 f_19 z9 q2) x.1 x.2) (z8, r8) ?_ (fun B119 => ?_)
          · intro x ls H locs hI hf
            obtain ⟨z_45, p_44⟩ := x
            obtain ⟨hl2, hP2, hD2, hS2⟩ := hI
            replace hl : lv_has ls 3 [(2, .int p_17), (0, .ref (a h0))] := hl2
            replace hP := hP2
            replace hD := hD2
            replace hS := hS2
            clear hl2 hP2 hD2 hS2
            replace hf := fn_X13_giveBack_B119_s hf
            refine W.eq (g2 := F0 m 119 ls [.int p_44, .ref (a h0)]) rfl ?_
            refine lv_bipush (v := 14) hx hb dX13_giveBack_119 (by decide) ?_
            obtain ⟨z_46, _u, hfc, hf⟩ := cal_some hf
            have hFc := de_free hD hS hA
            refine va_callv (va_runV (As := [.int p_44, .int 14]) (rest := []) ⟨hx, hb, hml, hown, hts⟩ (de_X13_need l dC dI cy a sh n H.size F z_45 h0 p_44 14 hfc) (cwV 2 hts gX13_giveBack_X13_need rfl rfl rfl (by decide +kernel) ⟨Nat.le_of_ble_eq_true rfl, Nat.le_of_ble_eq_true rfl⟩) ⟨fun a U g mk q => by obtain ⟨q0, q1, qP, qK, qD, qN⟩ := q; exact ⟨q0, q1, qP, va_K.moved (u := U) (U := U.calling g mk a) (Vm.Alike.refl U.vm) qK, qD, qN.same rfl⟩, va_recv hK hP (ci := 13) (q0 := h0) rfl (Wd_ob kg_1 sg_1 (by decide)), fun U hU hW => ⟨rfl, by rw [hU], by rw [hU]; exact hP, va_K.moved hW.alike hK, hD.weaken (fun _ _ _ _ => trivial), hN.warm hW⟩⟩ rfl rfl hl.1 rfl (lv_room (Nat.le_of_ble_eq_true rfl)) dX13_giveBack_121 ⟨Nat.le_of_ble_eq_true rfl, Nat.le_of_ble_eq_true rfl⟩) hS (fun q _ h => hFc q h) hFc (fun u t H_47 locs ht hvm hw hB hz1 hk1 hS2 => ?_)
            obtain ⟨hP1, -, hD1⟩ := hB
            rw [ht] at hP1
            replace hD := hD1.weaken (fun _ _ _ h => hFc _ h)
            replace hP := hP1
            replace hS := hS2
            clear hP1 hD1 hS2 hFc hfc hz1 hk1 hvm ht
            refine lv_iinc (v := (p_17 + 1)) (lv' := [(2, .int (p_17 + 1)), (0, .ref (a h0))]) hx hb dX13_giveBack_124 hl (k := 0) rfl rfl (by decide) rfl (fun ls hl2 => ?_)
            replace hl := hl2
            clear hl2
            refine lv_goto (tgt := 83) hx hb dX13_giveBack_127 (by decide) ?_
            exact ih83 (z_46, (p_17 + 1)) ls H_47 locs ⟨lv_sub hl [0, 1] rfl, hP, hD, hS⟩ hf
          refine lv_if_ne (tgt := 118) hx hb dX13_giveBack_111 (by decide) (fun c_48 => ?_) (fun c_48 => ?_)
          · skip
            rw [lg_cmp_eq] at c_48
            rw [if_neg c_48] at hf
            refine lv_iconst (v := 0) hx hb dX13_giveBack_118 (by decide) ?_
            exact B119 (z_18, 0) ls H locs ⟨lv_sub hl [0, 1] rfl, hP, hD, hS⟩ hf
          · skip
            rw [lg_cmp_eq] at c_48
            rw [if_pos c_48] at hf
            refine lv_iconst (v := 1) hx hb dX13_giveBack_114 (by decide) ?_
            refine lv_goto (tgt := 119) hx hb dX13_giveBack_115 (by decide) ?_
            exact B119 (z_18, 1) ls H locs ⟨lv_sub hl [0, 1] rfl, hP, hD, hS⟩ hf
    refine lv_icmp_ge (tgt := 74) hx hb dX13_giveBack_32 (by decide) (fun c_49 => ?_) (fun c_49 => ?_)
    · skip
      rw [if_pos c_49] at hf
      exact B74 (z_11, p_9) ls H locs ⟨lv_sub hl [1, 2] rfl, hP, hD, hS⟩ hf
    · skip
      rw [if_neg c_49] at hf
      refine lv_iload_n hx hb dX13_giveBack_35 rfl (lv_at hl 1 rfl) ?_
      refine lv_if_eq (tgt := 74) hx hb dX13_giveBack_36 (by decide) (fun c_50 => ?_) (fun c_50 => ?_)
      · skip
        rw [if_pos c_50] at hf
        exact B74 (z_11, p_9) ls H locs ⟨lv_sub hl [1, 2] rfl, hP, hD, hS⟩ hf
      · skip
        rw [if_neg c_50] at hf
        refine lv_aload_n hx hb dX13_giveBack_39 rfl (lv_at hl 2 rfl) ?_
        obtain ⟨k_51, ek_51, hf⟩ := lnk_some hf
        refine va_get (D := (dC, dI)) (ci := 13) (v := .ref (a k_51)) (C := RX13) (T := TX13) (N := 22) hx hb hts iwd_X13_giveBack_X13 hown hK hP h0 (Wd_ob kg_1 sg_1 (by decide)) rfl 11 (by decide) (hts _ md_X13_giveBack_4) (fun _ h9 => h9) (fl_q rfl ek_51) dX13_giveBack_40 ?_
        refine lv_iload_n hx hb dX13_giveBack_43 rfl (lv_at hl 0 rfl) ?_
        obtain ⟨g_52, hf⟩ := grd_some hf
        obtain ⟨kg_52, sg_52, ig_52⟩ := okA_at g_52
        refine va_lald hx hb hK hP k_51 2 (Wd_al kg_52 sg_52) rfl ig_52 dX13_giveBack_44 ?_
        refine lv_aload_n hx hb dX13_giveBack_45 rfl (lv_at hl 2 rfl) ?_
        obtain ⟨k_53, ek_53, hf⟩ := lnk_some hf
        refine va_get (D := (dC, dI)) (ci := 13) (v := .ref (a k_53)) (C := RX13) (T := TX13) (N := 22) hx hb hts iwd_X13_giveBack_X13 hown hK hP h0 (Wd_ob kg_1 sg_1 (by decide)) rfl 0 (by decide) (hts _ md_X13_giveBack_2) (fun _ h9 => h9) (fl_q rfl ek_53) dX13_giveBack_46 ?_
        refine lv_aload_n hx hb dX13_giveBack_49 rfl (lv_at hl 2 rfl) ?_
        refine va_get (D := (dC, dI)) (ci := 13) (v := .int (z_11.1 h0 1)) (C := RX13) (T := TX13) (N := 22) hx hb hts iwd_X13_giveBack_X13 hown hK hP h0 (Wd_ob kg_1 sg_1 (by decide)) rfl 1 (by decide) (hts _ md_X13_giveBack_3) (fun _ h9 => h9) (fl_at (t := 0) rfl) dX13_giveBack_50 ?_
        refine lv_iconst (v := 1) hx hb dX13_giveBack_53 (by decide) ?_
        refine lv_iload_n hx hb dX13_giveBack_54 rfl (lv_at hl 0 rfl) ?_
        obtain ⟨g_56, hf⟩ := grd_some hf
        obtain ⟨kg_56, sg_56⟩ := okO_at g_56
        obtain ⟨z_54, r_55, hfc, hf⟩ := cal_some hf
        have hFc := de_free hD hS hA
        refine va_calll (va_runV (As := [.int (z_11.1 h0 1), .int 1, .int p_10]) (rest := [.long (z_11.2.1 k_51 p_10.toNatClampNeg)]) ⟨hx, hb, hml, hown, hts⟩ (de_X16_listed l dC dI cy a sh n H.size F z_11 k_53 (z_11.1 h0 1) 1 p_10 hfc) (cwV 3 hts gX13_giveBack_X16_listed rfl rfl rfl (by decide +kernel) ⟨Nat.le_of_ble_eq_true rfl, Nat.le_of_ble_eq_true rfl⟩) ⟨fun a U g mk q => by obtain ⟨q0, q1, qP, qK, qD, qN⟩ := q; exact ⟨q0, q1, qP, va_K.moved (u := U) (U := U.calling g mk a) (Vm.Alike.refl U.vm) qK, qD, qN.same rfl⟩, va_recv hK hP (ci := 16) (q0 := k_53) rfl (Wd_ob kg_56 sg_56 (by decide)), fun U hU hW => ⟨rfl, by rw [hU], by rw [hU]; exact hP, va_K.moved hW.alike hK, hD.weaken (fun _ _ _ _ => trivial), hN.warm hW⟩⟩ rfl rfl hl.1 rfl (lv_room (Nat.le_of_ble_eq_true rfl)) dX13_giveBack_55 ⟨Nat.le_of_ble_eq_true rfl, Nat.le_of_ble_eq_true rfl⟩) hS (fun q _ h => hFc q h) hFc (fun rr u t H_57 locs ht hvm hw hB hz1 hk1 hS2 => ?_)
        rw [hw]
        clear hw
        obtain ⟨hP1, -, hD1⟩ := hB
        rw [ht] at hP1
        replace hD := hD1.weaken (fun _ _ _ h => hFc _ h)
        replace hP := hP1
        replace hS := hS2
        clear hP1 hD1 hS2 hFc hfc hz1 hk1 hvm ht
        refine W.lcmp hx hb dX13_giveBack_58 ?_
        refine de_cut (h := 67) (fun (x : St × Int32) => [.int x.2]) (fun x ls H locs => lv_has ls 3 [(2, .int p_10), (0, .ref (a h0))] ∧ va_P (dC, dI) vwCl (Wd cy a sh n x.1) H ∧ va_D A (Wd cy a sh n x.1) ∧ va_S A s.heap H locs) (fun x => fn_X13_giveBack_B67 F sh n p_10 (fun z9 q1 q2 => fn_X13_giveBack_L27 F sh n h0 f_12 z9 q1 q2) x.1 x.2) (z8, r8) ?_ (fun B67 => ?_)
        · intro x ls H locs hI hf
          obtain ⟨z_59, p_58⟩ := x
          obtain ⟨hl2, hP2, hD2, hS2⟩ := hI
          replace hl : lv_has ls 3 [(2, .int p_10), (0, .ref (a h0))] := hl2
          replace hP := hP2
          replace hD := hD2
          replace hS := hS2
          clear hl2 hP2 hD2 hS2
          replace hf := fn_X13_giveBack_B67_s hf
          refine W.eq (g2 := F0 m 67 ls [.int p_58]) rfl ?_
          refine lv_istore_n (lv' := [(1, .int p_58), (2, .int p_10), (0, .ref (a h0))]) hx hb dX13_giveBack_67 rfl hl (by decide) rfl (fun ls hl2 => ?_)
          replace hl := hl2
          clear hl2
          refine lv_iinc (v := (p_10 + 1)) (lv' := [(2, .int (p_10 + 1)), (1, .int p_58), (0, .ref (a h0))]) hx hb dX13_giveBack_68 hl (k := 1) rfl rfl (by decide) rfl (fun ls hl2 => ?_)
          replace hl := hl2
          clear hl2
          refine lv_goto (tgt := 27) hx hb dX13_giveBack_71 (by decide) ?_
          exact ih27 (z_59, p_58, (p_10 + 1)) ls H locs ⟨lv_sub hl [0, 1, 2] rfl, hP, hD, hS⟩ hf
        refine lv_if_ne (tgt := 66) hx hb dX13_giveBack_59 (by decide) (fun c_60 => ?_) (fun c_60 => ?_)
        · skip
          rw [lg_cmp_eq] at c_60
          rw [if_neg c_60] at hf
          refine lv_iconst (v := 0) hx hb dX13_giveBack_66 (by decide) ?_
          exact B67 (z_54, 0) ls H_57 locs ⟨lv_sub hl [0, 2] rfl, hP, hD, hS⟩ hf
        · skip
          rw [lg_cmp_eq] at c_60
          rw [if_pos c_60] at hf
          refine lv_iconst (v := 1) hx hb dX13_giveBack_62 (by decide) ?_
          refine lv_goto (tgt := 67) hx hb dX13_giveBack_63 (by decide) ?_
          exact B67 (z_54, 1) ls H_57 locs ⟨lv_sub hl [0, 2] rfl, hP, hD, hS⟩ hf
  refine lv_icmp_ne (tgt := 23) hx hb dX13_giveBack_16 (by decide) (fun c_61 => ?_) (fun c_61 => ?_)
  · skip
    rw [if_neg c_61] at hf
    refine lv_iconst (v := 0) hx hb dX13_giveBack_23 (by decide) ?_
    exact B24 (z_3, 0) ls H_6 locs ⟨lv_sub hl [0] rfl, hP, hD, hS⟩ hf
  · skip
    rw [if_pos c_61] at hf
    refine lv_iconst (v := 1) hx hb dX13_giveBack_19 (by decide) ?_
    refine lv_goto (tgt := 24) hx hb dX13_giveBack_20 (by decide) ?_
    exact B24 (z_3, 1) ls H_6 locs ⟨lv_sub hl [0] rfl, hP, hD, hS⟩ hf

theorem md_X11_takeModule_1 : (.fieldLink RX11 127 "ResourceLedger$Transaction" "bytes" "[B" : Cond) ∈ wsX11_takeModule := List.mem_of_getElem? (i := 1) rfl
theorem iwd_X11_takeModule_X8 : ∀ w ∈ wsX80, w ∈ wsX11_takeModule := fun _ h => List.mem_cons_of_mem _ (List.mem_append_left _ (List.mem_append_left _ (List.mem_append_left _ (List.mem_append_left _ (List.mem_append_left _ (List.mem_append_right _ h))))))
theorem md_X11_takeModule_2 : (.fieldLink RX11 185 "ResourceLedger$Transaction" "limit" "I" : Cond) ∈ wsX11_takeModule := List.mem_of_getElem? (i := 2) rfl
theorem md_X11_takeModule_4 : (.fieldLink RX11 22 "ResourceLedger" "state" "LResourceLedger$State;" : Cond) ∈ wsX11_takeModule := List.mem_of_getElem? (i := 4) rfl
theorem iwd_X11_takeModule_X11 : ∀ w ∈ wsX110, w ∈ wsX11_takeModule := fun _ h => List.mem_cons_of_mem _ (List.mem_append_left _ (List.mem_append_left _ (List.mem_append_left _ (List.mem_append_left _ (List.mem_append_right _ h)))))
theorem md_X11_takeModule_5 : (.fieldLink RX11 209 "ResourceLedger$State" "moduleCount" "I" : Cond) ∈ wsX11_takeModule := List.mem_of_getElem? (i := 5) rfl
theorem iwd_X11_takeModule_X7 : ∀ w ∈ wsX70, w ∈ wsX11_takeModule := fun _ h => List.mem_cons_of_mem _ (List.mem_append_left _ (List.mem_append_left _ (List.mem_append_left _ (List.mem_append_right _ h))))
theorem md_X11_takeModule_7 : (.fieldLink RX11 60 "ResourceLedger$State" "programs" "[LResourceLedger$Program;" : Cond) ∈ wsX11_takeModule := List.mem_of_getElem? (i := 7) rfl
theorem md_X11_takeModule_8 : (.fieldLink RX11 29 "ResourceLedger" "reader" "LResourceLedger$Reader;" : Cond) ∈ wsX11_takeModule := List.mem_of_getElem? (i := 8) rfl
theorem md_X11_takeModule_9 : (.fieldLink RX11 214 "ResourceLedger$Reader" "place" "I" : Cond) ∈ wsX11_takeModule := List.mem_of_getElem? (i := 9) rfl
theorem iwd_X11_takeModule_X6 : ∀ w ∈ wsX60, w ∈ wsX11_takeModule := fun _ h => List.mem_cons_of_mem _ (List.mem_append_left _ (List.mem_append_left _ (List.mem_append_right _ h)))
theorem md_X11_takeModule_10 : (.fieldLink RX11 217 "ResourceLedger$Transaction" "place" "I" : Cond) ∈ wsX11_takeModule := List.mem_of_getElem? (i := 10) rfl
theorem md_X11_takeModule_6 : (.constantLong RX11 212 (4) : Cond) ∈ wsX11_takeModule := List.mem_of_getElem? (i := 6) rfl
theorem md_X11_takeModule_11 : (.fieldLink RX11 36 "ResourceLedger" "looker" "LResourceLedger$Looker;" : Cond) ∈ wsX11_takeModule := List.mem_of_getElem? (i := 11) rfl
theorem md_X11_takeModule_12 : (.fieldLink RX11 225 "ResourceLedger$Looker" "place" "I" : Cond) ∈ wsX11_takeModule := List.mem_of_getElem? (i := 12) rfl
theorem iwd_X11_takeModule_X3 : ∀ w ∈ wsX30, w ∈ wsX11_takeModule := fun _ h => List.mem_cons_of_mem _ (List.mem_append_left _ (List.mem_append_right _ h))
theorem md_X11_takeModule_3 : (.constantLong RX11 207 (5) : Cond) ∈ wsX11_takeModule := List.mem_of_getElem? (i := 3) rfl
set_option maxHeartbeats 4000000 in
set_option maxRecDepth 100000 in
theorem de_X11_takeModule (l : Launch) (dC : Nat → ClassId) (dI : Nat → Nat → Nat) (cy : Nat → ClassId) (a : Nat → Nat) (sh : Nat → Nat × Nat) (n sz : Nat) (F : Nat) (sk : Nat → Nat) (z : St) (h0 : Nat) (x0 : Nat) {z8 : St} {r8 : Unit} (hf : fn_X11_takeModule F sh n z h0 x0 = some (z8, r8)) : Met l yX11_takeModule wsX11_takeModule ({ frames := 6, cells := 0, slots := 0, locals := 153 }) (va_Pc [.ref (a h0), .ref (a x0)] (fun U => U.heap.size = sz ∧ va_P (dC, dI) vwCl (Wd cy a sh n z) U.heap ∧ va_K (dC, dI) vwCl (TYS cy) U ∧ va_D (fun _ => True) (Wd cy a sh n z) ∧ NK U ∧ SKs sk (a CBK) (va_A (Wd cy a sh n z) sz) U U.heap)) (va_Qv (fun u : Unit => True) (fun u t => va_P (dC, dI) vwCl (Wd cy a sh n z8) t.heap ∧ va_K (dC, dI) vwCl (TYS cy) t ∧ va_D (va_A (Wd cy a sh n z) sz) (Wd cy a sh n z8)) (va_A (Wd cy a sh n z) sz)) 0 0 (va_A (Wd cy a sh n z) sz) := by
  refine Met.ofW (cc := cX11_takeModule) (maxL := 5) (ret := none) (by decide) rfl ?_
  intro p e s m args below meth c s₁ B hml hv
  obtain ⟨rfl, hsz, hP, hK, hD0, hN, hSK⟩ := hv
  have hx := B.exec
  have hb := B.bytes
  have hr := B.returns
  have hts := atoms_spec (ws := wsX11_takeModule) B.pre
  have hown : s.vm.findClass RX11 = some m.cls := findClass_of_methodNamed B.named
  have hlocks := B.notSynchronized
  subst hsz
  have hD := hD0.self (sz := s.heap.size)
  clear hD0
  generalize hAe : va_A (Wd cy a sh n z) s.heap.size = A at hD hSK ⊢
  have hA : ∀ q : Nat, s.heap.size ≤ q → A q := fun q h => by rw [← hAe]; exact Or.inr h
  clear hAe
  have hS : va_S A s.heap s.heap [] := va_S.rf
  have hl := lv_entry ([.ref (a h0), .ref (a x0)]) (n := 5) (Nat.le_of_ble_eq_true rfl)
  rw [lg_entry_eq]
  generalize (lg_sl ([.ref (a h0), .ref (a x0)]) ++ List.replicate (5 - (lg_sl ([.ref (a h0), .ref (a x0)])).length) Slot.unset).toArray = ls at hl ⊢
  replace hl : lv_has ls 5 [(0, .ref (a h0)), (1, .ref (a x0))] := hl
  unfold fn_X11_takeModule at hf
  refine de_start hS hP (fun H locs hS hP => ?_)
  refine lv_bipush (v := 10) hx hb dX11_takeModule_0 (by decide) ?_
  refine lv_aload_n hx hb dX11_takeModule_2 rfl (lv_at hl 1 rfl) ?_
  obtain ⟨g_1, hf⟩ := grd_some hf
  obtain ⟨kg_1, sg_1⟩ := okO_at g_1
  obtain ⟨k_2, ek_2, hf⟩ := lnk_some hf
  refine va_get (D := (dC, dI)) (ci := 8) (v := .ref (a k_2)) (C := RX8) (T := TX8) (N := 19) hx hb hts iwd_X11_takeModule_X8 hown hK hP x0 (Wd_ob kg_1 sg_1 (by decide)) rfl 6 (by decide) (hts _ md_X11_takeModule_1) (fun _ h9 => h9) (fl_q rfl ek_2) dX11_takeModule_3 ?_
  obtain ⟨g_3, hf⟩ := grd_some hf
  obtain ⟨kg_3, sg_3⟩ := okO_at g_3
  refine va_alen (v := Int32.ofNat (sh k_2).2) hx hb hK hP k_2 0 (Wd_ab kg_3 sg_3) rfl rfl dX11_takeModule_6 ?_
  refine lv_bipush (v := 15) hx hb dX11_takeModule_7 (by decide) ?_
  refine lv_iadd hx hb dX11_takeModule_9 ?_
  refine lv_bipush (v := 16) hx hb dX11_takeModule_10 (by decide) ?_
  refine lv_idiv hx hb dX11_takeModule_12 (by decide) ?_
  refine lv_iadd hx hb dX11_takeModule_13 ?_
  refine lv_topi (fun v_4 ev_4 => ?_)
  replace hf := lt_at ev_4 hf
  clear ev_4
  refine lv_istore_n (lv' := [(2, .int v_4), (0, .ref (a h0)), (1, .ref (a x0))]) hx hb dX11_takeModule_14 rfl hl (by decide) rfl (fun ls hl2 => ?_)
  replace hl := hl2
  clear hl2
  refine lv_iload_n hx hb dX11_takeModule_15 rfl (lv_at hl 0 rfl) ?_
  refine lv_aload_n hx hb dX11_takeModule_16 rfl (lv_at hl 2 rfl) ?_
  refine va_get (D := (dC, dI)) (ci := 8) (v := .int (z.1 x0 3)) (C := RX8) (T := TX8) (N := 19) hx hb hts iwd_X11_takeModule_X8 hown hK hP x0 (Wd_ob kg_1 sg_1 (by decide)) rfl 3 (by decide) (hts _ md_X11_takeModule_2) (fun _ h9 => h9) (fl_at (t := 0) rfl) dX11_takeModule_17 ?_
  refine lv_icmp_le (tgt := 36) hx hb dX11_takeModule_20 (by decide) (fun c_5 => ?_) (fun c_5 => ?_)
  · skip
    rw [if_pos c_5] at hf
    refine lv_aload_n hx hb dX11_takeModule_36 rfl (lv_at hl 1 rfl) ?_
    obtain ⟨g_6, hf⟩ := grd_some hf
    obtain ⟨kg_6, sg_6⟩ := okO_at g_6
    obtain ⟨k_7, ek_7, hf⟩ := lnk_some hf
    refine va_get (D := (dC, dI)) (ci := 11) (v := .ref (a k_7)) (C := RX11) (T := TX11) (N := 13) hx hb hts iwd_X11_takeModule_X11 hown hK hP h0 (Wd_ob kg_6 sg_6 (by decide)) rfl 6 (by decide) (hts _ md_X11_takeModule_4) (fun _ h9 => h9) (fl_q rfl ek_7) dX11_takeModule_37 ?_
    obtain ⟨g_8, hf⟩ := grd_some hf
    obtain ⟨kg_8, sg_8⟩ := okO_at g_8
    refine va_get (D := (dC, dI)) (ci := 7) (v := .int (z.1 k_7 5)) (C := RX7) (T := TX7) (N := 16) hx hb hts iwd_X11_takeModule_X7 hown hK hP k_7 (Wd_ob kg_8 sg_8 (by decide)) rfl 5 (by decide) (hts _ md_X11_takeModule_5) (fun _ h9 => h9) (fl_at (t := 0) rfl) dX11_takeModule_40 ?_
    refine lv_bipush (v := 8) hx hb dX11_takeModule_43 (by decide) ?_
    refine lv_icmp_lt (tgt := 58) hx hb dX11_takeModule_45 (by decide) (fun c_9 => ?_) (fun c_9 => ?_)
    · skip
      rw [if_pos c_9] at hf
      refine lv_aload_n hx hb dX11_takeModule_58 rfl (lv_at hl 1 rfl) ?_
      obtain ⟨k_10, ek_10, hf⟩ := lnk_some hf
      refine va_get (D := (dC, dI)) (ci := 11) (v := .ref (a k_10)) (C := RX11) (T := TX11) (N := 13) hx hb hts iwd_X11_takeModule_X11 hown hK hP h0 (Wd_ob kg_6 sg_6 (by decide)) rfl 6 (by decide) (hts _ md_X11_takeModule_4) (fun _ h9 => h9) (fl_q rfl ek_10) dX11_takeModule_59 ?_
      obtain ⟨g_11, hf⟩ := grd_some hf
      obtain ⟨kg_11, sg_11⟩ := okO_at g_11
      obtain ⟨k_12, ek_12, hf⟩ := lnk_some hf
      refine va_get (D := (dC, dI)) (ci := 7) (v := .ref (a k_12)) (C := RX7) (T := TX7) (N := 16) hx hb hts iwd_X11_takeModule_X7 hown hK hP k_10 (Wd_ob kg_11 sg_11 (by decide)) rfl 4 (by decide) (hts _ md_X11_takeModule_7) (fun _ h9 => h9) (fl_q rfl ek_12) dX11_takeModule_62 ?_
      refine lv_aload_n hx hb dX11_takeModule_65 rfl (lv_at hl 1 rfl) ?_
      obtain ⟨k_13, ek_13, hf⟩ := lnk_some hf
      refine va_get (D := (dC, dI)) (ci := 11) (v := .ref (a k_13)) (C := RX11) (T := TX11) (N := 13) hx hb hts iwd_X11_takeModule_X11 hown hK hP h0 (Wd_ob kg_6 sg_6 (by decide)) rfl 6 (by decide) (hts _ md_X11_takeModule_4) (fun _ h9 => h9) (fl_q rfl ek_13) dX11_takeModule_66 ?_
      obtain ⟨g_14, hf⟩ := grd_some hf
      obtain ⟨kg_14, sg_14⟩ := okO_at g_14
      refine va_get (D := (dC, dI)) (ci := 7) (v := .int (z.1 k_13 5)) (C := RX7) (T := TX7) (N := 16) hx hb hts iwd_X11_takeModule_X7 hown hK hP k_13 (Wd_ob kg_14 sg_14 (by decide)) rfl 5 (by decide) (hts _ md_X11_takeModule_5) (fun _ h9 => h9) (fl_at (t := 0) rfl) dX11_takeModule_69 ?_
      refine lv_iconst (v := 1) hx hb dX11_takeModule_72 (by decide) ?_
      refine lv_iadd hx hb dX11_takeModule_73 ?_
      obtain ⟨g_15, hf⟩ := grd_some hf
      obtain ⟨kg_15, sg_15, ig_15⟩ := okA_at g_15
      obtain ⟨k_16, ek_16, hf⟩ := lnk_some hf
      refine va_aldq (C := RX5) hx hb hK hP k_12 4 (Wd_aq kg_15 sg_15 (by decide)) rfl ig_15 dX11_takeModule_74 ?_
      refine W.eq (g2 := F0 m 75 ls [.ref (a k_16)]) (by rw [ek_16]; rfl) ?_
      refine lv_astore_n (lv' := [(3, .ref (a k_16)), (2, .int v_4), (0, .ref (a h0)), (1, .ref (a x0))]) hx hb dX11_takeModule_75 rfl hl (by decide) rfl (fun ls hl2 => ?_)
      replace hl := hl2
      clear hl2
      refine lv_aload_n hx hb dX11_takeModule_76 rfl (lv_at hl 0 rfl) ?_
      refine lv_aload_n hx hb dX11_takeModule_77 rfl (lv_at hl 3 rfl) ?_
      obtain ⟨k_17, ek_17, hf⟩ := lnk_some hf
      refine va_get (D := (dC, dI)) (ci := 8) (v := .ref (a k_17)) (C := RX8) (T := TX8) (N := 19) hx hb hts iwd_X11_takeModule_X8 hown hK hP x0 (Wd_ob kg_1 sg_1 (by decide)) rfl 6 (by decide) (hts _ md_X11_takeModule_1) (fun _ h9 => h9) (fl_q rfl ek_17) dX11_takeModule_78 ?_
      obtain ⟨g_19, hf⟩ := grd_some hf
      obtain ⟨kg_19, sg_19⟩ := okO_at g_19
      obtain ⟨z_18, _u, hfc, hf⟩ := cal_some hf
      have hFc := de_free hD hS hA
      refine va_callv (va_runV (As := [.ref (a k_17)]) (rest := []) ⟨hx, hb, hml, hown, hts⟩ (de_X5_lay l dC dI cy a sh n H.size F sk z k_16 k_17 hfc) (cwV 1 hts gX11_takeModule_X5_lay rfl rfl rfl (by decide +kernel) ⟨Nat.le_of_ble_eq_true rfl, Nat.le_of_ble_eq_true rfl⟩) ⟨fun a U g mk q => by obtain ⟨q0, q1, qP, qK, qD, qN, qS⟩ := q; exact ⟨q0, q1, qP, va_K.moved (u := U) (U := U.calling g mk a) (Vm.Alike.refl U.vm) qK, qD, qN.same rfl, SKs.moved (u := U) (U := U.calling g mk a) (Vm.Alike.refl U.vm) qS⟩, va_recv hK hP (ci := 5) (q0 := k_16) rfl (Wd_ob kg_19 sg_19 (by decide)), fun U hU hW => ⟨rfl, by rw [hU], by rw [hU]; exact hP, va_K.moved hW.alike hK, hD.weaken (fun _ _ _ _ => trivial), hN.warm hW, by rw [hU]; exact ((hSK.kept hS.2.1).narrow hFc).moved hW.alike⟩⟩ rfl rfl hl.1 rfl (lv_room (Nat.le_of_ble_eq_true rfl)) dX11_takeModule_81 ⟨Nat.le_of_ble_eq_true rfl, Nat.le_of_ble_eq_true rfl⟩) hS (fun q _ h => hFc q h) hFc (fun u t H_20 locs ht hvm hw hB hz1 hk1 hS2 => ?_)
      obtain ⟨hP1, -, hD1⟩ := hB
      rw [ht] at hP1
      replace hD := hD1.weaken (fun _ _ _ h => hFc _ h)
      replace hP := hP1
      replace hS := hS2
      clear hP1 hD1 hS2 hFc hfc hz1 hk1 hvm ht
      refine lv_aload_n hx hb dX11_takeModule_84 rfl (lv_at hl 2 rfl) ?_
      obtain ⟨k_21, ek_21, hf⟩ := lnk_some hf
      refine va_get (D := (dC, dI)) (ci := 11) (v := .ref (a k_21)) (C := RX11) (T := TX11) (N := 13) hx hb hts iwd_X11_takeModule_X11 hown hK hP h0 (Wd_ob kg_6 sg_6 (by decide)) rfl 7 (by decide) (hts _ md_X11_takeModule_8) (fun _ h9 => h9) (fl_q rfl ek_21) dX11_takeModule_85 ?_
      refine lv_aload_n hx hb dX11_takeModule_88 rfl (lv_at hl 0 rfl) ?_
      obtain ⟨g_24, hf⟩ := grd_some hf
      obtain ⟨kg_24, sg_24⟩ := okO_at g_24
      obtain ⟨z_22, r_23, hfc, hf⟩ := cal_some hf
      have hFc := de_free hD hS hA
      refine va_calli (va_runV (As := [.ref (a k_16)]) (rest := []) ⟨hx, hb, hml, hown, hts⟩ (de_X6_read l dC dI cy a sh n H_20.size F sk z_18 k_21 k_16 hfc) (cwV 1 hts gX11_takeModule_X6_read rfl rfl rfl (by decide +kernel) ⟨Nat.le_of_ble_eq_true rfl, Nat.le_of_ble_eq_true rfl⟩) ⟨fun a U g mk q => by obtain ⟨q0, q1, qP, qK, qD, qN, qS⟩ := q; exact ⟨q0, q1, qP, va_K.moved (u := U) (U := U.calling g mk a) (Vm.Alike.refl U.vm) qK, qD, qN.same rfl, SKs.moved (u := U) (U := U.calling g mk a) (Vm.Alike.refl U.vm) qS⟩, va_recv hK hP (ci := 6) (q0 := k_21) rfl (Wd_ob kg_24 sg_24 (by decide)), fun U hU hW => ⟨rfl, by rw [hU], by rw [hU]; exact hP, va_K.moved hW.alike hK, hD.weaken (fun _ _ _ _ => trivial), hN.warm hW, by rw [hU]; exact ((hSK.kept hS.2.1).narrow hFc).moved hW.alike⟩⟩ rfl rfl hl.1 rfl (lv_room (Nat.le_of_ble_eq_true rfl)) dX11_takeModule_89 ⟨Nat.le_of_ble_eq_true rfl, Nat.le_of_ble_eq_true rfl⟩) hS (fun q _ h => hFc q h) hFc (fun rr u t H_25 locs ht hvm hw hB hz1 hk1 hS2 => ?_)
      rw [hw]
      clear hw
      obtain ⟨hP1, -, hD1⟩ := hB
      rw [ht] at hP1
      replace hD := hD1.weaken (fun _ _ _ h => hFc _ h)
      replace hP := hP1
      replace hS := hS2
      clear hP1 hD1 hS2 hFc hfc hz1 hk1 hvm ht
      refine lv_istore (lv' := [(4, .int r_23), (3, .ref (a k_16)), (2, .int v_4), (0, .ref (a h0)), (1, .ref (a x0))]) hx hb dX11_takeModule_92 hl (by decide) rfl (fun ls hl2 => ?_)
      replace hl := hl2
      clear hl2
      refine lv_aload_n hx hb dX11_takeModule_94 rfl (lv_at hl 4 rfl) ?_
      refine lv_aload_n hx hb dX11_takeModule_95 rfl (lv_at hl 3 rfl) ?_
      obtain ⟨k_26, ek_26, hf⟩ := lnk_some hf
      refine va_get (D := (dC, dI)) (ci := 11) (v := .ref (a k_26)) (C := RX11) (T := TX11) (N := 13) hx hb hts iwd_X11_takeModule_X11 hown hK hP h0 (Wd_ob kg_6 sg_6 (by decide)) rfl 7 (by decide) (hts _ md_X11_takeModule_8) (fun _ h9 => h9) (fl_q rfl ek_26) dX11_takeModule_96 ?_
      obtain ⟨g_27, hf⟩ := grd_some hf
      obtain ⟨kg_27, sg_27⟩ := okO_at g_27
      refine va_get (D := (dC, dI)) (ci := 6) (v := .int (z_22.1 k_26 0)) (C := RX6) (T := TX6) (N := 9) hx hb hts iwd_X11_takeModule_X6 hown hK hP k_26 (Wd_ob kg_27 sg_27 (by decide)) rfl 0 (by decide) (hts _ md_X11_takeModule_9) (fun _ h9 => h9) (fl_at (t := 0) rfl) dX11_takeModule_99 ?_
      refine va_put (D := (dC, dI)) (ci := 8) (v := .int (z_22.1 k_26 0)) (ty := .int) (C := RX8) (T := TX8) (N := 19) hx hb hts iwd_X11_takeModule_X8 tyX8 tyX8_ok nmX8 hown hK hP hD hS x0 (Wd_ob kg_1 sg_1 (by decide)) rfl 14 (by decide) (hts _ md_X11_takeModule_10) (fun _ h9 => h9) rfl (by decide +kernel) rfl rfl (by rw [fl_len]; decide) dX11_takeModule_102 (fun H_28 locs hP2 hD2 hS2 => ?_)
      rw [Wd_si sg_1 (by decide) rfl] at hP2 hD2
      obtain ⟨z_29, ez_29⟩ : ∃ w, w = si z_22 x0 14 (z_22.1 k_26 0) := ⟨_, rfl⟩
      rw [← ez_29] at hP2 hD2
      replace hf := lt_at ez_29 hf
      clear ez_29
      replace hP := hP2
      replace hD := hD2
      replace hS := hS2
      clear hP2 hD2 hS2
      refine lv_iload hx hb dX11_takeModule_105 (lv_at hl 0 rfl) ?_
      refine de_cut (h := 118) (fun (x : St × Int32) => []) (fun x ls H locs => lv_has ls 5 [(4, .int x.2), (3, .ref (a k_16)), (2, .int v_4), (0, .ref (a h0)), (1, .ref (a x0))] ∧ va_P (dC, dI) vwCl (Wd cy a sh n x.1) H ∧ va_D A (Wd cy a sh n x.1) ∧ va_S A s.heap H locs) (fun x => fn_X11_takeModule_B118 F sh n h0 k_16 x0 v_4 x.1 x.2) (z8, r8) ?_ (fun B118 => ?_)
      · intro x ls H locs hI hf
        obtain ⟨z_31, p_30⟩ := x
        obtain ⟨hl2, hP2, hD2, hS2⟩ := hI
        replace hl : lv_has ls 5 [(4, .int p_30), (3, .ref (a k_16)), (2, .int v_4), (0, .ref (a h0)), (1, .ref (a x0))] := hl2
        replace hP := hP2
        replace hD := hD2
        replace hS := hS2
        clear hl2 hP2 hD2 hS2
        replace hf := fn_X11_takeModule_B118_s hf
        refine W.eq (g2 := F0 m 118 ls []) rfl ?_
        refine lv_iload hx hb dX11_takeModule_118 (lv_at hl 0 rfl) ?_
        refine de_cut (h := 144) (fun (x : St × Int32) => []) (fun x ls H locs => lv_has ls 5 [(4, .int x.2), (2, .int v_4), (0, .ref (a h0)), (1, .ref (a x0))] ∧ va_P (dC, dI) vwCl (Wd cy a sh n x.1) H ∧ va_D A (Wd cy a sh n x.1) ∧ va_S A s.heap H locs) (fun x => fn_X11_takeModule_B144 F sh n h0 x0 v_4 x.1 x.2) (z8, r8) ?_ (fun B144 => ?_)
        · intro x ls H locs hI hf
          obtain ⟨z_33, p_32⟩ := x
          obtain ⟨hl2, hP2, hD2, hS2⟩ := hI
          replace hl : lv_has ls 5 [(4, .int p_32), (2, .int v_4), (0, .ref (a h0)), (1, .ref (a x0))] := hl2
          replace hP := hP2
          replace hD := hD2
          replace hS := hS2
          clear hl2 hP2 hD2 hS2
          replace hf := fn_X11_takeModule_B144_s hf
          refine W.eq (g2 := F0 m 144 ls []) rfl ?_
          refine lv_iload hx hb dX11_takeModule_144 (lv_at hl 0 rfl) ?_
          refine lv_if_eq (tgt := 161) hx hb dX11_takeModule_146 (by decide) (fun c_34 => ?_) (fun c_34 => ?_)
          · skip
            rw [if_pos c_34] at hf
            refine lv_aload_n hx hb dX11_takeModule_161 rfl (lv_at hl 2 rfl) ?_
            obtain ⟨k_35, ek_35, hf⟩ := lnk_some hf
            refine va_get (D := (dC, dI)) (ci := 11) (v := .ref (a k_35)) (C := RX11) (T := TX11) (N := 13) hx hb hts iwd_X11_takeModule_X11 hown hK hP h0 (Wd_ob kg_6 sg_6 (by decide)) rfl 6 (by decide) (hts _ md_X11_takeModule_4) (fun _ h9 => h9) (fl_q rfl ek_35) dX11_takeModule_162 ?_
            obtain ⟨g_38, hf⟩ := grd_some hf
            obtain ⟨kg_38, sg_38⟩ := okO_at g_38
            obtain ⟨z_36, r_37, hfc, hf⟩ := cal_some hf
            have hFc := de_free hD hS hA
            refine va_calli (va_runV (As := []) (rest := []) ⟨hx, hb, hml, hown, hts⟩ (de_X7_placeCount l dC dI cy a sh n H.size F z_33 k_35 hfc) (cwV 0 hts gX11_takeModule_X7_placeCount rfl rfl rfl (by decide +kernel) ⟨Nat.le_of_ble_eq_true rfl, Nat.le_of_ble_eq_true rfl⟩) ⟨fun a U g mk q => by obtain ⟨q0, q1, qP, qK, qD, qN⟩ := q; exact ⟨q0, q1, qP, va_K.moved (u := U) (U := U.calling g mk a) (Vm.Alike.refl U.vm) qK, qD, qN.same rfl⟩, va_recv hK hP (ci := 7) (q0 := k_35) rfl (Wd_ob kg_38 sg_38 (by decide)), fun U hU hW => ⟨rfl, by rw [hU], by rw [hU]; exact hP, va_K.moved hW.alike hK, hD.weaken (fun _ _ _ _ => trivial), hN.warm hW⟩⟩ rfl rfl hl.1 rfl (lv_room (Nat.le_of_ble_eq_true rfl)) dX11_takeModule_165 ⟨Nat.le_of_ble_eq_true rfl, Nat.le_of_ble_eq_true rfl⟩) hS (fun q _ h => hFc q h) hFc (fun rr u t H_39 locs ht hvm hw hB hz1 hk1 hS2 => ?_)
            rw [hw]
            clear hw
            obtain ⟨hP1, -, hD1⟩ := hB
            rw [ht] at hP1
            replace hD := hD1.weaken (fun _ _ _ h => hFc _ h)
            replace hP := hP1
            replace hS := hS2
            clear hP1 hD1 hS2 hFc hfc hz1 hk1 hvm ht
            refine lv_sipush (v := 256) hx hb dX11_takeModule_168 (by decide) ?_
            refine lv_icmp_lt (tgt := 186) hx hb dX11_takeModule_171 (by decide) (fun c_40 => ?_) (fun c_40 => ?_)
            · skip
              rw [if_pos c_40] at hf
              refine lv_aload_n hx hb dX11_takeModule_186 rfl (lv_at hl 2 rfl) ?_
              obtain ⟨k_41, ek_41, hf⟩ := lnk_some hf
              refine va_get (D := (dC, dI)) (ci := 11) (v := .ref (a k_41)) (C := RX11) (T := TX11) (N := 13) hx hb hts iwd_X11_takeModule_X11 hown hK hP h0 (Wd_ob kg_6 sg_6 (by decide)) rfl 6 (by decide) (hts _ md_X11_takeModule_4) (fun _ h9 => h9) (fl_q rfl ek_41) dX11_takeModule_187 ?_
              refine lv_dup hx hb dX11_takeModule_190 rfl ?_
              obtain ⟨g_42, hf⟩ := grd_some hf
              obtain ⟨kg_42, sg_42⟩ := okO_at g_42
              refine va_get (D := (dC, dI)) (ci := 7) (v := .int (z_36.1 k_41 5)) (C := RX7) (T := TX7) (N := 16) hx hb hts iwd_X11_takeModule_X7 hown hK hP k_41 (Wd_ob kg_42 sg_42 (by decide)) rfl 5 (by decide) (hts _ md_X11_takeModule_5) (fun _ h9 => h9) (fl_at (t := 0) rfl) dX11_takeModule_191 ?_
              refine lv_iconst (v := 1) hx hb dX11_takeModule_194 (by decide) ?_
              refine lv_iadd hx hb dX11_takeModule_195 ?_
              refine va_put (D := (dC, dI)) (ci := 7) (v := .int ((z_36.1 k_41 5) + 1)) (ty := .int) (C := RX7) (T := TX7) (N := 16) hx hb hts iwd_X11_takeModule_X7 tyX7 tyX7_ok nmX7 hown hK hP hD hS k_41 (Wd_ob kg_42 sg_42 (by decide)) rfl 5 (by decide) (hts _ md_X11_takeModule_5) (fun _ h9 => h9) rfl (by decide +kernel) rfl rfl (by rw [fl_len]; decide) dX11_takeModule_196 (fun H_43 locs hP2 hD2 hS2 => ?_)
              rw [Wd_si sg_42 (by decide) rfl] at hP2 hD2
              obtain ⟨z_44, ez_44⟩ : ∃ w, w = si z_36 k_41 5 ((z_36.1 k_41 5) + 1) := ⟨_, rfl⟩
              rw [← ez_44] at hP2 hD2
              replace hf := lt_at ez_44 hf
              clear ez_44
              replace hP := hP2
              replace hD := hD2
              replace hS := hS2
              clear hP2 hD2 hS2
              refine lv_aload_n hx hb dX11_takeModule_199 rfl (lv_at hl 3 rfl) ?_
              refine lv_iconst (v := 0) hx hb dX11_takeModule_200 (by decide) ?_
              refine lv_lconst (v := 0) hx hb dX11_takeModule_201 (by decide) ?_
              refine lv_iload_n hx hb dX11_takeModule_202 rfl (lv_at hl 1 rfl) ?_
              obtain ⟨z_45, _u, hfc, hf⟩ := cal_some hf
              have hFc := de_free hD hS hA
              refine va_callv (va_runV (As := [.int 0, .long 0, .int v_4]) (rest := []) ⟨hx, hb, hml, hown, hts⟩ (de_X8_end l dC dI cy a sh n H_43.size F z_44 x0 0 0 v_4 hfc) (cwV 3 hts gX11_takeModule_X8_end rfl rfl rfl (by decide +kernel) ⟨Nat.le_of_ble_eq_true rfl, Nat.le_of_ble_eq_true rfl⟩) ⟨fun a U g mk q => by obtain ⟨q0, q1, qP, qK, qD, qN⟩ := q; exact ⟨q0, q1, qP, va_K.moved (u := U) (U := U.calling g mk a) (Vm.Alike.refl U.vm) qK, qD, qN.same rfl⟩, va_recv hK hP (ci := 8) (q0 := x0) rfl (Wd_ob kg_1 sg_1 (by decide)), fun U hU hW => ⟨rfl, by rw [hU], by rw [hU]; exact hP, va_K.moved hW.alike hK, hD.weaken (fun _ _ _ _ => trivial), hN.warm hW⟩⟩ rfl rfl hl.1 rfl (lv_room (Nat.le_of_ble_eq_true rfl)) dX11_takeModule_203 ⟨Nat.le_of_ble_eq_true rfl, Nat.le_of_ble_eq_true rfl⟩) hS (fun q _ h => hFc q h) hFc (fun u t H_46 locs ht hvm hw hB hz1 hk1 hS2 => ?_)
              obtain ⟨hP1, -, hD1⟩ := hB
              rw [ht] at hP1
              replace hD := hD1.weaken (fun _ _ _ h => hFc _ h)
              replace hP := hP1
              replace hS := hS2
              clear hP1 hD1 hS2 hFc hfc hz1 hk1 hvm ht
              obtain ⟨h8, h9⟩ := ret_some hf
              rw [h8]
              exact W.vret hx hb hr (fun t ht hW => ⟨⟨(), rfl, trivial, by rw [ht]; exact hP, va_K.moved hW.alike hK, hD⟩, hS.F ht⟩) hS.2.2 dX11_takeModule_206
            · skip
              rw [if_neg c_40] at hf
              refine lv_aload_n hx hb dX11_takeModule_174 rfl (lv_at hl 3 rfl) ?_
              refine lv_iconst (v := 2) hx hb dX11_takeModule_175 (by decide) ?_
              refine lv_ldc2 hx hb hown (hts _ md_X11_takeModule_6) dX11_takeModule_176 ?_
              refine lv_iload_n hx hb dX11_takeModule_179 rfl (lv_at hl 1 rfl) ?_
              obtain ⟨z_47, _u, hfc, hf⟩ := cal_some hf
              have hFc := de_free hD hS hA
              refine va_callv (va_runV (As := [.int 2, .long 4, .int v_4]) (rest := []) ⟨hx, hb, hml, hown, hts⟩ (de_X8_end l dC dI cy a sh n H_39.size F z_36 x0 2 4 v_4 hfc) (cwV 3 hts gX11_takeModule_X8_end rfl rfl rfl (by decide +kernel) ⟨Nat.le_of_ble_eq_true rfl, Nat.le_of_ble_eq_true rfl⟩) ⟨fun a U g mk q => by obtain ⟨q0, q1, qP, qK, qD, qN⟩ := q; exact ⟨q0, q1, qP, va_K.moved (u := U) (U := U.calling g mk a) (Vm.Alike.refl U.vm) qK, qD, qN.same rfl⟩, va_recv hK hP (ci := 8) (q0 := x0) rfl (Wd_ob kg_1 sg_1 (by decide)), fun U hU hW => ⟨rfl, by rw [hU], by rw [hU]; exact hP, va_K.moved hW.alike hK, hD.weaken (fun _ _ _ _ => trivial), hN.warm hW⟩⟩ rfl rfl hl.1 rfl (lv_room (Nat.le_of_ble_eq_true rfl)) dX11_takeModule_180 ⟨Nat.le_of_ble_eq_true rfl, Nat.le_of_ble_eq_true rfl⟩) hS (fun q _ h => hFc q h) hFc (fun u t H_48 locs ht hvm hw hB hz1 hk1 hS2 => ?_)
              obtain ⟨hP1, -, hD1⟩ := hB
              rw [ht] at hP1
              replace hD := hD1.weaken (fun _ _ _ h => hFc _ h)
              replace hP := hP1
              replace hS := hS2
              clear hP1 hD1 hS2 hFc hfc hz1 hk1 hvm ht
              refine lv_goto (tgt := 206) hx hb dX11_takeModule_183 (by decide) ?_
              obtain ⟨h8, h9⟩ := ret_some hf
              rw [h8]
              exact W.vret hx hb hr (fun t ht hW => ⟨⟨(), rfl, trivial, by rw [ht]; exact hP, va_K.moved hW.alike hK, hD⟩, hS.F ht⟩) hS.2.2 dX11_takeModule_206
          · skip
            rw [if_neg c_34] at hf
            refine lv_aload_n hx hb dX11_takeModule_149 rfl (lv_at hl 3 rfl) ?_
            refine lv_iconst (v := 4) hx hb dX11_takeModule_150 (by decide) ?_
            refine lv_iload hx hb dX11_takeModule_151 (lv_at hl 0 rfl) ?_
            refine lv_i2l (v := (p_32 : Int32).toInt64) hx hb dX11_takeModule_153 rfl ?_
            refine lv_iload_n hx hb dX11_takeModule_154 rfl (lv_at hl 1 rfl) ?_
            obtain ⟨z_49, _u, hfc, hf⟩ := cal_some hf
            have hFc := de_free hD hS hA
            refine va_callv (va_runV (As := [.int 4, .long ((p_32 : Int32).toInt64), .int v_4]) (rest := []) ⟨hx, hb, hml, hown, hts⟩ (de_X8_end l dC dI cy a sh n H.size F z_33 x0 4 ((p_32 : Int32).toInt64) v_4 hfc) (cwV 3 hts gX11_takeModule_X8_end rfl rfl rfl (by decide +kernel) ⟨Nat.le_of_ble_eq_true rfl, Nat.le_of_ble_eq_true rfl⟩) ⟨fun a U g mk q => by obtain ⟨q0, q1, qP, qK, qD, qN⟩ := q; exact ⟨q0, q1, qP, va_K.moved (u := U) (U := U.calling g mk a) (Vm.Alike.refl U.vm) qK, qD, qN.same rfl⟩, va_recv hK hP (ci := 8) (q0 := x0) rfl (Wd_ob kg_1 sg_1 (by decide)), fun U hU hW => ⟨rfl, by rw [hU], by rw [hU]; exact hP, va_K.moved hW.alike hK, hD.weaken (fun _ _ _ _ => trivial), hN.warm hW⟩⟩ rfl rfl hl.1 rfl (lv_room (Nat.le_of_ble_eq_true rfl)) dX11_takeModule_155 ⟨Nat.le_of_ble_eq_true rfl, Nat.le_of_ble_eq_true rfl⟩) hS (fun q _ h => hFc q h) hFc (fun u t H_50 locs ht hvm hw hB hz1 hk1 hS2 => ?_)
            obtain ⟨hP1, -, hD1⟩ := hB
            rw [ht] at hP1
            replace hD := hD1.weaken (fun _ _ _ h => hFc _ h)
            replace hP := hP1
            replace hS := hS2
            clear hP1 hD1 hS2 hFc hfc hz1 hk1 hvm ht
            refine lv_goto (tgt := 206) hx hb dX11_takeModule_158 (by decide) ?_
            obtain ⟨h8, h9⟩ := ret_some hf
            rw [h8]
            exact W.vret hx hb hr (fun t ht hW => ⟨⟨(), rfl, trivial, by rw [ht]; exact hP, va_K.moved hW.alike hK, hD⟩, hS.F ht⟩) hS.2.2 dX11_takeModule_206
        refine lv_if_ne (tgt := 144) hx hb dX11_takeModule_120 (by decide) (fun c_51 => ?_) (fun c_51 => ?_)
        · skip
          rw [if_neg c_51] at hf
          exact B144 (z_31, p_30) ls H locs ⟨lv_sub hl [0, 2, 3, 4] rfl, hP, hD, hS⟩ hf
        · skip
          rw [if_pos c_51] at hf
          refine lv_aload_n hx hb dX11_takeModule_123 rfl (lv_at hl 3 rfl) ?_
          obtain ⟨k_52, ek_52, hf⟩ := lnk_some hf
          refine va_get (D := (dC, dI)) (ci := 11) (v := .ref (a k_52)) (C := RX11) (T := TX11) (N := 13) hx hb hts iwd_X11_takeModule_X11 hown hK hP h0 (Wd_ob kg_6 sg_6 (by decide)) rfl 8 (by decide) (hts _ md_X11_takeModule_11) (fun _ h9 => h9) (fl_q rfl ek_52) dX11_takeModule_124 ?_
          refine lv_aload_n hx hb dX11_takeModule_127 rfl (lv_at hl 1 rfl) ?_
          obtain ⟨g_55, hf⟩ := grd_some hf
          obtain ⟨kg_55, sg_55⟩ := okO_at g_55
          obtain ⟨z_53, r_54, hfc, hf⟩ := cal_some hf
          have hFc := de_free hD hS hA
          refine va_calli (va_runV (As := [.ref (a k_16)]) (rest := []) ⟨hx, hb, hml, hown, hts⟩ (de_X3_look l dC dI cy a sh n H.size F sk z_31 k_52 k_16 hfc) (cwV 1 hts gX11_takeModule_X3_look rfl rfl rfl (by decide +kernel) ⟨Nat.le_of_ble_eq_true rfl, Nat.le_of_ble_eq_true rfl⟩) ⟨fun a U g mk q => by obtain ⟨q0, q1, qP, qK, qD, qN, qS⟩ := q; exact ⟨q0, q1, qP, va_K.moved (u := U) (U := U.calling g mk a) (Vm.Alike.refl U.vm) qK, qD, qN.same rfl, SKs.moved (u := U) (U := U.calling g mk a) (Vm.Alike.refl U.vm) qS⟩, va_recv hK hP (ci := 3) (q0 := k_52) rfl (Wd_ob kg_55 sg_55 (by decide)), fun U hU hW => ⟨rfl, by rw [hU], by rw [hU]; exact hP, va_K.moved hW.alike hK, hD.weaken (fun _ _ _ _ => trivial), hN.warm hW, by rw [hU]; exact ((hSK.kept hS.2.1).narrow hFc).moved hW.alike⟩⟩ rfl rfl hl.1 rfl (lv_room (Nat.le_of_ble_eq_true rfl)) dX11_takeModule_128 ⟨Nat.le_of_ble_eq_true rfl, Nat.le_of_ble_eq_true rfl⟩) hS (fun q _ h => hFc q h) hFc (fun rr u t H_56 locs ht hvm hw hB hz1 hk1 hS2 => ?_)
          rw [hw]
          clear hw
          obtain ⟨hP1, -, hD1⟩ := hB
          rw [ht] at hP1
          replace hD := hD1.weaken (fun _ _ _ h => hFc _ h)
          replace hP := hP1
          replace hS := hS2
          clear hP1 hD1 hS2 hFc hfc hz1 hk1 hvm ht
          refine lv_istore (lv' := [(4, .int r_54), (3, .ref (a k_16)), (2, .int v_4), (0, .ref (a h0)), (1, .ref (a x0))]) hx hb dX11_takeModule_131 hl (by decide) rfl (fun ls hl2 => ?_)
          replace hl := hl2
          clear hl2
          refine lv_aload_n hx hb dX11_takeModule_133 rfl (lv_at hl 4 rfl) ?_
          refine lv_aload_n hx hb dX11_takeModule_134 rfl (lv_at hl 3 rfl) ?_
          obtain ⟨k_57, ek_57, hf⟩ := lnk_some hf
          refine va_get (D := (dC, dI)) (ci := 11) (v := .ref (a k_57)) (C := RX11) (T := TX11) (N := 13) hx hb hts iwd_X11_takeModule_X11 hown hK hP h0 (Wd_ob kg_6 sg_6 (by decide)) rfl 8 (by decide) (hts _ md_X11_takeModule_11) (fun _ h9 => h9) (fl_q rfl ek_57) dX11_takeModule_135 ?_
          obtain ⟨g_58, hf⟩ := grd_some hf
          obtain ⟨kg_58, sg_58⟩ := okO_at g_58
          refine va_get (D := (dC, dI)) (ci := 3) (v := .int (z_53.1 k_57 0)) (C := RX3) (T := TX3) (N := 22) hx hb hts iwd_X11_takeModule_X3 hown hK hP k_57 (Wd_ob kg_58 sg_58 (by decide)) rfl 0 (by decide) (hts _ md_X11_takeModule_12) (fun _ h9 => h9) (fl_at (t := 0) rfl) dX11_takeModule_138 ?_
          refine va_put (D := (dC, dI)) (ci := 8) (v := .int (z_53.1 k_57 0)) (ty := .int) (C := RX8) (T := TX8) (N := 19) hx hb hts iwd_X11_takeModule_X8 tyX8 tyX8_ok nmX8 hown hK hP hD hS x0 (Wd_ob kg_1 sg_1 (by decide)) rfl 14 (by decide) (hts _ md_X11_takeModule_10) (fun _ h9 => h9) rfl (by decide +kernel) rfl rfl (by rw [fl_len]; decide) dX11_takeModule_141 (fun H_59 locs hP2 hD2 hS2 => ?_)
          rw [Wd_si sg_1 (by decide) rfl] at hP2 hD2
          obtain ⟨z_60, ez_60⟩ : ∃ w, w = si z_53 x0 14 (z_53.1 k_57 0) := ⟨_, rfl⟩
          rw [← ez_60] at hP2 hD2
          replace hf := lt_at ez_60 hf
          clear ez_60
          replace hP := hP2
          replace hD := hD2
          replace hS := hS2
          clear hP2 hD2 hS2
          exact B144 (z_60, r_54) ls H_59 locs ⟨lv_sub hl [0, 2, 3, 4] rfl, hP, hD, hS⟩ hf
      refine lv_if_ne (tgt := 118) hx hb dX11_takeModule_107 (by decide) (fun c_61 => ?_) (fun c_61 => ?_)
      · skip
        rw [if_neg c_61] at hf
        exact B118 (z_29, r_23) ls H_28 locs ⟨lv_sub hl [0, 1, 2, 3, 4] rfl, hP, hD, hS⟩ hf
      · skip
        rw [if_pos c_61] at hf
        refine lv_aload_n hx hb dX11_takeModule_110 rfl (lv_at hl 3 rfl) ?_
        refine lv_aload_n hx hb dX11_takeModule_111 rfl (lv_at hl 1 rfl) ?_
        refine lv_aload_n hx hb dX11_takeModule_112 rfl (lv_at hl 4 rfl) ?_
        obtain ⟨z_62, r_63, hfc, hf⟩ := cal_some hf
        have hFc := de_free hD hS hA
        refine va_calli (va_runV (As := [.ref (a k_16), .ref (a x0)]) (rest := []) ⟨hx, hb, hml, hown, hts⟩ (de_X11_misfitOf l dC dI cy a sh n H_28.size F z_29 h0 k_16 x0 hfc) (cwV 2 hts gX11_takeModule_X11_misfitOf rfl rfl rfl (by decide +kernel) ⟨Nat.le_of_ble_eq_true rfl, Nat.le_of_ble_eq_true rfl⟩) ⟨fun a U g mk q => by obtain ⟨q0, q1, qP, qK, qD, qN⟩ := q; exact ⟨q0, q1, qP, va_K.moved (u := U) (U := U.calling g mk a) (Vm.Alike.refl U.vm) qK, qD, qN.same rfl⟩, va_recv hK hP (ci := 11) (q0 := h0) rfl (Wd_ob kg_6 sg_6 (by decide)), fun U hU hW => ⟨rfl, by rw [hU], by rw [hU]; exact hP, va_K.moved hW.alike hK, hD.weaken (fun _ _ _ _ => trivial), hN.warm hW⟩⟩ rfl rfl hl.1 rfl (lv_room (Nat.le_of_ble_eq_true rfl)) dX11_takeModule_113 ⟨Nat.le_of_ble_eq_true rfl, Nat.le_of_ble_eq_true rfl⟩) hS (fun q _ h => hFc q h) hFc (fun rr u t H_64 locs ht hvm hw hB hz1 hk1 hS2 => ?_)
        rw [hw]
        clear hw
        obtain ⟨hP1, -, hD1⟩ := hB
        rw [ht] at hP1
        replace hD := hD1.weaken (fun _ _ _ h => hFc _ h)
        replace hP := hP1
        replace hS := hS2
        clear hP1 hD1 hS2 hFc hfc hz1 hk1 hvm ht
        refine lv_istore (lv' := [(4, .int r_63), (3, .ref (a k_16)), (2, .int v_4), (0, .ref (a h0)), (1, .ref (a x0))]) hx hb dX11_takeModule_116 hl (by decide) rfl (fun ls hl2 => ?_)
        replace hl := hl2
        clear hl2
        exact B118 (z_62, r_63) ls H_64 locs ⟨lv_sub hl [0, 1, 2, 3, 4] rfl, hP, hD, hS⟩ hf
    · skip
      rw [if_neg c_9] at hf
      refine lv_aload_n hx hb dX11_takeModule_48 rfl (lv_at hl 2 rfl) ?_
      refine lv_iconst (v := 2) hx hb dX11_takeModule_49 (by decide) ?_
      refine lv_ldc2 hx hb hown (hts _ md_X11_takeModule_6) dX11_takeModule_50 ?_
      refine lv_iload_n hx hb dX11_takeModule_53 rfl (lv_at hl 0 rfl) ?_
      obtain ⟨z_65, _u, hfc, hf⟩ := cal_some hf
      have hFc := de_free hD hS hA
      refine va_callv (va_runV (As := [.int 2, .long 4, .int v_4]) (rest := []) ⟨hx, hb, hml, hown, hts⟩ (de_X8_end l dC dI cy a sh n H.size F z x0 2 4 v_4 hfc) (cwV 3 hts gX11_takeModule_X8_end rfl rfl rfl (by decide +kernel) ⟨Nat.le_of_ble_eq_true rfl, Nat.le_of_ble_eq_true rfl⟩) ⟨fun a U g mk q => by obtain ⟨q0, q1, qP, qK, qD, qN⟩ := q; exact ⟨q0, q1, qP, va_K.moved (u := U) (U := U.calling g mk a) (Vm.Alike.refl U.vm) qK, qD, qN.same rfl⟩, va_recv hK hP (ci := 8) (q0 := x0) rfl (Wd_ob kg_1 sg_1 (by decide)), fun U hU hW => ⟨rfl, by rw [hU], by rw [hU]; exact hP, va_K.moved hW.alike hK, hD.weaken (fun _ _ _ _ => trivial), hN.warm hW⟩⟩ rfl rfl hl.1 rfl (lv_room (Nat.le_of_ble_eq_true rfl)) dX11_takeModule_54 ⟨Nat.le_of_ble_eq_true rfl, Nat.le_of_ble_eq_true rfl⟩) hS (fun q _ h => hFc q h) hFc (fun u t H_66 locs ht hvm hw hB hz1 hk1 hS2 => ?_)
      obtain ⟨hP1, -, hD1⟩ := hB
      rw [ht] at hP1
      replace hD := hD1.weaken (fun _ _ _ h => hFc _ h)
      replace hP := hP1
      replace hS := hS2
      clear hP1 hD1 hS2 hFc hfc hz1 hk1 hvm ht
      obtain ⟨h8, h9⟩ := ret_some hf
      rw [h8]
      exact W.vret hx hb hr (fun t ht hW => ⟨⟨(), rfl, trivial, by rw [ht]; exact hP, va_K.moved hW.alike hK, hD⟩, hS.F ht⟩) hS.2.2 dX11_takeModule_57
  · skip
    rw [if_neg c_5] at hf
    refine lv_aload_n hx hb dX11_takeModule_23 rfl (lv_at hl 2 rfl) ?_
    refine lv_iconst (v := 2) hx hb dX11_takeModule_24 (by decide) ?_
    refine lv_ldc2 hx hb hown (hts _ md_X11_takeModule_3) dX11_takeModule_25 ?_
    refine lv_aload_n hx hb dX11_takeModule_28 rfl (lv_at hl 2 rfl) ?_
    refine va_get (D := (dC, dI)) (ci := 8) (v := .int (z.1 x0 3)) (C := RX8) (T := TX8) (N := 19) hx hb hts iwd_X11_takeModule_X8 hown hK hP x0 (Wd_ob kg_1 sg_1 (by decide)) rfl 3 (by decide) (hts _ md_X11_takeModule_2) (fun _ h9 => h9) (fl_at (t := 0) rfl) dX11_takeModule_29 ?_
    obtain ⟨z_67, _u, hfc, hf⟩ := cal_some hf
    have hFc := de_free hD hS hA
    refine va_callv (va_runV (As := [.int 2, .long 5, .int (z.1 x0 3)]) (rest := []) ⟨hx, hb, hml, hown, hts⟩ (de_X8_end l dC dI cy a sh n H.size F z x0 2 5 (z.1 x0 3) hfc) (cwV 3 hts gX11_takeModule_X8_end rfl rfl rfl (by decide +kernel) ⟨Nat.le_of_ble_eq_true rfl, Nat.le_of_ble_eq_true rfl⟩) ⟨fun a U g mk q => by obtain ⟨q0, q1, qP, qK, qD, qN⟩ := q; exact ⟨q0, q1, qP, va_K.moved (u := U) (U := U.calling g mk a) (Vm.Alike.refl U.vm) qK, qD, qN.same rfl⟩, va_recv hK hP (ci := 8) (q0 := x0) rfl (Wd_ob kg_1 sg_1 (by decide)), fun U hU hW => ⟨rfl, by rw [hU], by rw [hU]; exact hP, va_K.moved hW.alike hK, hD.weaken (fun _ _ _ _ => trivial), hN.warm hW⟩⟩ rfl rfl hl.1 rfl (lv_room (Nat.le_of_ble_eq_true rfl)) dX11_takeModule_32 ⟨Nat.le_of_ble_eq_true rfl, Nat.le_of_ble_eq_true rfl⟩) hS (fun q _ h => hFc q h) hFc (fun u t H_68 locs ht hvm hw hB hz1 hk1 hS2 => ?_)
    obtain ⟨hP1, -, hD1⟩ := hB
    rw [ht] at hP1
    replace hD := hD1.weaken (fun _ _ _ h => hFc _ h)
    replace hP := hP1
    replace hS := hS2
    clear hP1 hD1 hS2 hFc hfc hz1 hk1 hvm ht
    obtain ⟨h8, h9⟩ := ret_some hf
    rw [h8]
    exact W.vret hx hb hr (fun t ht hW => ⟨⟨(), rfl, trivial, by rw [ht]; exact hP, va_K.moved hW.alike hK, hD⟩, hS.F ht⟩) hS.2.2 dX11_takeModule_35

theorem md_X18_refusal_1 : (.fieldLink RX18 553 "ResourceLedgerModel" "functionsCalled" "[I" : Cond) ∈ wsX18_refusal := List.mem_of_getElem? (i := 1) rfl
theorem iwd_X18_refusal_X18 : ∀ w ∈ wsX180, w ∈ wsX18_refusal := fun _ h => List.mem_cons_of_mem _ (List.mem_append_left _ (List.mem_append_right _ h))
theorem md_X18_refusal_3 : (.fieldLink RX18 17 "ResourceLedgerModel" "units" "[LResourceLedgerModel$Unit;" : Cond) ∈ wsX18_refusal := List.mem_of_getElem? (i := 3) rfl
theorem iwd_X18_refusal_X16 : ∀ w ∈ wsX160, w ∈ wsX18_refusal := fun _ h => List.mem_cons_of_mem _ (List.mem_append_right _ h)
theorem md_X18_refusal_4 : (.fieldLink RX18 556 "ResourceLedgerModel" "argumentCounts" "[I" : Cond) ∈ wsX18_refusal := List.mem_of_getElem? (i := 4) rfl
theorem md_X18_refusal_6 : (.constantLong RX18 122 (5) : Cond) ∈ wsX18_refusal := List.mem_of_getElem? (i := 6) rfl
theorem md_X18_refusal_5 : (.fieldLink RX18 559 "ResourceLedgerModel" "argumentTypes" "[B" : Cond) ∈ wsX18_refusal := List.mem_of_getElem? (i := 5) rfl
theorem md_X18_refusal_2 : (.fieldLink RX18 550 "ResourceLedgerModel" "modulesCalled" "[I" : Cond) ∈ wsX18_refusal := List.mem_of_getElem? (i := 2) rfl
set_option maxHeartbeats 4000000 in
set_option maxRecDepth 100000 in
theorem de_X18_refusal (l : Launch) (dC : Nat → ClassId) (dI : Nat → Nat → Nat) (cy : Nat → ClassId) (a : Nat → Nat) (sh : Nat → Nat × Nat) (n sz : Nat) (F : Nat) (z : St) (h0 : Nat) (x0 : Int32) (x1 : Int32) {z8 : St} {r8 : Int32} (hf : fn_X18_refusal F sh n z h0 x0 x1 = some (z8, r8)) : Met l yX18_refusal wsX18_refusal ({ frames := 6, cells := 0, slots := 0, locals := 139 }) (va_Pc [.ref (a h0), .int x0, .int x1] (fun U => U.heap.size = sz ∧ va_P (dC, dI) vwCl (Wd cy a sh n z) U.heap ∧ va_K (dC, dI) vwCl (TYS cy) U ∧ va_D (fun _ => True) (Wd cy a sh n z) ∧ NK U)) (va_Qi (fun (r9 : Int32) (u : Unit) => r9 = r8) (fun u t => va_P (dC, dI) vwCl (Wd cy a sh n z8) t.heap ∧ va_K (dC, dI) vwCl (TYS cy) t ∧ va_D (va_A (Wd cy a sh n z) sz) (Wd cy a sh n z8)) (va_A (Wd cy a sh n z) sz)) 0 0 (va_A (Wd cy a sh n z) sz) := by
  refine Met.ofW (cc := cX18_refusal) (maxL := 7) (ret := (some .int)) (by decide) rfl ?_
  intro p e s m args below meth c s₁ B hml hv
  obtain ⟨rfl, hsz, hP, hK, hD0, hN⟩ := hv
  have hx := B.exec
  have hb := B.bytes
  have hr := B.returns
  have hts := atoms_spec (ws := wsX18_refusal) B.pre
  have hown : s.vm.findClass RX18 = some m.cls := findClass_of_methodNamed B.named
  have hlocks := B.notSynchronized
  subst hsz
  have hD := hD0.self (sz := s.heap.size)
  clear hD0
  generalize hAe : va_A (Wd cy a sh n z) s.heap.size = A at hD ⊢
  have hA : ∀ q : Nat, s.heap.size ≤ q → A q := fun q h => by rw [← hAe]; exact Or.inr h
  clear hAe
  have hS : va_S A s.heap s.heap [] := va_S.rf
  have hl := lv_entry ([.ref (a h0), .int x0, .int x1]) (n := 7) (Nat.le_of_ble_eq_true rfl)
  rw [lg_entry_eq]
  generalize (lg_sl ([.ref (a h0), .int x0, .int x1]) ++ List.replicate (7 - (lg_sl ([.ref (a h0), .int x0, .int x1])).length) Slot.unset).toArray = ls at hl ⊢
  replace hl : lv_has ls 7 [(0, .ref (a h0)), (1, .int x0), (2, .int x1)] := hl
  unfold fn_X18_refusal at hf
  refine de_start hS hP (fun H locs hS hP => ?_)
  refine lv_aload_n hx hb dX18_refusal_0 rfl (lv_at hl 0 rfl) ?_
  obtain ⟨g_1, hf⟩ := grd_some hf
  obtain ⟨kg_1, sg_1⟩ := okO_at g_1
  obtain ⟨k_2, ek_2, hf⟩ := lnk_some hf
  refine va_get (D := (dC, dI)) (ci := 18) (v := .ref (a k_2)) (C := RX18) (T := TX18) (N := 78) hx hb hts iwd_X18_refusal_X18 hown hK hP h0 (Wd_ob kg_1 sg_1 (by decide)) rfl 59 (by decide) (hts _ md_X18_refusal_1) (fun _ h9 => h9) (fl_q rfl ek_2) dX18_refusal_1 ?_
  refine lv_iload_n hx hb dX18_refusal_4 rfl (lv_at hl 1 rfl) ?_
  obtain ⟨g_3, hf⟩ := grd_some hf
  obtain ⟨kg_3, sg_3, ig_3⟩ := okA_at g_3
  refine va_iald hx hb hK hP k_2 1 (Wd_ai kg_3 sg_3) rfl ig_3 dX18_refusal_5 ?_
  refine lv_topi (fun v_4 ev_4 => ?_)
  replace hf := lt_at ev_4 hf
  clear ev_4
  refine lv_istore_n (lv' := [(3, .int v_4), (0, .ref (a h0)), (1, .int x0), (2, .int x1)]) hx hb dX18_refusal_6 rfl hl (by decide) rfl (fun ls hl2 => ?_)
  replace hl := hl2
  clear hl2
  refine lv_iload_n hx hb dX18_refusal_7 rfl (lv_at hl 3 rfl) ?_
  refine lv_if_ne (tgt := 36) hx hb dX18_refusal_8 (by decide) (fun c_5 => ?_) (fun c_5 => ?_)
  · skip
    rw [if_neg c_5] at hf
    refine lv_aload_n hx hb dX18_refusal_36 rfl (lv_at hl 1 rfl) ?_
    obtain ⟨k_6, ek_6, hf⟩ := lnk_some hf
    refine va_get (D := (dC, dI)) (ci := 18) (v := .ref (a k_6)) (C := RX18) (T := TX18) (N := 78) hx hb hts iwd_X18_refusal_X18 hown hK hP h0 (Wd_ob kg_1 sg_1 (by decide)) rfl 4 (by decide) (hts _ md_X18_refusal_3) (fun _ h9 => h9) (fl_q rfl ek_6) dX18_refusal_37 ?_
    refine lv_iload_n hx hb dX18_refusal_40 rfl (lv_at hl 3 rfl) ?_
    obtain ⟨g_7, hf⟩ := grd_some hf
    obtain ⟨kg_7, sg_7, ig_7⟩ := okA_at g_7
    obtain ⟨k_8, ek_8, hf⟩ := lnk_some hf
    refine va_aldq (C := RX16) hx hb hK hP k_6 6 (Wd_aq kg_7 sg_7 (by decide)) rfl ig_7 dX18_refusal_41 ?_
    refine W.eq (g2 := F0 m 42 ls [.ref (a k_8)]) (by rw [ek_8]; rfl) ?_
    refine lv_astore (lv' := [(4, .ref (a k_8)), (3, .int v_4), (0, .ref (a h0)), (1, .int x0), (2, .int x1)]) hx hb dX18_refusal_42 hl (by decide) rfl (fun ls hl2 => ?_)
    replace hl := hl2
    clear hl2
    refine lv_iload_n hx hb dX18_refusal_44 rfl (lv_at hl 1 rfl) ?_
    refine lv_aload hx hb dX18_refusal_45 (lv_at hl 0 rfl) ?_
    obtain ⟨g_9, hf⟩ := grd_some hf
    obtain ⟨kg_9, sg_9⟩ := okO_at g_9
    refine va_getN (D := (dC, dI)) (ci := 16) (v := .int (z.1 k_8 9)) (C := RX16) (T := TX16) (N := 18) hx hb hts iwd_X18_refusal_X16 hown hK hP k_8 (Wd_ob kg_9 sg_9 (by decide)) rfl 9 (by decide) (va_Nw.use rfl (NK_f_X18_112 hN)) (fun _ h9 => h9) (fl_at (t := 0) rfl) dX18_refusal_47 ?_
    refine lv_icmp_lt (tgt := 55) hx hb dX18_refusal_50 (by decide) (fun c_10 => ?_) (fun c_10 => ?_)
    · skip
      rw [if_pos c_10] at hf
      refine lv_aload hx hb dX18_refusal_55 (lv_at hl 0 rfl) ?_
      refine lv_iload_n hx hb dX18_refusal_57 rfl (lv_at hl 1 rfl) ?_
      obtain ⟨z_11, r_12, hfc, hf⟩ := cal_some hf
      have hFc := de_free hD hS hA
      refine va_calli (va_runV (As := [.int v_4]) (rest := []) ⟨hx, hb, hml, hown, hts⟩ (de_X16_flags l dC dI cy a sh n H.size F z k_8 v_4 hfc) (cwV 1 hts gX18_refusal_X16_flags rfl rfl rfl (by decide +kernel) ⟨Nat.le_of_ble_eq_true rfl, Nat.le_of_ble_eq_true rfl⟩) ⟨fun a U g mk q => by obtain ⟨q0, q1, qP, qK, qD, qN⟩ := q; exact ⟨q0, q1, qP, va_K.moved (u := U) (U := U.calling g mk a) (Vm.Alike.refl U.vm) qK, qD, qN.same rfl⟩, va_recv hK hP (ci := 16) (q0 := k_8) rfl (Wd_ob kg_9 sg_9 (by decide)), fun U hU hW => ⟨rfl, by rw [hU], by rw [hU]; exact hP, va_K.moved hW.alike hK, hD.weaken (fun _ _ _ _ => trivial), hN.warm hW⟩⟩ rfl rfl hl.1 rfl (lv_room (Nat.le_of_ble_eq_true rfl)) dX18_refusal_58 ⟨Nat.le_of_ble_eq_true rfl, Nat.le_of_ble_eq_true rfl⟩) hS (fun q _ h => hFc q h) hFc (fun rr u t H_13 locs ht hvm hw hB hz1 hk1 hS2 => ?_)
      rw [hw]
      clear hw
      obtain ⟨hP1, -, hD1⟩ := hB
      rw [ht] at hP1
      replace hD := hD1.weaken (fun _ _ _ h => hFc _ h)
      replace hP := hP1
      replace hS := hS2
      clear hP1 hD1 hS2 hFc hfc hz1 hk1 hvm ht
      refine lv_iconst (v := 2) hx hb dX18_refusal_61 (by decide) ?_
      refine lv_iand hx hb dX18_refusal_62 ?_
      refine lv_if_ne (tgt := 69) hx hb dX18_refusal_63 (by decide) (fun c_14 => ?_) (fun c_14 => ?_)
      · skip
        rw [if_neg c_14] at hf
        refine lv_aload hx hb dX18_refusal_69 (lv_at hl 0 rfl) ?_
        refine lv_iload_n hx hb dX18_refusal_71 rfl (lv_at hl 1 rfl) ?_
        refine lv_iconst (v := 0) hx hb dX18_refusal_72 (by decide) ?_
        obtain ⟨z_15, r_16, hfc, hf⟩ := cal_some hf
        have hFc := de_free hD hS hA
        refine va_calli (va_runV (As := [.int v_4, .int 0]) (rest := []) ⟨hx, hb, hml, hown, hts⟩ (de_X16_many l dC dI cy a sh n H_13.size F z_11 k_8 v_4 0 hfc) (cwV 2 hts gX18_refusal_X16_many rfl rfl rfl (by decide +kernel) ⟨Nat.le_of_ble_eq_true rfl, Nat.le_of_ble_eq_true rfl⟩) ⟨fun a U g mk q => by obtain ⟨q0, q1, qP, qK, qD, qN⟩ := q; exact ⟨q0, q1, qP, va_K.moved (u := U) (U := U.calling g mk a) (Vm.Alike.refl U.vm) qK, qD, qN.same rfl⟩, va_recv hK hP (ci := 16) (q0 := k_8) rfl (Wd_ob kg_9 sg_9 (by decide)), fun U hU hW => ⟨rfl, by rw [hU], by rw [hU]; exact hP, va_K.moved hW.alike hK, hD.weaken (fun _ _ _ _ => trivial), hN.warm hW⟩⟩ rfl rfl hl.1 rfl (lv_room (Nat.le_of_ble_eq_true rfl)) dX18_refusal_73 ⟨Nat.le_of_ble_eq_true rfl, Nat.le_of_ble_eq_true rfl⟩) hS (fun q _ h => hFc q h) hFc (fun rr u t H_17 locs ht hvm hw hB hz1 hk1 hS2 => ?_)
        rw [hw]
        clear hw
        obtain ⟨hP1, -, hD1⟩ := hB
        rw [ht] at hP1
        replace hD := hD1.weaken (fun _ _ _ h => hFc _ h)
        replace hP := hP1
        replace hS := hS2
        clear hP1 hD1 hS2 hFc hfc hz1 hk1 hvm ht
        refine lv_aload_n hx hb dX18_refusal_76 rfl (lv_at hl 2 rfl) ?_
        obtain ⟨k_18, ek_18, hf⟩ := lnk_some hf
        refine va_get (D := (dC, dI)) (ci := 18) (v := .ref (a k_18)) (C := RX18) (T := TX18) (N := 78) hx hb hts iwd_X18_refusal_X18 hown hK hP h0 (Wd_ob kg_1 sg_1 (by decide)) rfl 60 (by decide) (hts _ md_X18_refusal_4) (fun _ h9 => h9) (fl_q rfl ek_18) dX18_refusal_77 ?_
        refine lv_iload_n hx hb dX18_refusal_80 rfl (lv_at hl 3 rfl) ?_
        obtain ⟨g_19, hf⟩ := grd_some hf
        obtain ⟨kg_19, sg_19, ig_19⟩ := okA_at g_19
        refine va_iald hx hb hK hP k_18 1 (Wd_ai kg_19 sg_19) rfl ig_19 dX18_refusal_81 ?_
        refine de_cut (h := 90) (fun (x : St × Int32) => [.int x.2]) (fun x ls H locs => lv_has ls 7 [(4, .ref (a k_8)), (3, .int v_4), (0, .ref (a h0)), (1, .int x0)] ∧ va_P (dC, dI) vwCl (Wd cy a sh n x.1) H ∧ va_D A (Wd cy a sh n x.1) ∧ va_S A s.heap H locs) (fun x => fn_X18_refusal_B90 F sh n h0 x0 k_8 v_4 x.1 x.2) (z8, r8) ?_ (fun B90 => ?_)
        · intro x ls H locs hI hf
          obtain ⟨z_21, p_20⟩ := x
          obtain ⟨hl2, hP2, hD2, hS2⟩ := hI
          replace hl : lv_has ls 7 [(4, .ref (a k_8)), (3, .int v_4), (0, .ref (a h0)), (1, .int x0)] := hl2
          replace hP := hP2
          replace hD := hD2
          replace hS := hS2
          clear hl2 hP2 hD2 hS2
          replace hf := fn_X18_refusal_B90_s hf
          refine W.eq (g2 := F0 m 90 ls [.int p_20]) rfl ?_
          refine lv_istore (lv' := [(5, .int p_20), (4, .ref (a k_8)), (3, .int v_4), (0, .ref (a h0)), (1, .int x0)]) hx hb dX18_refusal_90 hl (by decide) rfl (fun ls hl2 => ?_)
          replace hl := hl2
          clear hl2
          refine lv_iconst (v := 0) hx hb dX18_refusal_92 (by decide) ?_
          refine lv_istore (lv' := [(6, .int 0), (5, .int p_20), (4, .ref (a k_8)), (3, .int v_4), (0, .ref (a h0)), (1, .int x0)]) hx hb dX18_refusal_93 hl (by decide) rfl (fun ls hl2 => ?_)
          replace hl := hl2
          clear hl2
          have hl0 : lv_has ls 7 [(6, .int 0), (5, .int p_20), (4, .ref (a k_8)), (3, .int v_4), (0, .ref (a h0)), (1, .int x0)] := lv_sub hl [0, 1, 2, 3, 4, 5] rfl
          refine de_loop (h := 95) (fun (x : St × Int32 × Int32) ls H locs => lv_has ls 7 [(6, .int x.2.2), (5, .int x.2.1), (4, .ref (a k_8)), (3, .int v_4), (0, .ref (a h0)), (1, .int x0)] ∧ va_P (dC, dI) vwCl (Wd cy a sh n x.1) H ∧ va_D A (Wd cy a sh n x.1) ∧ va_S A s.heap H locs) (fun f x => fn_X18_refusal_L95 F sh n h0 x0 k_8 v_4 f x.1 x.2.1 x.2.2) (z8, r8) ?_ (fun _ => rfl) F (z_21, p_20, 0) ls H locs ⟨hl0, hP, hD, hS⟩ hf
          intro f_25 x ls H locs ih95 hI hf
          obtain ⟨z_24, p_22, p_23⟩ := x
          obtain ⟨hl2, hP2, hD2, hS2⟩ := hI
          replace hl : lv_has ls 7 [(6, .int p_23), (5, .int p_22), (4, .ref (a k_8)), (3, .int v_4), (0, .ref (a h0)), (1, .int x0)] := hl2
          replace hP := hP2
          replace hD := hD2
          replace hS := hS2
          clear hl2 hP2 hD2 hS2 hl0
          replace hf := fn_X18_refusal_L95_s hf
          refine lv_iload hx hb dX18_refusal_95 (lv_at hl 0 rfl) ?_
          refine lv_aload_n hx hb dX18_refusal_97 rfl (lv_at hl 4 rfl) ?_
          obtain ⟨k_26, ek_26, hf⟩ := lnk_some hf
          refine va_get (D := (dC, dI)) (ci := 18) (v := .ref (a k_26)) (C := RX18) (T := TX18) (N := 78) hx hb hts iwd_X18_refusal_X18 hown hK hP h0 (Wd_ob kg_1 sg_1 (by decide)) rfl 60 (by decide) (hts _ md_X18_refusal_4) (fun _ h9 => h9) (fl_q rfl ek_26) dX18_refusal_98 ?_
          refine lv_iload_n hx hb dX18_refusal_101 rfl (lv_at hl 5 rfl) ?_
          obtain ⟨g_27, hf⟩ := grd_some hf
          obtain ⟨kg_27, sg_27, ig_27⟩ := okA_at g_27
          refine va_iald hx hb hK hP k_26 1 (Wd_ai kg_27 sg_27) rfl ig_27 dX18_refusal_102 ?_
          refine de_cut (h := 150) (fun (x : St × Int32) => []) (fun x ls H locs => lv_has ls 7 [(5, .int x.2), (4, .ref (a k_8)), (3, .int v_4)] ∧ va_P (dC, dI) vwCl (Wd cy a sh n x.1) H ∧ va_D A (Wd cy a sh n x.1) ∧ va_S A s.heap H locs) (fun x => fn_X18_refusal_B150 F sh n k_8 v_4 x.1 x.2) (z8, r8) ?_ (fun B150 => ?_)
          · intro x ls H locs hI hf
            obtain ⟨z_29, p_28⟩ := x
            obtain ⟨hl2, hP2, hD2, hS2⟩ := hI
            replace hl : lv_has ls 7 [(5, .int p_28), (4, .ref (a k_8)), (3, .int v_4)] := hl2
            replace hP := hP2
            replace hD := hD2
            replace hS := hS2
            clear hl2 hP2 hD2 hS2
            replace hf := fn_X18_refusal_B150_s hf
            refine W.eq (g2 := F0 m 150 ls []) rfl ?_
            refine lv_iload hx hb dX18_refusal_150 (lv_at hl 0 rfl) ?_
            refine lv_if_ne (tgt := 158) hx hb dX18_refusal_152 (by decide) (fun c_30 => ?_) (fun c_30 => ?_)
            · skip
              rw [if_neg c_30] at hf
              refine lv_iconst (v := 0) hx hb dX18_refusal_158 (by decide) ?_
              refine lv_istore (lv' := [(6, .int 0), (5, .int p_28), (4, .ref (a k_8)), (3, .int v_4)]) hx hb dX18_refusal_159 hl (by decide) rfl (fun ls hl2 => ?_)
              replace hl := hl2
              clear hl2
              have hl0 : lv_has ls 7 [(6, .int 0), (4, .ref (a k_8)), (3, .int v_4)] := lv_sub hl [0, 2, 3] rfl
              refine de_loop (h := 161) (fun (x : St × Int32) ls H locs => lv_has ls 7 [(6, .int x.2), (4, .ref (a k_8)), (3, .int v_4)] ∧ va_P (dC, dI) vwCl (Wd cy a sh n x.1) H ∧ va_D A (Wd cy a sh n x.1) ∧ va_S A s.heap H locs) (fun f x => fn_X18_refusal_L161 F sh n k_8 v_4 f x.1 x.2) (z8, r8) ?_ (fun _ => rfl) F (z_29, 0) ls H locs ⟨hl0, hP, hD, hS⟩ hf
              intro f_33 x ls H locs ih161 hI hf
              obtain ⟨z_32, p_31⟩ := x
              obtain ⟨hl2, hP2, hD2, hS2⟩ := hI
              replace hl : lv_has ls 7 [(6, .int p_31), (4, .ref (a k_8)), (3, .int v_4)] := hl2
              replace hP := hP2
              replace hD := hD2
              replace hS := hS2
              clear hl2 hP2 hD2 hS2 hl0
              replace hf := fn_X18_refusal_L161_s hf
              refine lv_iload hx hb dX18_refusal_161 (lv_at hl 0 rfl) ?_
              refine lv_aload hx hb dX18_refusal_163 (lv_at hl 1 rfl) ?_
              refine lv_iload_n hx hb dX18_refusal_165 rfl (lv_at hl 2 rfl) ?_
              refine lv_iconst (v := 1) hx hb dX18_refusal_166 (by decide) ?_
              obtain ⟨z_34, r_35, hfc, hf⟩ := cal_some hf
              have hFc := de_free hD hS hA
              refine va_calli (va_runV (As := [.int v_4, .int 1]) (rest := [.int p_31]) ⟨hx, hb, hml, hown, hts⟩ (de_X16_many l dC dI cy a sh n H.size F z_32 k_8 v_4 1 hfc) (cwV 2 hts gX18_refusal_X16_many rfl rfl rfl (by decide +kernel) ⟨Nat.le_of_ble_eq_true rfl, Nat.le_of_ble_eq_true rfl⟩) ⟨fun a U g mk q => by obtain ⟨q0, q1, qP, qK, qD, qN⟩ := q; exact ⟨q0, q1, qP, va_K.moved (u := U) (U := U.calling g mk a) (Vm.Alike.refl U.vm) qK, qD, qN.same rfl⟩, va_recv hK hP (ci := 16) (q0 := k_8) rfl (Wd_ob kg_9 sg_9 (by decide)), fun U hU hW => ⟨rfl, by rw [hU], by rw [hU]; exact hP, va_K.moved hW.alike hK, hD.weaken (fun _ _ _ _ => trivial), hN.warm hW⟩⟩ rfl rfl hl.1 rfl (lv_room (Nat.le_of_ble_eq_true rfl)) dX18_refusal_167 ⟨Nat.le_of_ble_eq_true rfl, Nat.le_of_ble_eq_true rfl⟩) hS (fun q _ h => hFc q h) hFc (fun rr u t H_36 locs ht hvm hw hB hz1 hk1 hS2 => ?_)
              rw [hw]
              clear hw
              obtain ⟨hP1, -, hD1⟩ := hB
              rw [ht] at hP1
              replace hD := hD1.weaken (fun _ _ _ h => hFc _ h)
              replace hP := hP1
              replace hS := hS2
              clear hP1 hD1 hS2 hFc hfc hz1 hk1 hvm ht
              refine lv_icmp_ge (tgt := 198) hx hb dX18_refusal_170 (by decide) (fun c_37 => ?_) (fun c_37 => ?_)
              · skip
                rw [if_pos c_37] at hf
                refine lv_iconst (v := 0) hx hb dX18_refusal_198 (by decide) ?_
                obtain ⟨h8, h9⟩ := ret_some hf
                rw [h8, h9]
                exact W.iret (v := 0) hx hb hr (fun t ht hW => ⟨⟨0, (), rfl, rfl, by rw [ht]; exact hP, va_K.moved hW.alike hK, hD⟩, hS.F ht⟩) hS.2.2 dX18_refusal_199
              · skip
                rw [if_neg c_37] at hf
                refine lv_aload hx hb dX18_refusal_173 (lv_at hl 1 rfl) ?_
                refine lv_iload_n hx hb dX18_refusal_175 rfl (lv_at hl 2 rfl) ?_
                refine lv_iconst (v := 1) hx hb dX18_refusal_176 (by decide) ?_
                refine lv_iload hx hb dX18_refusal_177 (lv_at hl 0 rfl) ?_
                obtain ⟨z_38, r_39, hfc, hf⟩ := cal_some hf
                have hFc := de_free hD hS hA
                refine va_calll (va_runV (As := [.int v_4, .int 1, .int p_31]) (rest := []) ⟨hx, hb, hml, hown, hts⟩ (de_X16_listed l dC dI cy a sh n H_36.size F z_34 k_8 v_4 1 p_31 hfc) (cwV 3 hts gX18_refusal_X16_listed rfl rfl rfl (by decide +kernel) ⟨Nat.le_of_ble_eq_true rfl, Nat.le_of_ble_eq_true rfl⟩) ⟨fun a U g mk q => by obtain ⟨q0, q1, qP, qK, qD, qN⟩ := q; exact ⟨q0, q1, qP, va_K.moved (u := U) (U := U.calling g mk a) (Vm.Alike.refl U.vm) qK, qD, qN.same rfl⟩, va_recv hK hP (ci := 16) (q0 := k_8) rfl (Wd_ob kg_9 sg_9 (by decide)), fun U hU hW => ⟨rfl, by rw [hU], by rw [hU]; exact hP, va_K.moved hW.alike hK, hD.weaken (fun _ _ _ _ => trivial), hN.warm hW⟩⟩ rfl rfl hl.1 rfl (lv_room (Nat.le_of_ble_eq_true rfl)) dX18_refusal_179 ⟨Nat.le_of_ble_eq_true rfl, Nat.le_of_ble_eq_true rfl⟩) hS (fun q _ h => hFc q h) hFc (fun rr u t H_40 locs ht hvm hw hB hz1 hk1 hS2 => ?_)
                rw [hw]
                clear hw
                obtain ⟨hP1, -, hD1⟩ := hB
                rw [ht] at hP1
                replace hD := hD1.weaken (fun _ _ _ h => hFc _ h)
                replace hP := hP1
                replace hS := hS2
                clear hP1 hD1 hS2 hFc hfc hz1 hk1 hvm ht
                refine lv_ldc2 hx hb hown (hts _ md_X18_refusal_6) dX18_refusal_182 ?_
                refine W.lcmp hx hb dX18_refusal_185 ?_
                refine lv_if_le (tgt := 192) hx hb dX18_refusal_186 (by decide) (fun c_41 => ?_) (fun c_41 => ?_)
                · skip
                  rw [lg_cmp_le] at c_41
                  rw [if_pos c_41] at hf
                  refine lv_iinc (v := (p_31 + 1)) (lv' := [(6, .int (p_31 + 1)), (4, .ref (a k_8)), (3, .int v_4)]) hx hb dX18_refusal_192 hl (k := 0) rfl rfl (by decide) rfl (fun ls hl2 => ?_)
                  replace hl := hl2
                  clear hl2
                  refine lv_goto (tgt := 161) hx hb dX18_refusal_195 (by decide) ?_
                  exact ih161 (z_38, (p_31 + 1)) ls H_40 locs ⟨lv_sub hl [0, 1, 2] rfl, hP, hD, hS⟩ hf
                · skip
                  rw [lg_cmp_le] at c_41
                  rw [if_neg c_41] at hf
                  refine lv_bipush (v := 8) hx hb dX18_refusal_189 (by decide) ?_
                  obtain ⟨h8, h9⟩ := ret_some hf
                  rw [h8, h9]
                  exact W.iret (v := 8) hx hb hr (fun t ht hW => ⟨⟨8, (), rfl, rfl, by rw [ht]; exact hP, va_K.moved hW.alike hK, hD⟩, hS.F ht⟩) hS.2.2 dX18_refusal_191
            · skip
              rw [if_pos c_30] at hf
              refine lv_bipush (v := 7) hx hb dX18_refusal_155 (by decide) ?_
              obtain ⟨h8, h9⟩ := ret_some hf
              rw [h8, h9]
              exact W.iret (v := 7) hx hb hr (fun t ht hW => ⟨⟨7, (), rfl, rfl, by rw [ht]; exact hP, va_K.moved hW.alike hK, hD⟩, hS.F ht⟩) hS.2.2 dX18_refusal_157
          refine lv_icmp_ge (tgt := 150) hx hb dX18_refusal_103 (by decide) (fun c_42 => ?_) (fun c_42 => ?_)
          · skip
            rw [if_pos c_42] at hf
            exact B150 (z_24, p_22) ls H locs ⟨lv_sub hl [1, 2, 3] rfl, hP, hD, hS⟩ hf
          · skip
            rw [if_neg c_42] at hf
            refine lv_iload hx hb dX18_refusal_106 (lv_at hl 1 rfl) ?_
            refine lv_if_eq (tgt := 150) hx hb dX18_refusal_108 (by decide) (fun c_43 => ?_) (fun c_43 => ?_)
            · skip
              rw [if_pos c_43] at hf
              exact B150 (z_24, p_22) ls H locs ⟨lv_sub hl [1, 2, 3] rfl, hP, hD, hS⟩ hf
            · skip
              rw [if_neg c_43] at hf
              refine lv_aload hx hb dX18_refusal_111 (lv_at hl 2 rfl) ?_
              refine lv_iload_n hx hb dX18_refusal_113 rfl (lv_at hl 3 rfl) ?_
              refine lv_iconst (v := 0) hx hb dX18_refusal_114 (by decide) ?_
              refine lv_iload hx hb dX18_refusal_115 (lv_at hl 0 rfl) ?_
              obtain ⟨z_44, r_45, hfc, hf⟩ := cal_some hf
              have hFc := de_free hD hS hA
              refine va_calll (va_runV (As := [.int v_4, .int 0, .int p_23]) (rest := []) ⟨hx, hb, hml, hown, hts⟩ (de_X16_listed l dC dI cy a sh n H.size F z_24 k_8 v_4 0 p_23 hfc) (cwV 3 hts gX18_refusal_X16_listed rfl rfl rfl (by decide +kernel) ⟨Nat.le_of_ble_eq_true rfl, Nat.le_of_ble_eq_true rfl⟩) ⟨fun a U g mk q => by obtain ⟨q0, q1, qP, qK, qD, qN⟩ := q; exact ⟨q0, q1, qP, va_K.moved (u := U) (U := U.calling g mk a) (Vm.Alike.refl U.vm) qK, qD, qN.same rfl⟩, va_recv hK hP (ci := 16) (q0 := k_8) rfl (Wd_ob kg_9 sg_9 (by decide)), fun U hU hW => ⟨rfl, by rw [hU], by rw [hU]; exact hP, va_K.moved hW.alike hK, hD.weaken (fun _ _ _ _ => trivial), hN.warm hW⟩⟩ rfl rfl hl.1 rfl (lv_room (Nat.le_of_ble_eq_true rfl)) dX18_refusal_117 ⟨Nat.le_of_ble_eq_true rfl, Nat.le_of_ble_eq_true rfl⟩) hS (fun q _ h => hFc q h) hFc (fun rr u t H_46 locs ht hvm hw hB hz1 hk1 hS2 => ?_)
              rw [hw]
              clear hw
              obtain ⟨hP1, -, hD1⟩ := hB
              rw [ht] at hP1
              replace hD := hD1.weaken (fun _ _ _ h => hFc _ h)
              replace hP := hP1
              replace hS := hS2
              clear hP1 hD1 hS2 hFc hfc hz1 hk1 hvm ht
              refine lv_aload_n hx hb dX18_refusal_120 rfl (lv_at hl 4 rfl) ?_
              obtain ⟨k_47, ek_47, hf⟩ := lnk_some hf
              refine va_get (D := (dC, dI)) (ci := 18) (v := .ref (a k_47)) (C := RX18) (T := TX18) (N := 78) hx hb hts iwd_X18_refusal_X18 hown hK hP h0 (Wd_ob kg_1 sg_1 (by decide)) rfl 61 (by decide) (hts _ md_X18_refusal_5) (fun _ h9 => h9) (fl_q rfl ek_47) dX18_refusal_121 ?_
              refine lv_bipush (v := 8) hx hb dX18_refusal_124 (by decide) ?_
              refine lv_iload_n hx hb dX18_refusal_126 rfl (lv_at hl 5 rfl) ?_
              refine lv_imul hx hb dX18_refusal_127 ?_
              refine lv_iload hx hb dX18_refusal_128 (lv_at hl 0 rfl) ?_
              refine lv_iadd hx hb dX18_refusal_130 ?_
              obtain ⟨g_48, hf⟩ := grd_some hf
              obtain ⟨kg_48, sg_48, ig_48⟩ := okA_at g_48
              refine va_bald hx hb hK hP k_47 0 (Wd_ab kg_48 sg_48) rfl ig_48 dX18_refusal_131 ?_
              refine lv_i2l (v := ((z_44.1 k_47 ((8 * x0) + p_23).toNatClampNeg) : Int32).toInt64) hx hb dX18_refusal_132 rfl ?_
              refine W.lcmp hx hb dX18_refusal_133 ?_
              refine de_cut (h := 142) (fun (x : St × Int32) => [.int x.2]) (fun x ls H locs => lv_has ls 7 [(6, .int p_23), (4, .ref (a k_8)), (3, .int v_4), (0, .ref (a h0)), (1, .int x0)] ∧ va_P (dC, dI) vwCl (Wd cy a sh n x.1) H ∧ va_D A (Wd cy a sh n x.1) ∧ va_S A s.heap H locs) (fun x => fn_X18_refusal_B142 F sh n p_23 (fun z9 q5 q6 => fn_X18_refusal_L95 F sh n h0 x0 k_8 v_4 f_25 z9 q5 q6) x.1 x.2) (z8, r8) ?_ (fun B142 => ?_)
              · intro x ls H locs hI hf
                obtain ⟨z_50, p_49⟩ := x
                obtain ⟨hl2, hP2, hD2, hS2⟩ := hI
                replace hl : lv_has ls 7 [(6, .int p_23), (4, .ref (a k_8)), (3, .int v_4), (0, .ref (a h0)), (1, .int x0)] := hl2
                replace hP := hP2
                replace hD := hD2
                replace hS := hS2
                clear hl2 hP2 hD2 hS2
                replace hf := fn_X18_refusal_B142_s hf
                refine W.eq (g2 := F0 m 142 ls [.int p_49]) rfl ?_
                refine lv_istore (lv' := [(5, .int p_49), (6, .int p_23), (4, .ref (a k_8)), (3, .int v_4), (0, .ref (a h0)), (1, .int x0)]) hx hb dX18_refusal_142 hl (by decide) rfl (fun ls hl2 => ?_)
                replace hl := hl2
                clear hl2
                refine lv_iinc (v := (p_23 + 1)) (lv' := [(6, .int (p_23 + 1)), (5, .int p_49), (4, .ref (a k_8)), (3, .int v_4), (0, .ref (a h0)), (1, .int x0)]) hx hb dX18_refusal_144 hl (k := 1) rfl rfl (by decide) rfl (fun ls hl2 => ?_)
                replace hl := hl2
                clear hl2
                refine lv_goto (tgt := 95) hx hb dX18_refusal_147 (by decide) ?_
                exact ih95 (z_50, p_49, (p_23 + 1)) ls H locs ⟨lv_sub hl [0, 1, 2, 3, 4, 5] rfl, hP, hD, hS⟩ hf
              refine lv_if_ne (tgt := 141) hx hb dX18_refusal_134 (by decide) (fun c_51 => ?_) (fun c_51 => ?_)
              · skip
                rw [lg_cmp_eq] at c_51
                rw [if_neg c_51] at hf
                refine lv_iconst (v := 0) hx hb dX18_refusal_141 (by decide) ?_
                exact B142 (z_44, 0) ls H_46 locs ⟨lv_sub hl [0, 2, 3, 4, 5] rfl, hP, hD, hS⟩ hf
              · skip
                rw [lg_cmp_eq] at c_51
                rw [if_pos c_51] at hf
                refine lv_iconst (v := 1) hx hb dX18_refusal_137 (by decide) ?_
                refine lv_goto (tgt := 142) hx hb dX18_refusal_138 (by decide) ?_
                exact B142 (z_44, 1) ls H_46 locs ⟨lv_sub hl [0, 2, 3, 4, 5] rfl, hP, hD, hS⟩ hf
        refine lv_icmp_ne (tgt := 89) hx hb dX18_refusal_82 (by decide) (fun c_52 => ?_) (fun c_52 => ?_)
        · skip
          rw [if_neg c_52] at hf
          refine lv_iconst (v := 0) hx hb dX18_refusal_89 (by decide) ?_
          exact B90 (z_15, 0) ls H_17 locs ⟨lv_sub hl [0, 1, 2, 3] rfl, hP, hD, hS⟩ hf
        · skip
          rw [if_pos c_52] at hf
          refine lv_iconst (v := 1) hx hb dX18_refusal_85 (by decide) ?_
          refine lv_goto (tgt := 90) hx hb dX18_refusal_86 (by decide) ?_
          exact B90 (z_15, 1) ls H_17 locs ⟨lv_sub hl [0, 1, 2, 3] rfl, hP, hD, hS⟩ hf
      · skip
        rw [if_pos c_14] at hf
        refine lv_bipush (v := 6) hx hb dX18_refusal_66 (by decide) ?_
        obtain ⟨h8, h9⟩ := ret_some hf
        rw [h8, h9]
        exact W.iret (v := 6) hx hb hr (fun t ht hW => ⟨⟨6, (), rfl, rfl, by rw [ht]; exact hP, va_K.moved hW.alike hK, hD⟩, hS.F ht⟩) hS.2.2 dX18_refusal_68
    · skip
      rw [if_neg c_10] at hf
      refine lv_iconst (v := 5) hx hb dX18_refusal_53 (by decide) ?_
      obtain ⟨h8, h9⟩ := ret_some hf
      rw [h8, h9]
      exact W.iret (v := 5) hx hb hr (fun t ht hW => ⟨⟨5, (), rfl, rfl, by rw [ht]; exact hP, va_K.moved hW.alike hK, hD⟩, hS.F ht⟩) hS.2.2 dX18_refusal_54
  · skip
    rw [if_pos c_5] at hf
    refine lv_aload_n hx hb dX18_refusal_11 rfl (lv_at hl 1 rfl) ?_
    obtain ⟨k_53, ek_53, hf⟩ := lnk_some hf
    refine va_get (D := (dC, dI)) (ci := 18) (v := .ref (a k_53)) (C := RX18) (T := TX18) (N := 78) hx hb hts iwd_X18_refusal_X18 hown hK hP h0 (Wd_ob kg_1 sg_1 (by decide)) rfl 58 (by decide) (hts _ md_X18_refusal_2) (fun _ h9 => h9) (fl_q rfl ek_53) dX18_refusal_12 ?_
    refine lv_iload_n hx hb dX18_refusal_15 rfl (lv_at hl 2 rfl) ?_
    obtain ⟨g_54, hf⟩ := grd_some hf
    obtain ⟨kg_54, sg_54, ig_54⟩ := okA_at g_54
    refine va_iald hx hb hK hP k_53 1 (Wd_ai kg_54 sg_54) rfl ig_54 dX18_refusal_16 ?_
    refine lv_if_eq (tgt := 24) hx hb dX18_refusal_17 (by decide) (fun c_55 => ?_) (fun c_55 => ?_)
    · skip
      rw [if_pos c_55] at hf
      refine lv_iload_n hx hb dX18_refusal_24 rfl (lv_at hl 0 rfl) ?_
      refine lv_iconst (v := 5) hx hb dX18_refusal_25 (by decide) ?_
      refine lv_icmp_le (tgt := 33) hx hb dX18_refusal_26 (by decide) (fun c_56 => ?_) (fun c_56 => ?_)
      · skip
        rw [if_pos c_56] at hf
        refine lv_bipush (v := 6) hx hb dX18_refusal_33 (by decide) ?_
        obtain ⟨h8, h9⟩ := ret_some hf
        rw [h8, h9]
        exact W.iret (v := 6) hx hb hr (fun t ht hW => ⟨⟨6, (), rfl, rfl, by rw [ht]; exact hP, va_K.moved hW.alike hK, hD⟩, hS.F ht⟩) hS.2.2 dX18_refusal_35
      · skip
        rw [if_neg c_56] at hf
        refine lv_iconst (v := 5) hx hb dX18_refusal_29 (by decide) ?_
        refine lv_goto (tgt := 35) hx hb dX18_refusal_30 (by decide) ?_
        obtain ⟨h8, h9⟩ := ret_some hf
        rw [h8, h9]
        exact W.iret (v := 5) hx hb hr (fun t ht hW => ⟨⟨5, (), rfl, rfl, by rw [ht]; exact hP, va_K.moved hW.alike hK, hD⟩, hS.F ht⟩) hS.2.2 dX18_refusal_35
    · skip
      rw [if_neg c_55] at hf
      refine lv_iconst (v := 4) hx hb dX18_refusal_20 (by decide) ?_
      refine lv_goto (tgt := 35) hx hb dX18_refusal_21 (by decide) ?_
      obtain ⟨h8, h9⟩ := ret_some hf
      rw [h8, h9]
      exact W.iret (v := 4) hx hb hr (fun t ht hW => ⟨⟨4, (), rfl, rfl, by rw [ht]; exact hP, va_K.moved hW.alike hK, hD⟩, hS.F ht⟩) hS.2.2 dX18_refusal_35

theorem md_X4_run_1 : (.fieldLink RX4 76 "ResourceLedger$Machine" "t" "LResourceLedger$Transaction;" : Cond) ∈ wsX4_run := List.mem_of_getElem? (i := 1) rfl
theorem iwd_X4_run_X4 : ∀ w ∈ wsX40, w ∈ wsX4_run := fun _ h => List.mem_cons_of_mem _ (List.mem_append_left _ (List.mem_append_left _ (List.mem_append_left _ (List.mem_append_left _ (List.mem_append_left _ (List.mem_append_left _ (List.mem_append_left _ (List.mem_append_right _ h))))))))
theorem md_X4_run_2 : (.fieldLink RX4 80 "ResourceLedger$Machine" "gas" "I" : Cond) ∈ wsX4_run := List.mem_of_getElem? (i := 2) rfl
theorem md_X4_run_3 : (.fieldLink RX4 83 "ResourceLedger$Machine" "running" "Z" : Cond) ∈ wsX4_run := List.mem_of_getElem? (i := 3) rfl
theorem md_X4_run_4 : (.fieldLink RX4 87 "ResourceLedger$Machine" "outcome" "I" : Cond) ∈ wsX4_run := List.mem_of_getElem? (i := 4) rfl
theorem md_X4_run_5 : (.fieldLink RX4 90 "ResourceLedger$Machine" "code" "J" : Cond) ∈ wsX4_run := List.mem_of_getElem? (i := 5) rfl
theorem md_X4_run_6 : (.fieldLink RX4 12 "ResourceLedger$Machine" "heap" "LResourceLedger$Heap;" : Cond) ∈ wsX4_run := List.mem_of_getElem? (i := 6) rfl
theorem md_X4_run_7 : (.fieldLink RX4 67 "ResourceLedger$Machine" "journal" "LResourceLedger$Journal;" : Cond) ∈ wsX4_run := List.mem_of_getElem? (i := 7) rfl
theorem md_X4_run_8 : (.fieldLink RX4 101 "ResourceLedger$Machine" "top" "I" : Cond) ∈ wsX4_run := List.mem_of_getElem? (i := 8) rfl
theorem md_X4_run_9 : (.fieldLink RX4 58 "ResourceLedger$Machine" "state" "LResourceLedger$State;" : Cond) ∈ wsX4_run := List.mem_of_getElem? (i := 9) rfl
theorem md_X4_run_10 : (.fieldLink RX4 104 "ResourceLedger$Transaction" "module" "I" : Cond) ∈ wsX4_run := List.mem_of_getElem? (i := 10) rfl
theorem iwd_X4_run_X8 : ∀ w ∈ wsX80, w ∈ wsX4_run := fun _ h => List.mem_cons_of_mem _ (List.mem_append_left _ (List.mem_append_left _ (List.mem_append_left _ (List.mem_append_left _ (List.mem_append_left _ (List.mem_append_left _ (List.mem_append_right _ h)))))))
theorem md_X4_run_11 : (.fieldLink RX4 115 "ResourceLedger$Transaction" "function" "I" : Cond) ∈ wsX4_run := List.mem_of_getElem? (i := 11) rfl
theorem md_X4_run_12 : (.fieldLink RX4 122 "ResourceLedger$Transaction" "argumentCount" "I" : Cond) ∈ wsX4_run := List.mem_of_getElem? (i := 12) rfl
theorem md_X4_run_18 : (.fieldLink RX4 49 "ResourceLedger$Machine" "depths" "[I" : Cond) ∈ wsX4_run := List.mem_of_getElem? (i := 18) rfl
theorem md_X4_run_19 : (.fieldLink RX4 55 "ResourceLedger$Machine" "stack" "[I" : Cond) ∈ wsX4_run := List.mem_of_getElem? (i := 19) rfl
theorem md_X4_run_20 : (.fieldLink RX4 152 "ResourceLedger$Heap" "kind" "[B" : Cond) ∈ wsX4_run := List.mem_of_getElem? (i := 20) rfl
theorem iwd_X4_run_X1 : ∀ w ∈ wsX10, w ∈ wsX4_run := fun _ h => List.mem_cons_of_mem _ (List.mem_append_left _ (List.mem_append_left _ (List.mem_append_left _ (List.mem_append_left _ (List.mem_append_left _ (List.mem_append_right _ h))))))
theorem md_X4_run_21 : (.fieldLink RX4 155 "ResourceLedger$Heap" "high" "[J" : Cond) ∈ wsX4_run := List.mem_of_getElem? (i := 21) rfl
theorem md_X4_run_22 : (.fieldLink RX4 158 "ResourceLedger$Heap" "low" "[J" : Cond) ∈ wsX4_run := List.mem_of_getElem? (i := 22) rfl
theorem md_X4_run_17 : (.constantLong RX4 146 (4) : Cond) ∈ wsX4_run := List.mem_of_getElem? (i := 17) rfl
theorem md_X4_run_13 : (.fieldLink RX4 52 "ResourceLedger$Machine" "locals" "[I" : Cond) ∈ wsX4_run := List.mem_of_getElem? (i := 13) rfl
theorem md_X4_run_14 : (.fieldLink RX4 125 "ResourceLedger$Transaction" "argumentType" "[I" : Cond) ∈ wsX4_run := List.mem_of_getElem? (i := 14) rfl
theorem md_X4_run_15 : (.fieldLink RX4 128 "ResourceLedger$Transaction" "argumentHigh" "[J" : Cond) ∈ wsX4_run := List.mem_of_getElem? (i := 15) rfl
theorem md_X4_run_16 : (.fieldLink RX4 132 "ResourceLedger$Transaction" "argumentLow" "[J" : Cond) ∈ wsX4_run := List.mem_of_getElem? (i := 16) rfl
set_option maxHeartbeats 4000000 in
set_option maxRecDepth 100000 in
theorem de_X4_run (l : Launch) (dC : Nat → ClassId) (dI : Nat → Nat → Nat) (cy : Nat → ClassId) (a : Nat → Nat) (sh : Nat → Nat × Nat) (n sz : Nat) (F : Nat) (sk : Nat → Nat) (z : St) (h0 : Nat) (x0 : Nat) {z8 : St} {r8 : Unit} (hf : fn_X4_run F sh n z h0 x0 = some (z8, r8)) : Met l yX4_run wsX4_run ({ frames := 54, cells := 0, slots := 0, locals := 1500 }) (va_Pc [.ref (a h0), .ref (a x0)] (fun U => U.heap.size = sz ∧ va_P (dC, dI) vwCl (Wd cy a sh n z) U.heap ∧ va_K (dC, dI) vwCl (TYS cy) U ∧ va_D (fun _ => True) (Wd cy a sh n z) ∧ NK U ∧ SKs sk (a CBK) (va_A (Wd cy a sh n z) sz) U U.heap)) (va_Qv (fun u : Unit => True) (fun u t => va_P (dC, dI) vwCl (Wd cy a sh n z8) t.heap ∧ va_K (dC, dI) vwCl (TYS cy) t ∧ va_D (va_A (Wd cy a sh n z) sz) (Wd cy a sh n z8)) (va_A (Wd cy a sh n z) sz)) 0 0 (va_A (Wd cy a sh n z) sz) := by
  refine Met.ofW (cc := cX4_run) (maxL := 4) (ret := none) (by decide) rfl ?_
  intro p e s m args below meth c s₁ B hml hv
  obtain ⟨rfl, hsz, hP, hK, hD0, hN, hSK⟩ := hv
  have hx := B.exec
  have hb := B.bytes
  have hr := B.returns
  have hts := atoms_spec (ws := wsX4_run) B.pre
  have hown : s.vm.findClass RX4 = some m.cls := findClass_of_methodNamed B.named
  have hlocks := B.notSynchronized
  subst hsz
  have hD := hD0.self (sz := s.heap.size)
  clear hD0
  generalize hAe : va_A (Wd cy a sh n z) s.heap.size = A at hD hSK ⊢
  have hA : ∀ q : Nat, s.heap.size ≤ q → A q := fun q h => by rw [← hAe]; exact Or.inr h
  clear hAe
  have hS : va_S A s.heap s.heap [] := va_S.rf
  have hl := lv_entry ([.ref (a h0), .ref (a x0)]) (n := 4) (Nat.le_of_ble_eq_true rfl)
  rw [lg_entry_eq]
  generalize (lg_sl ([.ref (a h0), .ref (a x0)]) ++ List.replicate (4 - (lg_sl ([.ref (a h0), .ref (a x0)])).length) Slot.unset).toArray = ls at hl ⊢
  replace hl : lv_has ls 4 [(0, .ref (a h0)), (1, .ref (a x0))] := hl
  unfold fn_X4_run at hf
  refine de_start hS hP (fun H locs hS hP => ?_)
  refine lv_aload_n hx hb dX4_run_0 rfl (lv_at hl 0 rfl) ?_
  refine lv_aload_n hx hb dX4_run_1 rfl (lv_at hl 1 rfl) ?_
  obtain ⟨g_1, hf⟩ := grd_some hf
  obtain ⟨kg_1, sg_1⟩ := okO_at g_1
  refine va_put (D := (dC, dI)) (ci := 4) (v := .ref (a x0)) (ty := .object "ResourceLedger$Transaction") (C := RX4) (T := TX4) (N := 19) hx hb hts iwd_X4_run_X4 tyX4 tyX4_ok nmX4 hown hK hP hD hS h0 (Wd_ob kg_1 sg_1 (by decide)) rfl 13 (by decide) (hts _ md_X4_run_1) (fun _ h9 => h9) rfl (by decide +kernel) rfl rfl (by rw [fl_len]; decide) dX4_run_2 (fun H_2 locs hP2 hD2 hS2 => ?_)
  rw [Wd_sq1 sg_1 (by decide) rfl] at hP2 hD2
  obtain ⟨z_3, ez_3⟩ : ∃ w, w = sq z h0 13 (some x0) := ⟨_, rfl⟩
  rw [← ez_3] at hP2 hD2
  replace hf := lt_at ez_3 hf
  clear ez_3
  replace hP := hP2
  replace hD := hD2
  replace hS := hS2
  clear hP2 hD2 hS2
  refine lv_aload_n hx hb dX4_run_5 rfl (lv_at hl 0 rfl) ?_
  refine lv_iconst (v := 0) hx hb dX4_run_6 (by decide) ?_
  refine va_put (D := (dC, dI)) (ci := 4) (v := .int 0) (ty := .int) (C := RX4) (T := TX4) (N := 19) hx hb hts iwd_X4_run_X4 tyX4 tyX4_ok nmX4 hown hK hP hD hS h0 (Wd_ob kg_1 sg_1 (by decide)) rfl 14 (by decide) (hts _ md_X4_run_2) (fun _ h9 => h9) rfl (by decide +kernel) rfl rfl (by rw [fl_len]; decide) dX4_run_7 (fun H_4 locs hP2 hD2 hS2 => ?_)
  rw [Wd_si sg_1 (by decide) rfl] at hP2 hD2
  obtain ⟨z_5, ez_5⟩ : ∃ w, w = si z_3 h0 14 0 := ⟨_, rfl⟩
  rw [← ez_5] at hP2 hD2
  replace hf := lt_at ez_5 hf
  clear ez_5
  replace hP := hP2
  replace hD := hD2
  replace hS := hS2
  clear hP2 hD2 hS2
  refine lv_aload_n hx hb dX4_run_10 rfl (lv_at hl 0 rfl) ?_
  refine lv_iconst (v := 1) hx hb dX4_run_11 (by decide) ?_
  refine va_put (D := (dC, dI)) (ci := 4) (v := .int 1) (ty := .boolean) (C := RX4) (T := TX4) (N := 19) hx hb hts iwd_X4_run_X4 tyX4 tyX4_ok nmX4 hown hK hP hD hS h0 (Wd_ob kg_1 sg_1 (by decide)) rfl 15 (by decide) (hts _ md_X4_run_3) (fun _ h9 => h9) rfl (by decide +kernel) rfl rfl (by rw [fl_len]; decide) dX4_run_12 (fun H_6 locs hP2 hD2 hS2 => ?_)
  rw [Wd_si sg_1 (by decide) rfl] at hP2 hD2
  obtain ⟨z_7, ez_7⟩ : ∃ w, w = si z_5 h0 15 1 := ⟨_, rfl⟩
  rw [← ez_7] at hP2 hD2
  replace hf := lt_at ez_7 hf
  clear ez_7
  replace hP := hP2
  replace hD := hD2
  replace hS := hS2
  clear hP2 hD2 hS2
  refine lv_aload_n hx hb dX4_run_15 rfl (lv_at hl 0 rfl) ?_
  refine lv_iconst (v := 0) hx hb dX4_run_16 (by decide) ?_
  refine va_put (D := (dC, dI)) (ci := 4) (v := .int 0) (ty := .int) (C := RX4) (T := TX4) (N := 19) hx hb hts iwd_X4_run_X4 tyX4 tyX4_ok nmX4 hown hK hP hD hS h0 (Wd_ob kg_1 sg_1 (by decide)) rfl 16 (by decide) (hts _ md_X4_run_4) (fun _ h9 => h9) rfl (by decide +kernel) rfl rfl (by rw [fl_len]; decide) dX4_run_17 (fun H_8 locs hP2 hD2 hS2 => ?_)
  rw [Wd_si sg_1 (by decide) rfl] at hP2 hD2
  obtain ⟨z_9, ez_9⟩ : ∃ w, w = si z_7 h0 16 0 := ⟨_, rfl⟩
  rw [← ez_9] at hP2 hD2
  replace hf := lt_at ez_9 hf
  clear ez_9
  replace hP := hP2
  replace hD := hD2
  replace hS := hS2
  clear hP2 hD2 hS2
  refine lv_aload_n hx hb dX4_run_20 rfl (lv_at hl 0 rfl) ?_
  refine lv_lconst (v := 0) hx hb dX4_run_21 (by decide) ?_
  refine va_put (D := (dC, dI)) (ci := 4) (v := .long 0) (ty := .long) (C := RX4) (T := TX4) (N := 19) hx hb hts iwd_X4_run_X4 tyX4 tyX4_ok nmX4 hown hK hP hD hS h0 (Wd_ob kg_1 sg_1 (by decide)) rfl 17 (by decide) (hts _ md_X4_run_5) (fun _ h9 => h9) rfl (by decide +kernel) rfl rfl (by rw [fl_len]; decide) dX4_run_22 (fun H_10 locs hP2 hD2 hS2 => ?_)
  rw [Wd_sl sg_1 (by decide) rfl] at hP2 hD2
  obtain ⟨z_11, ez_11⟩ : ∃ w, w = sl z_9 h0 17 0 := ⟨_, rfl⟩
  rw [← ez_11] at hP2 hD2
  replace hf := lt_at ez_11 hf
  clear ez_11
  replace hP := hP2
  replace hD := hD2
  replace hS := hS2
  clear hP2 hD2 hS2
  refine lv_aload_n hx hb dX4_run_25 rfl (lv_at hl 0 rfl) ?_
  obtain ⟨k_12, ek_12, hf⟩ := lnk_some hf
  refine va_get (D := (dC, dI)) (ci := 4) (v := .ref (a k_12)) (C := RX4) (T := TX4) (N := 19) hx hb hts iwd_X4_run_X4 hown hK hP h0 (Wd_ob kg_1 sg_1 (by decide)) rfl 1 (by decide) (hts _ md_X4_run_6) (fun _ h9 => h9) (fl_q rfl ek_12) dX4_run_26 ?_
  obtain ⟨g_14, hf⟩ := grd_some hf
  obtain ⟨kg_14, sg_14⟩ := okO_at g_14
  obtain ⟨z_13, _u, hfc, hf⟩ := cal_some hf
  have hFc := de_free hD hS hA
  refine va_callv (va_runV (As := []) (rest := []) ⟨hx, hb, hml, hown, hts⟩ (de_X1_clear l dC dI cy a sh n H_10.size F z_11 k_12 hfc) (cwV 0 hts gX4_run_X1_clear rfl rfl rfl (by decide +kernel) ⟨Nat.le_of_ble_eq_true rfl, Nat.le_of_ble_eq_true rfl⟩) ⟨fun a U g mk q => by obtain ⟨q0, q1, qP, qK, qD, qN⟩ := q; exact ⟨q0, q1, qP, va_K.moved (u := U) (U := U.calling g mk a) (Vm.Alike.refl U.vm) qK, qD, qN.same rfl⟩, va_recv hK hP (ci := 1) (q0 := k_12) rfl (Wd_ob kg_14 sg_14 (by decide)), fun U hU hW => ⟨rfl, by rw [hU], by rw [hU]; exact hP, va_K.moved hW.alike hK, hD.weaken (fun _ _ _ _ => trivial), hN.warm hW⟩⟩ rfl rfl hl.1 rfl (lv_room (Nat.le_of_ble_eq_true rfl)) dX4_run_29 ⟨Nat.le_of_ble_eq_true rfl, Nat.le_of_ble_eq_true rfl⟩) hS (fun q _ h => hFc q h) hFc (fun u t H_15 locs ht hvm hw hB hz1 hk1 hS2 => ?_)
  obtain ⟨hP1, -, hD1⟩ := hB
  rw [ht] at hP1
  replace hD := hD1.weaken (fun _ _ _ h => hFc _ h)
  replace hP := hP1
  replace hS := hS2
  clear hP1 hD1 hS2 hFc hfc hz1 hk1 hvm ht
  refine lv_aload_n hx hb dX4_run_32 rfl (lv_at hl 0 rfl) ?_
  obtain ⟨k_16, ek_16, hf⟩ := lnk_some hf
  refine va_get (D := (dC, dI)) (ci := 4) (v := .ref (a k_16)) (C := RX4) (T := TX4) (N := 19) hx hb hts iwd_X4_run_X4 hown hK hP h0 (Wd_ob kg_1 sg_1 (by decide)) rfl 2 (by decide) (hts _ md_X4_run_7) (fun _ h9 => h9) (fl_q rfl ek_16) dX4_run_33 ?_
  refine lv_aload_n hx hb dX4_run_36 rfl (lv_at hl 0 rfl) ?_
  obtain ⟨k_17, ek_17, hf⟩ := lnk_some hf
  refine va_get (D := (dC, dI)) (ci := 4) (v := .ref (a k_17)) (C := RX4) (T := TX4) (N := 19) hx hb hts iwd_X4_run_X4 hown hK hP h0 (Wd_ob kg_1 sg_1 (by decide)) rfl 13 (by decide) (hts _ md_X4_run_1) (fun _ h9 => h9) (fl_q rfl ek_17) dX4_run_37 ?_
  obtain ⟨g_19, hf⟩ := grd_some hf
  obtain ⟨kg_19, sg_19⟩ := okO_at g_19
  obtain ⟨z_18, _u, hfc, hf⟩ := cal_some hf
  have hFc := de_free hD hS hA
  refine va_callv (va_runV (As := [.ref (a k_17)]) (rest := []) ⟨hx, hb, hml, hown, hts⟩ (de_X2_open l dC dI cy a sh n H_15.size F z_13 k_16 k_17 hfc) (cwV 1 hts gX4_run_X2_open rfl rfl rfl (by decide +kernel) ⟨Nat.le_of_ble_eq_true rfl, Nat.le_of_ble_eq_true rfl⟩) ⟨fun a U g mk q => by obtain ⟨q0, q1, qP, qK, qD, qN⟩ := q; exact ⟨q0, q1, qP, va_K.moved (u := U) (U := U.calling g mk a) (Vm.Alike.refl U.vm) qK, qD, qN.same rfl⟩, va_recv hK hP (ci := 2) (q0 := k_16) rfl (Wd_ob kg_19 sg_19 (by decide)), fun U hU hW => ⟨rfl, by rw [hU], by rw [hU]; exact hP, va_K.moved hW.alike hK, hD.weaken (fun _ _ _ _ => trivial), hN.warm hW⟩⟩ rfl rfl hl.1 rfl (lv_room (Nat.le_of_ble_eq_true rfl)) dX4_run_40 ⟨Nat.le_of_ble_eq_true rfl, Nat.le_of_ble_eq_true rfl⟩) hS (fun q _ h => hFc q h) hFc (fun u t H_20 locs ht hvm hw hB hz1 hk1 hS2 => ?_)
  obtain ⟨hP1, -, hD1⟩ := hB
  rw [ht] at hP1
  replace hD := hD1.weaken (fun _ _ _ h => hFc _ h)
  replace hP := hP1
  replace hS := hS2
  clear hP1 hD1 hS2 hFc hfc hz1 hk1 hvm ht
  refine lv_aload_n hx hb dX4_run_43 rfl (lv_at hl 0 rfl) ?_
  refine lv_iconst (v := (-1)) hx hb dX4_run_44 (by decide) ?_
  refine va_put (D := (dC, dI)) (ci := 4) (v := .int (-1)) (ty := .int) (C := RX4) (T := TX4) (N := 19) hx hb hts iwd_X4_run_X4 tyX4 tyX4_ok nmX4 hown hK hP hD hS h0 (Wd_ob kg_1 sg_1 (by decide)) rfl 12 (by decide) (hts _ md_X4_run_8) (fun _ h9 => h9) rfl (by decide +kernel) rfl rfl (by rw [fl_len]; decide) dX4_run_45 (fun H_21 locs hP2 hD2 hS2 => ?_)
  rw [Wd_si sg_1 (by decide) rfl] at hP2 hD2
  obtain ⟨z_22, ez_22⟩ : ∃ w, w = si z_18 h0 12 (-1) := ⟨_, rfl⟩
  rw [← ez_22] at hP2 hD2
  replace hf := lt_at ez_22 hf
  clear ez_22
  replace hP := hP2
  replace hD := hD2
  replace hS := hS2
  clear hP2 hD2 hS2
  refine lv_aload_n hx hb dX4_run_48 rfl (lv_at hl 0 rfl) ?_
  refine lv_aload_n hx hb dX4_run_49 rfl (lv_at hl 0 rfl) ?_
  obtain ⟨k_23, ek_23, hf⟩ := lnk_some hf
  refine va_get (D := (dC, dI)) (ci := 4) (v := .ref (a k_23)) (C := RX4) (T := TX4) (N := 19) hx hb hts iwd_X4_run_X4 hown hK hP h0 (Wd_ob kg_1 sg_1 (by decide)) rfl 0 (by decide) (hts _ md_X4_run_9) (fun _ h9 => h9) (fl_q rfl ek_23) dX4_run_50 ?_
  refine lv_aload_n hx hb dX4_run_53 rfl (lv_at hl 0 rfl) ?_
  obtain ⟨k_24, ek_24, hf⟩ := lnk_some hf
  refine va_get (D := (dC, dI)) (ci := 4) (v := .ref (a k_24)) (C := RX4) (T := TX4) (N := 19) hx hb hts iwd_X4_run_X4 hown hK hP h0 (Wd_ob kg_1 sg_1 (by decide)) rfl 13 (by decide) (hts _ md_X4_run_1) (fun _ h9 => h9) (fl_q rfl ek_24) dX4_run_54 ?_
  obtain ⟨g_25, hf⟩ := grd_some hf
  obtain ⟨kg_25, sg_25⟩ := okO_at g_25
  refine va_get (D := (dC, dI)) (ci := 8) (v := .int (z_22.1 k_24 4)) (C := RX8) (T := TX8) (N := 19) hx hb hts iwd_X4_run_X8 hown hK hP k_24 (Wd_ob kg_25 sg_25 (by decide)) rfl 4 (by decide) (hts _ md_X4_run_10) (fun _ h9 => h9) (fl_at (t := 0) rfl) dX4_run_57 ?_
  obtain ⟨g_28, hf⟩ := grd_some hf
  obtain ⟨kg_28, sg_28⟩ := okO_at g_28
  obtain ⟨z_26, r_27, hfc, hf⟩ := cal_some hf
  have hFc := de_free hD hS hA
  refine va_callq (va_runV (As := [.int (z_22.1 k_24 4)]) (rest := [.ref (a h0)]) ⟨hx, hb, hml, hown, hts⟩ (de_X7_findProgram l dC dI cy a sh n H_21.size F z_22 k_23 (z_22.1 k_24 4) hfc) (cwV 1 hts gX4_run_X7_findProgram rfl rfl rfl (by decide +kernel) ⟨Nat.le_of_ble_eq_true rfl, Nat.le_of_ble_eq_true rfl⟩) ⟨fun a U g mk q => by obtain ⟨q0, q1, qP, qK, qD, qN⟩ := q; exact ⟨q0, q1, qP, va_K.moved (u := U) (U := U.calling g mk a) (Vm.Alike.refl U.vm) qK, qD, qN.same rfl⟩, va_recv hK hP (ci := 7) (q0 := k_23) rfl (Wd_ob kg_28 sg_28 (by decide)), fun U hU hW => ⟨rfl, by rw [hU], by rw [hU]; exact hP, va_K.moved hW.alike hK, hD.weaken (fun _ _ _ _ => trivial), hN.warm hW⟩⟩ rfl rfl hl.1 rfl (lv_room (Nat.le_of_ble_eq_true rfl)) dX4_run_60 ⟨Nat.le_of_ble_eq_true rfl, Nat.le_of_ble_eq_true rfl⟩) hS (fun q _ h => hFc q h) hFc (fun rr u t H_29 locs ht hvm hw hB hz1 hk1 hS2 => ?_)
  rw [hw]
  clear hw
  obtain ⟨hP1, -, hD1⟩ := hB
  rw [ht] at hP1
  replace hD := hD1.weaken (fun _ _ _ h => hFc _ h)
  replace hP := hP1
  replace hS := hS2
  clear hP1 hD1 hS2 hFc hfc hz1 hk1 hvm ht
  rcases r_27 with _ | k_30
  · skip
    replace hf := nul_none hf
    refine W.eq (g2 := F0 m 63 ls [.null, .ref (a h0)]) rfl ?_
    refine lv_aload_n hx hb dX4_run_63 rfl (lv_at hl 0 rfl) ?_
    obtain ⟨k_31, ek_31, hf⟩ := lnk_some hf
    refine va_get (D := (dC, dI)) (ci := 4) (v := .ref (a k_31)) (C := RX4) (T := TX4) (N := 19) hx hb hts iwd_X4_run_X4 hown hK hP h0 (Wd_ob kg_1 sg_1 (by decide)) rfl 13 (by decide) (hts _ md_X4_run_1) (fun _ h9 => h9) (fl_q rfl ek_31) dX4_run_64 ?_
    obtain ⟨g_32, hf⟩ := grd_some hf
    obtain ⟨kg_32, sg_32⟩ := okO_at g_32
    refine va_get (D := (dC, dI)) (ci := 8) (v := .int (z_26.1 k_31 5)) (C := RX8) (T := TX8) (N := 19) hx hb hts iwd_X4_run_X8 hown hK hP k_31 (Wd_ob kg_32 sg_32 (by decide)) rfl 5 (by decide) (hts _ md_X4_run_11) (fun _ h9 => h9) (fl_at (t := 0) rfl) dX4_run_67 ?_
    exact absurd hf (by simp)
  · skip
    replace hf := nul_some hf
    refine W.eq (g2 := F0 m 63 ls [.ref (a k_30), .ref (a h0)]) rfl ?_
    refine lv_aload_n hx hb dX4_run_63 rfl (lv_at hl 0 rfl) ?_
    obtain ⟨k_33, ek_33, hf⟩ := lnk_some hf
    refine va_get (D := (dC, dI)) (ci := 4) (v := .ref (a k_33)) (C := RX4) (T := TX4) (N := 19) hx hb hts iwd_X4_run_X4 hown hK hP h0 (Wd_ob kg_1 sg_1 (by decide)) rfl 13 (by decide) (hts _ md_X4_run_1) (fun _ h9 => h9) (fl_q rfl ek_33) dX4_run_64 ?_
    obtain ⟨g_34, hf⟩ := grd_some hf
    obtain ⟨kg_34, sg_34⟩ := okO_at g_34
    refine va_get (D := (dC, dI)) (ci := 8) (v := .int (z_26.1 k_33 5)) (C := RX8) (T := TX8) (N := 19) hx hb hts iwd_X4_run_X8 hown hK hP k_33 (Wd_ob kg_34 sg_34 (by decide)) rfl 5 (by decide) (hts _ md_X4_run_11) (fun _ h9 => h9) (fl_at (t := 0) rfl) dX4_run_67 ?_
    obtain ⟨z_35, _u, hfc, hf⟩ := cal_some hf
    have hFc := de_free hD hS hA
    refine va_callv (va_runV (As := [.ref (a k_30), .int (z_26.1 k_33 5)]) (rest := []) ⟨hx, hb, hml, hown, hts⟩ (de_X4_pushFrame l dC dI cy a sh n H_29.size F z_26 h0 k_30 (z_26.1 k_33 5) hfc) (cwV 2 hts gX4_run_X4_pushFrame rfl rfl rfl (by decide +kernel) ⟨Nat.le_of_ble_eq_true rfl, Nat.le_of_ble_eq_true rfl⟩) ⟨fun a U g mk q => by obtain ⟨q0, q1, qP, qK, qD, qN⟩ := q; exact ⟨q0, q1, qP, va_K.moved (u := U) (U := U.calling g mk a) (Vm.Alike.refl U.vm) qK, qD, qN.same rfl⟩, va_recv hK hP (ci := 4) (q0 := h0) rfl (Wd_ob kg_1 sg_1 (by decide)), fun U hU hW => ⟨rfl, by rw [hU], by rw [hU]; exact hP, va_K.moved hW.alike hK, hD.weaken (fun _ _ _ _ => trivial), hN.warm hW⟩⟩ rfl rfl hl.1 rfl (lv_room (Nat.le_of_ble_eq_true rfl)) dX4_run_70 ⟨Nat.le_of_ble_eq_true rfl, Nat.le_of_ble_eq_true rfl⟩) hS (fun q _ h => hFc q h) hFc (fun u t H_36 locs ht hvm hw hB hz1 hk1 hS2 => ?_)
    obtain ⟨hP1, -, hD1⟩ := hB
    rw [ht] at hP1
    replace hD := hD1.weaken (fun _ _ _ h => hFc _ h)
    replace hP := hP1
    replace hS := hS2
    clear hP1 hD1 hS2 hFc hfc hz1 hk1 hvm ht
    refine lv_iconst (v := 0) hx hb dX4_run_73 (by decide) ?_
    refine lv_istore_n (lv' := [(2, .int 0), (0, .ref (a h0)), (1, .ref (a x0))]) hx hb dX4_run_74 rfl hl (by decide) rfl (fun ls hl2 => ?_)
    replace hl := hl2
    clear hl2
    have hl0 : lv_has ls 4 [(2, .int 0), (0, .ref (a h0))] := lv_sub hl [0, 1] rfl
    refine de_loop (h := 75) (fun (x : St × Int32) ls H locs => lv_has ls 4 [(2, .int x.2), (0, .ref (a h0))] ∧ va_P (dC, dI) vwCl (Wd cy a sh n x.1) H ∧ va_D A (Wd cy a sh n x.1) ∧ va_S A s.heap H locs) (fun f x => fn_X4_run_L75 F sh n h0 f x.1 x.2) (z8, r8) ?_ (fun _ => rfl) F (z_35, 0) ls H_36 locs ⟨hl0, hP, hD, hS⟩ hf
    intro f_39 x ls H locs ih75 hI hf
    obtain ⟨z_38, p_37⟩ := x
    obtain ⟨hl2, hP2, hD2, hS2⟩ := hI
    replace hl : lv_has ls 4 [(2, .int p_37), (0, .ref (a h0))] := hl2
    replace hP := hP2
    replace hD := hD2
    replace hS := hS2
    clear hl2 hP2 hD2 hS2 hl0
    replace hf := fn_X4_run_L75_s hf
    refine lv_iload_n hx hb dX4_run_75 rfl (lv_at hl 0 rfl) ?_
    refine lv_aload_n hx hb dX4_run_76 rfl (lv_at hl 1 rfl) ?_
    obtain ⟨k_40, ek_40, hf⟩ := lnk_some hf
    refine va_get (D := (dC, dI)) (ci := 4) (v := .ref (a k_40)) (C := RX4) (T := TX4) (N := 19) hx hb hts iwd_X4_run_X4 hown hK hP h0 (Wd_ob kg_1 sg_1 (by decide)) rfl 13 (by decide) (hts _ md_X4_run_1) (fun _ h9 => h9) (fl_q rfl ek_40) dX4_run_77 ?_
    obtain ⟨g_41, hf⟩ := grd_some hf
    obtain ⟨kg_41, sg_41⟩ := okO_at g_41
    refine va_get (D := (dC, dI)) (ci := 8) (v := .int (z_38.1 k_40 7)) (C := RX8) (T := TX8) (N := 19) hx hb hts iwd_X4_run_X8 hown hK hP k_40 (Wd_ob kg_41 sg_41 (by decide)) rfl 7 (by decide) (hts _ md_X4_run_12) (fun _ h9 => h9) (fl_at (t := 0) rfl) dX4_run_80 ?_
    refine lv_icmp_ge (tgt := 132) hx hb dX4_run_83 (by decide) (fun c_42 => ?_) (fun c_42 => ?_)
    · skip
      rw [if_pos c_42] at hf
      refine lv_iconst (v := 0) hx hb dX4_run_132 (by decide) ?_
      refine lv_istore_n (lv' := [(2, .int 0), (0, .ref (a h0))]) hx hb dX4_run_133 rfl hl (by decide) rfl (fun ls hl2 => ?_)
      replace hl := hl2
      clear hl2
      have hl0 : lv_has ls 4 [(2, .int 0), (0, .ref (a h0))] := lv_sub hl [0, 1] rfl
      refine de_loop (h := 134) (fun (x : St × Int32) ls H locs => lv_has ls 4 [(2, .int x.2), (0, .ref (a h0))] ∧ va_P (dC, dI) vwCl (Wd cy a sh n x.1) H ∧ va_D A (Wd cy a sh n x.1) ∧ va_S A s.heap H locs) (fun f x => fn_X4_run_L134 F sh n h0 f x.1 x.2) (z8, r8) ?_ (fun _ => rfl) F (z_38, 0) ls H locs ⟨hl0, hP, hD, hS⟩ hf
      intro f_45 x ls H locs ih134 hI hf
      obtain ⟨z_44, p_43⟩ := x
      obtain ⟨hl2, hP2, hD2, hS2⟩ := hI
      replace hl : lv_has ls 4 [(2, .int p_43), (0, .ref (a h0))] := hl2
      replace hP := hP2
      replace hD := hD2
      replace hS := hS2
      clear hl2 hP2 hD2 hS2 hl0
      replace hf := fn_X4_run_L134_s hf
      refine lv_iload_n hx hb dX4_run_134 rfl (lv_at hl 0 rfl) ?_
      refine lv_sipush (v := 20000) hx hb dX4_run_135 (by decide) ?_
      refine de_cut (h := 158) (fun (x : St) => []) (fun x ls H locs => lv_has ls 4 [(0, .ref (a h0))] ∧ va_P (dC, dI) vwCl (Wd cy a sh n x) H ∧ va_D A (Wd cy a sh n x) ∧ va_S A s.heap H locs) (fun x => fn_X4_run_B158 F sh n h0 x) (z8, r8) ?_ (fun B158 => ?_)
      · intro x ls H locs hI hf
        obtain ⟨z_46, ez⟩ : ∃ w, w = x := ⟨_, rfl⟩
        subst ez
        obtain ⟨hl2, hP2, hD2, hS2⟩ := hI
        replace hl : lv_has ls 4 [(0, .ref (a h0))] := hl2
        replace hP := hP2
        replace hD := hD2
        replace hS := hS2
        clear hl2 hP2 hD2 hS2
        replace hf := fn_X4_run_B158_s hf
        refine W.eq (g2 := F0 m 158 ls []) rfl ?_
        refine lv_aload_n hx hb dX4_run_158 rfl (lv_at hl 0 rfl) ?_
        refine va_get (D := (dC, dI)) (ci := 4) (v := .int (z_46.1 h0 16)) (C := RX4) (T := TX4) (N := 19) hx hb hts iwd_X4_run_X4 hown hK hP h0 (Wd_ob kg_1 sg_1 (by decide)) rfl 16 (by decide) (hts _ md_X4_run_4) (fun _ h9 => h9) (fl_at (t := 0) rfl) dX4_run_159 ?_
        refine de_cut (h := 183) (fun (x : St) => []) (fun x ls H locs => lv_has ls 4 [(0, .ref (a h0))] ∧ va_P (dC, dI) vwCl (Wd cy a sh n x) H ∧ va_D A (Wd cy a sh n x) ∧ va_S A s.heap H locs) (fun x => fn_X4_run_B183 F sh n h0 x) (z8, r8) ?_ (fun B183 => ?_)
        · intro x ls H locs hI hf
          obtain ⟨z_47, ez⟩ : ∃ w, w = x := ⟨_, rfl⟩
          subst ez
          obtain ⟨hl2, hP2, hD2, hS2⟩ := hI
          replace hl : lv_has ls 4 [(0, .ref (a h0))] := hl2
          replace hP := hP2
          replace hD := hD2
          replace hS := hS2
          clear hl2 hP2 hD2 hS2
          replace hf := fn_X4_run_B183_s hf
          refine W.eq (g2 := F0 m 183 ls []) rfl ?_
          refine lv_aload_n hx hb dX4_run_183 rfl (lv_at hl 0 rfl) ?_
          refine va_get (D := (dC, dI)) (ci := 4) (v := .int (z_47.1 h0 16)) (C := RX4) (T := TX4) (N := 19) hx hb hts iwd_X4_run_X4 hown hK hP h0 (Wd_ob kg_1 sg_1 (by decide)) rfl 16 (by decide) (hts _ md_X4_run_4) (fun _ h9 => h9) (fl_at (t := 0) rfl) dX4_run_184 ?_
          refine de_cut (h := 256) (fun (x : St) => []) (fun x ls H locs => lv_has ls 4 [(0, .ref (a h0))] ∧ va_P (dC, dI) vwCl (Wd cy a sh n x) H ∧ va_D A (Wd cy a sh n x) ∧ va_S A s.heap H locs) (fun x => fn_X4_run_B256 F sh n h0 x) (z8, r8) ?_ (fun B256 => ?_)
          · intro x ls H locs hI hf
            obtain ⟨z_48, ez⟩ : ∃ w, w = x := ⟨_, rfl⟩
            subst ez
            obtain ⟨hl2, hP2, hD2, hS2⟩ := hI
            replace hl : lv_has ls 4 [(0, .ref (a h0))] := hl2
            replace hP := hP2
            replace hD := hD2
            replace hS := hS2
            clear hl2 hP2 hD2 hS2
            replace hf := fn_X4_run_B256_s hf
            refine W.eq (g2 := F0 m 256 ls []) rfl ?_
            refine lv_aload_n hx hb dX4_run_256 rfl (lv_at hl 0 rfl) ?_
            obtain ⟨k_49, ek_49, hf⟩ := lnk_some hf
            refine va_get (D := (dC, dI)) (ci := 4) (v := .ref (a k_49)) (C := RX4) (T := TX4) (N := 19) hx hb hts iwd_X4_run_X4 hown hK hP h0 (Wd_ob kg_1 sg_1 (by decide)) rfl 13 (by decide) (hts _ md_X4_run_1) (fun _ h9 => h9) (fl_q rfl ek_49) dX4_run_257 ?_
            refine lv_aload_n hx hb dX4_run_260 rfl (lv_at hl 0 rfl) ?_
            refine va_get (D := (dC, dI)) (ci := 4) (v := .int (z_48.1 h0 16)) (C := RX4) (T := TX4) (N := 19) hx hb hts iwd_X4_run_X4 hown hK hP h0 (Wd_ob kg_1 sg_1 (by decide)) rfl 16 (by decide) (hts _ md_X4_run_4) (fun _ h9 => h9) (fl_at (t := 0) rfl) dX4_run_261 ?_
            refine lv_aload_n hx hb dX4_run_264 rfl (lv_at hl 0 rfl) ?_
            refine va_get (D := (dC, dI)) (ci := 4) (v := .long (z_48.2.1 h0 17)) (C := RX4) (T := TX4) (N := 19) hx hb hts iwd_X4_run_X4 hown hK hP h0 (Wd_ob kg_1 sg_1 (by decide)) rfl 17 (by decide) (hts _ md_X4_run_5) (fun _ h9 => h9) (fl_at (t := 1) rfl) dX4_run_265 ?_
            refine lv_aload_n hx hb dX4_run_268 rfl (lv_at hl 0 rfl) ?_
            refine va_get (D := (dC, dI)) (ci := 4) (v := .int (z_48.1 h0 14)) (C := RX4) (T := TX4) (N := 19) hx hb hts iwd_X4_run_X4 hown hK hP h0 (Wd_ob kg_1 sg_1 (by decide)) rfl 14 (by decide) (hts _ md_X4_run_2) (fun _ h9 => h9) (fl_at (t := 0) rfl) dX4_run_269 ?_
            obtain ⟨g_51, hf⟩ := grd_some hf
            obtain ⟨kg_51, sg_51⟩ := okO_at g_51
            obtain ⟨z_50, _u, hfc, hf⟩ := cal_some hf
            have hFc := de_free hD hS hA
            refine va_callv (va_runV (As := [.int (z_48.1 h0 16), .long (z_48.2.1 h0 17), .int (z_48.1 h0 14)]) (rest := []) ⟨hx, hb, hml, hown, hts⟩ (de_X8_end l dC dI cy a sh n H.size F z_48 k_49 (z_48.1 h0 16) (z_48.2.1 h0 17) (z_48.1 h0 14) hfc) (cwV 3 hts gX4_run_X8_end rfl rfl rfl (by decide +kernel) ⟨Nat.le_of_ble_eq_true rfl, Nat.le_of_ble_eq_true rfl⟩) ⟨fun a U g mk q => by obtain ⟨q0, q1, qP, qK, qD, qN⟩ := q; exact ⟨q0, q1, qP, va_K.moved (u := U) (U := U.calling g mk a) (Vm.Alike.refl U.vm) qK, qD, qN.same rfl⟩, va_recv hK hP (ci := 8) (q0 := k_49) rfl (Wd_ob kg_51 sg_51 (by decide)), fun U hU hW => ⟨rfl, by rw [hU], by rw [hU]; exact hP, va_K.moved hW.alike hK, hD.weaken (fun _ _ _ _ => trivial), hN.warm hW⟩⟩ rfl rfl hl.1 rfl (lv_room (Nat.le_of_ble_eq_true rfl)) dX4_run_272 ⟨Nat.le_of_ble_eq_true rfl, Nat.le_of_ble_eq_true rfl⟩) hS (fun q _ h => hFc q h) hFc (fun u t H_52 locs ht hvm hw hB hz1 hk1 hS2 => ?_)
            obtain ⟨hP1, -, hD1⟩ := hB
            rw [ht] at hP1
            replace hD := hD1.weaken (fun _ _ _ h => hFc _ h)
            replace hP := hP1
            replace hS := hS2
            clear hP1 hD1 hS2 hFc hfc hz1 hk1 hvm ht
            obtain ⟨h8, h9⟩ := ret_some hf
            rw [h8]
            exact W.vret hx hb hr (fun t ht hW => ⟨⟨(), rfl, trivial, by rw [ht]; exact hP, va_K.moved hW.alike hK, hD⟩, hS.F ht⟩) hS.2.2 dX4_run_275
          refine lv_if_ne (tgt := 256) hx hb dX4_run_187 (by decide) (fun c_53 => ?_) (fun c_53 => ?_)
          · skip
            rw [if_neg c_53] at hf
            exact B256 (z_47) ls H locs ⟨lv_sub hl [0] rfl, hP, hD, hS⟩ hf
          · skip
            rw [if_pos c_53] at hf
            refine lv_iconst (v := 0) hx hb dX4_run_190 (by decide) ?_
            refine lv_istore_n (lv' := [(2, .int 0), (0, .ref (a h0))]) hx hb dX4_run_191 rfl hl (by decide) rfl (fun ls hl2 => ?_)
            replace hl := hl2
            clear hl2
            have hl0 : lv_has ls 4 [(2, .int 0), (0, .ref (a h0))] := lv_sub hl [0, 1] rfl
            refine de_loop (h := 192) (fun (x : St × Int32) ls H locs => lv_has ls 4 [(2, .int x.2), (0, .ref (a h0))] ∧ va_P (dC, dI) vwCl (Wd cy a sh n x.1) H ∧ va_D A (Wd cy a sh n x.1) ∧ va_S A s.heap H locs) (fun f x => fn_X4_run_L192 F sh n h0 f x.1 x.2) (z8, r8) ?_ (fun _ => rfl) F (z_47, 0) ls H locs ⟨hl0, hP, hD, hS⟩ hf
            intro f_56 x ls H locs ih192 hI hf
            obtain ⟨z_55, p_54⟩ := x
            obtain ⟨hl2, hP2, hD2, hS2⟩ := hI
            replace hl : lv_has ls 4 [(2, .int p_54), (0, .ref (a h0))] := hl2
            replace hP := hP2
            replace hD := hD2
            replace hS := hS2
            clear hl2 hP2 hD2 hS2 hl0
            replace hf := fn_X4_run_L192_s hf
            refine lv_iload_n hx hb dX4_run_192 rfl (lv_at hl 0 rfl) ?_
            refine lv_aload_n hx hb dX4_run_193 rfl (lv_at hl 1 rfl) ?_
            obtain ⟨k_57, ek_57, hf⟩ := lnk_some hf
            refine va_get (D := (dC, dI)) (ci := 4) (v := .ref (a k_57)) (C := RX4) (T := TX4) (N := 19) hx hb hts iwd_X4_run_X4 hown hK hP h0 (Wd_ob kg_1 sg_1 (by decide)) rfl 9 (by decide) (hts _ md_X4_run_18) (fun _ h9 => h9) (fl_q rfl ek_57) dX4_run_194 ?_
            refine lv_iconst (v := 0) hx hb dX4_run_197 (by decide) ?_
            obtain ⟨g_58, hf⟩ := grd_some hf
            obtain ⟨kg_58, sg_58, ig_58⟩ := okA_at g_58
            refine va_iald hx hb hK hP k_57 1 (Wd_ai kg_58 sg_58) rfl ig_58 dX4_run_198 ?_
            refine lv_icmp_ge (tgt := 249) hx hb dX4_run_199 (by decide) (fun c_59 => ?_) (fun c_59 => ?_)
            · skip
              rw [if_pos c_59] at hf
              refine lv_aload_n hx hb dX4_run_249 rfl (lv_at hl 1 rfl) ?_
              obtain ⟨k_60, ek_60, hf⟩ := lnk_some hf
              refine va_get (D := (dC, dI)) (ci := 4) (v := .ref (a k_60)) (C := RX4) (T := TX4) (N := 19) hx hb hts iwd_X4_run_X4 hown hK hP h0 (Wd_ob kg_1 sg_1 (by decide)) rfl 2 (by decide) (hts _ md_X4_run_7) (fun _ h9 => h9) (fl_q rfl ek_60) dX4_run_250 ?_
              obtain ⟨g_62, hf⟩ := grd_some hf
              obtain ⟨kg_62, sg_62⟩ := okO_at g_62
              obtain ⟨z_61, _u, hfc, hf⟩ := cal_some hf
              have hFc := de_free hD hS hA
              refine va_callv (va_runV (As := []) (rest := []) ⟨hx, hb, hml, hown, hts⟩ (de_X2_commit l dC dI cy a sh n H.size F z_55 k_60 hfc) (cwV 0 hts gX4_run_X2_commit rfl rfl rfl (by decide +kernel) ⟨Nat.le_of_ble_eq_true rfl, Nat.le_of_ble_eq_true rfl⟩) ⟨fun a U g mk q => by obtain ⟨q0, q1, qP, qK, qD, qN⟩ := q; exact ⟨q0, q1, qP, va_K.moved (u := U) (U := U.calling g mk a) (Vm.Alike.refl U.vm) qK, qD, qN.same rfl⟩, va_recv hK hP (ci := 2) (q0 := k_60) rfl (Wd_ob kg_62 sg_62 (by decide)), fun U hU hW => ⟨rfl, by rw [hU], by rw [hU]; exact hP, va_K.moved hW.alike hK, hD.weaken (fun _ _ _ _ => trivial), hN.warm hW⟩⟩ rfl rfl hl.1 rfl (lv_room (Nat.le_of_ble_eq_true rfl)) dX4_run_253 ⟨Nat.le_of_ble_eq_true rfl, Nat.le_of_ble_eq_true rfl⟩) hS (fun q _ h => hFc q h) hFc (fun u t H_63 locs ht hvm hw hB hz1 hk1 hS2 => ?_)
              obtain ⟨hP1, -, hD1⟩ := hB
              rw [ht] at hP1
              replace hD := hD1.weaken (fun _ _ _ h => hFc _ h)
              replace hP := hP1
              replace hS := hS2
              clear hP1 hD1 hS2 hFc hfc hz1 hk1 hvm ht
              exact B256 (z_61) ls H_63 locs ⟨lv_sub hl [1] rfl, hP, hD, hS⟩ hf
            · skip
              rw [if_neg c_59] at hf
              refine lv_aload_n hx hb dX4_run_202 rfl (lv_at hl 1 rfl) ?_
              obtain ⟨k_64, ek_64, hf⟩ := lnk_some hf
              refine va_get (D := (dC, dI)) (ci := 4) (v := .ref (a k_64)) (C := RX4) (T := TX4) (N := 19) hx hb hts iwd_X4_run_X4 hown hK hP h0 (Wd_ob kg_1 sg_1 (by decide)) rfl 11 (by decide) (hts _ md_X4_run_19) (fun _ h9 => h9) (fl_q rfl ek_64) dX4_run_203 ?_
              refine lv_iload_n hx hb dX4_run_206 rfl (lv_at hl 0 rfl) ?_
              obtain ⟨g_65, hf⟩ := grd_some hf
              obtain ⟨kg_65, sg_65, ig_65⟩ := okA_at g_65
              refine va_iald hx hb hK hP k_64 1 (Wd_ai kg_65 sg_65) rfl ig_65 dX4_run_207 ?_
              refine lv_topi (fun v_66 ev_66 => ?_)
              replace hf := lt_at ev_66 hf
              clear ev_66
              refine lv_istore_n (lv' := [(3, .int v_66), (2, .int p_54), (0, .ref (a h0))]) hx hb dX4_run_208 rfl hl (by decide) rfl (fun ls hl2 => ?_)
              replace hl := hl2
              clear hl2
              refine lv_aload_n hx hb dX4_run_209 rfl (lv_at hl 2 rfl) ?_
              obtain ⟨k_67, ek_67, hf⟩ := lnk_some hf
              refine va_get (D := (dC, dI)) (ci := 4) (v := .ref (a k_67)) (C := RX4) (T := TX4) (N := 19) hx hb hts iwd_X4_run_X4 hown hK hP h0 (Wd_ob kg_1 sg_1 (by decide)) rfl 13 (by decide) (hts _ md_X4_run_1) (fun _ h9 => h9) (fl_q rfl ek_67) dX4_run_210 ?_
              refine lv_aload_n hx hb dX4_run_213 rfl (lv_at hl 2 rfl) ?_
              obtain ⟨k_68, ek_68, hf⟩ := lnk_some hf
              refine va_get (D := (dC, dI)) (ci := 4) (v := .ref (a k_68)) (C := RX4) (T := TX4) (N := 19) hx hb hts iwd_X4_run_X4 hown hK hP h0 (Wd_ob kg_1 sg_1 (by decide)) rfl 1 (by decide) (hts _ md_X4_run_6) (fun _ h9 => h9) (fl_q rfl ek_68) dX4_run_214 ?_
              obtain ⟨g_69, hf⟩ := grd_some hf
              obtain ⟨kg_69, sg_69⟩ := okO_at g_69
              obtain ⟨k_70, ek_70, hf⟩ := lnk_some hf
              refine va_get (D := (dC, dI)) (ci := 1) (v := .ref (a k_70)) (C := RX1) (T := TX1) (N := 7) hx hb hts iwd_X4_run_X1 hown hK hP k_68 (Wd_ob kg_69 sg_69 (by decide)) rfl 0 (by decide) (hts _ md_X4_run_20) (fun _ h9 => h9) (fl_q rfl ek_70) dX4_run_217 ?_
              refine lv_iload_n hx hb dX4_run_220 rfl (lv_at hl 0 rfl) ?_
              obtain ⟨g_71, hf⟩ := grd_some hf
              obtain ⟨kg_71, sg_71, ig_71⟩ := okA_at g_71
              refine va_bald hx hb hK hP k_70 0 (Wd_ab kg_71 sg_71) rfl ig_71 dX4_run_221 ?_
              refine lv_aload_n hx hb dX4_run_222 rfl (lv_at hl 2 rfl) ?_
              obtain ⟨k_72, ek_72, hf⟩ := lnk_some hf
              refine va_get (D := (dC, dI)) (ci := 4) (v := .ref (a k_72)) (C := RX4) (T := TX4) (N := 19) hx hb hts iwd_X4_run_X4 hown hK hP h0 (Wd_ob kg_1 sg_1 (by decide)) rfl 1 (by decide) (hts _ md_X4_run_6) (fun _ h9 => h9) (fl_q rfl ek_72) dX4_run_223 ?_
              obtain ⟨g_73, hf⟩ := grd_some hf
              obtain ⟨kg_73, sg_73⟩ := okO_at g_73
              obtain ⟨k_74, ek_74, hf⟩ := lnk_some hf
              refine va_get (D := (dC, dI)) (ci := 1) (v := .ref (a k_74)) (C := RX1) (T := TX1) (N := 7) hx hb hts iwd_X4_run_X1 hown hK hP k_72 (Wd_ob kg_73 sg_73 (by decide)) rfl 2 (by decide) (hts _ md_X4_run_21) (fun _ h9 => h9) (fl_q rfl ek_74) dX4_run_226 ?_
              refine lv_iload_n hx hb dX4_run_229 rfl (lv_at hl 0 rfl) ?_
              obtain ⟨g_75, hf⟩ := grd_some hf
              obtain ⟨kg_75, sg_75, ig_75⟩ := okA_at g_75
              refine va_lald hx hb hK hP k_74 2 (Wd_al kg_75 sg_75) rfl ig_75 dX4_run_230 ?_
              refine lv_aload_n hx hb dX4_run_231 rfl (lv_at hl 2 rfl) ?_
              obtain ⟨k_76, ek_76, hf⟩ := lnk_some hf
              refine va_get (D := (dC, dI)) (ci := 4) (v := .ref (a k_76)) (C := RX4) (T := TX4) (N := 19) hx hb hts iwd_X4_run_X4 hown hK hP h0 (Wd_ob kg_1 sg_1 (by decide)) rfl 1 (by decide) (hts _ md_X4_run_6) (fun _ h9 => h9) (fl_q rfl ek_76) dX4_run_232 ?_
              obtain ⟨g_77, hf⟩ := grd_some hf
              obtain ⟨kg_77, sg_77⟩ := okO_at g_77
              obtain ⟨k_78, ek_78, hf⟩ := lnk_some hf
              refine va_get (D := (dC, dI)) (ci := 1) (v := .ref (a k_78)) (C := RX1) (T := TX1) (N := 7) hx hb hts iwd_X4_run_X1 hown hK hP k_76 (Wd_ob kg_77 sg_77 (by decide)) rfl 1 (by decide) (hts _ md_X4_run_22) (fun _ h9 => h9) (fl_q rfl ek_78) dX4_run_235 ?_
              refine lv_iload_n hx hb dX4_run_238 rfl (lv_at hl 0 rfl) ?_
              obtain ⟨g_79, hf⟩ := grd_some hf
              obtain ⟨kg_79, sg_79, ig_79⟩ := okA_at g_79
              refine va_lald hx hb hK hP k_78 2 (Wd_al kg_79 sg_79) rfl ig_79 dX4_run_239 ?_
              obtain ⟨g_81, hf⟩ := grd_some hf
              obtain ⟨kg_81, sg_81⟩ := okO_at g_81
              obtain ⟨z_80, _u, hfc, hf⟩ := cal_some hf
              have hFc := de_free hD hS hA
              refine va_callv (va_runV (As := [.int (z_55.1 k_70 v_66.toNatClampNeg), .long (z_55.2.1 k_74 v_66.toNatClampNeg), .long (z_55.2.1 k_78 v_66.toNatClampNeg)]) (rest := []) ⟨hx, hb, hml, hown, hts⟩ (de_X8_addResult l dC dI cy a sh n H.size F z_55 k_67 (z_55.1 k_70 v_66.toNatClampNeg) (z_55.2.1 k_74 v_66.toNatClampNeg) (z_55.2.1 k_78 v_66.toNatClampNeg) hfc) (cwV 3 hts gX4_run_X8_addResult rfl rfl rfl (by decide +kernel) ⟨Nat.le_of_ble_eq_true rfl, Nat.le_of_ble_eq_true rfl⟩) ⟨fun a U g mk q => by obtain ⟨q0, q1, qP, qK, qD, qN⟩ := q; exact ⟨q0, q1, qP, va_K.moved (u := U) (U := U.calling g mk a) (Vm.Alike.refl U.vm) qK, qD, qN.same rfl⟩, va_recv hK hP (ci := 8) (q0 := k_67) rfl (Wd_ob kg_81 sg_81 (by decide)), fun U hU hW => ⟨rfl, by rw [hU], by rw [hU]; exact hP, va_K.moved hW.alike hK, hD.weaken (fun _ _ _ _ => trivial), hN.warm hW⟩⟩ rfl rfl hl.1 rfl (lv_room (Nat.le_of_ble_eq_true rfl)) dX4_run_240 ⟨Nat.le_of_ble_eq_true rfl, Nat.le_of_ble_eq_true rfl⟩) hS (fun q _ h => hFc q h) hFc (fun u t H_82 locs ht hvm hw hB hz1 hk1 hS2 => ?_)
              obtain ⟨hP1, -, hD1⟩ := hB
              rw [ht] at hP1
              replace hD := hD1.weaken (fun _ _ _ h => hFc _ h)
              replace hP := hP1
              replace hS := hS2
              clear hP1 hD1 hS2 hFc hfc hz1 hk1 hvm ht
              refine lv_iinc (v := (p_54 + 1)) (lv' := [(2, .int (p_54 + 1)), (3, .int v_66), (0, .ref (a h0))]) hx hb dX4_run_243 hl (k := 1) rfl rfl (by decide) rfl (fun ls hl2 => ?_)
              replace hl := hl2
              clear hl2
              refine lv_goto (tgt := 192) hx hb dX4_run_246 (by decide) ?_
              exact ih192 (z_80, (p_54 + 1)) ls H_82 locs ⟨lv_sub hl [0, 2] rfl, hP, hD, hS⟩ hf
        refine lv_if_ne (tgt := 183) hx hb dX4_run_162 (by decide) (fun c_83 => ?_) (fun c_83 => ?_)
        · skip
          rw [if_neg c_83] at hf
          exact B183 (z_46) ls H locs ⟨lv_sub hl [0] rfl, hP, hD, hS⟩ hf
        · skip
          rw [if_pos c_83] at hf
          refine lv_aload_n hx hb dX4_run_165 rfl (lv_at hl 0 rfl) ?_
          obtain ⟨k_84, ek_84, hf⟩ := lnk_some hf
          refine va_get (D := (dC, dI)) (ci := 4) (v := .ref (a k_84)) (C := RX4) (T := TX4) (N := 19) hx hb hts iwd_X4_run_X4 hown hK hP h0 (Wd_ob kg_1 sg_1 (by decide)) rfl 2 (by decide) (hts _ md_X4_run_7) (fun _ h9 => h9) (fl_q rfl ek_84) dX4_run_166 ?_
          obtain ⟨g_87, hf⟩ := grd_some hf
          obtain ⟨kg_87, sg_87⟩ := okO_at g_87
          obtain ⟨z_85, r_86, hfc, hf⟩ := cal_some hf
          have hFc := de_free hD hS hA
          refine va_calli (va_runV (As := []) (rest := []) ⟨hx, hb, hml, hown, hts⟩ (de_X2_fits l dC dI cy a sh n H.size F z_46 k_84 hfc) (cwV 0 hts gX4_run_X2_fits rfl rfl rfl (by decide +kernel) ⟨Nat.le_of_ble_eq_true rfl, Nat.le_of_ble_eq_true rfl⟩) ⟨fun a U g mk q => by obtain ⟨q0, q1, qP, qK, qD, qN⟩ := q; exact ⟨q0, q1, qP, va_K.moved (u := U) (U := U.calling g mk a) (Vm.Alike.refl U.vm) qK, qD, qN.same rfl⟩, va_recv hK hP (ci := 2) (q0 := k_84) rfl (Wd_ob kg_87 sg_87 (by decide)), fun U hU hW => ⟨rfl, by rw [hU], by rw [hU]; exact hP, va_K.moved hW.alike hK, hD.weaken (fun _ _ _ _ => trivial), hN.warm hW⟩⟩ rfl rfl hl.1 rfl (lv_room (Nat.le_of_ble_eq_true rfl)) dX4_run_169 ⟨Nat.le_of_ble_eq_true rfl, Nat.le_of_ble_eq_true rfl⟩) hS (fun q _ h => hFc q h) hFc (fun rr u t H_88 locs ht hvm hw hB hz1 hk1 hS2 => ?_)
          rw [hw]
          clear hw
          obtain ⟨hP1, -, hD1⟩ := hB
          rw [ht] at hP1
          replace hD := hD1.weaken (fun _ _ _ h => hFc _ h)
          replace hP := hP1
          replace hS := hS2
          clear hP1 hD1 hS2 hFc hfc hz1 hk1 hvm ht
          refine lv_if_ne (tgt := 183) hx hb dX4_run_172 (by decide) (fun c_89 => ?_) (fun c_89 => ?_)
          · skip
            rw [if_neg c_89] at hf
            exact B183 (z_85) ls H_88 locs ⟨lv_sub hl [0] rfl, hP, hD, hS⟩ hf
          · skip
            rw [if_pos c_89] at hf
            refine lv_aload_n hx hb dX4_run_175 rfl (lv_at hl 0 rfl) ?_
            refine lv_iconst (v := 2) hx hb dX4_run_176 (by decide) ?_
            refine lv_ldc2 hx hb hown (hts _ md_X4_run_17) dX4_run_177 ?_
            obtain ⟨z_90, _u, hfc, hf⟩ := cal_some hf
            have hFc := de_free hD hS hA
            refine va_callv (va_runV (As := [.int 2, .long 4]) (rest := []) ⟨hx, hb, hml, hown, hts⟩ (de_X4_end l dC dI cy a sh n H_88.size F z_85 h0 2 4 hfc) (cwV 2 hts gX4_run_X4_end rfl rfl rfl (by decide +kernel) ⟨Nat.le_of_ble_eq_true rfl, Nat.le_of_ble_eq_true rfl⟩) ⟨fun a U g mk q => by obtain ⟨q0, q1, qP, qK, qD, qN⟩ := q; exact ⟨q0, q1, qP, va_K.moved (u := U) (U := U.calling g mk a) (Vm.Alike.refl U.vm) qK, qD, qN.same rfl⟩, va_recv hK hP (ci := 4) (q0 := h0) rfl (Wd_ob kg_1 sg_1 (by decide)), fun U hU hW => ⟨rfl, by rw [hU], by rw [hU]; exact hP, va_K.moved hW.alike hK, hD.weaken (fun _ _ _ _ => trivial), hN.warm hW⟩⟩ rfl rfl hl.1 rfl (lv_room (Nat.le_of_ble_eq_true rfl)) dX4_run_180 ⟨Nat.le_of_ble_eq_true rfl, Nat.le_of_ble_eq_true rfl⟩) hS (fun q _ h => hFc q h) hFc (fun u t H_91 locs ht hvm hw hB hz1 hk1 hS2 => ?_)
            obtain ⟨hP1, -, hD1⟩ := hB
            rw [ht] at hP1
            replace hD := hD1.weaken (fun _ _ _ h => hFc _ h)
            replace hP := hP1
            replace hS := hS2
            clear hP1 hD1 hS2 hFc hfc hz1 hk1 hvm ht
            exact B183 (z_90) ls H_91 locs ⟨lv_sub hl [0] rfl, hP, hD, hS⟩ hf
      refine lv_icmp_gt (tgt := 158) hx hb dX4_run_138 (by decide) (fun c_92 => ?_) (fun c_92 => ?_)
      · skip
        rw [if_pos c_92] at hf
        exact B158 (z_44) ls H locs ⟨lv_sub hl [1] rfl, hP, hD, hS⟩ hf
      · skip
        rw [if_neg c_92] at hf
        refine lv_aload_n hx hb dX4_run_141 rfl (lv_at hl 1 rfl) ?_
        refine va_get (D := (dC, dI)) (ci := 4) (v := .int (z_44.1 h0 15)) (C := RX4) (T := TX4) (N := 19) hx hb hts iwd_X4_run_X4 hown hK hP h0 (Wd_ob kg_1 sg_1 (by decide)) rfl 15 (by decide) (hts _ md_X4_run_3) (fun _ h9 => h9) (fl_at (t := 0) rfl) dX4_run_142 ?_
        refine lv_if_eq (tgt := 158) hx hb dX4_run_145 (by decide) (fun c_93 => ?_) (fun c_93 => ?_)
        · skip
          rw [if_pos c_93] at hf
          exact B158 (z_44) ls H locs ⟨lv_sub hl [1] rfl, hP, hD, hS⟩ hf
        · skip
          rw [if_neg c_93] at hf
          refine lv_aload_n hx hb dX4_run_148 rfl (lv_at hl 1 rfl) ?_
          obtain ⟨z_94, _u, hfc, hf⟩ := cal_some hf
          have hFc := de_free hD hS hA
          refine va_callv (va_runV (As := []) (rest := []) ⟨hx, hb, hml, hown, hts⟩ (de_X4_step l dC dI cy a sh n H.size F sk z_44 h0 hfc) (cwV 0 hts gX4_run_X4_step rfl rfl rfl (by decide +kernel) ⟨Nat.le_of_ble_eq_true rfl, Nat.le_of_ble_eq_true rfl⟩) ⟨fun a U g mk q => by obtain ⟨q0, q1, qP, qK, qD, qN, qS⟩ := q; exact ⟨q0, q1, qP, va_K.moved (u := U) (U := U.calling g mk a) (Vm.Alike.refl U.vm) qK, qD, qN.same rfl, SKs.moved (u := U) (U := U.calling g mk a) (Vm.Alike.refl U.vm) qS⟩, va_recv hK hP (ci := 4) (q0 := h0) rfl (Wd_ob kg_1 sg_1 (by decide)), fun U hU hW => ⟨rfl, by rw [hU], by rw [hU]; exact hP, va_K.moved hW.alike hK, hD.weaken (fun _ _ _ _ => trivial), hN.warm hW, by rw [hU]; exact ((hSK.kept hS.2.1).narrow hFc).moved hW.alike⟩⟩ rfl rfl hl.1 rfl (lv_room (Nat.le_of_ble_eq_true rfl)) dX4_run_149 ⟨Nat.le_of_ble_eq_true rfl, Nat.le_of_ble_eq_true rfl⟩) hS (fun q _ h => hFc q h) hFc (fun u t H_95 locs ht hvm hw hB hz1 hk1 hS2 => ?_)
          obtain ⟨hP1, -, hD1⟩ := hB
          rw [ht] at hP1
          replace hD := hD1.weaken (fun _ _ _ h => hFc _ h)
          replace hP := hP1
          replace hS := hS2
          clear hP1 hD1 hS2 hFc hfc hz1 hk1 hvm ht
          refine lv_iinc (v := (p_43 + 1)) (lv' := [(2, .int (p_43 + 1)), (0, .ref (a h0))]) hx hb dX4_run_152 hl (k := 0) rfl rfl (by decide) rfl (fun ls hl2 => ?_)
          replace hl := hl2
          clear hl2
          refine lv_goto (tgt := 134) hx hb dX4_run_155 (by decide) ?_
          exact ih134 (z_94, (p_43 + 1)) ls H_95 locs ⟨lv_sub hl [0, 1] rfl, hP, hD, hS⟩ hf
    · skip
      rw [if_neg c_42] at hf
      refine lv_aload_n hx hb dX4_run_86 rfl (lv_at hl 1 rfl) ?_
      obtain ⟨k_96, ek_96, hf⟩ := lnk_some hf
      refine va_get (D := (dC, dI)) (ci := 4) (v := .ref (a k_96)) (C := RX4) (T := TX4) (N := 19) hx hb hts iwd_X4_run_X4 hown hK hP h0 (Wd_ob kg_1 sg_1 (by decide)) rfl 10 (by decide) (hts _ md_X4_run_13) (fun _ h9 => h9) (fl_q rfl ek_96) dX4_run_87 ?_
      refine lv_iload_n hx hb dX4_run_90 rfl (lv_at hl 0 rfl) ?_
      refine lv_aload_n hx hb dX4_run_91 rfl (lv_at hl 1 rfl) ?_
      obtain ⟨k_97, ek_97, hf⟩ := lnk_some hf
      refine va_get (D := (dC, dI)) (ci := 4) (v := .ref (a k_97)) (C := RX4) (T := TX4) (N := 19) hx hb hts iwd_X4_run_X4 hown hK hP h0 (Wd_ob kg_1 sg_1 (by decide)) rfl 1 (by decide) (hts _ md_X4_run_6) (fun _ h9 => h9) (fl_q rfl ek_97) dX4_run_92 ?_
      refine lv_aload_n hx hb dX4_run_95 rfl (lv_at hl 1 rfl) ?_
      obtain ⟨k_98, ek_98, hf⟩ := lnk_some hf
      refine va_get (D := (dC, dI)) (ci := 4) (v := .ref (a k_98)) (C := RX4) (T := TX4) (N := 19) hx hb hts iwd_X4_run_X4 hown hK hP h0 (Wd_ob kg_1 sg_1 (by decide)) rfl 13 (by decide) (hts _ md_X4_run_1) (fun _ h9 => h9) (fl_q rfl ek_98) dX4_run_96 ?_
      obtain ⟨g_99, hf⟩ := grd_some hf
      obtain ⟨kg_99, sg_99⟩ := okO_at g_99
      obtain ⟨k_100, ek_100, hf⟩ := lnk_some hf
      refine va_get (D := (dC, dI)) (ci := 8) (v := .ref (a k_100)) (C := RX8) (T := TX8) (N := 19) hx hb hts iwd_X4_run_X8 hown hK hP k_98 (Wd_ob kg_99 sg_99 (by decide)) rfl 8 (by decide) (hts _ md_X4_run_14) (fun _ h9 => h9) (fl_q rfl ek_100) dX4_run_99 ?_
      refine lv_iload_n hx hb dX4_run_102 rfl (lv_at hl 0 rfl) ?_
      obtain ⟨g_101, hf⟩ := grd_some hf
      obtain ⟨kg_101, sg_101, ig_101⟩ := okA_at g_101
      refine va_iald hx hb hK hP k_100 1 (Wd_ai kg_101 sg_101) rfl ig_101 dX4_run_103 ?_
      refine lv_aload_n hx hb dX4_run_104 rfl (lv_at hl 1 rfl) ?_
      obtain ⟨k_102, ek_102, hf⟩ := lnk_some hf
      refine va_get (D := (dC, dI)) (ci := 4) (v := .ref (a k_102)) (C := RX4) (T := TX4) (N := 19) hx hb hts iwd_X4_run_X4 hown hK hP h0 (Wd_ob kg_1 sg_1 (by decide)) rfl 13 (by decide) (hts _ md_X4_run_1) (fun _ h9 => h9) (fl_q rfl ek_102) dX4_run_105 ?_
      obtain ⟨g_103, hf⟩ := grd_some hf
      obtain ⟨kg_103, sg_103⟩ := okO_at g_103
      obtain ⟨k_104, ek_104, hf⟩ := lnk_some hf
      refine va_get (D := (dC, dI)) (ci := 8) (v := .ref (a k_104)) (C := RX8) (T := TX8) (N := 19) hx hb hts iwd_X4_run_X8 hown hK hP k_102 (Wd_ob kg_103 sg_103 (by decide)) rfl 9 (by decide) (hts _ md_X4_run_15) (fun _ h9 => h9) (fl_q rfl ek_104) dX4_run_108 ?_
      refine lv_iload_n hx hb dX4_run_111 rfl (lv_at hl 0 rfl) ?_
      obtain ⟨g_105, hf⟩ := grd_some hf
      obtain ⟨kg_105, sg_105, ig_105⟩ := okA_at g_105
      refine va_lald hx hb hK hP k_104 2 (Wd_al kg_105 sg_105) rfl ig_105 dX4_run_112 ?_
      refine lv_aload_n hx hb dX4_run_113 rfl (lv_at hl 1 rfl) ?_
      obtain ⟨k_106, ek_106, hf⟩ := lnk_some hf
      refine va_get (D := (dC, dI)) (ci := 4) (v := .ref (a k_106)) (C := RX4) (T := TX4) (N := 19) hx hb hts iwd_X4_run_X4 hown hK hP h0 (Wd_ob kg_1 sg_1 (by decide)) rfl 13 (by decide) (hts _ md_X4_run_1) (fun _ h9 => h9) (fl_q rfl ek_106) dX4_run_114 ?_
      obtain ⟨g_107, hf⟩ := grd_some hf
      obtain ⟨kg_107, sg_107⟩ := okO_at g_107
      obtain ⟨k_108, ek_108, hf⟩ := lnk_some hf
      refine va_get (D := (dC, dI)) (ci := 8) (v := .ref (a k_108)) (C := RX8) (T := TX8) (N := 19) hx hb hts iwd_X4_run_X8 hown hK hP k_106 (Wd_ob kg_107 sg_107 (by decide)) rfl 10 (by decide) (hts _ md_X4_run_16) (fun _ h9 => h9) (fl_q rfl ek_108) dX4_run_117 ?_
      refine lv_iload_n hx hb dX4_run_120 rfl (lv_at hl 0 rfl) ?_
      obtain ⟨g_109, hf⟩ := grd_some hf
      obtain ⟨kg_109, sg_109, ig_109⟩ := okA_at g_109
      refine va_lald hx hb hK hP k_108 2 (Wd_al kg_109 sg_109) rfl ig_109 dX4_run_121 ?_
      obtain ⟨g_112, hf⟩ := grd_some hf
      obtain ⟨kg_112, sg_112⟩ := okO_at g_112
      obtain ⟨z_110, r_111, hfc, hf⟩ := cal_some hf
      have hFc := de_free hD hS hA
      refine va_calli (va_runV (As := [.int (z_38.1 k_100 p_37.toNatClampNeg), .long (z_38.2.1 k_104 p_37.toNatClampNeg), .long (z_38.2.1 k_108 p_37.toNatClampNeg)]) (rest := [.int p_37, .ref (a k_96)]) ⟨hx, hb, hml, hown, hts⟩ (de_X1_make l dC dI cy a sh n H.size F z_38 k_97 (z_38.1 k_100 p_37.toNatClampNeg) (z_38.2.1 k_104 p_37.toNatClampNeg) (z_38.2.1 k_108 p_37.toNatClampNeg) hfc) (cwV 3 hts gX4_run_X1_make rfl rfl rfl (by decide +kernel) ⟨Nat.le_of_ble_eq_true rfl, Nat.le_of_ble_eq_true rfl⟩) ⟨fun a U g mk q => by obtain ⟨q0, q1, qP, qK, qD, qN⟩ := q; exact ⟨q0, q1, qP, va_K.moved (u := U) (U := U.calling g mk a) (Vm.Alike.refl U.vm) qK, qD, qN.same rfl⟩, va_recv hK hP (ci := 1) (q0 := k_97) rfl (Wd_ob kg_112 sg_112 (by decide)), fun U hU hW => ⟨rfl, by rw [hU], by rw [hU]; exact hP, va_K.moved hW.alike hK, hD.weaken (fun _ _ _ _ => trivial), hN.warm hW⟩⟩ rfl rfl hl.1 rfl (lv_room (Nat.le_of_ble_eq_true rfl)) dX4_run_122 ⟨Nat.le_of_ble_eq_true rfl, Nat.le_of_ble_eq_true rfl⟩) hS (fun q _ h => hFc q h) hFc (fun rr u t H_113 locs ht hvm hw hB hz1 hk1 hS2 => ?_)
      rw [hw]
      clear hw
      obtain ⟨hP1, -, hD1⟩ := hB
      rw [ht] at hP1
      replace hD := hD1.weaken (fun _ _ _ h => hFc _ h)
      replace hP := hP1
      replace hS := hS2
      clear hP1 hD1 hS2 hFc hfc hz1 hk1 hvm ht
      obtain ⟨g_114, hf⟩ := grd_some hf
      obtain ⟨kg_114, sg_114, ig_114⟩ := okA_at g_114
      refine va_iast hx hb hK hP hD hS k_96 1 (Wd_ai kg_114 sg_114) rfl ig_114 dX4_run_125 (fun H_115 locs hP2 hD2 hS2 => ?_)
      rw [Wd_ti sg_114] at hP2 hD2
      obtain ⟨z_116, ez_116⟩ : ∃ w, w = si z_110 k_96 p_37.toNatClampNeg r_111 := ⟨_, rfl⟩
      rw [← ez_116] at hP2 hD2
      replace hf := lt_at ez_116 hf
      clear ez_116
      replace hP := hP2
      replace hD := hD2
      replace hS := hS2
      clear hP2 hD2 hS2
      refine lv_iinc (v := (p_37 + 1)) (lv' := [(2, .int (p_37 + 1)), (0, .ref (a h0))]) hx hb dX4_run_126 hl (k := 0) rfl rfl (by decide) rfl (fun ls hl2 => ?_)
      replace hl := hl2
      clear hl2
      refine lv_goto (tgt := 75) hx hb dX4_run_129 (by decide) ?_
      exact ih75 (z_116, (p_37 + 1)) ls H_115 locs ⟨lv_sub hl [0, 1] rfl, hP, hD, hS⟩ hf

theorem md_X13_begin_1 : (.fieldLink RX13 48 "ResourceLedgerModel$Looker" "fault" "I" : Cond) ∈ wsX13_begin := List.mem_of_getElem? (i := 1) rfl
theorem iwd_X13_begin_X13 : ∀ w ∈ wsX130, w ∈ wsX13_begin := fun _ h => List.mem_cons_of_mem _ (List.mem_append_left _ (List.mem_append_right _ h))
theorem md_X13_begin_2 : (.fieldLink RX13 92 "ResourceLedgerModel$Looker" "height" "I" : Cond) ∈ wsX13_begin := List.mem_of_getElem? (i := 2) rfl
theorem md_X13_begin_3 : (.fieldLink RX13 72 "ResourceLedgerModel$Looker" "unit" "LResourceLedgerModel$Unit;" : Cond) ∈ wsX13_begin := List.mem_of_getElem? (i := 3) rfl
theorem md_X13_begin_4 : (.fieldLink RX13 176 "ResourceLedgerModel$Looker" "now" "I" : Cond) ∈ wsX13_begin := List.mem_of_getElem? (i := 4) rfl
theorem md_X13_begin_5 : (.fieldLink RX13 231 "ResourceLedgerModel$Looker" "many" "I" : Cond) ∈ wsX13_begin := List.mem_of_getElem? (i := 5) rfl
theorem md_X13_begin_6 : (.fieldLink RX13 136 "ResourceLedgerModel$Looker" "locals" "I" : Cond) ∈ wsX13_begin := List.mem_of_getElem? (i := 6) rfl
theorem md_X13_begin_8 : (.fieldLink RX13 13 "ResourceLedgerModel$Looker" "came" "[Z" : Cond) ∈ wsX13_begin := List.mem_of_getElem? (i := 8) rfl
theorem md_X13_begin_10 : (.fieldLink RX13 21 "ResourceLedgerModel$Looker" "thereAt" "[Z" : Cond) ∈ wsX13_begin := List.mem_of_getElem? (i := 10) rfl
theorem md_X13_begin_11 : (.fieldLink RX13 24 "ResourceLedgerModel$Looker" "originsAt" "[J" : Cond) ∈ wsX13_begin := List.mem_of_getElem? (i := 11) rfl
theorem md_X13_begin_12 : (.fieldLink RX13 27 "ResourceLedgerModel$Looker" "insideAt" "[Z" : Cond) ∈ wsX13_begin := List.mem_of_getElem? (i := 12) rfl
theorem md_X13_begin_7 : (.fieldLink RX13 7 "ResourceLedgerModel$Looker" "localTypes" "[J" : Cond) ∈ wsX13_begin := List.mem_of_getElem? (i := 7) rfl
theorem md_X13_begin_9 : (.fieldLink RX13 17 "ResourceLedgerModel$Looker" "led" "[Z" : Cond) ∈ wsX13_begin := List.mem_of_getElem? (i := 9) rfl
set_option maxHeartbeats 4000000 in
set_option maxRecDepth 100000 in
theorem de_X13_begin (l : Launch) (dC : Nat → ClassId) (dI : Nat → Nat → Nat) (cy : Nat → ClassId) (a : Nat → Nat) (sh : Nat → Nat × Nat) (n sz : Nat) (F : Nat) (z : St) (h0 : Nat) {z8 : St} {r8 : Unit} (hf : fn_X13_begin F sh n z h0 = some (z8, r8)) : Met l yX13_begin wsX13_begin ({ frames := 6, cells := 0, slots := 0, locals := 139 }) (va_Pc [.ref (a h0)] (fun U => U.heap.size = sz ∧ va_P (dC, dI) vwCl (Wd cy a sh n z) U.heap ∧ va_K (dC, dI) vwCl (TYS cy) U ∧ va_D (fun _ => True) (Wd cy a sh n z) ∧ NK U)) (va_Qv (fun u : Unit => True) (fun u t => va_P (dC, dI) vwCl (Wd cy a sh n z8) t.heap ∧ va_K (dC, dI) vwCl (TYS cy) t ∧ va_D (va_A (Wd cy a sh n z) sz) (Wd cy a sh n z8)) (va_A (Wd cy a sh n z) sz)) 0 0 (va_A (Wd cy a sh n z) sz) := by
  refine Met.ofW (cc := cX13_begin) (maxL := 4) (ret := none) (by decide) rfl ?_
  intro p e s m args below meth c s₁ B hml hv
  obtain ⟨rfl, hsz, hP, hK, hD0, hN⟩ := hv
  have hx := B.exec
  have hb := B.bytes
  have hr := B.returns
  have hts := atoms_spec (ws := wsX13_begin) B.pre
  have hown : s.vm.findClass RX13 = some m.cls := findClass_of_methodNamed B.named
  have hlocks := B.notSynchronized
  subst hsz
  have hD := hD0.self (sz := s.heap.size)
  clear hD0
  generalize hAe : va_A (Wd cy a sh n z) s.heap.size = A at hD ⊢
  have hA : ∀ q : Nat, s.heap.size ≤ q → A q := fun q h => by rw [← hAe]; exact Or.inr h
  clear hAe
  have hS : va_S A s.heap s.heap [] := va_S.rf
  have hl := lv_entry ([.ref (a h0)]) (n := 4) (Nat.le_of_ble_eq_true rfl)
  rw [lg_entry_eq]
  generalize (lg_sl ([.ref (a h0)]) ++ List.replicate (4 - (lg_sl ([.ref (a h0)])).length) Slot.unset).toArray = ls at hl ⊢
  replace hl : lv_has ls 4 [(0, .ref (a h0))] := hl
  unfold fn_X13_begin at hf
  refine de_start hS hP (fun H locs hS hP => ?_)
  refine lv_aload_n hx hb dX13_begin_0 rfl (lv_at hl 0 rfl) ?_
  refine lv_iconst (v := 0) hx hb dX13_begin_1 (by decide) ?_
  obtain ⟨g_1, hf⟩ := grd_some hf
  obtain ⟨kg_1, sg_1⟩ := okO_at g_1
  refine va_put (D := (dC, dI)) (ci := 13) (v := .int 0) (ty := .int) (C := RX13) (T := TX13) (N := 22) hx hb hts iwd_X13_begin_X13 tyX13 tyX13_ok nmX13 hown hK hP hD hS h0 (Wd_ob kg_1 sg_1 (by decide)) rfl 18 (by decide) (hts _ md_X13_begin_1) (fun _ h9 => h9) rfl (by decide +kernel) rfl rfl (by rw [fl_len]; decide) dX13_begin_2 (fun H_2 locs hP2 hD2 hS2 => ?_)
  rw [Wd_si sg_1 (by decide) rfl] at hP2 hD2
  obtain ⟨z_3, ez_3⟩ : ∃ w, w = si z h0 18 0 := ⟨_, rfl⟩
  rw [← ez_3] at hP2 hD2
  replace hf := lt_at ez_3 hf
  clear ez_3
  replace hP := hP2
  replace hD := hD2
  replace hS := hS2
  clear hP2 hD2 hS2
  refine lv_aload_n hx hb dX13_begin_5 rfl (lv_at hl 0 rfl) ?_
  refine lv_iconst (v := 0) hx hb dX13_begin_6 (by decide) ?_
  refine va_put (D := (dC, dI)) (ci := 13) (v := .int 0) (ty := .int) (C := RX13) (T := TX13) (N := 22) hx hb hts iwd_X13_begin_X13 tyX13 tyX13_ok nmX13 hown hK hP hD hS h0 (Wd_ob kg_1 sg_1 (by decide)) rfl 14 (by decide) (hts _ md_X13_begin_2) (fun _ h9 => h9) rfl (by decide +kernel) rfl rfl (by rw [fl_len]; decide) dX13_begin_7 (fun H_4 locs hP2 hD2 hS2 => ?_)
  rw [Wd_si sg_1 (by decide) rfl] at hP2 hD2
  obtain ⟨z_5, ez_5⟩ : ∃ w, w = si z_3 h0 14 0 := ⟨_, rfl⟩
  rw [← ez_5] at hP2 hD2
  replace hf := lt_at ez_5 hf
  clear ez_5
  replace hP := hP2
  replace hD := hD2
  replace hS := hS2
  clear hP2 hD2 hS2
  refine lv_aload_n hx hb dX13_begin_10 rfl (lv_at hl 0 rfl) ?_
  refine lv_aload_n hx hb dX13_begin_11 rfl (lv_at hl 0 rfl) ?_
  obtain ⟨k_6, ek_6, hf⟩ := lnk_some hf
  refine va_get (D := (dC, dI)) (ci := 13) (v := .ref (a k_6)) (C := RX13) (T := TX13) (N := 22) hx hb hts iwd_X13_begin_X13 hown hK hP h0 (Wd_ob kg_1 sg_1 (by decide)) rfl 0 (by decide) (hts _ md_X13_begin_3) (fun _ h9 => h9) (fl_q rfl ek_6) dX13_begin_12 ?_
  refine lv_aload_n hx hb dX13_begin_15 rfl (lv_at hl 0 rfl) ?_
  refine va_get (D := (dC, dI)) (ci := 13) (v := .int (z_5.1 h0 1)) (C := RX13) (T := TX13) (N := 22) hx hb hts iwd_X13_begin_X13 hown hK hP h0 (Wd_ob kg_1 sg_1 (by decide)) rfl 1 (by decide) (hts _ md_X13_begin_4) (fun _ h9 => h9) (fl_at (t := 0) rfl) dX13_begin_16 ?_
  obtain ⟨g_9, hf⟩ := grd_some hf
  obtain ⟨kg_9, sg_9⟩ := okO_at g_9
  obtain ⟨z_7, r_8, hfc, hf⟩ := cal_some hf
  have hFc := de_free hD hS hA
  refine va_calli (va_runV (As := [.int (z_5.1 h0 1)]) (rest := [.ref (a h0)]) ⟨hx, hb, hml, hown, hts⟩ (de_X16_instructions l dC dI cy a sh n H_4.size F z_5 k_6 (z_5.1 h0 1) hfc) (cwV 1 hts gX13_begin_X16_instructions rfl rfl rfl (by decide +kernel) ⟨Nat.le_of_ble_eq_true rfl, Nat.le_of_ble_eq_true rfl⟩) ⟨fun a U g mk q => by obtain ⟨q0, q1, qP, qK, qD, qN⟩ := q; exact ⟨q0, q1, qP, va_K.moved (u := U) (U := U.calling g mk a) (Vm.Alike.refl U.vm) qK, qD, qN.same rfl⟩, va_recv hK hP (ci := 16) (q0 := k_6) rfl (Wd_ob kg_9 sg_9 (by decide)), fun U hU hW => ⟨rfl, by rw [hU], by rw [hU]; exact hP, va_K.moved hW.alike hK, hD.weaken (fun _ _ _ _ => trivial), hN.warm hW⟩⟩ rfl rfl hl.1 rfl (lv_room (Nat.le_of_ble_eq_true rfl)) dX13_begin_19 ⟨Nat.le_of_ble_eq_true rfl, Nat.le_of_ble_eq_true rfl⟩) hS (fun q _ h => hFc q h) hFc (fun rr u t H_10 locs ht hvm hw hB hz1 hk1 hS2 => ?_)
  rw [hw]
  clear hw
  obtain ⟨hP1, -, hD1⟩ := hB
  rw [ht] at hP1
  replace hD := hD1.weaken (fun _ _ _ h => hFc _ h)
  replace hP := hP1
  replace hS := hS2
  clear hP1 hD1 hS2 hFc hfc hz1 hk1 hvm ht
  refine va_put (D := (dC, dI)) (ci := 13) (v := .int r_8) (ty := .int) (C := RX13) (T := TX13) (N := 22) hx hb hts iwd_X13_begin_X13 tyX13 tyX13_ok nmX13 hown hK hP hD hS h0 (Wd_ob kg_1 sg_1 (by decide)) rfl 4 (by decide) (hts _ md_X13_begin_5) (fun _ h9 => h9) rfl (by decide +kernel) rfl rfl (by rw [fl_len]; decide) dX13_begin_22 (fun H_11 locs hP2 hD2 hS2 => ?_)
  rw [Wd_si sg_1 (by decide) rfl] at hP2 hD2
  obtain ⟨z_12, ez_12⟩ : ∃ w, w = si z_7 h0 4 r_8 := ⟨_, rfl⟩
  rw [← ez_12] at hP2 hD2
  replace hf := lt_at ez_12 hf
  clear ez_12
  replace hP := hP2
  replace hD := hD2
  replace hS := hS2
  clear hP2 hD2 hS2
  refine lv_aload_n hx hb dX13_begin_25 rfl (lv_at hl 0 rfl) ?_
  obtain ⟨k_13, ek_13, hf⟩ := lnk_some hf
  refine va_get (D := (dC, dI)) (ci := 13) (v := .ref (a k_13)) (C := RX13) (T := TX13) (N := 22) hx hb hts iwd_X13_begin_X13 hown hK hP h0 (Wd_ob kg_1 sg_1 (by decide)) rfl 0 (by decide) (hts _ md_X13_begin_3) (fun _ h9 => h9) (fl_q rfl ek_13) dX13_begin_26 ?_
  refine lv_aload_n hx hb dX13_begin_29 rfl (lv_at hl 0 rfl) ?_
  refine va_get (D := (dC, dI)) (ci := 13) (v := .int (z_12.1 h0 1)) (C := RX13) (T := TX13) (N := 22) hx hb hts iwd_X13_begin_X13 hown hK hP h0 (Wd_ob kg_1 sg_1 (by decide)) rfl 1 (by decide) (hts _ md_X13_begin_4) (fun _ h9 => h9) (fl_at (t := 0) rfl) dX13_begin_30 ?_
  refine lv_iconst (v := 0) hx hb dX13_begin_33 (by decide) ?_
  obtain ⟨g_16, hf⟩ := grd_some hf
  obtain ⟨kg_16, sg_16⟩ := okO_at g_16
  obtain ⟨z_14, r_15, hfc, hf⟩ := cal_some hf
  have hFc := de_free hD hS hA
  refine va_calli (va_runV (As := [.int (z_12.1 h0 1), .int 0]) (rest := []) ⟨hx, hb, hml, hown, hts⟩ (de_X16_many l dC dI cy a sh n H_11.size F z_12 k_13 (z_12.1 h0 1) 0 hfc) (cwV 2 hts gX13_begin_X16_many rfl rfl rfl (by decide +kernel) ⟨Nat.le_of_ble_eq_true rfl, Nat.le_of_ble_eq_true rfl⟩) ⟨fun a U g mk q => by obtain ⟨q0, q1, qP, qK, qD, qN⟩ := q; exact ⟨q0, q1, qP, va_K.moved (u := U) (U := U.calling g mk a) (Vm.Alike.refl U.vm) qK, qD, qN.same rfl⟩, va_recv hK hP (ci := 16) (q0 := k_13) rfl (Wd_ob kg_16 sg_16 (by decide)), fun U hU hW => ⟨rfl, by rw [hU], by rw [hU]; exact hP, va_K.moved hW.alike hK, hD.weaken (fun _ _ _ _ => trivial), hN.warm hW⟩⟩ rfl rfl hl.1 rfl (lv_room (Nat.le_of_ble_eq_true rfl)) dX13_begin_34 ⟨Nat.le_of_ble_eq_true rfl, Nat.le_of_ble_eq_true rfl⟩) hS (fun q _ h => hFc q h) hFc (fun rr u t H_17 locs ht hvm hw hB hz1 hk1 hS2 => ?_)
  rw [hw]
  clear hw
  obtain ⟨hP1, -, hD1⟩ := hB
  rw [ht] at hP1
  replace hD := hD1.weaken (fun _ _ _ h => hFc _ h)
  replace hP := hP1
  replace hS := hS2
  clear hP1 hD1 hS2 hFc hfc hz1 hk1 hvm ht
  refine lv_istore_n (lv' := [(1, .int r_15), (0, .ref (a h0))]) hx hb dX13_begin_37 rfl hl (by decide) rfl (fun ls hl2 => ?_)
  replace hl := hl2
  clear hl2
  refine lv_aload_n hx hb dX13_begin_38 rfl (lv_at hl 1 rfl) ?_
  refine lv_iload_n hx hb dX13_begin_39 rfl (lv_at hl 0 rfl) ?_
  refine lv_aload_n hx hb dX13_begin_40 rfl (lv_at hl 1 rfl) ?_
  obtain ⟨k_18, ek_18, hf⟩ := lnk_some hf
  refine va_get (D := (dC, dI)) (ci := 13) (v := .ref (a k_18)) (C := RX13) (T := TX13) (N := 22) hx hb hts iwd_X13_begin_X13 hown hK hP h0 (Wd_ob kg_1 sg_1 (by decide)) rfl 0 (by decide) (hts _ md_X13_begin_3) (fun _ h9 => h9) (fl_q rfl ek_18) dX13_begin_41 ?_
  refine lv_aload_n hx hb dX13_begin_44 rfl (lv_at hl 1 rfl) ?_
  refine va_get (D := (dC, dI)) (ci := 13) (v := .int (z_14.1 h0 1)) (C := RX13) (T := TX13) (N := 22) hx hb hts iwd_X13_begin_X13 hown hK hP h0 (Wd_ob kg_1 sg_1 (by decide)) rfl 1 (by decide) (hts _ md_X13_begin_4) (fun _ h9 => h9) (fl_at (t := 0) rfl) dX13_begin_45 ?_
  refine lv_iconst (v := 2) hx hb dX13_begin_48 (by decide) ?_
  obtain ⟨g_21, hf⟩ := grd_some hf
  obtain ⟨kg_21, sg_21⟩ := okO_at g_21
  obtain ⟨z_19, r_20, hfc, hf⟩ := cal_some hf
  have hFc := de_free hD hS hA
  refine va_calli (va_runV (As := [.int (z_14.1 h0 1), .int 2]) (rest := [.int r_15, .ref (a h0)]) ⟨hx, hb, hml, hown, hts⟩ (de_X16_many l dC dI cy a sh n H_17.size F z_14 k_18 (z_14.1 h0 1) 2 hfc) (cwV 2 hts gX13_begin_X16_many rfl rfl rfl (by decide +kernel) ⟨Nat.le_of_ble_eq_true rfl, Nat.le_of_ble_eq_true rfl⟩) ⟨fun a U g mk q => by obtain ⟨q0, q1, qP, qK, qD, qN⟩ := q; exact ⟨q0, q1, qP, va_K.moved (u := U) (U := U.calling g mk a) (Vm.Alike.refl U.vm) qK, qD, qN.same rfl⟩, va_recv hK hP (ci := 16) (q0 := k_18) rfl (Wd_ob kg_21 sg_21 (by decide)), fun U hU hW => ⟨rfl, by rw [hU], by rw [hU]; exact hP, va_K.moved hW.alike hK, hD.weaken (fun _ _ _ _ => trivial), hN.warm hW⟩⟩ rfl rfl hl.1 rfl (lv_room (Nat.le_of_ble_eq_true rfl)) dX13_begin_49 ⟨Nat.le_of_ble_eq_true rfl, Nat.le_of_ble_eq_true rfl⟩) hS (fun q _ h => hFc q h) hFc (fun rr u t H_22 locs ht hvm hw hB hz1 hk1 hS2 => ?_)
  rw [hw]
  clear hw
  obtain ⟨hP1, -, hD1⟩ := hB
  rw [ht] at hP1
  replace hD := hD1.weaken (fun _ _ _ h => hFc _ h)
  replace hP := hP1
  replace hS := hS2
  clear hP1 hD1 hS2 hFc hfc hz1 hk1 hvm ht
  refine lv_iadd hx hb dX13_begin_52 ?_
  refine va_put (D := (dC, dI)) (ci := 13) (v := .int (r_15 + r_20)) (ty := .int) (C := RX13) (T := TX13) (N := 22) hx hb hts iwd_X13_begin_X13 tyX13 tyX13_ok nmX13 hown hK hP hD hS h0 (Wd_ob kg_1 sg_1 (by decide)) rfl 2 (by decide) (hts _ md_X13_begin_6) (fun _ h9 => h9) rfl (by decide +kernel) rfl rfl (by rw [fl_len]; decide) dX13_begin_53 (fun H_23 locs hP2 hD2 hS2 => ?_)
  rw [Wd_si sg_1 (by decide) rfl] at hP2 hD2
  obtain ⟨z_24, ez_24⟩ : ∃ w, w = si z_19 h0 2 (r_15 + r_20) := ⟨_, rfl⟩
  rw [← ez_24] at hP2 hD2
  replace hf := lt_at ez_24 hf
  clear ez_24
  replace hP := hP2
  replace hD := hD2
  replace hS := hS2
  clear hP2 hD2 hS2
  refine lv_iconst (v := 0) hx hb dX13_begin_56 (by decide) ?_
  refine lv_istore_n (lv' := [(2, .int 0), (1, .int r_15), (0, .ref (a h0))]) hx hb dX13_begin_57 rfl hl (by decide) rfl (fun ls hl2 => ?_)
  replace hl := hl2
  clear hl2
  have hl0 : lv_has ls 4 [(2, .int 0), (1, .int r_15), (0, .ref (a h0))] := lv_sub hl [0, 1, 2] rfl
  refine de_loop (h := 58) (fun (x : St × Int32) ls H locs => lv_has ls 4 [(2, .int x.2), (1, .int r_15), (0, .ref (a h0))] ∧ va_P (dC, dI) vwCl (Wd cy a sh n x.1) H ∧ va_D A (Wd cy a sh n x.1) ∧ va_S A s.heap H locs) (fun f x => fn_X13_begin_L58 F sh n h0 r_15 f x.1 x.2) (z8, r8) ?_ (fun _ => rfl) F (z_24, 0) ls H_23 locs ⟨hl0, hP, hD, hS⟩ hf
  intro f_27 x ls H locs ih58 hI hf
  obtain ⟨z_26, p_25⟩ := x
  obtain ⟨hl2, hP2, hD2, hS2⟩ := hI
  replace hl : lv_has ls 4 [(2, .int p_25), (1, .int r_15), (0, .ref (a h0))] := hl2
  replace hP := hP2
  replace hD := hD2
  replace hS := hS2
  clear hl2 hP2 hD2 hS2 hl0
  replace hf := fn_X13_begin_L58_s hf
  refine lv_iload_n hx hb dX13_begin_58 rfl (lv_at hl 0 rfl) ?_
  refine lv_aload_n hx hb dX13_begin_59 rfl (lv_at hl 2 rfl) ?_
  refine va_get (D := (dC, dI)) (ci := 13) (v := .int (z_26.1 h0 2)) (C := RX13) (T := TX13) (N := 22) hx hb hts iwd_X13_begin_X13 hown hK hP h0 (Wd_ob kg_1 sg_1 (by decide)) rfl 2 (by decide) (hts _ md_X13_begin_6) (fun _ h9 => h9) (fl_at (t := 0) rfl) dX13_begin_60 ?_
  refine lv_icmp_ge (tgt := 114) hx hb dX13_begin_63 (by decide) (fun c_28 => ?_) (fun c_28 => ?_)
  · skip
    rw [if_pos c_28] at hf
    refine lv_iconst (v := 0) hx hb dX13_begin_114 (by decide) ?_
    refine lv_istore_n (lv' := [(2, .int 0), (1, .int r_15), (0, .ref (a h0))]) hx hb dX13_begin_115 rfl hl (by decide) rfl (fun ls hl2 => ?_)
    replace hl := hl2
    clear hl2
    have hl0 : lv_has ls 4 [(2, .int 0), (1, .int r_15), (0, .ref (a h0))] := lv_sub hl [0, 1, 2] rfl
    refine de_loop (h := 116) (fun (x : St × Int32) ls H locs => lv_has ls 4 [(2, .int x.2), (1, .int r_15), (0, .ref (a h0))] ∧ va_P (dC, dI) vwCl (Wd cy a sh n x.1) H ∧ va_D A (Wd cy a sh n x.1) ∧ va_S A s.heap H locs) (fun f x => fn_X13_begin_L116 F sh n h0 r_15 f x.1 x.2) (z8, r8) ?_ (fun _ => rfl) F (z_26, 0) ls H locs ⟨hl0, hP, hD, hS⟩ hf
    intro f_31 x ls H locs ih116 hI hf
    obtain ⟨z_30, p_29⟩ := x
    obtain ⟨hl2, hP2, hD2, hS2⟩ := hI
    replace hl : lv_has ls 4 [(2, .int p_29), (1, .int r_15), (0, .ref (a h0))] := hl2
    replace hP := hP2
    replace hD := hD2
    replace hS := hS2
    clear hl2 hP2 hD2 hS2 hl0
    replace hf := fn_X13_begin_L116_s hf
    refine lv_iload_n hx hb dX13_begin_116 rfl (lv_at hl 0 rfl) ?_
    refine lv_sipush (v := 1024) hx hb dX13_begin_117 (by decide) ?_
    refine lv_icmp_gt (tgt := 143) hx hb dX13_begin_120 (by decide) (fun c_32 => ?_) (fun c_32 => ?_)
    · skip
      rw [if_pos c_32] at hf
      refine lv_iconst (v := 0) hx hb dX13_begin_143 (by decide) ?_
      refine lv_istore_n (lv' := [(2, .int 0), (1, .int r_15), (0, .ref (a h0))]) hx hb dX13_begin_144 rfl hl (by decide) rfl (fun ls hl2 => ?_)
      replace hl := hl2
      clear hl2
      have hl0 : lv_has ls 4 [(2, .int 0), (1, .int r_15), (0, .ref (a h0))] := lv_sub hl [0, 1, 2] rfl
      refine de_loop (h := 145) (fun (x : St × Int32) ls H locs => lv_has ls 4 [(2, .int x.2), (1, .int r_15), (0, .ref (a h0))] ∧ va_P (dC, dI) vwCl (Wd cy a sh n x.1) H ∧ va_D A (Wd cy a sh n x.1) ∧ va_S A s.heap H locs) (fun f x => fn_X13_begin_L145 F sh n h0 r_15 f x.1 x.2) (z8, r8) ?_ (fun _ => rfl) F (z_30, 0) ls H locs ⟨hl0, hP, hD, hS⟩ hf
      intro f_35 x ls H locs ih145 hI hf
      obtain ⟨z_34, p_33⟩ := x
      obtain ⟨hl2, hP2, hD2, hS2⟩ := hI
      replace hl : lv_has ls 4 [(2, .int p_33), (1, .int r_15), (0, .ref (a h0))] := hl2
      replace hP := hP2
      replace hD := hD2
      replace hS := hS2
      clear hl2 hP2 hD2 hS2 hl0
      replace hf := fn_X13_begin_L145_s hf
      refine lv_iload_n hx hb dX13_begin_145 rfl (lv_at hl 0 rfl) ?_
      refine lv_aload_n hx hb dX13_begin_146 rfl (lv_at hl 2 rfl) ?_
      refine va_get (D := (dC, dI)) (ci := 13) (v := .int (z_34.1 h0 4)) (C := RX13) (T := TX13) (N := 22) hx hb hts iwd_X13_begin_X13 hown hK hP h0 (Wd_ob kg_1 sg_1 (by decide)) rfl 4 (by decide) (hts _ md_X13_begin_5) (fun _ h9 => h9) (fl_at (t := 0) rfl) dX13_begin_147 ?_
      refine lv_icmp_ge (tgt := 202) hx hb dX13_begin_150 (by decide) (fun c_36 => ?_) (fun c_36 => ?_)
      · skip
        rw [if_pos c_36] at hf
        refine lv_aload_n hx hb dX13_begin_202 rfl (lv_at hl 2 rfl) ?_
        obtain ⟨k_37, ek_37, hf⟩ := lnk_some hf
        refine va_get (D := (dC, dI)) (ci := 13) (v := .ref (a k_37)) (C := RX13) (T := TX13) (N := 22) hx hb hts iwd_X13_begin_X13 hown hK hP h0 (Wd_ob kg_1 sg_1 (by decide)) rfl 6 (by decide) (hts _ md_X13_begin_8) (fun _ h9 => h9) (fl_q rfl ek_37) dX13_begin_203 ?_
        refine lv_iconst (v := 0) hx hb dX13_begin_206 (by decide) ?_
        refine lv_iconst (v := 1) hx hb dX13_begin_207 (by decide) ?_
        obtain ⟨g_38, hf⟩ := grd_some hf
        obtain ⟨kg_38, sg_38, ig_38⟩ := okA_at g_38
        refine va_zast hx hb hK hP hD hS k_37 3 (Wd_az kg_38 sg_38) rfl ig_38 dX13_begin_208 (fun H_39 locs hP2 hD2 hS2 => ?_)
        rw [Wd_tz sg_38] at hP2 hD2
        obtain ⟨z_40, ez_40⟩ : ∃ w, w = si z_34 k_37 (0 : Int32).toNatClampNeg (vp_nar .boolean 1) := ⟨_, rfl⟩
        rw [← ez_40] at hP2 hD2
        replace hf := lt_at ez_40 hf
        clear ez_40
        replace hP := hP2
        replace hD := hD2
        replace hS := hS2
        clear hP2 hD2 hS2
        refine lv_iconst (v := 0) hx hb dX13_begin_209 (by decide) ?_
        refine lv_istore_n (lv' := [(2, .int 0), (1, .int r_15), (0, .ref (a h0))]) hx hb dX13_begin_210 rfl hl (by decide) rfl (fun ls hl2 => ?_)
        replace hl := hl2
        clear hl2
        have hl0 : lv_has ls 4 [(2, .int 0), (1, .int r_15), (0, .ref (a h0))] := lv_sub hl [0, 1, 2] rfl
        refine de_loop (h := 211) (fun (x : St × Int32) ls H locs => lv_has ls 4 [(2, .int x.2), (1, .int r_15), (0, .ref (a h0))] ∧ va_P (dC, dI) vwCl (Wd cy a sh n x.1) H ∧ va_D A (Wd cy a sh n x.1) ∧ va_S A s.heap H locs) (fun f x => fn_X13_begin_L211 F sh n h0 r_15 f x.1 x.2) (z8, r8) ?_ (fun _ => rfl) F (z_40, 0) ls H_39 locs ⟨hl0, hP, hD, hS⟩ hf
        intro f_43 x ls H locs ih211 hI hf
        obtain ⟨z_42, p_41⟩ := x
        obtain ⟨hl2, hP2, hD2, hS2⟩ := hI
        replace hl : lv_has ls 4 [(2, .int p_41), (1, .int r_15), (0, .ref (a h0))] := hl2
        replace hP := hP2
        replace hD := hD2
        replace hS := hS2
        clear hl2 hP2 hD2 hS2 hl0
        replace hf := fn_X13_begin_L211_s hf
        refine lv_iload_n hx hb dX13_begin_211 rfl (lv_at hl 0 rfl) ?_
        refine lv_aload_n hx hb dX13_begin_212 rfl (lv_at hl 2 rfl) ?_
        refine va_get (D := (dC, dI)) (ci := 13) (v := .int (z_42.1 h0 2)) (C := RX13) (T := TX13) (N := 22) hx hb hts iwd_X13_begin_X13 hown hK hP h0 (Wd_ob kg_1 sg_1 (by decide)) rfl 2 (by decide) (hts _ md_X13_begin_6) (fun _ h9 => h9) (fl_at (t := 0) rfl) dX13_begin_213 ?_
        refine lv_icmp_ge (tgt := 282) hx hb dX13_begin_216 (by decide) (fun c_44 => ?_) (fun c_44 => ?_)
        · skip
          rw [if_pos c_44] at hf
          obtain ⟨h8, h9⟩ := ret_some hf
          rw [h8]
          exact W.vret hx hb hr (fun t ht hW => ⟨⟨(), rfl, trivial, by rw [ht]; exact hP, va_K.moved hW.alike hK, hD⟩, hS.F ht⟩) hS.2.2 dX13_begin_282
        · skip
          rw [if_neg c_44] at hf
          refine lv_iload_n hx hb dX13_begin_219 rfl (lv_at hl 0 rfl) ?_
          refine lv_iload_n hx hb dX13_begin_220 rfl (lv_at hl 1 rfl) ?_
          refine de_cut (h := 229) (fun (x : St × Int32) => [.int x.2]) (fun x ls H locs => lv_has ls 4 [(2, .int p_41), (1, .int r_15), (0, .ref (a h0))] ∧ va_P (dC, dI) vwCl (Wd cy a sh n x.1) H ∧ va_D A (Wd cy a sh n x.1) ∧ va_S A s.heap H locs) (fun x => fn_X13_begin_B229 F sh n h0 p_41 (fun z9 q2 => fn_X13_begin_L211 F sh n h0 r_15 f_43 z9 q2) x.1 x.2) (z8, r8) ?_ (fun B229 => ?_)
          · intro x ls H locs hI hf
            obtain ⟨z_46, p_45⟩ := x
            obtain ⟨hl2, hP2, hD2, hS2⟩ := hI
            replace hl : lv_has ls 4 [(2, .int p_41), (1, .int r_15), (0, .ref (a h0))] := hl2
            replace hP := hP2
            replace hD := hD2
            replace hS := hS2
            clear hl2 hP2 hD2 hS2
            replace hf := fn_X13_begin_B229_s hf
            refine W.eq (g2 := F0 m 229 ls [.int p_45]) rfl ?_
            refine lv_istore_n (lv' := [(3, .int p_45), (2, .int p_41), (1, .int r_15), (0, .ref (a h0))]) hx hb dX13_begin_229 rfl hl (by decide) rfl (fun ls hl2 => ?_)
            replace hl := hl2
            clear hl2
            refine lv_aload_n hx hb dX13_begin_230 rfl (lv_at hl 3 rfl) ?_
            obtain ⟨k_47, ek_47, hf⟩ := lnk_some hf
            refine va_get (D := (dC, dI)) (ci := 13) (v := .ref (a k_47)) (C := RX13) (T := TX13) (N := 22) hx hb hts iwd_X13_begin_X13 hown hK hP h0 (Wd_ob kg_1 sg_1 (by decide)) rfl 8 (by decide) (hts _ md_X13_begin_10) (fun _ h9 => h9) (fl_q rfl ek_47) dX13_begin_231 ?_
            refine lv_iload_n hx hb dX13_begin_234 rfl (lv_at hl 1 rfl) ?_
            refine lv_iload_n hx hb dX13_begin_235 rfl (lv_at hl 0 rfl) ?_
            obtain ⟨g_48, hf⟩ := grd_some hf
            obtain ⟨kg_48, sg_48, ig_48⟩ := okA_at g_48
            refine va_zast hx hb hK hP hD hS k_47 3 (Wd_az kg_48 sg_48) rfl ig_48 dX13_begin_236 (fun H_49 locs hP2 hD2 hS2 => ?_)
            rw [Wd_tz sg_48] at hP2 hD2
            obtain ⟨z_50, ez_50⟩ : ∃ w, w = si z_46 k_47 p_41.toNatClampNeg (vp_nar .boolean p_45) := ⟨_, rfl⟩
            rw [← ez_50] at hP2 hD2
            replace hf := lt_at ez_50 hf
            clear ez_50
            replace hP := hP2
            replace hD := hD2
            replace hS := hS2
            clear hP2 hD2 hS2
            refine lv_aload_n hx hb dX13_begin_237 rfl (lv_at hl 3 rfl) ?_
            obtain ⟨k_51, ek_51, hf⟩ := lnk_some hf
            refine va_get (D := (dC, dI)) (ci := 13) (v := .ref (a k_51)) (C := RX13) (T := TX13) (N := 22) hx hb hts iwd_X13_begin_X13 hown hK hP h0 (Wd_ob kg_1 sg_1 (by decide)) rfl 9 (by decide) (hts _ md_X13_begin_11) (fun _ h9 => h9) (fl_q rfl ek_51) dX13_begin_238 ?_
            refine lv_iload_n hx hb dX13_begin_241 rfl (lv_at hl 1 rfl) ?_
            refine lv_iload_n hx hb dX13_begin_242 rfl (lv_at hl 0 rfl) ?_
            refine de_cut (h := 268) (fun (x : St × Int64) => [.long x.2, .int p_41, .ref (a k_51)]) (fun x ls H locs => lv_has ls 4 [(2, .int p_41), (1, .int r_15), (0, .ref (a h0))] ∧ va_P (dC, dI) vwCl (Wd cy a sh n x.1) H ∧ va_D A (Wd cy a sh n x.1) ∧ va_S A s.heap H locs) (fun x => fn_X13_begin_B268 F sh n k_51 p_41 h0 (fun z9 q2 => fn_X13_begin_L211 F sh n h0 r_15 f_43 z9 q2) x.1 x.2) (z8, r8) ?_ (fun B268 => ?_)
            · intro x ls H locs hI hf
              obtain ⟨z_53, p_52⟩ := x
              obtain ⟨hl2, hP2, hD2, hS2⟩ := hI
              replace hl : lv_has ls 4 [(2, .int p_41), (1, .int r_15), (0, .ref (a h0))] := hl2
              replace hP := hP2
              replace hD := hD2
              replace hS := hS2
              clear hl2 hP2 hD2 hS2
              replace hf := fn_X13_begin_B268_s hf
              refine W.eq (g2 := F0 m 268 ls [.long p_52, .int p_41, .ref (a k_51)]) rfl ?_
              obtain ⟨g_54, hf⟩ := grd_some hf
              obtain ⟨kg_54, sg_54, ig_54⟩ := okA_at g_54
              refine va_last hx hb hK hP hD hS k_51 2 (Wd_al kg_54 sg_54) rfl ig_54 dX13_begin_268 (fun H_55 locs hP2 hD2 hS2 => ?_)
              rw [Wd_tl sg_54] at hP2 hD2
              obtain ⟨z_56, ez_56⟩ : ∃ w, w = sl z_53 k_51 p_41.toNatClampNeg p_52 := ⟨_, rfl⟩
              rw [← ez_56] at hP2 hD2
              replace hf := lt_at ez_56 hf
              clear ez_56
              replace hP := hP2
              replace hD := hD2
              replace hS := hS2
              clear hP2 hD2 hS2
              refine lv_aload_n hx hb dX13_begin_269 rfl (lv_at hl 2 rfl) ?_
              obtain ⟨k_57, ek_57, hf⟩ := lnk_some hf
              refine va_get (D := (dC, dI)) (ci := 13) (v := .ref (a k_57)) (C := RX13) (T := TX13) (N := 22) hx hb hts iwd_X13_begin_X13 hown hK hP h0 (Wd_ob kg_1 sg_1 (by decide)) rfl 10 (by decide) (hts _ md_X13_begin_12) (fun _ h9 => h9) (fl_q rfl ek_57) dX13_begin_270 ?_
              refine lv_iload_n hx hb dX13_begin_273 rfl (lv_at hl 0 rfl) ?_
              refine lv_iconst (v := 0) hx hb dX13_begin_274 (by decide) ?_
              obtain ⟨g_58, hf⟩ := grd_some hf
              obtain ⟨kg_58, sg_58, ig_58⟩ := okA_at g_58
              refine va_zast hx hb hK hP hD hS k_57 3 (Wd_az kg_58 sg_58) rfl ig_58 dX13_begin_275 (fun H_59 locs hP2 hD2 hS2 => ?_)
              rw [Wd_tz sg_58] at hP2 hD2
              obtain ⟨z_60, ez_60⟩ : ∃ w, w = si z_56 k_57 p_41.toNatClampNeg (vp_nar .boolean 0) := ⟨_, rfl⟩
              rw [← ez_60] at hP2 hD2
              replace hf := lt_at ez_60 hf
              clear ez_60
              replace hP := hP2
              replace hD := hD2
              replace hS := hS2
              clear hP2 hD2 hS2
              refine lv_iinc (v := (p_41 + 1)) (lv' := [(2, .int (p_41 + 1)), (1, .int r_15), (0, .ref (a h0))]) hx hb dX13_begin_276 hl (k := 0) rfl rfl (by decide) rfl (fun ls hl2 => ?_)
              replace hl := hl2
              clear hl2
              refine lv_goto (tgt := 211) hx hb dX13_begin_279 (by decide) ?_
              exact ih211 (z_60, (p_41 + 1)) ls H_59 locs ⟨lv_sub hl [0, 1, 2] rfl, hP, hD, hS⟩ hf
            refine de_cut (h := 267) (fun (x : St) => [.int p_41, .ref (a k_51)]) (fun x ls H locs => lv_has ls 4 [(2, .int p_41), (1, .int r_15), (0, .ref (a h0))] ∧ va_P (dC, dI) vwCl (Wd cy a sh n x) H ∧ va_D A (Wd cy a sh n x) ∧ va_S A s.heap H locs) (fun x => fn_X13_begin_B267 F sh n k_51 p_41 h0 (fun z9 q2 => fn_X13_begin_L211 F sh n h0 r_15 f_43 z9 q2) x) (z8, r8) ?_ (fun B267 => ?_)
            · intro x ls H locs hI hf
              obtain ⟨z_61, ez⟩ : ∃ w, w = x := ⟨_, rfl⟩
              subst ez
              obtain ⟨hl2, hP2, hD2, hS2⟩ := hI
              replace hl : lv_has ls 4 [(2, .int p_41), (1, .int r_15), (0, .ref (a h0))] := hl2
              replace hP := hP2
              replace hD := hD2
              replace hS := hS2
              clear hl2 hP2 hD2 hS2
              replace hf := fn_X13_begin_B267_s hf
              refine W.eq (g2 := F0 m 267 ls [.int p_41, .ref (a k_51)]) rfl ?_
              refine lv_lconst (v := 0) hx hb dX13_begin_267 (by decide) ?_
              exact B268 (z_61, 0) ls H locs ⟨lv_sub hl [0, 1, 2] rfl, hP, hD, hS⟩ hf
            refine lv_if_eq (tgt := 267) hx hb dX13_begin_243 (by decide) (fun c_62 => ?_) (fun c_62 => ?_)
            · skip
              rw [if_pos c_62] at hf
              exact B267 (z_50) ls H_49 locs ⟨lv_sub hl [1, 2, 3] rfl, hP, hD, hS⟩ hf
            · skip
              rw [if_neg c_62] at hf
              refine lv_aload_n hx hb dX13_begin_246 rfl (lv_at hl 3 rfl) ?_
              obtain ⟨k_63, ek_63, hf⟩ := lnk_some hf
              refine va_get (D := (dC, dI)) (ci := 13) (v := .ref (a k_63)) (C := RX13) (T := TX13) (N := 22) hx hb hts iwd_X13_begin_X13 hown hK hP h0 (Wd_ob kg_1 sg_1 (by decide)) rfl 3 (by decide) (hts _ md_X13_begin_7) (fun _ h9 => h9) (fl_q rfl ek_63) dX13_begin_247 ?_
              refine lv_iload_n hx hb dX13_begin_250 rfl (lv_at hl 1 rfl) ?_
              obtain ⟨g_64, hf⟩ := grd_some hf
              obtain ⟨kg_64, sg_64, ig_64⟩ := okA_at g_64
              refine va_lald hx hb hK hP k_63 2 (Wd_al kg_64 sg_64) rfl ig_64 dX13_begin_251 ?_
              obtain ⟨z_65, r_66, hfc, hf⟩ := cal_some hf
              have hFc := de_free hD hS hA
              refine va_calli (va_runS (As := [.long (z_50.2.1 k_63 p_41.toNatClampNeg)]) (rest := [.int p_41, .ref (a k_51)]) ⟨hx, hb, hml, hown, hts⟩ (de_X13_isReference l dC dI cy a sh n H_49.size F z_50 (z_50.2.1 k_63 p_41.toNatClampNeg) hfc) (va_cwS 1 hts gX13_begin_X13_isReference rfl rfl rfl (by decide +kernel) ⟨Nat.le_of_ble_eq_true rfl, Nat.le_of_ble_eq_true rfl⟩) ⟨fun a U g mk q => by obtain ⟨q0, q1, qP, qK, qD, qN⟩ := q; exact ⟨q0, q1, qP, va_K.moved (u := U) (U := U.calling g mk a) (Vm.Alike.refl U.vm) qK, qD, qN.same rfl⟩, fun U hU hW => ⟨rfl, by rw [hU], by rw [hU]; exact hP, va_K.moved hW.alike hK, hD.weaken (fun _ _ _ _ => trivial), hN.warm hW⟩⟩ rfl rfl hl.1 rfl (lv_room (Nat.le_of_ble_eq_true rfl)) dX13_begin_252 ⟨Nat.le_of_ble_eq_true rfl, Nat.le_of_ble_eq_true rfl⟩) hS (fun q _ h => hFc q h) hFc (fun rr u t H_67 locs ht hvm hw hB hz1 hk1 hS2 => ?_)
              rw [hw]
              clear hw
              obtain ⟨hP1, -, hD1⟩ := hB
              rw [ht] at hP1
              replace hD := hD1.weaken (fun _ _ _ h => hFc _ h)
              replace hP := hP1
              replace hS := hS2
              clear hP1 hD1 hS2 hFc hfc hz1 hk1 hvm ht
              refine lv_if_eq (tgt := 267) hx hb dX13_begin_255 (by decide) (fun c_68 => ?_) (fun c_68 => ?_)
              · skip
                rw [if_pos c_68] at hf
                exact B267 (z_65) ls H_67 locs ⟨lv_sub hl [1, 2, 3] rfl, hP, hD, hS⟩ hf
              · skip
                rw [if_neg c_68] at hf
                refine lv_lconst (v := 1) hx hb dX13_begin_258 (by decide) ?_
                refine lv_bipush (v := 40) hx hb dX13_begin_259 (by decide) ?_
                refine lv_iload_n hx hb dX13_begin_261 rfl (lv_at hl 1 rfl) ?_
                refine lv_iadd hx hb dX13_begin_262 ?_
                refine lv_lshl (v := (1 <<< (((40 + p_41) : Int32).toInt64 &&& 63))) hx hb dX13_begin_263 rfl ?_
                refine lv_goto (tgt := 268) hx hb dX13_begin_264 (by decide) ?_
                exact B268 (z_65, ((1 <<< (((40 + p_41) : Int32).toInt64 &&& 63)))) ls H_67 locs ⟨lv_sub hl [1, 2, 3] rfl, hP, hD, hS⟩ hf
          refine lv_icmp_ge (tgt := 228) hx hb dX13_begin_221 (by decide) (fun c_69 => ?_) (fun c_69 => ?_)
          · skip
            rw [if_pos c_69] at hf
            refine lv_iconst (v := 0) hx hb dX13_begin_228 (by decide) ?_
            exact B229 (z_42, 0) ls H locs ⟨lv_sub hl [0, 1, 2] rfl, hP, hD, hS⟩ hf
          · skip
            rw [if_neg c_69] at hf
            refine lv_iconst (v := 1) hx hb dX13_begin_224 (by decide) ?_
            refine lv_goto (tgt := 229) hx hb dX13_begin_225 (by decide) ?_
            exact B229 (z_42, 1) ls H locs ⟨lv_sub hl [0, 1, 2] rfl, hP, hD, hS⟩ hf
      · skip
        rw [if_neg c_36] at hf
        refine lv_aload_n hx hb dX13_begin_153 rfl (lv_at hl 2 rfl) ?_
        obtain ⟨k_70, ek_70, hf⟩ := lnk_some hf
        refine va_get (D := (dC, dI)) (ci := 13) (v := .ref (a k_70)) (C := RX13) (T := TX13) (N := 22) hx hb hts iwd_X13_begin_X13 hown hK hP h0 (Wd_ob kg_1 sg_1 (by decide)) rfl 0 (by decide) (hts _ md_X13_begin_3) (fun _ h9 => h9) (fl_q rfl ek_70) dX13_begin_154 ?_
        refine lv_aload_n hx hb dX13_begin_157 rfl (lv_at hl 2 rfl) ?_
        refine va_get (D := (dC, dI)) (ci := 13) (v := .int (z_34.1 h0 1)) (C := RX13) (T := TX13) (N := 22) hx hb hts iwd_X13_begin_X13 hown hK hP h0 (Wd_ob kg_1 sg_1 (by decide)) rfl 1 (by decide) (hts _ md_X13_begin_4) (fun _ h9 => h9) (fl_at (t := 0) rfl) dX13_begin_158 ?_
        refine lv_iload_n hx hb dX13_begin_161 rfl (lv_at hl 0 rfl) ?_
        obtain ⟨g_73, hf⟩ := grd_some hf
        obtain ⟨kg_73, sg_73⟩ := okO_at g_73
        obtain ⟨z_71, r_72, hfc, hf⟩ := cal_some hf
        have hFc := de_free hD hS hA
        refine va_calli (va_runV (As := [.int (z_34.1 h0 1), .int p_33]) (rest := []) ⟨hx, hb, hml, hown, hts⟩ (de_X16_operation l dC dI cy a sh n H.size F z_34 k_70 (z_34.1 h0 1) p_33 hfc) (cwV 2 hts gX13_begin_X16_operation rfl rfl rfl (by decide +kernel) ⟨Nat.le_of_ble_eq_true rfl, Nat.le_of_ble_eq_true rfl⟩) ⟨fun a U g mk q => by obtain ⟨q0, q1, qP, qK, qD, qN⟩ := q; exact ⟨q0, q1, qP, va_K.moved (u := U) (U := U.calling g mk a) (Vm.Alike.refl U.vm) qK, qD, qN.same rfl⟩, va_recv hK hP (ci := 16) (q0 := k_70) rfl (Wd_ob kg_73 sg_73 (by decide)), fun U hU hW => ⟨rfl, by rw [hU], by rw [hU]; exact hP, va_K.moved hW.alike hK, hD.weaken (fun _ _ _ _ => trivial), hN.warm hW⟩⟩ rfl rfl hl.1 rfl (lv_room (Nat.le_of_ble_eq_true rfl)) dX13_begin_162 ⟨Nat.le_of_ble_eq_true rfl, Nat.le_of_ble_eq_true rfl⟩) hS (fun q _ h => hFc q h) hFc (fun rr u t H_74 locs ht hvm hw hB hz1 hk1 hS2 => ?_)
        rw [hw]
        clear hw
        obtain ⟨hP1, -, hD1⟩ := hB
        rw [ht] at hP1
        replace hD := hD1.weaken (fun _ _ _ h => hFc _ h)
        replace hP := hP1
        replace hS := hS2
        clear hP1 hD1 hS2 hFc hfc hz1 hk1 hvm ht
        refine lv_istore_n (lv' := [(3, .int r_72), (2, .int p_33), (1, .int r_15), (0, .ref (a h0))]) hx hb dX13_begin_165 rfl hl (by decide) rfl (fun ls hl2 => ?_)
        replace hl := hl2
        clear hl2
        refine lv_iload_n hx hb dX13_begin_166 rfl (lv_at hl 0 rfl) ?_
        refine lv_iconst (v := 1) hx hb dX13_begin_167 (by decide) ?_
        refine de_cut (h := 196) (fun (x : St) => []) (fun x ls H locs => lv_has ls 4 [(2, .int p_33), (1, .int r_15), (0, .ref (a h0))] ∧ va_P (dC, dI) vwCl (Wd cy a sh n x) H ∧ va_D A (Wd cy a sh n x) ∧ va_S A s.heap H locs) (fun x => fn_X13_begin_B196 F sh n p_33 (fun z9 q2 => fn_X13_begin_L145 F sh n h0 r_15 f_35 z9 q2) x) (z8, r8) ?_ (fun B196 => ?_)
        · intro x ls H locs hI hf
          obtain ⟨z_75, ez⟩ : ∃ w, w = x := ⟨_, rfl⟩
          subst ez
          obtain ⟨hl2, hP2, hD2, hS2⟩ := hI
          replace hl : lv_has ls 4 [(2, .int p_33), (1, .int r_15), (0, .ref (a h0))] := hl2
          replace hP := hP2
          replace hD := hD2
          replace hS := hS2
          clear hl2 hP2 hD2 hS2
          replace hf := fn_X13_begin_B196_s hf
          refine W.eq (g2 := F0 m 196 ls []) rfl ?_
          refine lv_iinc (v := (p_33 + 1)) (lv' := [(2, .int (p_33 + 1)), (1, .int r_15), (0, .ref (a h0))]) hx hb dX13_begin_196 hl (k := 0) rfl rfl (by decide) rfl (fun ls hl2 => ?_)
          replace hl := hl2
          clear hl2
          refine lv_goto (tgt := 145) hx hb dX13_begin_199 (by decide) ?_
          exact ih145 (z_75, (p_33 + 1)) ls H locs ⟨lv_sub hl [0, 1, 2] rfl, hP, hD, hS⟩ hf
        refine lv_icmp_le (tgt := 196) hx hb dX13_begin_168 (by decide) (fun c_76 => ?_) (fun c_76 => ?_)
        · skip
          rw [if_pos c_76] at hf
          exact B196 (z_71) ls H_74 locs ⟨lv_sub hl [1, 2, 3] rfl, hP, hD, hS⟩ hf
        · skip
          rw [if_neg c_76] at hf
          refine lv_iload_n hx hb dX13_begin_171 rfl (lv_at hl 0 rfl) ?_
          refine lv_iconst (v := 5) hx hb dX13_begin_172 (by decide) ?_
          refine lv_icmp_ge (tgt := 196) hx hb dX13_begin_173 (by decide) (fun c_77 => ?_) (fun c_77 => ?_)
          · skip
            rw [if_pos c_77] at hf
            exact B196 (z_71) ls H_74 locs ⟨lv_sub hl [1, 2, 3] rfl, hP, hD, hS⟩ hf
          · skip
            rw [if_neg c_77] at hf
            refine lv_aload_n hx hb dX13_begin_176 rfl (lv_at hl 3 rfl) ?_
            obtain ⟨k_78, ek_78, hf⟩ := lnk_some hf
            refine va_get (D := (dC, dI)) (ci := 13) (v := .ref (a k_78)) (C := RX13) (T := TX13) (N := 22) hx hb hts iwd_X13_begin_X13 hown hK hP h0 (Wd_ob kg_1 sg_1 (by decide)) rfl 7 (by decide) (hts _ md_X13_begin_9) (fun _ h9 => h9) (fl_q rfl ek_78) dX13_begin_177 ?_
            refine lv_aload_n hx hb dX13_begin_180 rfl (lv_at hl 3 rfl) ?_
            obtain ⟨k_79, ek_79, hf⟩ := lnk_some hf
            refine va_get (D := (dC, dI)) (ci := 13) (v := .ref (a k_79)) (C := RX13) (T := TX13) (N := 22) hx hb hts iwd_X13_begin_X13 hown hK hP h0 (Wd_ob kg_1 sg_1 (by decide)) rfl 0 (by decide) (hts _ md_X13_begin_3) (fun _ h9 => h9) (fl_q rfl ek_79) dX13_begin_181 ?_
            refine lv_aload_n hx hb dX13_begin_184 rfl (lv_at hl 3 rfl) ?_
            refine va_get (D := (dC, dI)) (ci := 13) (v := .int (z_71.1 h0 1)) (C := RX13) (T := TX13) (N := 22) hx hb hts iwd_X13_begin_X13 hown hK hP h0 (Wd_ob kg_1 sg_1 (by decide)) rfl 1 (by decide) (hts _ md_X13_begin_4) (fun _ h9 => h9) (fl_at (t := 0) rfl) dX13_begin_185 ?_
            refine lv_iload_n hx hb dX13_begin_188 rfl (lv_at hl 1 rfl) ?_
            refine lv_iconst (v := 0) hx hb dX13_begin_189 (by decide) ?_
            obtain ⟨g_82, hf⟩ := grd_some hf
            obtain ⟨kg_82, sg_82⟩ := okO_at g_82
            obtain ⟨z_80, r_81, hfc, hf⟩ := cal_some hf
            have hFc := de_free hD hS hA
            refine va_calll (va_runV (As := [.int (z_71.1 h0 1), .int p_33, .int 0]) (rest := [.ref (a k_78)]) ⟨hx, hb, hml, hown, hts⟩ (de_X16_operand l dC dI cy a sh n H_74.size F z_71 k_79 (z_71.1 h0 1) p_33 0 hfc) (cwV 3 hts gX13_begin_X16_operand rfl rfl rfl (by decide +kernel) ⟨Nat.le_of_ble_eq_true rfl, Nat.le_of_ble_eq_true rfl⟩) ⟨fun a U g mk q => by obtain ⟨q0, q1, qP, qK, qD, qN⟩ := q; exact ⟨q0, q1, qP, va_K.moved (u := U) (U := U.calling g mk a) (Vm.Alike.refl U.vm) qK, qD, qN.same rfl⟩, va_recv hK hP (ci := 16) (q0 := k_79) rfl (Wd_ob kg_82 sg_82 (by decide)), fun U hU hW => ⟨rfl, by rw [hU], by rw [hU]; exact hP, va_K.moved hW.alike hK, hD.weaken (fun _ _ _ _ => trivial), hN.warm hW⟩⟩ rfl rfl hl.1 rfl (lv_room (Nat.le_of_ble_eq_true rfl)) dX13_begin_190 ⟨Nat.le_of_ble_eq_true rfl, Nat.le_of_ble_eq_true rfl⟩) hS (fun q _ h => hFc q h) hFc (fun rr u t H_83 locs ht hvm hw hB hz1 hk1 hS2 => ?_)
            rw [hw]
            clear hw
            obtain ⟨hP1, -, hD1⟩ := hB
            rw [ht] at hP1
            replace hD := hD1.weaken (fun _ _ _ h => hFc _ h)
            replace hP := hP1
            replace hS := hS2
            clear hP1 hD1 hS2 hFc hfc hz1 hk1 hvm ht
            refine lv_l2i (v := (r_81 : Int64).toInt32) hx hb dX13_begin_193 rfl ?_
            refine lv_iconst (v := 1) hx hb dX13_begin_194 (by decide) ?_
            obtain ⟨g_84, hf⟩ := grd_some hf
            obtain ⟨kg_84, sg_84, ig_84⟩ := okA_at g_84
            refine va_zast hx hb hK hP hD hS k_78 3 (Wd_az kg_84 sg_84) rfl ig_84 dX13_begin_195 (fun H_85 locs hP2 hD2 hS2 => ?_)
            rw [Wd_tz sg_84] at hP2 hD2
            obtain ⟨z_86, ez_86⟩ : ∃ w, w = si z_80 k_78 ((r_81 : Int64).toInt32).toNatClampNeg (vp_nar .boolean 1) := ⟨_, rfl⟩
            rw [← ez_86] at hP2 hD2
            replace hf := lt_at ez_86 hf
            clear ez_86
            replace hP := hP2
            replace hD := hD2
            replace hS := hS2
            clear hP2 hD2 hS2
            exact B196 (z_86) ls H_85 locs ⟨lv_sub hl [1, 2, 3] rfl, hP, hD, hS⟩ hf
    · skip
      rw [if_neg c_32] at hf
      refine lv_aload_n hx hb dX13_begin_123 rfl (lv_at hl 2 rfl) ?_
      obtain ⟨k_87, ek_87, hf⟩ := lnk_some hf
      refine va_get (D := (dC, dI)) (ci := 13) (v := .ref (a k_87)) (C := RX13) (T := TX13) (N := 22) hx hb hts iwd_X13_begin_X13 hown hK hP h0 (Wd_ob kg_1 sg_1 (by decide)) rfl 6 (by decide) (hts _ md_X13_begin_8) (fun _ h9 => h9) (fl_q rfl ek_87) dX13_begin_124 ?_
      refine lv_iload_n hx hb dX13_begin_127 rfl (lv_at hl 0 rfl) ?_
      refine lv_iconst (v := 0) hx hb dX13_begin_128 (by decide) ?_
      obtain ⟨g_88, hf⟩ := grd_some hf
      obtain ⟨kg_88, sg_88, ig_88⟩ := okA_at g_88
      refine va_zast hx hb hK hP hD hS k_87 3 (Wd_az kg_88 sg_88) rfl ig_88 dX13_begin_129 (fun H_89 locs hP2 hD2 hS2 => ?_)
      rw [Wd_tz sg_88] at hP2 hD2
      obtain ⟨z_90, ez_90⟩ : ∃ w, w = si z_30 k_87 p_29.toNatClampNeg (vp_nar .boolean 0) := ⟨_, rfl⟩
      rw [← ez_90] at hP2 hD2
      replace hf := lt_at ez_90 hf
      clear ez_90
      replace hP := hP2
      replace hD := hD2
      replace hS := hS2
      clear hP2 hD2 hS2
      refine lv_aload_n hx hb dX13_begin_130 rfl (lv_at hl 2 rfl) ?_
      obtain ⟨k_91, ek_91, hf⟩ := lnk_some hf
      refine va_get (D := (dC, dI)) (ci := 13) (v := .ref (a k_91)) (C := RX13) (T := TX13) (N := 22) hx hb hts iwd_X13_begin_X13 hown hK hP h0 (Wd_ob kg_1 sg_1 (by decide)) rfl 7 (by decide) (hts _ md_X13_begin_9) (fun _ h9 => h9) (fl_q rfl ek_91) dX13_begin_131 ?_
      refine lv_iload_n hx hb dX13_begin_134 rfl (lv_at hl 0 rfl) ?_
      refine lv_iconst (v := 0) hx hb dX13_begin_135 (by decide) ?_
      obtain ⟨g_92, hf⟩ := grd_some hf
      obtain ⟨kg_92, sg_92, ig_92⟩ := okA_at g_92
      refine va_zast hx hb hK hP hD hS k_91 3 (Wd_az kg_92 sg_92) rfl ig_92 dX13_begin_136 (fun H_93 locs hP2 hD2 hS2 => ?_)
      rw [Wd_tz sg_92] at hP2 hD2
      obtain ⟨z_94, ez_94⟩ : ∃ w, w = si z_90 k_91 p_29.toNatClampNeg (vp_nar .boolean 0) := ⟨_, rfl⟩
      rw [← ez_94] at hP2 hD2
      replace hf := lt_at ez_94 hf
      clear ez_94
      replace hP := hP2
      replace hD := hD2
      replace hS := hS2
      clear hP2 hD2 hS2
      refine lv_iinc (v := (p_29 + 1)) (lv' := [(2, .int (p_29 + 1)), (1, .int r_15), (0, .ref (a h0))]) hx hb dX13_begin_137 hl (k := 0) rfl rfl (by decide) rfl (fun ls hl2 => ?_)
      replace hl := hl2
      clear hl2
      refine lv_goto (tgt := 116) hx hb dX13_begin_140 (by decide) ?_
      exact ih116 (z_94, (p_29 + 1)) ls H_93 locs ⟨lv_sub hl [0, 1, 2] rfl, hP, hD, hS⟩ hf
  · skip
    rw [if_neg c_28] at hf
    refine lv_aload_n hx hb dX13_begin_66 rfl (lv_at hl 2 rfl) ?_
    obtain ⟨k_95, ek_95, hf⟩ := lnk_some hf
    refine va_get (D := (dC, dI)) (ci := 13) (v := .ref (a k_95)) (C := RX13) (T := TX13) (N := 22) hx hb hts iwd_X13_begin_X13 hown hK hP h0 (Wd_ob kg_1 sg_1 (by decide)) rfl 3 (by decide) (hts _ md_X13_begin_7) (fun _ h9 => h9) (fl_q rfl ek_95) dX13_begin_67 ?_
    refine lv_iload_n hx hb dX13_begin_70 rfl (lv_at hl 0 rfl) ?_
    refine lv_iload_n hx hb dX13_begin_71 rfl (lv_at hl 0 rfl) ?_
    refine lv_iload_n hx hb dX13_begin_72 rfl (lv_at hl 1 rfl) ?_
    refine de_cut (h := 107) (fun (x : St × Int64) => [.long x.2, .int p_25, .ref (a k_95)]) (fun x ls H locs => lv_has ls 4 [(2, .int p_25), (1, .int r_15), (0, .ref (a h0))] ∧ va_P (dC, dI) vwCl (Wd cy a sh n x.1) H ∧ va_D A (Wd cy a sh n x.1) ∧ va_S A s.heap H locs) (fun x => fn_X13_begin_B107 F sh n k_95 p_25 (fun z9 q2 => fn_X13_begin_L58 F sh n h0 r_15 f_27 z9 q2) x.1 x.2) (z8, r8) ?_ (fun B107 => ?_)
    · intro x ls H locs hI hf
      obtain ⟨z_97, p_96⟩ := x
      obtain ⟨hl2, hP2, hD2, hS2⟩ := hI
      replace hl : lv_has ls 4 [(2, .int p_25), (1, .int r_15), (0, .ref (a h0))] := hl2
      replace hP := hP2
      replace hD := hD2
      replace hS := hS2
      clear hl2 hP2 hD2 hS2
      replace hf := fn_X13_begin_B107_s hf
      refine W.eq (g2 := F0 m 107 ls [.long p_96, .int p_25, .ref (a k_95)]) rfl ?_
      obtain ⟨g_98, hf⟩ := grd_some hf
      obtain ⟨kg_98, sg_98, ig_98⟩ := okA_at g_98
      refine va_last hx hb hK hP hD hS k_95 2 (Wd_al kg_98 sg_98) rfl ig_98 dX13_begin_107 (fun H_99 locs hP2 hD2 hS2 => ?_)
      rw [Wd_tl sg_98] at hP2 hD2
      obtain ⟨z_100, ez_100⟩ : ∃ w, w = sl z_97 k_95 p_25.toNatClampNeg p_96 := ⟨_, rfl⟩
      rw [← ez_100] at hP2 hD2
      replace hf := lt_at ez_100 hf
      clear ez_100
      replace hP := hP2
      replace hD := hD2
      replace hS := hS2
      clear hP2 hD2 hS2
      refine lv_iinc (v := (p_25 + 1)) (lv' := [(2, .int (p_25 + 1)), (1, .int r_15), (0, .ref (a h0))]) hx hb dX13_begin_108 hl (k := 0) rfl rfl (by decide) rfl (fun ls hl2 => ?_)
      replace hl := hl2
      clear hl2
      refine lv_goto (tgt := 58) hx hb dX13_begin_111 (by decide) ?_
      exact ih58 (z_100, (p_25 + 1)) ls H_99 locs ⟨lv_sub hl [0, 1, 2] rfl, hP, hD, hS⟩ hf
    refine lv_icmp_ge (tgt := 92) hx hb dX13_begin_73 (by decide) (fun c_101 => ?_) (fun c_101 => ?_)
    · skip
      rw [if_pos c_101] at hf
      refine lv_aload_n hx hb dX13_begin_92 rfl (lv_at hl 2 rfl) ?_
      obtain ⟨k_102, ek_102, hf⟩ := lnk_some hf
      refine va_get (D := (dC, dI)) (ci := 13) (v := .ref (a k_102)) (C := RX13) (T := TX13) (N := 22) hx hb hts iwd_X13_begin_X13 hown hK hP h0 (Wd_ob kg_1 sg_1 (by decide)) rfl 0 (by decide) (hts _ md_X13_begin_3) (fun _ h9 => h9) (fl_q rfl ek_102) dX13_begin_93 ?_
      refine lv_aload_n hx hb dX13_begin_96 rfl (lv_at hl 2 rfl) ?_
      refine va_get (D := (dC, dI)) (ci := 13) (v := .int (z_26.1 h0 1)) (C := RX13) (T := TX13) (N := 22) hx hb hts iwd_X13_begin_X13 hown hK hP h0 (Wd_ob kg_1 sg_1 (by decide)) rfl 1 (by decide) (hts _ md_X13_begin_4) (fun _ h9 => h9) (fl_at (t := 0) rfl) dX13_begin_97 ?_
      refine lv_iconst (v := 2) hx hb dX13_begin_100 (by decide) ?_
      refine lv_iload_n hx hb dX13_begin_101 rfl (lv_at hl 0 rfl) ?_
      refine lv_iload_n hx hb dX13_begin_102 rfl (lv_at hl 1 rfl) ?_
      refine lv_isub hx hb dX13_begin_103 ?_
      obtain ⟨g_105, hf⟩ := grd_some hf
      obtain ⟨kg_105, sg_105⟩ := okO_at g_105
      obtain ⟨z_103, r_104, hfc, hf⟩ := cal_some hf
      have hFc := de_free hD hS hA
      refine va_calll (va_runV (As := [.int (z_26.1 h0 1), .int 2, .int (p_25 - r_15)]) (rest := [.int p_25, .ref (a k_95)]) ⟨hx, hb, hml, hown, hts⟩ (de_X16_listed l dC dI cy a sh n H.size F z_26 k_102 (z_26.1 h0 1) 2 (p_25 - r_15) hfc) (cwV 3 hts gX13_begin_X16_listed rfl rfl rfl (by decide +kernel) ⟨Nat.le_of_ble_eq_true rfl, Nat.le_of_ble_eq_true rfl⟩) ⟨fun a U g mk q => by obtain ⟨q0, q1, qP, qK, qD, qN⟩ := q; exact ⟨q0, q1, qP, va_K.moved (u := U) (U := U.calling g mk a) (Vm.Alike.refl U.vm) qK, qD, qN.same rfl⟩, va_recv hK hP (ci := 16) (q0 := k_102) rfl (Wd_ob kg_105 sg_105 (by decide)), fun U hU hW => ⟨rfl, by rw [hU], by rw [hU]; exact hP, va_K.moved hW.alike hK, hD.weaken (fun _ _ _ _ => trivial), hN.warm hW⟩⟩ rfl rfl hl.1 rfl (lv_room (Nat.le_of_ble_eq_true rfl)) dX13_begin_104 ⟨Nat.le_of_ble_eq_true rfl, Nat.le_of_ble_eq_true rfl⟩) hS (fun q _ h => hFc q h) hFc (fun rr u t H_106 locs ht hvm hw hB hz1 hk1 hS2 => ?_)
      rw [hw]
      clear hw
      obtain ⟨hP1, -, hD1⟩ := hB
      rw [ht] at hP1
      replace hD := hD1.weaken (fun _ _ _ h => hFc _ h)
      replace hP := hP1
      replace hS := hS2
      clear hP1 hD1 hS2 hFc hfc hz1 hk1 hvm ht
      exact B107 (z_103, r_104) ls H_106 locs ⟨lv_sub hl [0, 1, 2] rfl, hP, hD, hS⟩ hf
    · skip
      rw [if_neg c_101] at hf
      refine lv_aload_n hx hb dX13_begin_76 rfl (lv_at hl 2 rfl) ?_
      obtain ⟨k_107, ek_107, hf⟩ := lnk_some hf
      refine va_get (D := (dC, dI)) (ci := 13) (v := .ref (a k_107)) (C := RX13) (T := TX13) (N := 22) hx hb hts iwd_X13_begin_X13 hown hK hP h0 (Wd_ob kg_1 sg_1 (by decide)) rfl 0 (by decide) (hts _ md_X13_begin_3) (fun _ h9 => h9) (fl_q rfl ek_107) dX13_begin_77 ?_
      refine lv_aload_n hx hb dX13_begin_80 rfl (lv_at hl 2 rfl) ?_
      refine va_get (D := (dC, dI)) (ci := 13) (v := .int (z_26.1 h0 1)) (C := RX13) (T := TX13) (N := 22) hx hb hts iwd_X13_begin_X13 hown hK hP h0 (Wd_ob kg_1 sg_1 (by decide)) rfl 1 (by decide) (hts _ md_X13_begin_4) (fun _ h9 => h9) (fl_at (t := 0) rfl) dX13_begin_81 ?_
      refine lv_iconst (v := 0) hx hb dX13_begin_84 (by decide) ?_
      refine lv_iload_n hx hb dX13_begin_85 rfl (lv_at hl 0 rfl) ?_
      obtain ⟨g_110, hf⟩ := grd_some hf
      obtain ⟨kg_110, sg_110⟩ := okO_at g_110
      obtain ⟨z_108, r_109, hfc, hf⟩ := cal_some hf
      have hFc := de_free hD hS hA
      refine va_calll (va_runV (As := [.int (z_26.1 h0 1), .int 0, .int p_25]) (rest := [.int p_25, .ref (a k_95)]) ⟨hx, hb, hml, hown, hts⟩ (de_X16_listed l dC dI cy a sh n H.size F z_26 k_107 (z_26.1 h0 1) 0 p_25 hfc) (cwV 3 hts gX13_begin_X16_listed rfl rfl rfl (by decide +kernel) ⟨Nat.le_of_ble_eq_true rfl, Nat.le_of_ble_eq_true rfl⟩) ⟨fun a U g mk q => by obtain ⟨q0, q1, qP, qK, qD, qN⟩ := q; exact ⟨q0, q1, qP, va_K.moved (u := U) (U := U.calling g mk a) (Vm.Alike.refl U.vm) qK, qD, qN.same rfl⟩, va_recv hK hP (ci := 16) (q0 := k_107) rfl (Wd_ob kg_110 sg_110 (by decide)), fun U hU hW => ⟨rfl, by rw [hU], by rw [hU]; exact hP, va_K.moved hW.alike hK, hD.weaken (fun _ _ _ _ => trivial), hN.warm hW⟩⟩ rfl rfl hl.1 rfl (lv_room (Nat.le_of_ble_eq_true rfl)) dX13_begin_86 ⟨Nat.le_of_ble_eq_true rfl, Nat.le_of_ble_eq_true rfl⟩) hS (fun q _ h => hFc q h) hFc (fun rr u t H_111 locs ht hvm hw hB hz1 hk1 hS2 => ?_)
      rw [hw]
      clear hw
      obtain ⟨hP1, -, hD1⟩ := hB
      rw [ht] at hP1
      replace hD := hD1.weaken (fun _ _ _ h => hFc _ h)
      replace hP := hP1
      replace hS := hS2
      clear hP1 hD1 hS2 hFc hfc hz1 hk1 hvm ht
      refine lv_goto (tgt := 107) hx hb dX13_begin_89 (by decide) ?_
      exact B107 (z_108, r_109) ls H_111 locs ⟨lv_sub hl [0, 1, 2] rfl, hP, hD, hS⟩ hf

theorem md_X18_root_1 : (.fieldLink RX18 531 "ResourceLedgerModel" "roots" "LResourceLedgerModel$Roots;" : Cond) ∈ wsX18_root := List.mem_of_getElem? (i := 1) rfl
theorem iwd_X18_root_X18 : ∀ w ∈ wsX180, w ∈ wsX18_root := fun _ h => List.mem_cons_of_mem _ (List.mem_append_left _ (List.mem_append_left _ (List.mem_append_left _ (List.mem_append_right _ h))))
theorem md_X18_root_2 : (.fieldLink RX18 94 "ResourceLedgerModel" "digester" "LResourceLedgerModel$Digester;" : Cond) ∈ wsX18_root := List.mem_of_getElem? (i := 2) rfl
theorem md_X18_root_3 : (.fieldLink RX18 1 "ResourceLedgerModel" "accounts" "I" : Cond) ∈ wsX18_root := List.mem_of_getElem? (i := 3) rfl
theorem md_X18_root_9 : (.fieldLink RX18 7 "ResourceLedgerModel" "modules" "I" : Cond) ∈ wsX18_root := List.mem_of_getElem? (i := 9) rfl
theorem md_X18_root_11 : (.fieldLink RX18 10 "ResourceLedgerModel" "resources" "I" : Cond) ∈ wsX18_root := List.mem_of_getElem? (i := 11) rfl
theorem md_X18_root_12 : (.fieldLink RX18 27 "ResourceLedgerModel" "owners" "[J" : Cond) ∈ wsX18_root := List.mem_of_getElem? (i := 12) rfl
theorem md_X18_root_13 : (.fieldLink RX18 30 "ResourceLedgerModel" "kindsOf" "[I" : Cond) ∈ wsX18_root := List.mem_of_getElem? (i := 13) rfl
theorem md_X18_root_5 : (.fieldLink RX18 602 "ResourceLedgerModel" "key" "[J" : Cond) ∈ wsX18_root := List.mem_of_getElem? (i := 5) rfl
theorem md_X18_root_8 : (.fieldLink RX18 605 "ResourceLedgerModel" "value" "[J" : Cond) ∈ wsX18_root := List.mem_of_getElem? (i := 8) rfl
theorem md_X18_root_10 : (.fieldLink RX18 17 "ResourceLedgerModel" "units" "[LResourceLedgerModel$Unit;" : Cond) ∈ wsX18_root := List.mem_of_getElem? (i := 10) rfl
theorem iwd_X18_root_X16 : ∀ w ∈ wsX160, w ∈ wsX18_root := fun _ h => List.mem_cons_of_mem _ (List.mem_append_left _ (List.mem_append_left _ (List.mem_append_right _ h)))
theorem md_X18_root_4 : (.fieldLink RX18 13 "ResourceLedgerModel" "addresses" "[J" : Cond) ∈ wsX18_root := List.mem_of_getElem? (i := 4) rfl
theorem md_X18_root_6 : (.fieldLink RX18 303 "ResourceLedgerModel" "balances" "[J" : Cond) ∈ wsX18_root := List.mem_of_getElem? (i := 6) rfl
theorem md_X18_root_7 : (.fieldLink RX18 519 "ResourceLedgerModel" "sequences" "[J" : Cond) ∈ wsX18_root := List.mem_of_getElem? (i := 7) rfl
set_option maxHeartbeats 4000000 in
set_option maxRecDepth 100000 in
theorem de_X18_root (l : Launch) (dC : Nat → ClassId) (dI : Nat → Nat → Nat) (cy : Nat → ClassId) (a : Nat → Nat) (sh : Nat → Nat × Nat) (n sz : Nat) (F : Nat) (sk : Nat → Nat) (z : St) (h0 : Nat) (x0 : Int32) {z8 : St} {r8 : Int64} (hf : fn_X18_root F sh n z h0 x0 = some (z8, r8)) : Met l yX18_root wsX18_root ({ frames := 52, cells := 0, slots := 0, locals := 1144 }) (va_Pc [.ref (a h0), .int x0] (fun U => U.heap.size = sz ∧ va_P (dC, dI) vwCl (Wd cy a sh n z) U.heap ∧ va_K (dC, dI) vwCl (TYS cy) U ∧ va_D (fun _ => True) (Wd cy a sh n z) ∧ NK U ∧ SKs sk (a CBK) (va_A (Wd cy a sh n z) sz) U U.heap)) (va_Ql (fun (r9 : Int64) (u : Unit) => r9 = r8) (fun u t => va_P (dC, dI) vwCl (Wd cy a sh n z8) t.heap ∧ va_K (dC, dI) vwCl (TYS cy) t ∧ va_D (va_A (Wd cy a sh n z) sz) (Wd cy a sh n z8)) (va_A (Wd cy a sh n z) sz)) 0 0 (va_A (Wd cy a sh n z) sz) := by
  refine Met.ofW (cc := cX18_root) (maxL := 4) (ret := (some .long)) (by decide) rfl ?_
  intro p e s m args below meth c s₁ B hml hv
  obtain ⟨rfl, hsz, hP, hK, hD0, hN, hSK⟩ := hv
  have hx := B.exec
  have hb := B.bytes
  have hr := B.returns
  have hts := atoms_spec (ws := wsX18_root) B.pre
  have hown : s.vm.findClass RX18 = some m.cls := findClass_of_methodNamed B.named
  have hlocks := B.notSynchronized
  subst hsz
  have hD := hD0.self (sz := s.heap.size)
  clear hD0
  generalize hAe : va_A (Wd cy a sh n z) s.heap.size = A at hD hSK ⊢
  have hA : ∀ q : Nat, s.heap.size ≤ q → A q := fun q h => by rw [← hAe]; exact Or.inr h
  clear hAe
  have hS : va_S A s.heap s.heap [] := va_S.rf
  have hl := lv_entry ([.ref (a h0), .int x0]) (n := 4) (Nat.le_of_ble_eq_true rfl)
  rw [lg_entry_eq]
  generalize (lg_sl ([.ref (a h0), .int x0]) ++ List.replicate (4 - (lg_sl ([.ref (a h0), .int x0])).length) Slot.unset).toArray = ls at hl ⊢
  replace hl : lv_has ls 4 [(0, .ref (a h0)), (1, .int x0)] := hl
  unfold fn_X18_root at hf
  refine de_start hS hP (fun H locs hS hP => ?_)
  refine lv_iload_n hx hb dX18_root_0 rfl (lv_at hl 1 rfl) ?_
  refine lv_if_lt (tgt := 9) hx hb dX18_root_1 (by decide) (fun c_1 => ?_) (fun c_1 => ?_)
  · skip
    rw [if_pos c_1] at hf
    refine lv_lconst (v := 0) hx hb dX18_root_9 (by decide) ?_
    obtain ⟨h8, h9⟩ := ret_some hf
    rw [h8, h9]
    exact W.lret (v := 0) hx hb hr (fun t ht hW => ⟨⟨0, (), rfl, rfl, by rw [ht]; exact hP, va_K.moved hW.alike hK, hD⟩, hS.F ht⟩) hS.2.2 dX18_root_10
  · skip
    rw [if_neg c_1] at hf
    refine lv_iload_n hx hb dX18_root_4 rfl (lv_at hl 1 rfl) ?_
    refine lv_iconst (v := 3) hx hb dX18_root_5 (by decide) ?_
    refine lv_icmp_le (tgt := 11) hx hb dX18_root_6 (by decide) (fun c_2 => ?_) (fun c_2 => ?_)
    · skip
      rw [if_pos c_2] at hf
      refine lv_aload_n hx hb dX18_root_11 rfl (lv_at hl 0 rfl) ?_
      obtain ⟨g_3, hf⟩ := grd_some hf
      obtain ⟨kg_3, sg_3⟩ := okO_at g_3
      obtain ⟨k_4, ek_4, hf⟩ := lnk_some hf
      refine va_get (D := (dC, dI)) (ci := 18) (v := .ref (a k_4)) (C := RX18) (T := TX18) (N := 78) hx hb hts iwd_X18_root_X18 hown hK hP h0 (Wd_ob kg_3 sg_3 (by decide)) rfl 19 (by decide) (hts _ md_X18_root_1) (fun _ h9 => h9) (fl_q rfl ek_4) dX18_root_12 ?_
      obtain ⟨g_6, hf⟩ := grd_some hf
      obtain ⟨kg_6, sg_6⟩ := okO_at g_6
      obtain ⟨z_5, _u, hfc, hf⟩ := cal_some hf
      have hFc := de_free hD hS hA
      refine va_callv (va_runV (As := []) (rest := []) ⟨hx, hb, hml, hown, hts⟩ (de_X14_begin l dC dI cy a sh n H.size F z k_4 hfc) (cwV 0 hts gX18_root_X14_begin rfl rfl rfl (by decide +kernel) ⟨Nat.le_of_ble_eq_true rfl, Nat.le_of_ble_eq_true rfl⟩) ⟨fun a U g mk q => by obtain ⟨q0, q1, qP, qK, qD, qN⟩ := q; exact ⟨q0, q1, qP, va_K.moved (u := U) (U := U.calling g mk a) (Vm.Alike.refl U.vm) qK, qD, qN.same rfl⟩, va_recv hK hP (ci := 14) (q0 := k_4) rfl (Wd_ob kg_6 sg_6 (by decide)), fun U hU hW => ⟨rfl, by rw [hU], by rw [hU]; exact hP, va_K.moved hW.alike hK, hD.weaken (fun _ _ _ _ => trivial), hN.warm hW⟩⟩ rfl rfl hl.1 rfl (lv_room (Nat.le_of_ble_eq_true rfl)) dX18_root_15 ⟨Nat.le_of_ble_eq_true rfl, Nat.le_of_ble_eq_true rfl⟩) hS (fun q _ h => hFc q h) hFc (fun u t H_7 locs ht hvm hw hB hz1 hk1 hS2 => ?_)
      obtain ⟨hP1, -, hD1⟩ := hB
      rw [ht] at hP1
      replace hD := hD1.weaken (fun _ _ _ h => hFc _ h)
      replace hP := hP1
      replace hS := hS2
      clear hP1 hD1 hS2 hFc hfc hz1 hk1 hvm ht
      refine lv_aload_n hx hb dX18_root_18 rfl (lv_at hl 0 rfl) ?_
      obtain ⟨k_8, ek_8, hf⟩ := lnk_some hf
      refine va_get (D := (dC, dI)) (ci := 18) (v := .ref (a k_8)) (C := RX18) (T := TX18) (N := 78) hx hb hts iwd_X18_root_X18 hown hK hP h0 (Wd_ob kg_3 sg_3 (by decide)) rfl 18 (by decide) (hts _ md_X18_root_2) (fun _ h9 => h9) (fl_q rfl ek_8) dX18_root_19 ?_
      obtain ⟨g_10, hf⟩ := grd_some hf
      obtain ⟨kg_10, sg_10⟩ := okO_at g_10
      obtain ⟨z_9, _u, hfc, hf⟩ := cal_some hf
      have hFc := de_free hD hS hA
      refine va_callv (va_runV (As := []) (rest := []) ⟨hx, hb, hml, hown, hts⟩ (de_X12_begin l dC dI cy a sh n H_7.size F z_5 k_8 hfc) (cwV 0 hts gX18_root_X12_begin rfl rfl rfl (by decide +kernel) ⟨Nat.le_of_ble_eq_true rfl, Nat.le_of_ble_eq_true rfl⟩) ⟨fun a U g mk q => by obtain ⟨q0, q1, qP, qK, qD, qN⟩ := q; exact ⟨q0, q1, qP, va_K.moved (u := U) (U := U.calling g mk a) (Vm.Alike.refl U.vm) qK, qD, qN.same rfl⟩, va_recv hK hP (ci := 12) (q0 := k_8) rfl (Wd_ob kg_10 sg_10 (by decide)), fun U hU hW => ⟨rfl, by rw [hU], by rw [hU]; exact hP, va_K.moved hW.alike hK, hD.weaken (fun _ _ _ _ => trivial), hN.warm hW⟩⟩ rfl rfl hl.1 rfl (lv_room (Nat.le_of_ble_eq_true rfl)) dX18_root_22 ⟨Nat.le_of_ble_eq_true rfl, Nat.le_of_ble_eq_true rfl⟩) hS (fun q _ h => hFc q h) hFc (fun u t H_11 locs ht hvm hw hB hz1 hk1 hS2 => ?_)
      obtain ⟨hP1, -, hD1⟩ := hB
      rw [ht] at hP1
      replace hD := hD1.weaken (fun _ _ _ h => hFc _ h)
      replace hP := hP1
      replace hS := hS2
      clear hP1 hD1 hS2 hFc hfc hz1 hk1 hvm ht
      refine lv_iconst (v := 0) hx hb dX18_root_25 (by decide) ?_
      refine lv_istore_n (lv' := [(2, .int 0), (0, .ref (a h0)), (1, .int x0)]) hx hb dX18_root_26 rfl hl (by decide) rfl (fun ls hl2 => ?_)
      replace hl := hl2
      clear hl2
      have hl0 : lv_has ls 4 [(2, .int 0), (0, .ref (a h0)), (1, .int x0)] := lv_sub hl [0, 1, 2] rfl
      refine de_loop (h := 27) (fun (x : St × Int32) ls H locs => lv_has ls 4 [(2, .int x.2), (0, .ref (a h0)), (1, .int x0)] ∧ va_P (dC, dI) vwCl (Wd cy a sh n x.1) H ∧ va_D A (Wd cy a sh n x.1) ∧ va_S A s.heap H locs) (fun f x => fn_X18_root_L27 F sh n h0 x0 f x.1 x.2) (z8, r8) ?_ (fun _ => rfl) F (z_9, 0) ls H_11 locs ⟨hl0, hP, hD, hS⟩ hf
      intro f_14 x ls H locs ih27 hI hf
      obtain ⟨z_13, p_12⟩ := x
      obtain ⟨hl2, hP2, hD2, hS2⟩ := hI
      replace hl : lv_has ls 4 [(2, .int p_12), (0, .ref (a h0)), (1, .int x0)] := hl2
      replace hP := hP2
      replace hD := hD2
      replace hS := hS2
      clear hl2 hP2 hD2 hS2 hl0
      replace hf := fn_X18_root_L27_s hf
      refine lv_iload_n hx hb dX18_root_27 rfl (lv_at hl 0 rfl) ?_
      refine lv_aload_n hx hb dX18_root_28 rfl (lv_at hl 1 rfl) ?_
      refine va_get (D := (dC, dI)) (ci := 18) (v := .int (z_13.1 h0 3)) (C := RX18) (T := TX18) (N := 78) hx hb hts iwd_X18_root_X18 hown hK hP h0 (Wd_ob kg_3 sg_3 (by decide)) rfl 3 (by decide) (hts _ md_X18_root_3) (fun _ h9 => h9) (fl_at (t := 0) rfl) dX18_root_29 ?_
      refine lv_icmp_ge (tgt := 133) hx hb dX18_root_32 (by decide) (fun c_15 => ?_) (fun c_15 => ?_)
      · skip
        rw [if_pos c_15] at hf
        refine lv_iconst (v := 1) hx hb dX18_root_133 (by decide) ?_
        refine lv_istore_n (lv' := [(2, .int 1), (0, .ref (a h0)), (1, .int x0)]) hx hb dX18_root_134 rfl hl (by decide) rfl (fun ls hl2 => ?_)
        replace hl := hl2
        clear hl2
        have hl0 : lv_has ls 4 [(2, .int 1), (0, .ref (a h0)), (1, .int x0)] := lv_sub hl [0, 1, 2] rfl
        refine de_loop (h := 135) (fun (x : St × Int32) ls H locs => lv_has ls 4 [(2, .int x.2), (0, .ref (a h0)), (1, .int x0)] ∧ va_P (dC, dI) vwCl (Wd cy a sh n x.1) H ∧ va_D A (Wd cy a sh n x.1) ∧ va_S A s.heap H locs) (fun f x => fn_X18_root_L135 F sh n h0 x0 f x.1 x.2) (z8, r8) ?_ (fun _ => rfl) F (z_13, 1) ls H locs ⟨hl0, hP, hD, hS⟩ hf
        intro f_18 x ls H locs ih135 hI hf
        obtain ⟨z_17, p_16⟩ := x
        obtain ⟨hl2, hP2, hD2, hS2⟩ := hI
        replace hl : lv_has ls 4 [(2, .int p_16), (0, .ref (a h0)), (1, .int x0)] := hl2
        replace hP := hP2
        replace hD := hD2
        replace hS := hS2
        clear hl2 hP2 hD2 hS2 hl0
        replace hf := fn_X18_root_L135_s hf
        refine lv_iload_n hx hb dX18_root_135 rfl (lv_at hl 0 rfl) ?_
        refine lv_aload_n hx hb dX18_root_136 rfl (lv_at hl 1 rfl) ?_
        refine va_get (D := (dC, dI)) (ci := 18) (v := .int (z_17.1 h0 5)) (C := RX18) (T := TX18) (N := 78) hx hb hts iwd_X18_root_X18 hown hK hP h0 (Wd_ob kg_3 sg_3 (by decide)) rfl 5 (by decide) (hts _ md_X18_root_9) (fun _ h9 => h9) (fl_at (t := 0) rfl) dX18_root_137 ?_
        refine lv_icmp_gt (tgt := 256) hx hb dX18_root_140 (by decide) (fun c_19 => ?_) (fun c_19 => ?_)
        · skip
          rw [if_pos c_19] at hf
          refine lv_iconst (v := 0) hx hb dX18_root_256 (by decide) ?_
          refine lv_istore_n (lv' := [(2, .int 0), (0, .ref (a h0)), (1, .int x0)]) hx hb dX18_root_257 rfl hl (by decide) rfl (fun ls hl2 => ?_)
          replace hl := hl2
          clear hl2
          have hl0 : lv_has ls 4 [(2, .int 0), (0, .ref (a h0)), (1, .int x0)] := lv_sub hl [0, 1, 2] rfl
          refine de_loop (h := 258) (fun (x : St × Int32) ls H locs => lv_has ls 4 [(2, .int x.2), (0, .ref (a h0)), (1, .int x0)] ∧ va_P (dC, dI) vwCl (Wd cy a sh n x.1) H ∧ va_D A (Wd cy a sh n x.1) ∧ va_S A s.heap H locs) (fun f x => fn_X18_root_L258 F sh n h0 x0 f x.1 x.2) (z8, r8) ?_ (fun _ => rfl) F (z_17, 0) ls H locs ⟨hl0, hP, hD, hS⟩ hf
          intro f_22 x ls H locs ih258 hI hf
          obtain ⟨z_21, p_20⟩ := x
          obtain ⟨hl2, hP2, hD2, hS2⟩ := hI
          replace hl : lv_has ls 4 [(2, .int p_20), (0, .ref (a h0)), (1, .int x0)] := hl2
          replace hP := hP2
          replace hD := hD2
          replace hS := hS2
          clear hl2 hP2 hD2 hS2 hl0
          replace hf := fn_X18_root_L258_s hf
          refine lv_iload_n hx hb dX18_root_258 rfl (lv_at hl 0 rfl) ?_
          refine lv_aload_n hx hb dX18_root_259 rfl (lv_at hl 1 rfl) ?_
          refine va_get (D := (dC, dI)) (ci := 18) (v := .int (z_21.1 h0 9)) (C := RX18) (T := TX18) (N := 78) hx hb hts iwd_X18_root_X18 hown hK hP h0 (Wd_ob kg_3 sg_3 (by decide)) rfl 9 (by decide) (hts _ md_X18_root_11) (fun _ h9 => h9) (fl_at (t := 0) rfl) dX18_root_260 ?_
          refine lv_icmp_ge (tgt := 359) hx hb dX18_root_263 (by decide) (fun c_23 => ?_) (fun c_23 => ?_)
          · skip
            rw [if_pos c_23] at hf
            refine lv_aload_n hx hb dX18_root_359 rfl (lv_at hl 1 rfl) ?_
            obtain ⟨k_24, ek_24, hf⟩ := lnk_some hf
            refine va_get (D := (dC, dI)) (ci := 18) (v := .ref (a k_24)) (C := RX18) (T := TX18) (N := 78) hx hb hts iwd_X18_root_X18 hown hK hP h0 (Wd_ob kg_3 sg_3 (by decide)) rfl 19 (by decide) (hts _ md_X18_root_1) (fun _ h9 => h9) (fl_q rfl ek_24) dX18_root_360 ?_
            obtain ⟨g_26, hf⟩ := grd_some hf
            obtain ⟨kg_26, sg_26⟩ := okO_at g_26
            obtain ⟨z_25, _u, hfc, hf⟩ := cal_some hf
            have hFc := de_free hD hS hA
            refine va_callv (va_runV (As := []) (rest := []) ⟨hx, hb, hml, hown, hts⟩ (de_X14_all l dC dI cy a sh n H.size F sk z_21 k_24 hfc) (cwV 0 hts gX18_root_X14_all rfl rfl rfl (by decide +kernel) ⟨Nat.le_of_ble_eq_true rfl, Nat.le_of_ble_eq_true rfl⟩) ⟨fun a U g mk q => by obtain ⟨q0, q1, qP, qK, qD, qN, qS⟩ := q; exact ⟨q0, q1, qP, va_K.moved (u := U) (U := U.calling g mk a) (Vm.Alike.refl U.vm) qK, qD, qN.same rfl, SKs.moved (u := U) (U := U.calling g mk a) (Vm.Alike.refl U.vm) qS⟩, va_recv hK hP (ci := 14) (q0 := k_24) rfl (Wd_ob kg_26 sg_26 (by decide)), fun U hU hW => ⟨rfl, by rw [hU], by rw [hU]; exact hP, va_K.moved hW.alike hK, hD.weaken (fun _ _ _ _ => trivial), hN.warm hW, by rw [hU]; exact ((hSK.kept hS.2.1).narrow hFc).moved hW.alike⟩⟩ rfl rfl hl.1 rfl (lv_room (Nat.le_of_ble_eq_true rfl)) dX18_root_363 ⟨Nat.le_of_ble_eq_true rfl, Nat.le_of_ble_eq_true rfl⟩) hS (fun q _ h => hFc q h) hFc (fun u t H_27 locs ht hvm hw hB hz1 hk1 hS2 => ?_)
            obtain ⟨hP1, -, hD1⟩ := hB
            rw [ht] at hP1
            replace hD := hD1.weaken (fun _ _ _ h => hFc _ h)
            replace hP := hP1
            replace hS := hS2
            clear hP1 hD1 hS2 hFc hfc hz1 hk1 hvm ht
            refine lv_aload_n hx hb dX18_root_366 rfl (lv_at hl 1 rfl) ?_
            obtain ⟨k_28, ek_28, hf⟩ := lnk_some hf
            refine va_get (D := (dC, dI)) (ci := 18) (v := .ref (a k_28)) (C := RX18) (T := TX18) (N := 78) hx hb hts iwd_X18_root_X18 hown hK hP h0 (Wd_ob kg_3 sg_3 (by decide)) rfl 19 (by decide) (hts _ md_X18_root_1) (fun _ h9 => h9) (fl_q rfl ek_28) dX18_root_367 ?_
            refine lv_iload_n hx hb dX18_root_370 rfl (lv_at hl 2 rfl) ?_
            obtain ⟨g_31, hf⟩ := grd_some hf
            obtain ⟨kg_31, sg_31⟩ := okO_at g_31
            obtain ⟨z_29, r_30, hfc, hf⟩ := cal_some hf
            have hFc := de_free hD hS hA
            refine va_calll (va_runV (As := [.int x0]) (rest := []) ⟨hx, hb, hml, hown, hts⟩ (de_X14_get l dC dI cy a sh n H_27.size F z_25 k_28 x0 hfc) (cwV 1 hts gX18_root_X14_get rfl rfl rfl (by decide +kernel) ⟨Nat.le_of_ble_eq_true rfl, Nat.le_of_ble_eq_true rfl⟩) ⟨fun a U g mk q => by obtain ⟨q0, q1, qP, qK, qD, qN⟩ := q; exact ⟨q0, q1, qP, va_K.moved (u := U) (U := U.calling g mk a) (Vm.Alike.refl U.vm) qK, qD, qN.same rfl⟩, va_recv hK hP (ci := 14) (q0 := k_28) rfl (Wd_ob kg_31 sg_31 (by decide)), fun U hU hW => ⟨rfl, by rw [hU], by rw [hU]; exact hP, va_K.moved hW.alike hK, hD.weaken (fun _ _ _ _ => trivial), hN.warm hW⟩⟩ rfl rfl hl.1 rfl (lv_room (Nat.le_of_ble_eq_true rfl)) dX18_root_371 ⟨Nat.le_of_ble_eq_true rfl, Nat.le_of_ble_eq_true rfl⟩) hS (fun q _ h => hFc q h) hFc (fun rr u t H_32 locs ht hvm hw hB hz1 hk1 hS2 => ?_)
            rw [hw]
            clear hw
            obtain ⟨hP1, -, hD1⟩ := hB
            rw [ht] at hP1
            replace hD := hD1.weaken (fun _ _ _ h => hFc _ h)
            replace hP := hP1
            replace hS := hS2
            clear hP1 hD1 hS2 hFc hfc hz1 hk1 hvm ht
            obtain ⟨h8, h9⟩ := ret_some hf
            rw [h8, h9]
            exact W.lret (v := r_30) hx hb hr (fun t ht hW => ⟨⟨r_30, (), rfl, rfl, by rw [ht]; exact hP, va_K.moved hW.alike hK, hD⟩, hS.F ht⟩) hS.2.2 dX18_root_374
          · skip
            rw [if_neg c_23] at hf
            refine lv_aload_n hx hb dX18_root_266 rfl (lv_at hl 1 rfl) ?_
            obtain ⟨k_33, ek_33, hf⟩ := lnk_some hf
            refine va_get (D := (dC, dI)) (ci := 18) (v := .ref (a k_33)) (C := RX18) (T := TX18) (N := 78) hx hb hts iwd_X18_root_X18 hown hK hP h0 (Wd_ob kg_3 sg_3 (by decide)) rfl 18 (by decide) (hts _ md_X18_root_2) (fun _ h9 => h9) (fl_q rfl ek_33) dX18_root_267 ?_
            refine lv_iconst (v := 3) hx hb dX18_root_270 (by decide) ?_
            obtain ⟨g_35, hf⟩ := grd_some hf
            obtain ⟨kg_35, sg_35⟩ := okO_at g_35
            obtain ⟨z_34, _u, hfc, hf⟩ := cal_some hf
            have hFc := de_free hD hS hA
            refine va_callv (va_runV (As := [.int 3]) (rest := []) ⟨hx, hb, hml, hown, hts⟩ (de_X12_add l dC dI cy a sh n H.size F z_21 k_33 3 hfc) (cwV 1 hts gX18_root_X12_add rfl rfl rfl (by decide +kernel) ⟨Nat.le_of_ble_eq_true rfl, Nat.le_of_ble_eq_true rfl⟩) ⟨fun a U g mk q => by obtain ⟨q0, q1, qP, qK, qD, qN⟩ := q; exact ⟨q0, q1, qP, va_K.moved (u := U) (U := U.calling g mk a) (Vm.Alike.refl U.vm) qK, qD, qN.same rfl⟩, va_recv hK hP (ci := 12) (q0 := k_33) rfl (Wd_ob kg_35 sg_35 (by decide)), fun U hU hW => ⟨rfl, by rw [hU], by rw [hU]; exact hP, va_K.moved hW.alike hK, hD.weaken (fun _ _ _ _ => trivial), hN.warm hW⟩⟩ rfl rfl hl.1 rfl (lv_room (Nat.le_of_ble_eq_true rfl)) dX18_root_271 ⟨Nat.le_of_ble_eq_true rfl, Nat.le_of_ble_eq_true rfl⟩) hS (fun q _ h => hFc q h) hFc (fun u t H_36 locs ht hvm hw hB hz1 hk1 hS2 => ?_)
            obtain ⟨hP1, -, hD1⟩ := hB
            rw [ht] at hP1
            replace hD := hD1.weaken (fun _ _ _ h => hFc _ h)
            replace hP := hP1
            replace hS := hS2
            clear hP1 hD1 hS2 hFc hfc hz1 hk1 hvm ht
            refine lv_aload_n hx hb dX18_root_274 rfl (lv_at hl 1 rfl) ?_
            obtain ⟨k_37, ek_37, hf⟩ := lnk_some hf
            refine va_get (D := (dC, dI)) (ci := 18) (v := .ref (a k_37)) (C := RX18) (T := TX18) (N := 78) hx hb hts iwd_X18_root_X18 hown hK hP h0 (Wd_ob kg_3 sg_3 (by decide)) rfl 18 (by decide) (hts _ md_X18_root_2) (fun _ h9 => h9) (fl_q rfl ek_37) dX18_root_275 ?_
            refine lv_aload_n hx hb dX18_root_278 rfl (lv_at hl 1 rfl) ?_
            obtain ⟨k_38, ek_38, hf⟩ := lnk_some hf
            refine va_get (D := (dC, dI)) (ci := 18) (v := .ref (a k_38)) (C := RX18) (T := TX18) (N := 78) hx hb hts iwd_X18_root_X18 hown hK hP h0 (Wd_ob kg_3 sg_3 (by decide)) rfl 7 (by decide) (hts _ md_X18_root_12) (fun _ h9 => h9) (fl_q rfl ek_38) dX18_root_279 ?_
            refine lv_iload_n hx hb dX18_root_282 rfl (lv_at hl 0 rfl) ?_
            obtain ⟨g_39, hf⟩ := grd_some hf
            obtain ⟨kg_39, sg_39, ig_39⟩ := okA_at g_39
            refine va_lald hx hb hK hP k_38 2 (Wd_al kg_39 sg_39) rfl ig_39 dX18_root_283 ?_
            refine lv_bipush (v := 8) hx hb dX18_root_284 (by decide) ?_
            obtain ⟨g_41, hf⟩ := grd_some hf
            obtain ⟨kg_41, sg_41⟩ := okO_at g_41
            obtain ⟨z_40, _u, hfc, hf⟩ := cal_some hf
            have hFc := de_free hD hS hA
            refine va_callv (va_runV (As := [.long (z_34.2.1 k_38 p_20.toNatClampNeg), .int 8]) (rest := []) ⟨hx, hb, hml, hown, hts⟩ (de_X12_addNumber l dC dI cy a sh n H_36.size F z_34 k_37 (z_34.2.1 k_38 p_20.toNatClampNeg) 8 hfc) (cwV 2 hts gX18_root_X12_addNumber rfl rfl rfl (by decide +kernel) ⟨Nat.le_of_ble_eq_true rfl, Nat.le_of_ble_eq_true rfl⟩) ⟨fun a U g mk q => by obtain ⟨q0, q1, qP, qK, qD, qN⟩ := q; exact ⟨q0, q1, qP, va_K.moved (u := U) (U := U.calling g mk a) (Vm.Alike.refl U.vm) qK, qD, qN.same rfl⟩, va_recv hK hP (ci := 12) (q0 := k_37) rfl (Wd_ob kg_41 sg_41 (by decide)), fun U hU hW => ⟨rfl, by rw [hU], by rw [hU]; exact hP, va_K.moved hW.alike hK, hD.weaken (fun _ _ _ _ => trivial), hN.warm hW⟩⟩ rfl rfl hl.1 rfl (lv_room (Nat.le_of_ble_eq_true rfl)) dX18_root_286 ⟨Nat.le_of_ble_eq_true rfl, Nat.le_of_ble_eq_true rfl⟩) hS (fun q _ h => hFc q h) hFc (fun u t H_42 locs ht hvm hw hB hz1 hk1 hS2 => ?_)
            obtain ⟨hP1, -, hD1⟩ := hB
            rw [ht] at hP1
            replace hD := hD1.weaken (fun _ _ _ h => hFc _ h)
            replace hP := hP1
            replace hS := hS2
            clear hP1 hD1 hS2 hFc hfc hz1 hk1 hvm ht
            refine lv_aload_n hx hb dX18_root_289 rfl (lv_at hl 1 rfl) ?_
            obtain ⟨k_43, ek_43, hf⟩ := lnk_some hf
            refine va_get (D := (dC, dI)) (ci := 18) (v := .ref (a k_43)) (C := RX18) (T := TX18) (N := 78) hx hb hts iwd_X18_root_X18 hown hK hP h0 (Wd_ob kg_3 sg_3 (by decide)) rfl 18 (by decide) (hts _ md_X18_root_2) (fun _ h9 => h9) (fl_q rfl ek_43) dX18_root_290 ?_
            refine lv_aload_n hx hb dX18_root_293 rfl (lv_at hl 1 rfl) ?_
            obtain ⟨k_44, ek_44, hf⟩ := lnk_some hf
            refine va_get (D := (dC, dI)) (ci := 18) (v := .ref (a k_44)) (C := RX18) (T := TX18) (N := 78) hx hb hts iwd_X18_root_X18 hown hK hP h0 (Wd_ob kg_3 sg_3 (by decide)) rfl 8 (by decide) (hts _ md_X18_root_13) (fun _ h9 => h9) (fl_q rfl ek_44) dX18_root_294 ?_
            refine lv_iload_n hx hb dX18_root_297 rfl (lv_at hl 0 rfl) ?_
            obtain ⟨g_45, hf⟩ := grd_some hf
            obtain ⟨kg_45, sg_45, ig_45⟩ := okA_at g_45
            refine va_iald hx hb hK hP k_44 1 (Wd_ai kg_45 sg_45) rfl ig_45 dX18_root_298 ?_
            refine lv_i2l (v := ((z_40.1 k_44 p_20.toNatClampNeg) : Int32).toInt64) hx hb dX18_root_299 rfl ?_
            refine lv_iconst (v := 3) hx hb dX18_root_300 (by decide) ?_
            obtain ⟨g_47, hf⟩ := grd_some hf
            obtain ⟨kg_47, sg_47⟩ := okO_at g_47
            obtain ⟨z_46, _u, hfc, hf⟩ := cal_some hf
            have hFc := de_free hD hS hA
            refine va_callv (va_runV (As := [.long (((z_40.1 k_44 p_20.toNatClampNeg) : Int32).toInt64), .int 3]) (rest := []) ⟨hx, hb, hml, hown, hts⟩ (de_X12_addNumber l dC dI cy a sh n H_42.size F z_40 k_43 (((z_40.1 k_44 p_20.toNatClampNeg) : Int32).toInt64) 3 hfc) (cwV 2 hts gX18_root_X12_addNumber rfl rfl rfl (by decide +kernel) ⟨Nat.le_of_ble_eq_true rfl, Nat.le_of_ble_eq_true rfl⟩) ⟨fun a U g mk q => by obtain ⟨q0, q1, qP, qK, qD, qN⟩ := q; exact ⟨q0, q1, qP, va_K.moved (u := U) (U := U.calling g mk a) (Vm.Alike.refl U.vm) qK, qD, qN.same rfl⟩, va_recv hK hP (ci := 12) (q0 := k_43) rfl (Wd_ob kg_47 sg_47 (by decide)), fun U hU hW => ⟨rfl, by rw [hU], by rw [hU]; exact hP, va_K.moved hW.alike hK, hD.weaken (fun _ _ _ _ => trivial), hN.warm hW⟩⟩ rfl rfl hl.1 rfl (lv_room (Nat.le_of_ble_eq_true rfl)) dX18_root_301 ⟨Nat.le_of_ble_eq_true rfl, Nat.le_of_ble_eq_true rfl⟩) hS (fun q _ h => hFc q h) hFc (fun u t H_48 locs ht hvm hw hB hz1 hk1 hS2 => ?_)
            obtain ⟨hP1, -, hD1⟩ := hB
            rw [ht] at hP1
            replace hD := hD1.weaken (fun _ _ _ h => hFc _ h)
            replace hP := hP1
            replace hS := hS2
            clear hP1 hD1 hS2 hFc hfc hz1 hk1 hvm ht
            refine lv_aload_n hx hb dX18_root_304 rfl (lv_at hl 1 rfl) ?_
            refine lv_aload_n hx hb dX18_root_305 rfl (lv_at hl 1 rfl) ?_
            obtain ⟨k_49, ek_49, hf⟩ := lnk_some hf
            refine va_get (D := (dC, dI)) (ci := 18) (v := .ref (a k_49)) (C := RX18) (T := TX18) (N := 78) hx hb hts iwd_X18_root_X18 hown hK hP h0 (Wd_ob kg_3 sg_3 (by decide)) rfl 76 (by decide) (hts _ md_X18_root_5) (fun _ h9 => h9) (fl_q rfl ek_49) dX18_root_306 ?_
            obtain ⟨z_50, _u, hfc, hf⟩ := cal_some hf
            have hFc := de_free hD hS hA
            refine va_callv (va_runV (As := [.ref (a k_49)]) (rest := []) ⟨hx, hb, hml, hown, hts⟩ (de_X18_keepFour l dC dI cy a sh n H_48.size F sk z_46 h0 k_49 hfc) (cwV 1 hts gX18_root_X18_keepFour rfl rfl rfl (by decide +kernel) ⟨Nat.le_of_ble_eq_true rfl, Nat.le_of_ble_eq_true rfl⟩) ⟨fun a U g mk q => by obtain ⟨q0, q1, qP, qK, qD, qN, qS⟩ := q; exact ⟨q0, q1, qP, va_K.moved (u := U) (U := U.calling g mk a) (Vm.Alike.refl U.vm) qK, qD, qN.same rfl, SKs.moved (u := U) (U := U.calling g mk a) (Vm.Alike.refl U.vm) qS⟩, va_recv hK hP (ci := 18) (q0 := h0) rfl (Wd_ob kg_3 sg_3 (by decide)), fun U hU hW => ⟨rfl, by rw [hU], by rw [hU]; exact hP, va_K.moved hW.alike hK, hD.weaken (fun _ _ _ _ => trivial), hN.warm hW, by rw [hU]; exact ((hSK.kept hS.2.1).narrow hFc).moved hW.alike⟩⟩ rfl rfl hl.1 rfl (lv_room (Nat.le_of_ble_eq_true rfl)) dX18_root_309 ⟨Nat.le_of_ble_eq_true rfl, Nat.le_of_ble_eq_true rfl⟩) hS (fun q _ h => hFc q h) hFc (fun u t H_51 locs ht hvm hw hB hz1 hk1 hS2 => ?_)
            obtain ⟨hP1, -, hD1⟩ := hB
            rw [ht] at hP1
            replace hD := hD1.weaken (fun _ _ _ h => hFc _ h)
            replace hP := hP1
            replace hS := hS2
            clear hP1 hD1 hS2 hFc hfc hz1 hk1 hvm ht
            refine lv_aload_n hx hb dX18_root_312 rfl (lv_at hl 1 rfl) ?_
            refine lv_iload_n hx hb dX18_root_313 rfl (lv_at hl 0 rfl) ?_
            obtain ⟨z_52, _u, hfc, hf⟩ := cal_some hf
            have hFc := de_free hD hS hA
            refine va_callv (va_runV (As := [.int p_20]) (rest := []) ⟨hx, hb, hml, hown, hts⟩ (de_X18_addBytes l dC dI cy a sh n H_51.size F z_50 h0 p_20 hfc) (cwV 1 hts gX18_root_X18_addBytes rfl rfl rfl (by decide +kernel) ⟨Nat.le_of_ble_eq_true rfl, Nat.le_of_ble_eq_true rfl⟩) ⟨fun a U g mk q => by obtain ⟨q0, q1, qP, qK, qD, qN⟩ := q; exact ⟨q0, q1, qP, va_K.moved (u := U) (U := U.calling g mk a) (Vm.Alike.refl U.vm) qK, qD, qN.same rfl⟩, va_recv hK hP (ci := 18) (q0 := h0) rfl (Wd_ob kg_3 sg_3 (by decide)), fun U hU hW => ⟨rfl, by rw [hU], by rw [hU]; exact hP, va_K.moved hW.alike hK, hD.weaken (fun _ _ _ _ => trivial), hN.warm hW⟩⟩ rfl rfl hl.1 rfl (lv_room (Nat.le_of_ble_eq_true rfl)) dX18_root_314 ⟨Nat.le_of_ble_eq_true rfl, Nat.le_of_ble_eq_true rfl⟩) hS (fun q _ h => hFc q h) hFc (fun u t H_53 locs ht hvm hw hB hz1 hk1 hS2 => ?_)
            obtain ⟨hP1, -, hD1⟩ := hB
            rw [ht] at hP1
            replace hD := hD1.weaken (fun _ _ _ h => hFc _ h)
            replace hP := hP1
            replace hS := hS2
            clear hP1 hD1 hS2 hFc hfc hz1 hk1 hvm ht
            refine lv_aload_n hx hb dX18_root_317 rfl (lv_at hl 1 rfl) ?_
            refine lv_aload_n hx hb dX18_root_318 rfl (lv_at hl 1 rfl) ?_
            obtain ⟨k_54, ek_54, hf⟩ := lnk_some hf
            refine va_get (D := (dC, dI)) (ci := 18) (v := .ref (a k_54)) (C := RX18) (T := TX18) (N := 78) hx hb hts iwd_X18_root_X18 hown hK hP h0 (Wd_ob kg_3 sg_3 (by decide)) rfl 77 (by decide) (hts _ md_X18_root_8) (fun _ h9 => h9) (fl_q rfl ek_54) dX18_root_319 ?_
            obtain ⟨z_55, _u, hfc, hf⟩ := cal_some hf
            have hFc := de_free hD hS hA
            refine va_callv (va_runV (As := [.ref (a k_54)]) (rest := []) ⟨hx, hb, hml, hown, hts⟩ (de_X18_keepFour l dC dI cy a sh n H_53.size F sk z_52 h0 k_54 hfc) (cwV 1 hts gX18_root_X18_keepFour rfl rfl rfl (by decide +kernel) ⟨Nat.le_of_ble_eq_true rfl, Nat.le_of_ble_eq_true rfl⟩) ⟨fun a U g mk q => by obtain ⟨q0, q1, qP, qK, qD, qN, qS⟩ := q; exact ⟨q0, q1, qP, va_K.moved (u := U) (U := U.calling g mk a) (Vm.Alike.refl U.vm) qK, qD, qN.same rfl, SKs.moved (u := U) (U := U.calling g mk a) (Vm.Alike.refl U.vm) qS⟩, va_recv hK hP (ci := 18) (q0 := h0) rfl (Wd_ob kg_3 sg_3 (by decide)), fun U hU hW => ⟨rfl, by rw [hU], by rw [hU]; exact hP, va_K.moved hW.alike hK, hD.weaken (fun _ _ _ _ => trivial), hN.warm hW, by rw [hU]; exact ((hSK.kept hS.2.1).narrow hFc).moved hW.alike⟩⟩ rfl rfl hl.1 rfl (lv_room (Nat.le_of_ble_eq_true rfl)) dX18_root_322 ⟨Nat.le_of_ble_eq_true rfl, Nat.le_of_ble_eq_true rfl⟩) hS (fun q _ h => hFc q h) hFc (fun u t H_56 locs ht hvm hw hB hz1 hk1 hS2 => ?_)
            obtain ⟨hP1, -, hD1⟩ := hB
            rw [ht] at hP1
            replace hD := hD1.weaken (fun _ _ _ h => hFc _ h)
            replace hP := hP1
            replace hS := hS2
            clear hP1 hD1 hS2 hFc hfc hz1 hk1 hvm ht
            refine lv_aload_n hx hb dX18_root_325 rfl (lv_at hl 1 rfl) ?_
            obtain ⟨k_57, ek_57, hf⟩ := lnk_some hf
            refine va_get (D := (dC, dI)) (ci := 18) (v := .ref (a k_57)) (C := RX18) (T := TX18) (N := 78) hx hb hts iwd_X18_root_X18 hown hK hP h0 (Wd_ob kg_3 sg_3 (by decide)) rfl 19 (by decide) (hts _ md_X18_root_1) (fun _ h9 => h9) (fl_q rfl ek_57) dX18_root_326 ?_
            refine lv_aload_n hx hb dX18_root_329 rfl (lv_at hl 1 rfl) ?_
            obtain ⟨k_58, ek_58, hf⟩ := lnk_some hf
            refine va_get (D := (dC, dI)) (ci := 18) (v := .ref (a k_58)) (C := RX18) (T := TX18) (N := 78) hx hb hts iwd_X18_root_X18 hown hK hP h0 (Wd_ob kg_3 sg_3 (by decide)) rfl 76 (by decide) (hts _ md_X18_root_5) (fun _ h9 => h9) (fl_q rfl ek_58) dX18_root_330 ?_
            refine lv_aload_n hx hb dX18_root_333 rfl (lv_at hl 1 rfl) ?_
            obtain ⟨k_59, ek_59, hf⟩ := lnk_some hf
            refine va_get (D := (dC, dI)) (ci := 18) (v := .ref (a k_59)) (C := RX18) (T := TX18) (N := 78) hx hb hts iwd_X18_root_X18 hown hK hP h0 (Wd_ob kg_3 sg_3 (by decide)) rfl 77 (by decide) (hts _ md_X18_root_8) (fun _ h9 => h9) (fl_q rfl ek_59) dX18_root_334 ?_
            refine lv_iconst (v := 3) hx hb dX18_root_337 (by decide) ?_
            refine lv_aload_n hx hb dX18_root_338 rfl (lv_at hl 1 rfl) ?_
            obtain ⟨k_60, ek_60, hf⟩ := lnk_some hf
            refine va_get (D := (dC, dI)) (ci := 18) (v := .ref (a k_60)) (C := RX18) (T := TX18) (N := 78) hx hb hts iwd_X18_root_X18 hown hK hP h0 (Wd_ob kg_3 sg_3 (by decide)) rfl 7 (by decide) (hts _ md_X18_root_12) (fun _ h9 => h9) (fl_q rfl ek_60) dX18_root_339 ?_
            refine lv_iload_n hx hb dX18_root_342 rfl (lv_at hl 0 rfl) ?_
            obtain ⟨g_61, hf⟩ := grd_some hf
            obtain ⟨kg_61, sg_61, ig_61⟩ := okA_at g_61
            refine va_lald hx hb hK hP k_60 2 (Wd_al kg_61 sg_61) rfl ig_61 dX18_root_343 ?_
            refine lv_aload_n hx hb dX18_root_344 rfl (lv_at hl 1 rfl) ?_
            obtain ⟨k_62, ek_62, hf⟩ := lnk_some hf
            refine va_get (D := (dC, dI)) (ci := 18) (v := .ref (a k_62)) (C := RX18) (T := TX18) (N := 78) hx hb hts iwd_X18_root_X18 hown hK hP h0 (Wd_ob kg_3 sg_3 (by decide)) rfl 8 (by decide) (hts _ md_X18_root_13) (fun _ h9 => h9) (fl_q rfl ek_62) dX18_root_345 ?_
            refine lv_iload_n hx hb dX18_root_348 rfl (lv_at hl 0 rfl) ?_
            obtain ⟨g_63, hf⟩ := grd_some hf
            obtain ⟨kg_63, sg_63, ig_63⟩ := okA_at g_63
            refine va_iald hx hb hK hP k_62 1 (Wd_ai kg_63 sg_63) rfl ig_63 dX18_root_349 ?_
            obtain ⟨g_65, hf⟩ := grd_some hf
            obtain ⟨kg_65, sg_65⟩ := okO_at g_65
            obtain ⟨z_64, _u, hfc, hf⟩ := cal_some hf
            have hFc := de_free hD hS hA
            refine va_callv (va_runV (As := [.ref (a k_58), .ref (a k_59), .int 3, .long (z_55.2.1 k_60 p_20.toNatClampNeg), .int (z_55.1 k_62 p_20.toNatClampNeg)]) (rest := []) ⟨hx, hb, hml, hown, hts⟩ (de_X14_put l dC dI cy a sh n H_56.size F z_55 k_57 k_58 k_59 3 (z_55.2.1 k_60 p_20.toNatClampNeg) (z_55.1 k_62 p_20.toNatClampNeg) hfc) (cwV 5 hts gX18_root_X14_put rfl rfl rfl (by decide +kernel) ⟨Nat.le_of_ble_eq_true rfl, Nat.le_of_ble_eq_true rfl⟩) ⟨fun a U g mk q => by obtain ⟨q0, q1, qP, qK, qD, qN⟩ := q; exact ⟨q0, q1, qP, va_K.moved (u := U) (U := U.calling g mk a) (Vm.Alike.refl U.vm) qK, qD, qN.same rfl⟩, va_recv hK hP (ci := 14) (q0 := k_57) rfl (Wd_ob kg_65 sg_65 (by decide)), fun U hU hW => ⟨rfl, by rw [hU], by rw [hU]; exact hP, va_K.moved hW.alike hK, hD.weaken (fun _ _ _ _ => trivial), hN.warm hW⟩⟩ rfl rfl hl.1 rfl (lv_room (Nat.le_of_ble_eq_true rfl)) dX18_root_350 ⟨Nat.le_of_ble_eq_true rfl, Nat.le_of_ble_eq_true rfl⟩) hS (fun q _ h => hFc q h) hFc (fun u t H_66 locs ht hvm hw hB hz1 hk1 hS2 => ?_)
            obtain ⟨hP1, -, hD1⟩ := hB
            rw [ht] at hP1
            replace hD := hD1.weaken (fun _ _ _ h => hFc _ h)
            replace hP := hP1
            replace hS := hS2
            clear hP1 hD1 hS2 hFc hfc hz1 hk1 hvm ht
            refine lv_iinc (v := (p_20 + 1)) (lv' := [(2, .int (p_20 + 1)), (0, .ref (a h0)), (1, .int x0)]) hx hb dX18_root_353 hl (k := 0) rfl rfl (by decide) rfl (fun ls hl2 => ?_)
            replace hl := hl2
            clear hl2
            refine lv_goto (tgt := 258) hx hb dX18_root_356 (by decide) ?_
            exact ih258 (z_64, (p_20 + 1)) ls H_66 locs ⟨lv_sub hl [0, 1, 2] rfl, hP, hD, hS⟩ hf
        · skip
          rw [if_neg c_19] at hf
          refine lv_aload_n hx hb dX18_root_143 rfl (lv_at hl 1 rfl) ?_
          obtain ⟨k_67, ek_67, hf⟩ := lnk_some hf
          refine va_get (D := (dC, dI)) (ci := 18) (v := .ref (a k_67)) (C := RX18) (T := TX18) (N := 78) hx hb hts iwd_X18_root_X18 hown hK hP h0 (Wd_ob kg_3 sg_3 (by decide)) rfl 18 (by decide) (hts _ md_X18_root_2) (fun _ h9 => h9) (fl_q rfl ek_67) dX18_root_144 ?_
          refine lv_iconst (v := 2) hx hb dX18_root_147 (by decide) ?_
          obtain ⟨g_69, hf⟩ := grd_some hf
          obtain ⟨kg_69, sg_69⟩ := okO_at g_69
          obtain ⟨z_68, _u, hfc, hf⟩ := cal_some hf
          have hFc := de_free hD hS hA
          refine va_callv (va_runV (As := [.int 2]) (rest := []) ⟨hx, hb, hml, hown, hts⟩ (de_X12_add l dC dI cy a sh n H.size F z_17 k_67 2 hfc) (cwV 1 hts gX18_root_X12_add rfl rfl rfl (by decide +kernel) ⟨Nat.le_of_ble_eq_true rfl, Nat.le_of_ble_eq_true rfl⟩) ⟨fun a U g mk q => by obtain ⟨q0, q1, qP, qK, qD, qN⟩ := q; exact ⟨q0, q1, qP, va_K.moved (u := U) (U := U.calling g mk a) (Vm.Alike.refl U.vm) qK, qD, qN.same rfl⟩, va_recv hK hP (ci := 12) (q0 := k_67) rfl (Wd_ob kg_69 sg_69 (by decide)), fun U hU hW => ⟨rfl, by rw [hU], by rw [hU]; exact hP, va_K.moved hW.alike hK, hD.weaken (fun _ _ _ _ => trivial), hN.warm hW⟩⟩ rfl rfl hl.1 rfl (lv_room (Nat.le_of_ble_eq_true rfl)) dX18_root_148 ⟨Nat.le_of_ble_eq_true rfl, Nat.le_of_ble_eq_true rfl⟩) hS (fun q _ h => hFc q h) hFc (fun u t H_70 locs ht hvm hw hB hz1 hk1 hS2 => ?_)
          obtain ⟨hP1, -, hD1⟩ := hB
          rw [ht] at hP1
          replace hD := hD1.weaken (fun _ _ _ h => hFc _ h)
          replace hP := hP1
          replace hS := hS2
          clear hP1 hD1 hS2 hFc hfc hz1 hk1 hvm ht
          refine lv_aload_n hx hb dX18_root_151 rfl (lv_at hl 1 rfl) ?_
          obtain ⟨k_71, ek_71, hf⟩ := lnk_some hf
          refine va_get (D := (dC, dI)) (ci := 18) (v := .ref (a k_71)) (C := RX18) (T := TX18) (N := 78) hx hb hts iwd_X18_root_X18 hown hK hP h0 (Wd_ob kg_3 sg_3 (by decide)) rfl 18 (by decide) (hts _ md_X18_root_2) (fun _ h9 => h9) (fl_q rfl ek_71) dX18_root_152 ?_
          refine lv_aload_n hx hb dX18_root_155 rfl (lv_at hl 1 rfl) ?_
          obtain ⟨k_72, ek_72, hf⟩ := lnk_some hf
          refine va_get (D := (dC, dI)) (ci := 18) (v := .ref (a k_72)) (C := RX18) (T := TX18) (N := 78) hx hb hts iwd_X18_root_X18 hown hK hP h0 (Wd_ob kg_3 sg_3 (by decide)) rfl 4 (by decide) (hts _ md_X18_root_10) (fun _ h9 => h9) (fl_q rfl ek_72) dX18_root_156 ?_
          refine lv_iload_n hx hb dX18_root_159 rfl (lv_at hl 0 rfl) ?_
          obtain ⟨g_73, hf⟩ := grd_some hf
          obtain ⟨kg_73, sg_73, ig_73⟩ := okA_at g_73
          obtain ⟨k_74, ek_74, hf⟩ := lnk_some hf
          refine va_aldq (C := RX16) hx hb hK hP k_72 6 (Wd_aq kg_73 sg_73 (by decide)) rfl ig_73 dX18_root_160 ?_
          refine W.eq (g2 := F0 m 161 ls [.ref (a k_74), .ref (a k_71)]) (by rw [ek_74]; rfl) ?_
          obtain ⟨g_77, hf⟩ := grd_some hf
          obtain ⟨kg_77, sg_77⟩ := okO_at g_77
          obtain ⟨z_75, r_76, hfc, hf⟩ := cal_some hf
          have hFc := de_free hD hS hA
          refine va_calli (va_runV (As := []) (rest := [.ref (a k_71)]) ⟨hx, hb, hml, hown, hts⟩ (de_X16_number l dC dI cy a sh n H_70.size F z_68 k_74 hfc) (cwV 0 hts gX18_root_X16_number rfl rfl rfl (by decide +kernel) ⟨Nat.le_of_ble_eq_true rfl, Nat.le_of_ble_eq_true rfl⟩) ⟨fun a U g mk q => by obtain ⟨q0, q1, qP, qK, qD, qN⟩ := q; exact ⟨q0, q1, qP, va_K.moved (u := U) (U := U.calling g mk a) (Vm.Alike.refl U.vm) qK, qD, qN.same rfl⟩, va_recv hK hP (ci := 16) (q0 := k_74) rfl (Wd_ob kg_77 sg_77 (by decide)), fun U hU hW => ⟨rfl, by rw [hU], by rw [hU]; exact hP, va_K.moved hW.alike hK, hD.weaken (fun _ _ _ _ => trivial), hN.warm hW⟩⟩ rfl rfl hl.1 rfl (lv_room (Nat.le_of_ble_eq_true rfl)) dX18_root_161 ⟨Nat.le_of_ble_eq_true rfl, Nat.le_of_ble_eq_true rfl⟩) hS (fun q _ h => hFc q h) hFc (fun rr u t H_78 locs ht hvm hw hB hz1 hk1 hS2 => ?_)
          rw [hw]
          clear hw
          obtain ⟨hP1, -, hD1⟩ := hB
          rw [ht] at hP1
          replace hD := hD1.weaken (fun _ _ _ h => hFc _ h)
          replace hP := hP1
          replace hS := hS2
          clear hP1 hD1 hS2 hFc hfc hz1 hk1 hvm ht
          refine lv_i2l (v := (r_76 : Int32).toInt64) hx hb dX18_root_164 rfl ?_
          refine lv_iconst (v := 2) hx hb dX18_root_165 (by decide) ?_
          obtain ⟨g_80, hf⟩ := grd_some hf
          obtain ⟨kg_80, sg_80⟩ := okO_at g_80
          obtain ⟨z_79, _u, hfc, hf⟩ := cal_some hf
          have hFc := de_free hD hS hA
          refine va_callv (va_runV (As := [.long ((r_76 : Int32).toInt64), .int 2]) (rest := []) ⟨hx, hb, hml, hown, hts⟩ (de_X12_addNumber l dC dI cy a sh n H_78.size F z_75 k_71 ((r_76 : Int32).toInt64) 2 hfc) (cwV 2 hts gX18_root_X12_addNumber rfl rfl rfl (by decide +kernel) ⟨Nat.le_of_ble_eq_true rfl, Nat.le_of_ble_eq_true rfl⟩) ⟨fun a U g mk q => by obtain ⟨q0, q1, qP, qK, qD, qN⟩ := q; exact ⟨q0, q1, qP, va_K.moved (u := U) (U := U.calling g mk a) (Vm.Alike.refl U.vm) qK, qD, qN.same rfl⟩, va_recv hK hP (ci := 12) (q0 := k_71) rfl (Wd_ob kg_80 sg_80 (by decide)), fun U hU hW => ⟨rfl, by rw [hU], by rw [hU]; exact hP, va_K.moved hW.alike hK, hD.weaken (fun _ _ _ _ => trivial), hN.warm hW⟩⟩ rfl rfl hl.1 rfl (lv_room (Nat.le_of_ble_eq_true rfl)) dX18_root_166 ⟨Nat.le_of_ble_eq_true rfl, Nat.le_of_ble_eq_true rfl⟩) hS (fun q _ h => hFc q h) hFc (fun u t H_81 locs ht hvm hw hB hz1 hk1 hS2 => ?_)
          obtain ⟨hP1, -, hD1⟩ := hB
          rw [ht] at hP1
          replace hD := hD1.weaken (fun _ _ _ h => hFc _ h)
          replace hP := hP1
          replace hS := hS2
          clear hP1 hD1 hS2 hFc hfc hz1 hk1 hvm ht
          refine lv_aload_n hx hb dX18_root_169 rfl (lv_at hl 1 rfl) ?_
          refine lv_aload_n hx hb dX18_root_170 rfl (lv_at hl 1 rfl) ?_
          obtain ⟨k_82, ek_82, hf⟩ := lnk_some hf
          refine va_get (D := (dC, dI)) (ci := 18) (v := .ref (a k_82)) (C := RX18) (T := TX18) (N := 78) hx hb hts iwd_X18_root_X18 hown hK hP h0 (Wd_ob kg_3 sg_3 (by decide)) rfl 76 (by decide) (hts _ md_X18_root_5) (fun _ h9 => h9) (fl_q rfl ek_82) dX18_root_171 ?_
          obtain ⟨z_83, _u, hfc, hf⟩ := cal_some hf
          have hFc := de_free hD hS hA
          refine va_callv (va_runV (As := [.ref (a k_82)]) (rest := []) ⟨hx, hb, hml, hown, hts⟩ (de_X18_keepFour l dC dI cy a sh n H_81.size F sk z_79 h0 k_82 hfc) (cwV 1 hts gX18_root_X18_keepFour rfl rfl rfl (by decide +kernel) ⟨Nat.le_of_ble_eq_true rfl, Nat.le_of_ble_eq_true rfl⟩) ⟨fun a U g mk q => by obtain ⟨q0, q1, qP, qK, qD, qN, qS⟩ := q; exact ⟨q0, q1, qP, va_K.moved (u := U) (U := U.calling g mk a) (Vm.Alike.refl U.vm) qK, qD, qN.same rfl, SKs.moved (u := U) (U := U.calling g mk a) (Vm.Alike.refl U.vm) qS⟩, va_recv hK hP (ci := 18) (q0 := h0) rfl (Wd_ob kg_3 sg_3 (by decide)), fun U hU hW => ⟨rfl, by rw [hU], by rw [hU]; exact hP, va_K.moved hW.alike hK, hD.weaken (fun _ _ _ _ => trivial), hN.warm hW, by rw [hU]; exact ((hSK.kept hS.2.1).narrow hFc).moved hW.alike⟩⟩ rfl rfl hl.1 rfl (lv_room (Nat.le_of_ble_eq_true rfl)) dX18_root_174 ⟨Nat.le_of_ble_eq_true rfl, Nat.le_of_ble_eq_true rfl⟩) hS (fun q _ h => hFc q h) hFc (fun u t H_84 locs ht hvm hw hB hz1 hk1 hS2 => ?_)
          obtain ⟨hP1, -, hD1⟩ := hB
          rw [ht] at hP1
          replace hD := hD1.weaken (fun _ _ _ h => hFc _ h)
          replace hP := hP1
          replace hS := hS2
          clear hP1 hD1 hS2 hFc hfc hz1 hk1 hvm ht
          refine lv_iconst (v := 0) hx hb dX18_root_177 (by decide) ?_
          refine lv_istore_n (lv' := [(3, .int 0), (2, .int p_16), (0, .ref (a h0)), (1, .int x0)]) hx hb dX18_root_178 rfl hl (by decide) rfl (fun ls hl2 => ?_)
          replace hl := hl2
          clear hl2
          have hl0 : lv_has ls 4 [(3, .int 0), (2, .int p_16), (0, .ref (a h0)), (1, .int x0)] := lv_sub hl [0, 1, 2, 3] rfl
          refine de_loop (h := 179) (fun (x : St × Int32) ls H locs => lv_has ls 4 [(3, .int x.2), (2, .int p_16), (0, .ref (a h0)), (1, .int x0)] ∧ va_P (dC, dI) vwCl (Wd cy a sh n x.1) H ∧ va_D A (Wd cy a sh n x.1) ∧ va_S A s.heap H locs) (fun f x => fn_X18_root_L179 F sh n h0 p_16 (fun z9 q2 => fn_X18_root_L135 F sh n h0 x0 f_18 z9 q2) f x.1 x.2) (z8, r8) ?_ (fun _ => rfl) F (z_83, 0) ls H_84 locs ⟨hl0, hP, hD, hS⟩ hf
          intro f_87 x ls H locs ih179 hI hf
          obtain ⟨z_86, p_85⟩ := x
          obtain ⟨hl2, hP2, hD2, hS2⟩ := hI
          replace hl : lv_has ls 4 [(3, .int p_85), (2, .int p_16), (0, .ref (a h0)), (1, .int x0)] := hl2
          replace hP := hP2
          replace hD := hD2
          replace hS := hS2
          clear hl2 hP2 hD2 hS2 hl0
          replace hf := fn_X18_root_L179_s hf
          refine lv_iload_n hx hb dX18_root_179 rfl (lv_at hl 0 rfl) ?_
          refine lv_aload_n hx hb dX18_root_180 rfl (lv_at hl 2 rfl) ?_
          obtain ⟨k_88, ek_88, hf⟩ := lnk_some hf
          refine va_get (D := (dC, dI)) (ci := 18) (v := .ref (a k_88)) (C := RX18) (T := TX18) (N := 78) hx hb hts iwd_X18_root_X18 hown hK hP h0 (Wd_ob kg_3 sg_3 (by decide)) rfl 4 (by decide) (hts _ md_X18_root_10) (fun _ h9 => h9) (fl_q rfl ek_88) dX18_root_181 ?_
          refine lv_iload_n hx hb dX18_root_184 rfl (lv_at hl 1 rfl) ?_
          obtain ⟨g_89, hf⟩ := grd_some hf
          obtain ⟨kg_89, sg_89, ig_89⟩ := okA_at g_89
          obtain ⟨k_90, ek_90, hf⟩ := lnk_some hf
          refine va_aldq (C := RX16) hx hb hK hP k_88 6 (Wd_aq kg_89 sg_89 (by decide)) rfl ig_89 dX18_root_185 ?_
          refine W.eq (g2 := F0 m 186 ls [.ref (a k_90), .int p_85]) (by rw [ek_90]; rfl) ?_
          obtain ⟨g_91, hf⟩ := grd_some hf
          obtain ⟨kg_91, sg_91⟩ := okO_at g_91
          refine va_getN (D := (dC, dI)) (ci := 16) (v := .int (z_86.1 k_90 1)) (C := RX16) (T := TX16) (N := 18) hx hb hts iwd_X18_root_X16 hown hK hP k_90 (Wd_ob kg_91 sg_91 (by decide)) rfl 1 (by decide) (va_Nw.use rfl (NK_f_X18_706 hN)) (fun _ h9 => h9) (fl_at (t := 0) rfl) dX18_root_186 ?_
          refine lv_icmp_ge (tgt := 216) hx hb dX18_root_189 (by decide) (fun c_92 => ?_) (fun c_92 => ?_)
          · skip
            rw [if_pos c_92] at hf
            refine lv_aload_n hx hb dX18_root_216 rfl (lv_at hl 2 rfl) ?_
            refine lv_aload_n hx hb dX18_root_217 rfl (lv_at hl 2 rfl) ?_
            obtain ⟨k_93, ek_93, hf⟩ := lnk_some hf
            refine va_get (D := (dC, dI)) (ci := 18) (v := .ref (a k_93)) (C := RX18) (T := TX18) (N := 78) hx hb hts iwd_X18_root_X18 hown hK hP h0 (Wd_ob kg_3 sg_3 (by decide)) rfl 77 (by decide) (hts _ md_X18_root_8) (fun _ h9 => h9) (fl_q rfl ek_93) dX18_root_218 ?_
            obtain ⟨z_94, _u, hfc, hf⟩ := cal_some hf
            have hFc := de_free hD hS hA
            refine va_callv (va_runV (As := [.ref (a k_93)]) (rest := []) ⟨hx, hb, hml, hown, hts⟩ (de_X18_keepFour l dC dI cy a sh n H.size F sk z_86 h0 k_93 hfc) (cwV 1 hts gX18_root_X18_keepFour rfl rfl rfl (by decide +kernel) ⟨Nat.le_of_ble_eq_true rfl, Nat.le_of_ble_eq_true rfl⟩) ⟨fun a U g mk q => by obtain ⟨q0, q1, qP, qK, qD, qN, qS⟩ := q; exact ⟨q0, q1, qP, va_K.moved (u := U) (U := U.calling g mk a) (Vm.Alike.refl U.vm) qK, qD, qN.same rfl, SKs.moved (u := U) (U := U.calling g mk a) (Vm.Alike.refl U.vm) qS⟩, va_recv hK hP (ci := 18) (q0 := h0) rfl (Wd_ob kg_3 sg_3 (by decide)), fun U hU hW => ⟨rfl, by rw [hU], by rw [hU]; exact hP, va_K.moved hW.alike hK, hD.weaken (fun _ _ _ _ => trivial), hN.warm hW, by rw [hU]; exact ((hSK.kept hS.2.1).narrow hFc).moved hW.alike⟩⟩ rfl rfl hl.1 rfl (lv_room (Nat.le_of_ble_eq_true rfl)) dX18_root_221 ⟨Nat.le_of_ble_eq_true rfl, Nat.le_of_ble_eq_true rfl⟩) hS (fun q _ h => hFc q h) hFc (fun u t H_95 locs ht hvm hw hB hz1 hk1 hS2 => ?_)
            obtain ⟨hP1, -, hD1⟩ := hB
            rw [ht] at hP1
            replace hD := hD1.weaken (fun _ _ _ h => hFc _ h)
            replace hP := hP1
            replace hS := hS2
            clear hP1 hD1 hS2 hFc hfc hz1 hk1 hvm ht
            refine lv_aload_n hx hb dX18_root_224 rfl (lv_at hl 2 rfl) ?_
            obtain ⟨k_96, ek_96, hf⟩ := lnk_some hf
            refine va_get (D := (dC, dI)) (ci := 18) (v := .ref (a k_96)) (C := RX18) (T := TX18) (N := 78) hx hb hts iwd_X18_root_X18 hown hK hP h0 (Wd_ob kg_3 sg_3 (by decide)) rfl 19 (by decide) (hts _ md_X18_root_1) (fun _ h9 => h9) (fl_q rfl ek_96) dX18_root_225 ?_
            refine lv_aload_n hx hb dX18_root_228 rfl (lv_at hl 2 rfl) ?_
            obtain ⟨k_97, ek_97, hf⟩ := lnk_some hf
            refine va_get (D := (dC, dI)) (ci := 18) (v := .ref (a k_97)) (C := RX18) (T := TX18) (N := 78) hx hb hts iwd_X18_root_X18 hown hK hP h0 (Wd_ob kg_3 sg_3 (by decide)) rfl 76 (by decide) (hts _ md_X18_root_5) (fun _ h9 => h9) (fl_q rfl ek_97) dX18_root_229 ?_
            refine lv_aload_n hx hb dX18_root_232 rfl (lv_at hl 2 rfl) ?_
            obtain ⟨k_98, ek_98, hf⟩ := lnk_some hf
            refine va_get (D := (dC, dI)) (ci := 18) (v := .ref (a k_98)) (C := RX18) (T := TX18) (N := 78) hx hb hts iwd_X18_root_X18 hown hK hP h0 (Wd_ob kg_3 sg_3 (by decide)) rfl 77 (by decide) (hts _ md_X18_root_8) (fun _ h9 => h9) (fl_q rfl ek_98) dX18_root_233 ?_
            refine lv_iconst (v := 2) hx hb dX18_root_236 (by decide) ?_
            refine lv_lconst (v := 0) hx hb dX18_root_237 (by decide) ?_
            refine lv_aload_n hx hb dX18_root_238 rfl (lv_at hl 2 rfl) ?_
            obtain ⟨k_99, ek_99, hf⟩ := lnk_some hf
            refine va_get (D := (dC, dI)) (ci := 18) (v := .ref (a k_99)) (C := RX18) (T := TX18) (N := 78) hx hb hts iwd_X18_root_X18 hown hK hP h0 (Wd_ob kg_3 sg_3 (by decide)) rfl 4 (by decide) (hts _ md_X18_root_10) (fun _ h9 => h9) (fl_q rfl ek_99) dX18_root_239 ?_
            refine lv_iload_n hx hb dX18_root_242 rfl (lv_at hl 1 rfl) ?_
            obtain ⟨g_100, hf⟩ := grd_some hf
            obtain ⟨kg_100, sg_100, ig_100⟩ := okA_at g_100
            obtain ⟨k_101, ek_101, hf⟩ := lnk_some hf
            refine va_aldq (C := RX16) hx hb hK hP k_99 6 (Wd_aq kg_100 sg_100 (by decide)) rfl ig_100 dX18_root_243 ?_
            refine W.eq (g2 := F0 m 244 ls [.ref (a k_101), .long 0, .int 2, .ref (a k_98), .ref (a k_97), .ref (a k_96)]) (by rw [ek_101]; rfl) ?_
            obtain ⟨g_104, hf⟩ := grd_some hf
            obtain ⟨kg_104, sg_104⟩ := okO_at g_104
            obtain ⟨z_102, r_103, hfc, hf⟩ := cal_some hf
            have hFc := de_free hD hS hA
            refine va_calli (va_runV (As := []) (rest := [.long 0, .int 2, .ref (a k_98), .ref (a k_97), .ref (a k_96)]) ⟨hx, hb, hml, hown, hts⟩ (de_X16_number l dC dI cy a sh n H_95.size F z_94 k_101 hfc) (cwV 0 hts gX18_root_X16_number rfl rfl rfl (by decide +kernel) ⟨Nat.le_of_ble_eq_true rfl, Nat.le_of_ble_eq_true rfl⟩) ⟨fun a U g mk q => by obtain ⟨q0, q1, qP, qK, qD, qN⟩ := q; exact ⟨q0, q1, qP, va_K.moved (u := U) (U := U.calling g mk a) (Vm.Alike.refl U.vm) qK, qD, qN.same rfl⟩, va_recv hK hP (ci := 16) (q0 := k_101) rfl (Wd_ob kg_104 sg_104 (by decide)), fun U hU hW => ⟨rfl, by rw [hU], by rw [hU]; exact hP, va_K.moved hW.alike hK, hD.weaken (fun _ _ _ _ => trivial), hN.warm hW⟩⟩ rfl rfl hl.1 rfl (lv_room (Nat.le_of_ble_eq_true rfl)) dX18_root_244 ⟨Nat.le_of_ble_eq_true rfl, Nat.le_of_ble_eq_true rfl⟩) hS (fun q _ h => hFc q h) hFc (fun rr u t H_105 locs ht hvm hw hB hz1 hk1 hS2 => ?_)
            rw [hw]
            clear hw
            obtain ⟨hP1, -, hD1⟩ := hB
            rw [ht] at hP1
            replace hD := hD1.weaken (fun _ _ _ h => hFc _ h)
            replace hP := hP1
            replace hS := hS2
            clear hP1 hD1 hS2 hFc hfc hz1 hk1 hvm ht
            obtain ⟨g_107, hf⟩ := grd_some hf
            obtain ⟨kg_107, sg_107⟩ := okO_at g_107
            obtain ⟨z_106, _u, hfc, hf⟩ := cal_some hf
            have hFc := de_free hD hS hA
            refine va_callv (va_runV (As := [.ref (a k_97), .ref (a k_98), .int 2, .long 0, .int r_103]) (rest := []) ⟨hx, hb, hml, hown, hts⟩ (de_X14_put l dC dI cy a sh n H_105.size F z_102 k_96 k_97 k_98 2 0 r_103 hfc) (cwV 5 hts gX18_root_X14_put rfl rfl rfl (by decide +kernel) ⟨Nat.le_of_ble_eq_true rfl, Nat.le_of_ble_eq_true rfl⟩) ⟨fun a U g mk q => by obtain ⟨q0, q1, qP, qK, qD, qN⟩ := q; exact ⟨q0, q1, qP, va_K.moved (u := U) (U := U.calling g mk a) (Vm.Alike.refl U.vm) qK, qD, qN.same rfl⟩, va_recv hK hP (ci := 14) (q0 := k_96) rfl (Wd_ob kg_107 sg_107 (by decide)), fun U hU hW => ⟨rfl, by rw [hU], by rw [hU]; exact hP, va_K.moved hW.alike hK, hD.weaken (fun _ _ _ _ => trivial), hN.warm hW⟩⟩ rfl rfl hl.1 rfl (lv_room (Nat.le_of_ble_eq_true rfl)) dX18_root_247 ⟨Nat.le_of_ble_eq_true rfl, Nat.le_of_ble_eq_true rfl⟩) hS (fun q _ h => hFc q h) hFc (fun u t H_108 locs ht hvm hw hB hz1 hk1 hS2 => ?_)
            obtain ⟨hP1, -, hD1⟩ := hB
            rw [ht] at hP1
            replace hD := hD1.weaken (fun _ _ _ h => hFc _ h)
            replace hP := hP1
            replace hS := hS2
            clear hP1 hD1 hS2 hFc hfc hz1 hk1 hvm ht
            refine lv_iinc (v := (p_16 + 1)) (lv' := [(2, .int (p_16 + 1)), (3, .int p_85), (0, .ref (a h0)), (1, .int x0)]) hx hb dX18_root_250 hl (k := 1) rfl rfl (by decide) rfl (fun ls hl2 => ?_)
            replace hl := hl2
            clear hl2
            refine lv_goto (tgt := 135) hx hb dX18_root_253 (by decide) ?_
            exact ih135 (z_106, (p_16 + 1)) ls H_108 locs ⟨lv_sub hl [0, 2, 3] rfl, hP, hD, hS⟩ hf
          · skip
            rw [if_neg c_92] at hf
            refine lv_aload_n hx hb dX18_root_192 rfl (lv_at hl 2 rfl) ?_
            obtain ⟨k_109, ek_109, hf⟩ := lnk_some hf
            refine va_get (D := (dC, dI)) (ci := 18) (v := .ref (a k_109)) (C := RX18) (T := TX18) (N := 78) hx hb hts iwd_X18_root_X18 hown hK hP h0 (Wd_ob kg_3 sg_3 (by decide)) rfl 18 (by decide) (hts _ md_X18_root_2) (fun _ h9 => h9) (fl_q rfl ek_109) dX18_root_193 ?_
            refine lv_aload_n hx hb dX18_root_196 rfl (lv_at hl 2 rfl) ?_
            obtain ⟨k_110, ek_110, hf⟩ := lnk_some hf
            refine va_get (D := (dC, dI)) (ci := 18) (v := .ref (a k_110)) (C := RX18) (T := TX18) (N := 78) hx hb hts iwd_X18_root_X18 hown hK hP h0 (Wd_ob kg_3 sg_3 (by decide)) rfl 4 (by decide) (hts _ md_X18_root_10) (fun _ h9 => h9) (fl_q rfl ek_110) dX18_root_197 ?_
            refine lv_iload_n hx hb dX18_root_200 rfl (lv_at hl 1 rfl) ?_
            obtain ⟨g_111, hf⟩ := grd_some hf
            obtain ⟨kg_111, sg_111, ig_111⟩ := okA_at g_111
            obtain ⟨k_112, ek_112, hf⟩ := lnk_some hf
            refine va_aldq (C := RX16) hx hb hK hP k_110 6 (Wd_aq kg_111 sg_111 (by decide)) rfl ig_111 dX18_root_201 ?_
            refine W.eq (g2 := F0 m 202 ls [.ref (a k_112), .ref (a k_109)]) (by rw [ek_112]; rfl) ?_
            obtain ⟨g_113, hf⟩ := grd_some hf
            obtain ⟨kg_113, sg_113⟩ := okO_at g_113
            obtain ⟨k_114, ek_114, hf⟩ := lnk_some hf
            refine va_getN (D := (dC, dI)) (ci := 16) (v := .ref (a k_114)) (C := RX16) (T := TX16) (N := 18) hx hb hts iwd_X18_root_X16 hown hK hP k_112 (Wd_ob kg_113 sg_113 (by decide)) rfl 0 (by decide) (va_Nw.use rfl (NK_f_X18_709 hN)) (fun _ h9 => h9) (fl_q rfl ek_114) dX18_root_202 ?_
            refine lv_iload_n hx hb dX18_root_205 rfl (lv_at hl 0 rfl) ?_
            obtain ⟨g_115, hf⟩ := grd_some hf
            obtain ⟨kg_115, sg_115, ig_115⟩ := okA_at g_115
            refine va_bald hx hb hK hP k_114 0 (Wd_ab kg_115 sg_115) rfl ig_115 dX18_root_206 ?_
            obtain ⟨g_117, hf⟩ := grd_some hf
            obtain ⟨kg_117, sg_117⟩ := okO_at g_117
            obtain ⟨z_116, _u, hfc, hf⟩ := cal_some hf
            have hFc := de_free hD hS hA
            refine va_callv (va_runV (As := [.int (z_86.1 k_114 p_85.toNatClampNeg)]) (rest := []) ⟨hx, hb, hml, hown, hts⟩ (de_X12_add l dC dI cy a sh n H.size F z_86 k_109 (z_86.1 k_114 p_85.toNatClampNeg) hfc) (cwV 1 hts gX18_root_X12_add rfl rfl rfl (by decide +kernel) ⟨Nat.le_of_ble_eq_true rfl, Nat.le_of_ble_eq_true rfl⟩) ⟨fun a U g mk q => by obtain ⟨q0, q1, qP, qK, qD, qN⟩ := q; exact ⟨q0, q1, qP, va_K.moved (u := U) (U := U.calling g mk a) (Vm.Alike.refl U.vm) qK, qD, qN.same rfl⟩, va_recv hK hP (ci := 12) (q0 := k_109) rfl (Wd_ob kg_117 sg_117 (by decide)), fun U hU hW => ⟨rfl, by rw [hU], by rw [hU]; exact hP, va_K.moved hW.alike hK, hD.weaken (fun _ _ _ _ => trivial), hN.warm hW⟩⟩ rfl rfl hl.1 rfl (lv_room (Nat.le_of_ble_eq_true rfl)) dX18_root_207 ⟨Nat.le_of_ble_eq_true rfl, Nat.le_of_ble_eq_true rfl⟩) hS (fun q _ h => hFc q h) hFc (fun u t H_118 locs ht hvm hw hB hz1 hk1 hS2 => ?_)
            obtain ⟨hP1, -, hD1⟩ := hB
            rw [ht] at hP1
            replace hD := hD1.weaken (fun _ _ _ h => hFc _ h)
            replace hP := hP1
            replace hS := hS2
            clear hP1 hD1 hS2 hFc hfc hz1 hk1 hvm ht
            refine lv_iinc (v := (p_85 + 1)) (lv' := [(3, .int (p_85 + 1)), (2, .int p_16), (0, .ref (a h0)), (1, .int x0)]) hx hb dX18_root_210 hl (k := 0) rfl rfl (by decide) rfl (fun ls hl2 => ?_)
            replace hl := hl2
            clear hl2
            refine lv_goto (tgt := 179) hx hb dX18_root_213 (by decide) ?_
            exact ih179 (z_116, (p_85 + 1)) ls H_118 locs ⟨lv_sub hl [0, 1, 2, 3] rfl, hP, hD, hS⟩ hf
      · skip
        rw [if_neg c_15] at hf
        refine lv_aload_n hx hb dX18_root_35 rfl (lv_at hl 1 rfl) ?_
        obtain ⟨k_119, ek_119, hf⟩ := lnk_some hf
        refine va_get (D := (dC, dI)) (ci := 18) (v := .ref (a k_119)) (C := RX18) (T := TX18) (N := 78) hx hb hts iwd_X18_root_X18 hown hK hP h0 (Wd_ob kg_3 sg_3 (by decide)) rfl 18 (by decide) (hts _ md_X18_root_2) (fun _ h9 => h9) (fl_q rfl ek_119) dX18_root_36 ?_
        refine lv_iconst (v := 1) hx hb dX18_root_39 (by decide) ?_
        obtain ⟨g_121, hf⟩ := grd_some hf
        obtain ⟨kg_121, sg_121⟩ := okO_at g_121
        obtain ⟨z_120, _u, hfc, hf⟩ := cal_some hf
        have hFc := de_free hD hS hA
        refine va_callv (va_runV (As := [.int 1]) (rest := []) ⟨hx, hb, hml, hown, hts⟩ (de_X12_add l dC dI cy a sh n H.size F z_13 k_119 1 hfc) (cwV 1 hts gX18_root_X12_add rfl rfl rfl (by decide +kernel) ⟨Nat.le_of_ble_eq_true rfl, Nat.le_of_ble_eq_true rfl⟩) ⟨fun a U g mk q => by obtain ⟨q0, q1, qP, qK, qD, qN⟩ := q; exact ⟨q0, q1, qP, va_K.moved (u := U) (U := U.calling g mk a) (Vm.Alike.refl U.vm) qK, qD, qN.same rfl⟩, va_recv hK hP (ci := 12) (q0 := k_119) rfl (Wd_ob kg_121 sg_121 (by decide)), fun U hU hW => ⟨rfl, by rw [hU], by rw [hU]; exact hP, va_K.moved hW.alike hK, hD.weaken (fun _ _ _ _ => trivial), hN.warm hW⟩⟩ rfl rfl hl.1 rfl (lv_room (Nat.le_of_ble_eq_true rfl)) dX18_root_40 ⟨Nat.le_of_ble_eq_true rfl, Nat.le_of_ble_eq_true rfl⟩) hS (fun q _ h => hFc q h) hFc (fun u t H_122 locs ht hvm hw hB hz1 hk1 hS2 => ?_)
        obtain ⟨hP1, -, hD1⟩ := hB
        rw [ht] at hP1
        replace hD := hD1.weaken (fun _ _ _ h => hFc _ h)
        replace hP := hP1
        replace hS := hS2
        clear hP1 hD1 hS2 hFc hfc hz1 hk1 hvm ht
        refine lv_aload_n hx hb dX18_root_43 rfl (lv_at hl 1 rfl) ?_
        obtain ⟨k_123, ek_123, hf⟩ := lnk_some hf
        refine va_get (D := (dC, dI)) (ci := 18) (v := .ref (a k_123)) (C := RX18) (T := TX18) (N := 78) hx hb hts iwd_X18_root_X18 hown hK hP h0 (Wd_ob kg_3 sg_3 (by decide)) rfl 18 (by decide) (hts _ md_X18_root_2) (fun _ h9 => h9) (fl_q rfl ek_123) dX18_root_44 ?_
        refine lv_aload_n hx hb dX18_root_47 rfl (lv_at hl 1 rfl) ?_
        obtain ⟨k_124, ek_124, hf⟩ := lnk_some hf
        refine va_get (D := (dC, dI)) (ci := 18) (v := .ref (a k_124)) (C := RX18) (T := TX18) (N := 78) hx hb hts iwd_X18_root_X18 hown hK hP h0 (Wd_ob kg_3 sg_3 (by decide)) rfl 0 (by decide) (hts _ md_X18_root_4) (fun _ h9 => h9) (fl_q rfl ek_124) dX18_root_48 ?_
        refine lv_iload_n hx hb dX18_root_51 rfl (lv_at hl 0 rfl) ?_
        obtain ⟨g_125, hf⟩ := grd_some hf
        obtain ⟨kg_125, sg_125, ig_125⟩ := okA_at g_125
        refine va_lald hx hb hK hP k_124 2 (Wd_al kg_125 sg_125) rfl ig_125 dX18_root_52 ?_
        refine lv_bipush (v := 8) hx hb dX18_root_53 (by decide) ?_
        obtain ⟨g_127, hf⟩ := grd_some hf
        obtain ⟨kg_127, sg_127⟩ := okO_at g_127
        obtain ⟨z_126, _u, hfc, hf⟩ := cal_some hf
        have hFc := de_free hD hS hA
        refine va_callv (va_runV (As := [.long (z_120.2.1 k_124 p_12.toNatClampNeg), .int 8]) (rest := []) ⟨hx, hb, hml, hown, hts⟩ (de_X12_addNumber l dC dI cy a sh n H_122.size F z_120 k_123 (z_120.2.1 k_124 p_12.toNatClampNeg) 8 hfc) (cwV 2 hts gX18_root_X12_addNumber rfl rfl rfl (by decide +kernel) ⟨Nat.le_of_ble_eq_true rfl, Nat.le_of_ble_eq_true rfl⟩) ⟨fun a U g mk q => by obtain ⟨q0, q1, qP, qK, qD, qN⟩ := q; exact ⟨q0, q1, qP, va_K.moved (u := U) (U := U.calling g mk a) (Vm.Alike.refl U.vm) qK, qD, qN.same rfl⟩, va_recv hK hP (ci := 12) (q0 := k_123) rfl (Wd_ob kg_127 sg_127 (by decide)), fun U hU hW => ⟨rfl, by rw [hU], by rw [hU]; exact hP, va_K.moved hW.alike hK, hD.weaken (fun _ _ _ _ => trivial), hN.warm hW⟩⟩ rfl rfl hl.1 rfl (lv_room (Nat.le_of_ble_eq_true rfl)) dX18_root_55 ⟨Nat.le_of_ble_eq_true rfl, Nat.le_of_ble_eq_true rfl⟩) hS (fun q _ h => hFc q h) hFc (fun u t H_128 locs ht hvm hw hB hz1 hk1 hS2 => ?_)
        obtain ⟨hP1, -, hD1⟩ := hB
        rw [ht] at hP1
        replace hD := hD1.weaken (fun _ _ _ h => hFc _ h)
        replace hP := hP1
        replace hS := hS2
        clear hP1 hD1 hS2 hFc hfc hz1 hk1 hvm ht
        refine lv_aload_n hx hb dX18_root_58 rfl (lv_at hl 1 rfl) ?_
        refine lv_aload_n hx hb dX18_root_59 rfl (lv_at hl 1 rfl) ?_
        obtain ⟨k_129, ek_129, hf⟩ := lnk_some hf
        refine va_get (D := (dC, dI)) (ci := 18) (v := .ref (a k_129)) (C := RX18) (T := TX18) (N := 78) hx hb hts iwd_X18_root_X18 hown hK hP h0 (Wd_ob kg_3 sg_3 (by decide)) rfl 76 (by decide) (hts _ md_X18_root_5) (fun _ h9 => h9) (fl_q rfl ek_129) dX18_root_60 ?_
        obtain ⟨z_130, _u, hfc, hf⟩ := cal_some hf
        have hFc := de_free hD hS hA
        refine va_callv (va_runV (As := [.ref (a k_129)]) (rest := []) ⟨hx, hb, hml, hown, hts⟩ (de_X18_keepFour l dC dI cy a sh n H_128.size F sk z_126 h0 k_129 hfc) (cwV 1 hts gX18_root_X18_keepFour rfl rfl rfl (by decide +kernel) ⟨Nat.le_of_ble_eq_true rfl, Nat.le_of_ble_eq_true rfl⟩) ⟨fun a U g mk q => by obtain ⟨q0, q1, qP, qK, qD, qN, qS⟩ := q; exact ⟨q0, q1, qP, va_K.moved (u := U) (U := U.calling g mk a) (Vm.Alike.refl U.vm) qK, qD, qN.same rfl, SKs.moved (u := U) (U := U.calling g mk a) (Vm.Alike.refl U.vm) qS⟩, va_recv hK hP (ci := 18) (q0 := h0) rfl (Wd_ob kg_3 sg_3 (by decide)), fun U hU hW => ⟨rfl, by rw [hU], by rw [hU]; exact hP, va_K.moved hW.alike hK, hD.weaken (fun _ _ _ _ => trivial), hN.warm hW, by rw [hU]; exact ((hSK.kept hS.2.1).narrow hFc).moved hW.alike⟩⟩ rfl rfl hl.1 rfl (lv_room (Nat.le_of_ble_eq_true rfl)) dX18_root_63 ⟨Nat.le_of_ble_eq_true rfl, Nat.le_of_ble_eq_true rfl⟩) hS (fun q _ h => hFc q h) hFc (fun u t H_131 locs ht hvm hw hB hz1 hk1 hS2 => ?_)
        obtain ⟨hP1, -, hD1⟩ := hB
        rw [ht] at hP1
        replace hD := hD1.weaken (fun _ _ _ h => hFc _ h)
        replace hP := hP1
        replace hS := hS2
        clear hP1 hD1 hS2 hFc hfc hz1 hk1 hvm ht
        refine lv_aload_n hx hb dX18_root_66 rfl (lv_at hl 1 rfl) ?_
        obtain ⟨k_132, ek_132, hf⟩ := lnk_some hf
        refine va_get (D := (dC, dI)) (ci := 18) (v := .ref (a k_132)) (C := RX18) (T := TX18) (N := 78) hx hb hts iwd_X18_root_X18 hown hK hP h0 (Wd_ob kg_3 sg_3 (by decide)) rfl 18 (by decide) (hts _ md_X18_root_2) (fun _ h9 => h9) (fl_q rfl ek_132) dX18_root_67 ?_
        refine lv_aload_n hx hb dX18_root_70 rfl (lv_at hl 1 rfl) ?_
        obtain ⟨k_133, ek_133, hf⟩ := lnk_some hf
        refine va_get (D := (dC, dI)) (ci := 18) (v := .ref (a k_133)) (C := RX18) (T := TX18) (N := 78) hx hb hts iwd_X18_root_X18 hown hK hP h0 (Wd_ob kg_3 sg_3 (by decide)) rfl 1 (by decide) (hts _ md_X18_root_6) (fun _ h9 => h9) (fl_q rfl ek_133) dX18_root_71 ?_
        refine lv_iload_n hx hb dX18_root_74 rfl (lv_at hl 0 rfl) ?_
        obtain ⟨g_134, hf⟩ := grd_some hf
        obtain ⟨kg_134, sg_134, ig_134⟩ := okA_at g_134
        refine va_lald hx hb hK hP k_133 2 (Wd_al kg_134 sg_134) rfl ig_134 dX18_root_75 ?_
        refine lv_bipush (v := 8) hx hb dX18_root_76 (by decide) ?_
        obtain ⟨g_136, hf⟩ := grd_some hf
        obtain ⟨kg_136, sg_136⟩ := okO_at g_136
        obtain ⟨z_135, _u, hfc, hf⟩ := cal_some hf
        have hFc := de_free hD hS hA
        refine va_callv (va_runV (As := [.long (z_130.2.1 k_133 p_12.toNatClampNeg), .int 8]) (rest := []) ⟨hx, hb, hml, hown, hts⟩ (de_X12_addNumber l dC dI cy a sh n H_131.size F z_130 k_132 (z_130.2.1 k_133 p_12.toNatClampNeg) 8 hfc) (cwV 2 hts gX18_root_X12_addNumber rfl rfl rfl (by decide +kernel) ⟨Nat.le_of_ble_eq_true rfl, Nat.le_of_ble_eq_true rfl⟩) ⟨fun a U g mk q => by obtain ⟨q0, q1, qP, qK, qD, qN⟩ := q; exact ⟨q0, q1, qP, va_K.moved (u := U) (U := U.calling g mk a) (Vm.Alike.refl U.vm) qK, qD, qN.same rfl⟩, va_recv hK hP (ci := 12) (q0 := k_132) rfl (Wd_ob kg_136 sg_136 (by decide)), fun U hU hW => ⟨rfl, by rw [hU], by rw [hU]; exact hP, va_K.moved hW.alike hK, hD.weaken (fun _ _ _ _ => trivial), hN.warm hW⟩⟩ rfl rfl hl.1 rfl (lv_room (Nat.le_of_ble_eq_true rfl)) dX18_root_78 ⟨Nat.le_of_ble_eq_true rfl, Nat.le_of_ble_eq_true rfl⟩) hS (fun q _ h => hFc q h) hFc (fun u t H_137 locs ht hvm hw hB hz1 hk1 hS2 => ?_)
        obtain ⟨hP1, -, hD1⟩ := hB
        rw [ht] at hP1
        replace hD := hD1.weaken (fun _ _ _ h => hFc _ h)
        replace hP := hP1
        replace hS := hS2
        clear hP1 hD1 hS2 hFc hfc hz1 hk1 hvm ht
        refine lv_aload_n hx hb dX18_root_81 rfl (lv_at hl 1 rfl) ?_
        obtain ⟨k_138, ek_138, hf⟩ := lnk_some hf
        refine va_get (D := (dC, dI)) (ci := 18) (v := .ref (a k_138)) (C := RX18) (T := TX18) (N := 78) hx hb hts iwd_X18_root_X18 hown hK hP h0 (Wd_ob kg_3 sg_3 (by decide)) rfl 18 (by decide) (hts _ md_X18_root_2) (fun _ h9 => h9) (fl_q rfl ek_138) dX18_root_82 ?_
        refine lv_aload_n hx hb dX18_root_85 rfl (lv_at hl 1 rfl) ?_
        obtain ⟨k_139, ek_139, hf⟩ := lnk_some hf
        refine va_get (D := (dC, dI)) (ci := 18) (v := .ref (a k_139)) (C := RX18) (T := TX18) (N := 78) hx hb hts iwd_X18_root_X18 hown hK hP h0 (Wd_ob kg_3 sg_3 (by decide)) rfl 2 (by decide) (hts _ md_X18_root_7) (fun _ h9 => h9) (fl_q rfl ek_139) dX18_root_86 ?_
        refine lv_iload_n hx hb dX18_root_89 rfl (lv_at hl 0 rfl) ?_
        obtain ⟨g_140, hf⟩ := grd_some hf
        obtain ⟨kg_140, sg_140, ig_140⟩ := okA_at g_140
        refine va_lald hx hb hK hP k_139 2 (Wd_al kg_140 sg_140) rfl ig_140 dX18_root_90 ?_
        refine lv_bipush (v := 8) hx hb dX18_root_91 (by decide) ?_
        obtain ⟨g_142, hf⟩ := grd_some hf
        obtain ⟨kg_142, sg_142⟩ := okO_at g_142
        obtain ⟨z_141, _u, hfc, hf⟩ := cal_some hf
        have hFc := de_free hD hS hA
        refine va_callv (va_runV (As := [.long (z_135.2.1 k_139 p_12.toNatClampNeg), .int 8]) (rest := []) ⟨hx, hb, hml, hown, hts⟩ (de_X12_addNumber l dC dI cy a sh n H_137.size F z_135 k_138 (z_135.2.1 k_139 p_12.toNatClampNeg) 8 hfc) (cwV 2 hts gX18_root_X12_addNumber rfl rfl rfl (by decide +kernel) ⟨Nat.le_of_ble_eq_true rfl, Nat.le_of_ble_eq_true rfl⟩) ⟨fun a U g mk q => by obtain ⟨q0, q1, qP, qK, qD, qN⟩ := q; exact ⟨q0, q1, qP, va_K.moved (u := U) (U := U.calling g mk a) (Vm.Alike.refl U.vm) qK, qD, qN.same rfl⟩, va_recv hK hP (ci := 12) (q0 := k_138) rfl (Wd_ob kg_142 sg_142 (by decide)), fun U hU hW => ⟨rfl, by rw [hU], by rw [hU]; exact hP, va_K.moved hW.alike hK, hD.weaken (fun _ _ _ _ => trivial), hN.warm hW⟩⟩ rfl rfl hl.1 rfl (lv_room (Nat.le_of_ble_eq_true rfl)) dX18_root_93 ⟨Nat.le_of_ble_eq_true rfl, Nat.le_of_ble_eq_true rfl⟩) hS (fun q _ h => hFc q h) hFc (fun u t H_143 locs ht hvm hw hB hz1 hk1 hS2 => ?_)
        obtain ⟨hP1, -, hD1⟩ := hB
        rw [ht] at hP1
        replace hD := hD1.weaken (fun _ _ _ h => hFc _ h)
        replace hP := hP1
        replace hS := hS2
        clear hP1 hD1 hS2 hFc hfc hz1 hk1 hvm ht
        refine lv_aload_n hx hb dX18_root_96 rfl (lv_at hl 1 rfl) ?_
        refine lv_aload_n hx hb dX18_root_97 rfl (lv_at hl 1 rfl) ?_
        obtain ⟨k_144, ek_144, hf⟩ := lnk_some hf
        refine va_get (D := (dC, dI)) (ci := 18) (v := .ref (a k_144)) (C := RX18) (T := TX18) (N := 78) hx hb hts iwd_X18_root_X18 hown hK hP h0 (Wd_ob kg_3 sg_3 (by decide)) rfl 77 (by decide) (hts _ md_X18_root_8) (fun _ h9 => h9) (fl_q rfl ek_144) dX18_root_98 ?_
        obtain ⟨z_145, _u, hfc, hf⟩ := cal_some hf
        have hFc := de_free hD hS hA
        refine va_callv (va_runV (As := [.ref (a k_144)]) (rest := []) ⟨hx, hb, hml, hown, hts⟩ (de_X18_keepFour l dC dI cy a sh n H_143.size F sk z_141 h0 k_144 hfc) (cwV 1 hts gX18_root_X18_keepFour rfl rfl rfl (by decide +kernel) ⟨Nat.le_of_ble_eq_true rfl, Nat.le_of_ble_eq_true rfl⟩) ⟨fun a U g mk q => by obtain ⟨q0, q1, qP, qK, qD, qN, qS⟩ := q; exact ⟨q0, q1, qP, va_K.moved (u := U) (U := U.calling g mk a) (Vm.Alike.refl U.vm) qK, qD, qN.same rfl, SKs.moved (u := U) (U := U.calling g mk a) (Vm.Alike.refl U.vm) qS⟩, va_recv hK hP (ci := 18) (q0 := h0) rfl (Wd_ob kg_3 sg_3 (by decide)), fun U hU hW => ⟨rfl, by rw [hU], by rw [hU]; exact hP, va_K.moved hW.alike hK, hD.weaken (fun _ _ _ _ => trivial), hN.warm hW, by rw [hU]; exact ((hSK.kept hS.2.1).narrow hFc).moved hW.alike⟩⟩ rfl rfl hl.1 rfl (lv_room (Nat.le_of_ble_eq_true rfl)) dX18_root_101 ⟨Nat.le_of_ble_eq_true rfl, Nat.le_of_ble_eq_true rfl⟩) hS (fun q _ h => hFc q h) hFc (fun u t H_146 locs ht hvm hw hB hz1 hk1 hS2 => ?_)
        obtain ⟨hP1, -, hD1⟩ := hB
        rw [ht] at hP1
        replace hD := hD1.weaken (fun _ _ _ h => hFc _ h)
        replace hP := hP1
        replace hS := hS2
        clear hP1 hD1 hS2 hFc hfc hz1 hk1 hvm ht
        refine lv_aload_n hx hb dX18_root_104 rfl (lv_at hl 1 rfl) ?_
        obtain ⟨k_147, ek_147, hf⟩ := lnk_some hf
        refine va_get (D := (dC, dI)) (ci := 18) (v := .ref (a k_147)) (C := RX18) (T := TX18) (N := 78) hx hb hts iwd_X18_root_X18 hown hK hP h0 (Wd_ob kg_3 sg_3 (by decide)) rfl 19 (by decide) (hts _ md_X18_root_1) (fun _ h9 => h9) (fl_q rfl ek_147) dX18_root_105 ?_
        refine lv_aload_n hx hb dX18_root_108 rfl (lv_at hl 1 rfl) ?_
        obtain ⟨k_148, ek_148, hf⟩ := lnk_some hf
        refine va_get (D := (dC, dI)) (ci := 18) (v := .ref (a k_148)) (C := RX18) (T := TX18) (N := 78) hx hb hts iwd_X18_root_X18 hown hK hP h0 (Wd_ob kg_3 sg_3 (by decide)) rfl 76 (by decide) (hts _ md_X18_root_5) (fun _ h9 => h9) (fl_q rfl ek_148) dX18_root_109 ?_
        refine lv_aload_n hx hb dX18_root_112 rfl (lv_at hl 1 rfl) ?_
        obtain ⟨k_149, ek_149, hf⟩ := lnk_some hf
        refine va_get (D := (dC, dI)) (ci := 18) (v := .ref (a k_149)) (C := RX18) (T := TX18) (N := 78) hx hb hts iwd_X18_root_X18 hown hK hP h0 (Wd_ob kg_3 sg_3 (by decide)) rfl 77 (by decide) (hts _ md_X18_root_8) (fun _ h9 => h9) (fl_q rfl ek_149) dX18_root_113 ?_
        refine lv_iconst (v := 1) hx hb dX18_root_116 (by decide) ?_
        refine lv_aload_n hx hb dX18_root_117 rfl (lv_at hl 1 rfl) ?_
        obtain ⟨k_150, ek_150, hf⟩ := lnk_some hf
        refine va_get (D := (dC, dI)) (ci := 18) (v := .ref (a k_150)) (C := RX18) (T := TX18) (N := 78) hx hb hts iwd_X18_root_X18 hown hK hP h0 (Wd_ob kg_3 sg_3 (by decide)) rfl 0 (by decide) (hts _ md_X18_root_4) (fun _ h9 => h9) (fl_q rfl ek_150) dX18_root_118 ?_
        refine lv_iload_n hx hb dX18_root_121 rfl (lv_at hl 0 rfl) ?_
        obtain ⟨g_151, hf⟩ := grd_some hf
        obtain ⟨kg_151, sg_151, ig_151⟩ := okA_at g_151
        refine va_lald hx hb hK hP k_150 2 (Wd_al kg_151 sg_151) rfl ig_151 dX18_root_122 ?_
        refine lv_iconst (v := 0) hx hb dX18_root_123 (by decide) ?_
        obtain ⟨g_153, hf⟩ := grd_some hf
        obtain ⟨kg_153, sg_153⟩ := okO_at g_153
        obtain ⟨z_152, _u, hfc, hf⟩ := cal_some hf
        have hFc := de_free hD hS hA
        refine va_callv (va_runV (As := [.ref (a k_148), .ref (a k_149), .int 1, .long (z_145.2.1 k_150 p_12.toNatClampNeg), .int 0]) (rest := []) ⟨hx, hb, hml, hown, hts⟩ (de_X14_put l dC dI cy a sh n H_146.size F z_145 k_147 k_148 k_149 1 (z_145.2.1 k_150 p_12.toNatClampNeg) 0 hfc) (cwV 5 hts gX18_root_X14_put rfl rfl rfl (by decide +kernel) ⟨Nat.le_of_ble_eq_true rfl, Nat.le_of_ble_eq_true rfl⟩) ⟨fun a U g mk q => by obtain ⟨q0, q1, qP, qK, qD, qN⟩ := q; exact ⟨q0, q1, qP, va_K.moved (u := U) (U := U.calling g mk a) (Vm.Alike.refl U.vm) qK, qD, qN.same rfl⟩, va_recv hK hP (ci := 14) (q0 := k_147) rfl (Wd_ob kg_153 sg_153 (by decide)), fun U hU hW => ⟨rfl, by rw [hU], by rw [hU]; exact hP, va_K.moved hW.alike hK, hD.weaken (fun _ _ _ _ => trivial), hN.warm hW⟩⟩ rfl rfl hl.1 rfl (lv_room (Nat.le_of_ble_eq_true rfl)) dX18_root_124 ⟨Nat.le_of_ble_eq_true rfl, Nat.le_of_ble_eq_true rfl⟩) hS (fun q _ h => hFc q h) hFc (fun u t H_154 locs ht hvm hw hB hz1 hk1 hS2 => ?_)
        obtain ⟨hP1, -, hD1⟩ := hB
        rw [ht] at hP1
        replace hD := hD1.weaken (fun _ _ _ h => hFc _ h)
        replace hP := hP1
        replace hS := hS2
        clear hP1 hD1 hS2 hFc hfc hz1 hk1 hvm ht
        refine lv_iinc (v := (p_12 + 1)) (lv' := [(2, .int (p_12 + 1)), (0, .ref (a h0)), (1, .int x0)]) hx hb dX18_root_127 hl (k := 0) rfl rfl (by decide) rfl (fun ls hl2 => ?_)
        replace hl := hl2
        clear hl2
        refine lv_goto (tgt := 27) hx hb dX18_root_130 (by decide) ?_
        exact ih27 (z_152, (p_12 + 1)) ls H_154 locs ⟨lv_sub hl [0, 1, 2] rfl, hP, hD, hS⟩ hf
    · skip
      rw [if_neg c_2] at hf
      refine lv_lconst (v := 0) hx hb dX18_root_9 (by decide) ?_
      obtain ⟨h8, h9⟩ := ret_some hf
      rw [h8, h9]
      exact W.lret (v := 0) hx hb hr (fun t ht hW => ⟨⟨0, (), rfl, rfl, by rw [ht]; exact hP, va_K.moved hW.alike hK, hD⟩, hS.F ht⟩) hS.2.2 dX18_root_10

