/-- as va_runS, where more lies below on the stack -/
theorem va_runS16 {p : Program} {l : Launch} {e : Env} {R : Room} {s : State} {m : MethodId} {args : Array Value} {below : List Frame} {meth : Method} {c : Code} {H : Heap} {locs : List Loc} {cells slots : Nat} {y : MethodName} {bytes cc : ByteArray} {maxL nL mc ms n index : Nat} {ret : Option FieldType} {ws : List Cond} {rm : Room} {Pc : Array Value → State → Prop} {Qc : Array Value → State → Outcome → State → Prop} {free : Addr → Prop} {Ts : List Cond} {own : String} {As rest : List Value} {g : JFrame} (S : CallFix p m c cc nL s args Ts own) (hM : Met l y ws rm Pc Qc mc ms free) (cw : CallB R s args own index y bytes maxL ret ws rm mc ms n ∧ (Cond.static y).before args s = true) (h16 : 16 + (maxL + 11) + rm.locals ≤ R.locals) (hp : PreS s H Pc As)
    (hg : g.method = m) (hn : As.length = n) (hsize : g.locals.size = nL) (hstack : g.stack = As.reverse ++ rest) (hW : 2 * g.monitorRoom + (rest.map fun v => v.category).sum ≤ 16) (hdg : decode cc g.pc = .ok (.invokestatic index, 3)) (hf : cells + mc ≤ R.cells ∧ slots + ms ≤ R.slots) :
    va_Run p l e R s m args below meth c H locs cells slots mc ms g rest (Qc As.toArray) (free) := by
  have hK : Back l R p e below s args y 3 16 (PreOf R mc ms Pc) (PostOf Qc mc ms free) := by
    obtain ⟨hrc, hrs, hfr, -, hws, hcw, -, hini, -⟩ := cw.1
    exact back_of (bytes := bytes) (maxL := maxL) (ret := ret) hM hp.1 hrc hrs hfr h16 hws hcw (fun a' U hW => word_at hW (Or.inl (by first | rfl | simp [Cond.onTables, Cond.keeps, Cond.steady])) hini)
  obtain ⟨⟨-, -, -, -, -, -, hcode, hini, hy, hlen, hl⟩, hstt⟩ := cw
  obtain ⟨hx, hb, hml, ho, -⟩ := S
  intro T hT X
  obtain ⟨v, vm₁, ⟨U', l2, c2, s2⟩, hW₁, X', ⟨g', mk, t, L, e1, e2, hq, h1, hL, h2, h3⟩, st⟩ := callS X hx (bytes := bytes) (maxL := maxL) (ret := ret) ho hl hstt hini hcode hy hK hg (hsize.trans hml.symm) (argsL := As) (rest := rest) (fun sig h => hn.trans (hlen sig h)) hstack hW (by rw [hb]; exact hdg)
    (fun vm₁ hW₁ => ⟨hf.1, hf.2, hp.2 (T.setVm vm₁) hT hW₁⟩)
  dsimp only [Pt.U, Pt.locs, Pt.cells, Pt.slots] at X' e1 e2 h1 h2 h3 st
  subst h1; subst h2; subst h3
  exact ⟨v, (T.setVm vm₁).calling g' mk As.toArray, t, U', L, hT, X', hL, e1, e2, hq, st⟩
theorem lv_room16 {m : MethodId} {pc : Nat} {ls : Array Slot} {rest : List Value} {st : List Value} (h : (st.map fun v => v.category).sum ≤ 16) : 2 * (F0 m pc ls rest).monitorRoom + (st.map fun v => v.category).sum ≤ 16 := by
  show 2 * 0 + _ ≤ 16
  omega
theorem md_X4_reckon_3 : (.fieldLink RX4 21 "ResourceLedger$Machine" "wide" "LResourceLedger$Wide;" : Cond) ∈ wsX4_reckon := List.mem_of_getElem? (i := 3) rfl
theorem iwd_X4_reckon_X4 : ∀ w ∈ wsX40, w ∈ wsX4_reckon := fun _ h => List.mem_cons_of_mem _ (List.mem_append_left _ (List.mem_append_left _ (List.mem_append_left _ (List.mem_append_right _ h))))
theorem md_X4_reckon_1 : (.fieldLink RX4 12 "ResourceLedger$Machine" "heap" "LResourceLedger$Heap;" : Cond) ∈ wsX4_reckon := List.mem_of_getElem? (i := 1) rfl
theorem md_X4_reckon_4 : (.fieldLink RX4 160 "ResourceLedger$Heap" "high" "[J" : Cond) ∈ wsX4_reckon := List.mem_of_getElem? (i := 4) rfl
theorem iwd_X4_reckon_X1 : ∀ w ∈ wsX10, w ∈ wsX4_reckon := fun _ h => List.mem_cons_of_mem _ (List.mem_append_left _ (List.mem_append_left _ (List.mem_append_right _ h)))
theorem md_X4_reckon_2 : (.fieldLink RX4 163 "ResourceLedger$Heap" "low" "[J" : Cond) ∈ wsX4_reckon := List.mem_of_getElem? (i := 2) rfl
theorem md_X4_reckon_5 : (.fieldLink RX4 157 "ResourceLedger$Heap" "kind" "[B" : Cond) ∈ wsX4_reckon := List.mem_of_getElem? (i := 5) rfl
set_option maxHeartbeats 4000000 in
set_option maxRecDepth 100000 in
theorem de_X4_reckon (l : Launch) (dC : Nat → ClassId) (dI : Nat → Nat → Nat) (cy : Nat → ClassId) (a : Nat → Nat) (sh : Nat → Nat × Nat) (n sz : Nat) (F : Nat) (z : St) (h0 : Nat) (x0 : Int32) {z8 : St} {r8 : Unit} (hf : fn_X4_reckon F sh n z h0 x0 = some (z8, r8)) : Met l yX4_reckon wsX4_reckon ({ frames := 52, cells := 0, slots := 0, locals := 1390 }) (va_Pc [.ref (a h0), .int x0] (fun U => U.heap.size = sz ∧ va_P (dC, dI) vwCl (Wd cy a sh n z) U.heap ∧ va_K (dC, dI) vwCl (TYS cy) U ∧ va_D (fun _ => True) (Wd cy a sh n z) ∧ NK U)) (va_Qv (fun u : Unit => True) (fun u t => va_P (dC, dI) vwCl (Wd cy a sh n z8) t.heap ∧ va_K (dC, dI) vwCl (TYS cy) t ∧ va_D (va_A (Wd cy a sh n z) sz) (Wd cy a sh n z8)) (va_A (Wd cy a sh n z) sz)) 0 0 (va_A (Wd cy a sh n z) sz) := by
  refine Met.ofW (cc := cX4_reckon) (maxL := 4) (ret := none) (by decide) rfl ?_
  intro p e s m args below meth c s₁ B hml hv
  obtain ⟨rfl, hsz, hP, hK, hD0, hN⟩ := hv
  have hx := B.exec
  have hb := B.bytes
  have hr := B.returns
  have hts := atoms_spec (ws := wsX4_reckon) B.pre
  have hown : s.vm.findClass RX4 = some m.cls := findClass_of_methodNamed B.named
  have hlocks := B.notSynchronized
  subst hsz
  have hD := hD0.self (sz := s.heap.size)
  clear hD0
  generalize hAe : va_A (Wd cy a sh n z) s.heap.size = A at hD ⊢
  have hA : ∀ q : Nat, s.heap.size ≤ q → A q := fun q h => by rw [← hAe]; exact Or.inr h
  clear hAe
  have hS : va_S A s.heap s.heap [] := va_S.rf
  have hl := lv_entry ([.ref (a h0), .int x0]) (n := 4) (Nat.le_of_ble_eq_true rfl)
  rw [lg_entry_eq]
  generalize (lg_sl ([.ref (a h0), .int x0]) ++ List.replicate (4 - (lg_sl ([.ref (a h0), .int x0])).length) Slot.unset).toArray = ls at hl ⊢
  replace hl : lv_has ls 4 [(0, .ref (a h0)), (1, .int x0)] := hl
  unfold fn_X4_reckon at hf
  refine de_start hS hP (fun H locs hS hP => ?_)
  refine lv_iload_n hx hb dX4_reckon_0 rfl (lv_at hl 1 rfl) ?_
  refine lv_bipush (v := 34) hx hb dX4_reckon_1 (by decide) ?_
  refine lv_icmp_ne (tgt := 28) hx hb dX4_reckon_3 (by decide) (fun c_1 => ?_) (fun c_1 => ?_)
  · skip
    rw [if_neg c_1] at hf
    refine lv_iload_n hx hb dX4_reckon_28 rfl (lv_at hl 1 rfl) ?_
    refine lv_bipush (v := 32) hx hb dX4_reckon_29 (by decide) ?_
    refine de_cut (h := 52) (fun (x : St × Int32) => [.int x.2]) (fun x ls H locs => lv_has ls 4 [(0, .ref (a h0)), (1, .int x0)] ∧ va_P (dC, dI) vwCl (Wd cy a sh n x.1) H ∧ va_D A (Wd cy a sh n x.1) ∧ va_S A s.heap H locs) (fun x => fn_X4_reckon_B52 F sh n x0 h0 x.1 x.2) (z8, r8) ?_ (fun B52 => ?_)
    · intro x ls H locs hI hf
      obtain ⟨z_3, p_2⟩ := x
      obtain ⟨hl2, hP2, hD2, hS2⟩ := hI
      replace hl : lv_has ls 4 [(0, .ref (a h0)), (1, .int x0)] := hl2
      replace hP := hP2
      replace hD := hD2
      replace hS := hS2
      clear hl2 hP2 hD2 hS2
      replace hf := fn_X4_reckon_B52_s hf
      refine W.eq (g2 := F0 m 52 ls [.int p_2]) rfl ?_
      refine lv_istore_n (lv' := [(2, .int p_2), (0, .ref (a h0)), (1, .int x0)]) hx hb dX4_reckon_52 rfl hl (by decide) rfl (fun ls hl2 => ?_)
      replace hl := hl2
      clear hl2
      refine lv_iload_n hx hb dX4_reckon_53 rfl (lv_at hl 2 rfl) ?_
      refine lv_bipush (v := 42) hx hb dX4_reckon_54 (by decide) ?_
      refine lv_icmp_lt (tgt := 93) hx hb dX4_reckon_56 (by decide) (fun c_4 => ?_) (fun c_4 => ?_)
      · skip
        rw [if_pos c_4] at hf
        refine lv_iload_n hx hb dX4_reckon_93 rfl (lv_at hl 2 rfl) ?_
        refine lv_bipush (v := 32) hx hb dX4_reckon_94 (by decide) ?_
        refine de_cut (h := 125) (fun (x : St × Int32) => [.int x.2]) (fun x ls H locs => lv_has ls 4 [(2, .int p_2), (0, .ref (a h0)), (1, .int x0)] ∧ va_P (dC, dI) vwCl (Wd cy a sh n x.1) H ∧ va_D A (Wd cy a sh n x.1) ∧ va_S A s.heap H locs) (fun x => fn_X4_reckon_B125 F sh n h0 x0 p_2 x.1 x.2) (z8, r8) ?_ (fun B125 => ?_)
        · intro x ls H locs hI hf
          obtain ⟨z_6, p_5⟩ := x
          obtain ⟨hl2, hP2, hD2, hS2⟩ := hI
          replace hl : lv_has ls 4 [(2, .int p_2), (0, .ref (a h0)), (1, .int x0)] := hl2
          replace hP := hP2
          replace hD := hD2
          replace hS := hS2
          clear hl2 hP2 hD2 hS2
          replace hf := fn_X4_reckon_B125_s hf
          refine W.eq (g2 := F0 m 125 ls [.int p_5]) rfl ?_
          refine lv_istore_n (lv' := [(3, .int p_5), (2, .int p_2), (0, .ref (a h0)), (1, .int x0)]) hx hb dX4_reckon_125 rfl hl (by decide) rfl (fun ls hl2 => ?_)
          replace hl := hl2
          clear hl2
          refine lv_aload_n hx hb dX4_reckon_126 rfl (lv_at hl 2 rfl) ?_
          obtain ⟨g_7, hf⟩ := grd_some hf
          obtain ⟨kg_7, sg_7⟩ := okO_at g_7
          obtain ⟨k_8, ek_8, hf⟩ := lnk_some hf
          refine va_get (D := (dC, dI)) (ci := 4) (v := .ref (a k_8)) (C := RX4) (T := TX4) (N := 18) hx hb hts iwd_X4_reckon_X4 hown hK hP h0 (Wd_ob kg_7 sg_7 (by decide)) rfl 3 (by decide) (hts _ md_X4_reckon_3) (fun _ h9 => h9) (fl_q rfl ek_8) dX4_reckon_127 ?_
          refine lv_aload_n hx hb dX4_reckon_130 rfl (lv_at hl 2 rfl) ?_
          obtain ⟨k_9, ek_9, hf⟩ := lnk_some hf
          refine va_get (D := (dC, dI)) (ci := 4) (v := .ref (a k_9)) (C := RX4) (T := TX4) (N := 18) hx hb hts iwd_X4_reckon_X4 hown hK hP h0 (Wd_ob kg_7 sg_7 (by decide)) rfl 1 (by decide) (hts _ md_X4_reckon_1) (fun _ h9 => h9) (fl_q rfl ek_9) dX4_reckon_131 ?_
          obtain ⟨g_10, hf⟩ := grd_some hf
          obtain ⟨kg_10, sg_10⟩ := okO_at g_10
          obtain ⟨k_11, ek_11, hf⟩ := lnk_some hf
          refine va_get (D := (dC, dI)) (ci := 1) (v := .ref (a k_11)) (C := RX1) (T := TX1) (N := 7) hx hb hts iwd_X4_reckon_X1 hown hK hP k_9 (Wd_ob kg_10 sg_10 (by decide)) rfl 2 (by decide) (hts _ md_X4_reckon_4) (fun _ h9 => h9) (fl_q rfl ek_11) dX4_reckon_134 ?_
          refine lv_iload_n hx hb dX4_reckon_137 rfl (lv_at hl 0 rfl) ?_
          obtain ⟨g_12, hf⟩ := grd_some hf
          obtain ⟨kg_12, sg_12, ig_12⟩ := okA_at g_12
          refine va_lald hx hb hK hP k_11 2 (Wd_al kg_12 sg_12) rfl ig_12 dX4_reckon_138 ?_
          refine lv_aload_n hx hb dX4_reckon_139 rfl (lv_at hl 2 rfl) ?_
          obtain ⟨k_13, ek_13, hf⟩ := lnk_some hf
          refine va_get (D := (dC, dI)) (ci := 4) (v := .ref (a k_13)) (C := RX4) (T := TX4) (N := 18) hx hb hts iwd_X4_reckon_X4 hown hK hP h0 (Wd_ob kg_7 sg_7 (by decide)) rfl 1 (by decide) (hts _ md_X4_reckon_1) (fun _ h9 => h9) (fl_q rfl ek_13) dX4_reckon_140 ?_
          obtain ⟨g_14, hf⟩ := grd_some hf
          obtain ⟨kg_14, sg_14⟩ := okO_at g_14
          obtain ⟨k_15, ek_15, hf⟩ := lnk_some hf
          refine va_get (D := (dC, dI)) (ci := 1) (v := .ref (a k_15)) (C := RX1) (T := TX1) (N := 7) hx hb hts iwd_X4_reckon_X1 hown hK hP k_13 (Wd_ob kg_14 sg_14 (by decide)) rfl 1 (by decide) (hts _ md_X4_reckon_2) (fun _ h9 => h9) (fl_q rfl ek_15) dX4_reckon_143 ?_
          refine lv_iload_n hx hb dX4_reckon_146 rfl (lv_at hl 0 rfl) ?_
          obtain ⟨g_16, hf⟩ := grd_some hf
          obtain ⟨kg_16, sg_16, ig_16⟩ := okA_at g_16
          refine va_lald hx hb hK hP k_15 2 (Wd_al kg_16 sg_16) rfl ig_16 dX4_reckon_147 ?_
          obtain ⟨g_18, hf⟩ := grd_some hf
          obtain ⟨kg_18, sg_18⟩ := okO_at g_18
          obtain ⟨z_17, _u, hfc, hf⟩ := cal_some hf
          have hFc := de_free hD hS hA
          refine va_callv (va_runV (As := [.long (z_6.2.1 k_11 p_5.toNatClampNeg), .long (z_6.2.1 k_15 p_5.toNatClampNeg)]) (rest := []) ⟨hx, hb, hml, hown, hts⟩ (de_X10_set l dC dI cy a sh n H.size F z_6 k_8 (z_6.2.1 k_11 p_5.toNatClampNeg) (z_6.2.1 k_15 p_5.toNatClampNeg) hfc) (cwV 2 hts gX4_reckon_X10_set rfl rfl rfl (by decide +kernel) ⟨Nat.le_of_ble_eq_true rfl, Nat.le_of_ble_eq_true rfl⟩) ⟨fun a U g mk q => by obtain ⟨q0, q1, qP, qK, qD, qN⟩ := q; exact ⟨q0, q1, qP, va_K.moved (u := U) (U := U.calling g mk a) (Vm.Alike.refl U.vm) qK, qD, qN.same rfl⟩, va_recv hK hP (ci := 10) (q0 := k_8) rfl (Wd_ob kg_18 sg_18 (by decide)), fun U hU hW => ⟨rfl, by rw [hU], by rw [hU]; exact hP, va_K.moved hW.alike hK, hD.weaken (fun _ _ _ _ => trivial), hN.warm hW⟩⟩ rfl rfl hl.1 rfl (lv_room (Nat.le_of_ble_eq_true rfl)) dX4_reckon_148 ⟨Nat.le_of_ble_eq_true rfl, Nat.le_of_ble_eq_true rfl⟩) hS (fun q _ h => hFc q h) hFc (fun u t H_19 locs ht hvm hw hB hz1 hk1 hS2 => ?_)
          obtain ⟨hP1, -, hD1⟩ := hB
          rw [ht] at hP1
          replace hD := hD1.weaken (fun _ _ _ h => hFc _ h)
          replace hP := hP1
          replace hS := hS2
          clear hP1 hD1 hS2 hFc hfc hz1 hk1 hvm ht
          refine lv_iload_n hx hb dX4_reckon_151 rfl (lv_at hl 3 rfl) ?_
          refine lv_bipush (v := 36) hx hb dX4_reckon_152 (by decide) ?_
          refine lv_icmp_lt (tgt := 167) hx hb dX4_reckon_154 (by decide) (fun c_20 => ?_) (fun c_20 => ?_)
          · skip
            rw [if_pos c_20] at hf
            refine lv_iload_n hx hb dX4_reckon_167 rfl (lv_at hl 3 rfl) ?_
            refine lv_bipush (v := 32) hx hb dX4_reckon_168 (by decide) ?_
            refine lv_icmp_lt (tgt := 209) hx hb dX4_reckon_170 (by decide) (fun c_21 => ?_) (fun c_21 => ?_)
            · skip
              rw [if_pos c_21] at hf
              refine lv_aload_n hx hb dX4_reckon_209 rfl (lv_at hl 2 rfl) ?_
              refine lv_iload_n hx hb dX4_reckon_210 rfl (lv_at hl 3 rfl) ?_
              refine lv_aload_n hx hb dX4_reckon_211 rfl (lv_at hl 2 rfl) ?_
              obtain ⟨k_22, ek_22, hf⟩ := lnk_some hf
              refine va_get (D := (dC, dI)) (ci := 4) (v := .ref (a k_22)) (C := RX4) (T := TX4) (N := 18) hx hb hts iwd_X4_reckon_X4 hown hK hP h0 (Wd_ob kg_7 sg_7 (by decide)) rfl 1 (by decide) (hts _ md_X4_reckon_1) (fun _ h9 => h9) (fl_q rfl ek_22) dX4_reckon_212 ?_
              obtain ⟨g_23, hf⟩ := grd_some hf
              obtain ⟨kg_23, sg_23⟩ := okO_at g_23
              obtain ⟨k_24, ek_24, hf⟩ := lnk_some hf
              refine va_get (D := (dC, dI)) (ci := 1) (v := .ref (a k_24)) (C := RX1) (T := TX1) (N := 7) hx hb hts iwd_X4_reckon_X1 hown hK hP k_22 (Wd_ob kg_23 sg_23 (by decide)) rfl 2 (by decide) (hts _ md_X4_reckon_4) (fun _ h9 => h9) (fl_q rfl ek_24) dX4_reckon_215 ?_
              refine lv_iload_n hx hb dX4_reckon_218 rfl (lv_at hl 1 rfl) ?_
              obtain ⟨g_25, hf⟩ := grd_some hf
              obtain ⟨kg_25, sg_25, ig_25⟩ := okA_at g_25
              refine va_lald hx hb hK hP k_24 2 (Wd_al kg_25 sg_25) rfl ig_25 dX4_reckon_219 ?_
              refine lv_aload_n hx hb dX4_reckon_220 rfl (lv_at hl 2 rfl) ?_
              obtain ⟨k_26, ek_26, hf⟩ := lnk_some hf
              refine va_get (D := (dC, dI)) (ci := 4) (v := .ref (a k_26)) (C := RX4) (T := TX4) (N := 18) hx hb hts iwd_X4_reckon_X4 hown hK hP h0 (Wd_ob kg_7 sg_7 (by decide)) rfl 1 (by decide) (hts _ md_X4_reckon_1) (fun _ h9 => h9) (fl_q rfl ek_26) dX4_reckon_221 ?_
              obtain ⟨g_27, hf⟩ := grd_some hf
              obtain ⟨kg_27, sg_27⟩ := okO_at g_27
              obtain ⟨k_28, ek_28, hf⟩ := lnk_some hf
              refine va_get (D := (dC, dI)) (ci := 1) (v := .ref (a k_28)) (C := RX1) (T := TX1) (N := 7) hx hb hts iwd_X4_reckon_X1 hown hK hP k_26 (Wd_ob kg_27 sg_27 (by decide)) rfl 1 (by decide) (hts _ md_X4_reckon_2) (fun _ h9 => h9) (fl_q rfl ek_28) dX4_reckon_224 ?_
              refine lv_iload_n hx hb dX4_reckon_227 rfl (lv_at hl 1 rfl) ?_
              obtain ⟨g_29, hf⟩ := grd_some hf
              obtain ⟨kg_29, sg_29, ig_29⟩ := okA_at g_29
              refine va_lald hx hb hK hP k_28 2 (Wd_al kg_29 sg_29) rfl ig_29 dX4_reckon_228 ?_
              obtain ⟨z_30, _u, hfc, hf⟩ := cal_some hf
              have hFc := de_free hD hS hA
              refine va_callv (va_runV (As := [.int x0, .long (z_17.2.1 k_24 p_2.toNatClampNeg), .long (z_17.2.1 k_28 p_2.toNatClampNeg)]) (rest := []) ⟨hx, hb, hml, hown, hts⟩ (de_X4_combine l dC dI cy a sh n H_19.size F z_17 h0 x0 (z_17.2.1 k_24 p_2.toNatClampNeg) (z_17.2.1 k_28 p_2.toNatClampNeg) hfc) (cwV 3 hts gX4_reckon_X4_combine rfl rfl rfl (by decide +kernel) ⟨Nat.le_of_ble_eq_true rfl, Nat.le_of_ble_eq_true rfl⟩) ⟨fun a U g mk q => by obtain ⟨q0, q1, qP, qK, qD, qN⟩ := q; exact ⟨q0, q1, qP, va_K.moved (u := U) (U := U.calling g mk a) (Vm.Alike.refl U.vm) qK, qD, qN.same rfl⟩, va_recv hK hP (ci := 4) (q0 := h0) rfl (Wd_ob kg_7 sg_7 (by decide)), fun U hU hW => ⟨rfl, by rw [hU], by rw [hU]; exact hP, va_K.moved hW.alike hK, hD.weaken (fun _ _ _ _ => trivial), hN.warm hW⟩⟩ rfl rfl hl.1 rfl (lv_room (Nat.le_of_ble_eq_true rfl)) dX4_reckon_229 ⟨Nat.le_of_ble_eq_true rfl, Nat.le_of_ble_eq_true rfl⟩) hS (fun q _ h => hFc q h) hFc (fun u t H_31 locs ht hvm hw hB hz1 hk1 hS2 => ?_)
              obtain ⟨hP1, -, hD1⟩ := hB
              rw [ht] at hP1
              replace hD := hD1.weaken (fun _ _ _ h => hFc _ h)
              replace hP := hP1
              replace hS := hS2
              clear hP1 hD1 hS2 hFc hfc hz1 hk1 hvm ht
              refine lv_aload_n hx hb dX4_reckon_232 rfl (lv_at hl 2 rfl) ?_
              refine lv_aload_n hx hb dX4_reckon_233 rfl (lv_at hl 2 rfl) ?_
              obtain ⟨k_32, ek_32, hf⟩ := lnk_some hf
              refine va_get (D := (dC, dI)) (ci := 4) (v := .ref (a k_32)) (C := RX4) (T := TX4) (N := 18) hx hb hts iwd_X4_reckon_X4 hown hK hP h0 (Wd_ob kg_7 sg_7 (by decide)) rfl 1 (by decide) (hts _ md_X4_reckon_1) (fun _ h9 => h9) (fl_q rfl ek_32) dX4_reckon_234 ?_
              obtain ⟨g_33, hf⟩ := grd_some hf
              obtain ⟨kg_33, sg_33⟩ := okO_at g_33
              obtain ⟨k_34, ek_34, hf⟩ := lnk_some hf
              refine va_get (D := (dC, dI)) (ci := 1) (v := .ref (a k_34)) (C := RX1) (T := TX1) (N := 7) hx hb hts iwd_X4_reckon_X1 hown hK hP k_32 (Wd_ob kg_33 sg_33 (by decide)) rfl 0 (by decide) (hts _ md_X4_reckon_5) (fun _ h9 => h9) (fl_q rfl ek_34) dX4_reckon_237 ?_
              refine lv_iload_n hx hb dX4_reckon_240 rfl (lv_at hl 0 rfl) ?_
              obtain ⟨g_35, hf⟩ := grd_some hf
              obtain ⟨kg_35, sg_35, ig_35⟩ := okA_at g_35
              refine va_bald hx hb hK hP k_34 0 (Wd_ab kg_35 sg_35) rfl ig_35 dX4_reckon_241 ?_
              obtain ⟨z_36, _u, hfc, hf⟩ := cal_some hf
              have hFc := de_free hD hS hA
              refine va_callv (va_runV (As := [.int (z_30.1 k_34 p_5.toNatClampNeg)]) (rest := []) ⟨hx, hb, hml, hown, hts⟩ (de_X4_pushWide l dC dI cy a sh n H_31.size F z_30 h0 (z_30.1 k_34 p_5.toNatClampNeg) hfc) (cwV 1 hts gX4_reckon_X4_pushWide rfl rfl rfl (by decide +kernel) ⟨Nat.le_of_ble_eq_true rfl, Nat.le_of_ble_eq_true rfl⟩) ⟨fun a U g mk q => by obtain ⟨q0, q1, qP, qK, qD, qN⟩ := q; exact ⟨q0, q1, qP, va_K.moved (u := U) (U := U.calling g mk a) (Vm.Alike.refl U.vm) qK, qD, qN.same rfl⟩, va_recv hK hP (ci := 4) (q0 := h0) rfl (Wd_ob kg_7 sg_7 (by decide)), fun U hU hW => ⟨rfl, by rw [hU], by rw [hU]; exact hP, va_K.moved hW.alike hK, hD.weaken (fun _ _ _ _ => trivial), hN.warm hW⟩⟩ rfl rfl hl.1 rfl (lv_room (Nat.le_of_ble_eq_true rfl)) dX4_reckon_242 ⟨Nat.le_of_ble_eq_true rfl, Nat.le_of_ble_eq_true rfl⟩) hS (fun q _ h => hFc q h) hFc (fun u t H_37 locs ht hvm hw hB hz1 hk1 hS2 => ?_)
              obtain ⟨hP1, -, hD1⟩ := hB
              rw [ht] at hP1
              replace hD := hD1.weaken (fun _ _ _ h => hFc _ h)
              replace hP := hP1
              replace hS := hS2
              clear hP1 hD1 hS2 hFc hfc hz1 hk1 hvm ht
              obtain ⟨h8, h9⟩ := ret_some hf
              rw [h8]
              exact W.vret hx hb hr (fun t ht hW => ⟨⟨(), rfl, trivial, by rw [ht]; exact hP, va_K.moved hW.alike hK, hD⟩, hS.F ht⟩) hS.2.2 dX4_reckon_245
            · skip
              rw [if_neg c_21] at hf
              refine lv_aload_n hx hb dX4_reckon_173 rfl (lv_at hl 2 rfl) ?_
              refine lv_iload_n hx hb dX4_reckon_174 rfl (lv_at hl 3 rfl) ?_
              refine lv_bipush (v := 32) hx hb dX4_reckon_175 (by decide) ?_
              refine de_cut (h := 185) (fun (x : St × Int32) => [.int x.2, .ref (a h0)]) (fun x ls H locs => lv_has ls 4 [(3, .int p_5), (2, .int p_2), (0, .ref (a h0))] ∧ va_P (dC, dI) vwCl (Wd cy a sh n x.1) H ∧ va_D A (Wd cy a sh n x.1) ∧ va_S A s.heap H locs) (fun x => fn_X4_reckon_B185 F sh n h0 p_2 p_5 x.1 x.2) (z8, r8) ?_ (fun B185 => ?_)
              · intro x ls H locs hI hf
                obtain ⟨z_39, p_38⟩ := x
                obtain ⟨hl2, hP2, hD2, hS2⟩ := hI
                replace hl : lv_has ls 4 [(3, .int p_5), (2, .int p_2), (0, .ref (a h0))] := hl2
                replace hP := hP2
                replace hD := hD2
                replace hS := hS2
                clear hl2 hP2 hD2 hS2
                replace hf := fn_X4_reckon_B185_s hf
                refine W.eq (g2 := F0 m 185 ls [.int p_38, .ref (a h0)]) rfl ?_
                refine lv_aload_n hx hb dX4_reckon_185 rfl (lv_at hl 2 rfl) ?_
                obtain ⟨k_40, ek_40, hf⟩ := lnk_some hf
                refine va_get (D := (dC, dI)) (ci := 4) (v := .ref (a k_40)) (C := RX4) (T := TX4) (N := 18) hx hb hts iwd_X4_reckon_X4 hown hK hP h0 (Wd_ob kg_7 sg_7 (by decide)) rfl 1 (by decide) (hts _ md_X4_reckon_1) (fun _ h9 => h9) (fl_q rfl ek_40) dX4_reckon_186 ?_
                obtain ⟨g_41, hf⟩ := grd_some hf
                obtain ⟨kg_41, sg_41⟩ := okO_at g_41
                obtain ⟨k_42, ek_42, hf⟩ := lnk_some hf
                refine va_get (D := (dC, dI)) (ci := 1) (v := .ref (a k_42)) (C := RX1) (T := TX1) (N := 7) hx hb hts iwd_X4_reckon_X1 hown hK hP k_40 (Wd_ob kg_41 sg_41 (by decide)) rfl 1 (by decide) (hts _ md_X4_reckon_2) (fun _ h9 => h9) (fl_q rfl ek_42) dX4_reckon_189 ?_
                refine lv_iload_n hx hb dX4_reckon_192 rfl (lv_at hl 1 rfl) ?_
                obtain ⟨g_43, hf⟩ := grd_some hf
                obtain ⟨kg_43, sg_43, ig_43⟩ := okA_at g_43
                refine va_lald hx hb hK hP k_42 2 (Wd_al kg_43 sg_43) rfl ig_43 dX4_reckon_193 ?_
                refine lv_aload_n hx hb dX4_reckon_194 rfl (lv_at hl 2 rfl) ?_
                obtain ⟨k_44, ek_44, hf⟩ := lnk_some hf
                refine va_get (D := (dC, dI)) (ci := 4) (v := .ref (a k_44)) (C := RX4) (T := TX4) (N := 18) hx hb hts iwd_X4_reckon_X4 hown hK hP h0 (Wd_ob kg_7 sg_7 (by decide)) rfl 1 (by decide) (hts _ md_X4_reckon_1) (fun _ h9 => h9) (fl_q rfl ek_44) dX4_reckon_195 ?_
                obtain ⟨g_45, hf⟩ := grd_some hf
                obtain ⟨kg_45, sg_45⟩ := okO_at g_45
                obtain ⟨k_46, ek_46, hf⟩ := lnk_some hf
                refine va_get (D := (dC, dI)) (ci := 1) (v := .ref (a k_46)) (C := RX1) (T := TX1) (N := 7) hx hb hts iwd_X4_reckon_X1 hown hK hP k_44 (Wd_ob kg_45 sg_45 (by decide)) rfl 0 (by decide) (hts _ md_X4_reckon_5) (fun _ h9 => h9) (fl_q rfl ek_46) dX4_reckon_198 ?_
                refine lv_iload_n hx hb dX4_reckon_201 rfl (lv_at hl 0 rfl) ?_
                obtain ⟨g_47, hf⟩ := grd_some hf
                obtain ⟨kg_47, sg_47, ig_47⟩ := okA_at g_47
                refine va_bald hx hb hK hP k_46 0 (Wd_ab kg_47 sg_47) rfl ig_47 dX4_reckon_202 ?_
                obtain ⟨z_48, _u, hfc, hf⟩ := cal_some hf
                have hFc := de_free hD hS hA
                refine va_callv (va_runV (As := [.int p_38, .long (z_39.2.1 k_42 p_2.toNatClampNeg), .int (z_39.1 k_46 p_5.toNatClampNeg)]) (rest := []) ⟨hx, hb, hml, hown, hts⟩ (de_X4_shift l dC dI cy a sh n H.size F z_39 h0 p_38 (z_39.2.1 k_42 p_2.toNatClampNeg) (z_39.1 k_46 p_5.toNatClampNeg) hfc) (cwV 3 hts gX4_reckon_X4_shift rfl rfl rfl (by decide +kernel) ⟨Nat.le_of_ble_eq_true rfl, Nat.le_of_ble_eq_true rfl⟩) ⟨fun a U g mk q => by obtain ⟨q0, q1, qP, qK, qD, qN⟩ := q; exact ⟨q0, q1, qP, va_K.moved (u := U) (U := U.calling g mk a) (Vm.Alike.refl U.vm) qK, qD, qN.same rfl⟩, va_recv hK hP (ci := 4) (q0 := h0) rfl (Wd_ob kg_7 sg_7 (by decide)), fun U hU hW => ⟨rfl, by rw [hU], by rw [hU]; exact hP, va_K.moved hW.alike hK, hD.weaken (fun _ _ _ _ => trivial), hN.warm hW⟩⟩ rfl rfl hl.1 rfl (lv_room (Nat.le_of_ble_eq_true rfl)) dX4_reckon_203 ⟨Nat.le_of_ble_eq_true rfl, Nat.le_of_ble_eq_true rfl⟩) hS (fun q _ h => hFc q h) hFc (fun u t H_49 locs ht hvm hw hB hz1 hk1 hS2 => ?_)
                obtain ⟨hP1, -, hD1⟩ := hB
                rw [ht] at hP1
                replace hD := hD1.weaken (fun _ _ _ h => hFc _ h)
                replace hP := hP1
                replace hS := hS2
                clear hP1 hD1 hS2 hFc hfc hz1 hk1 hvm ht
                refine lv_goto (tgt := 245) hx hb dX4_reckon_206 (by decide) ?_
                obtain ⟨h8, h9⟩ := ret_some hf
                rw [h8]
                exact W.vret hx hb hr (fun t ht hW => ⟨⟨(), rfl, trivial, by rw [ht]; exact hP, va_K.moved hW.alike hK, hD⟩, hS.F ht⟩) hS.2.2 dX4_reckon_245
              refine lv_icmp_ne (tgt := 184) hx hb dX4_reckon_177 (by decide) (fun c_50 => ?_) (fun c_50 => ?_)
              · skip
                rw [if_neg c_50] at hf
                refine lv_iconst (v := 0) hx hb dX4_reckon_184 (by decide) ?_
                exact B185 (z_17, 0) ls H_19 locs ⟨lv_sub hl [0, 1, 2] rfl, hP, hD, hS⟩ hf
              · skip
                rw [if_pos c_50] at hf
                refine lv_iconst (v := 1) hx hb dX4_reckon_180 (by decide) ?_
                refine lv_goto (tgt := 185) hx hb dX4_reckon_181 (by decide) ?_
                exact B185 (z_17, 1) ls H_19 locs ⟨lv_sub hl [0, 1, 2] rfl, hP, hD, hS⟩ hf
          · skip
            rw [if_neg c_20] at hf
            refine lv_aload_n hx hb dX4_reckon_157 rfl (lv_at hl 2 rfl) ?_
            refine lv_iload_n hx hb dX4_reckon_158 rfl (lv_at hl 3 rfl) ?_
            refine lv_iload_n hx hb dX4_reckon_159 rfl (lv_at hl 0 rfl) ?_
            refine lv_iload_n hx hb dX4_reckon_160 rfl (lv_at hl 1 rfl) ?_
            obtain ⟨z_51, _u, hfc, hf⟩ := cal_some hf
            have hFc := de_free hD hS hA
            refine va_callv (va_runV (As := [.int x0, .int p_5, .int p_2]) (rest := []) ⟨hx, hb, hml, hown, hts⟩ (de_X4_compare l dC dI cy a sh n H_19.size F z_17 h0 x0 p_5 p_2 hfc) (cwV 3 hts gX4_reckon_X4_compare rfl rfl rfl (by decide +kernel) ⟨Nat.le_of_ble_eq_true rfl, Nat.le_of_ble_eq_true rfl⟩) ⟨fun a U g mk q => by obtain ⟨q0, q1, qP, qK, qD, qN⟩ := q; exact ⟨q0, q1, qP, va_K.moved (u := U) (U := U.calling g mk a) (Vm.Alike.refl U.vm) qK, qD, qN.same rfl⟩, va_recv hK hP (ci := 4) (q0 := h0) rfl (Wd_ob kg_7 sg_7 (by decide)), fun U hU hW => ⟨rfl, by rw [hU], by rw [hU]; exact hP, va_K.moved hW.alike hK, hD.weaken (fun _ _ _ _ => trivial), hN.warm hW⟩⟩ rfl rfl hl.1 rfl (lv_room (Nat.le_of_ble_eq_true rfl)) dX4_reckon_161 ⟨Nat.le_of_ble_eq_true rfl, Nat.le_of_ble_eq_true rfl⟩) hS (fun q _ h => hFc q h) hFc (fun u t H_52 locs ht hvm hw hB hz1 hk1 hS2 => ?_)
            obtain ⟨hP1, -, hD1⟩ := hB
            rw [ht] at hP1
            replace hD := hD1.weaken (fun _ _ _ h => hFc _ h)
            replace hP := hP1
            replace hS := hS2
            clear hP1 hD1 hS2 hFc hfc hz1 hk1 hvm ht
            refine lv_goto (tgt := 245) hx hb dX4_reckon_164 (by decide) ?_
            obtain ⟨h8, h9⟩ := ret_some hf
            rw [h8]
            exact W.vret hx hb hr (fun t ht hW => ⟨⟨(), rfl, trivial, by rw [ht]; exact hP, va_K.moved hW.alike hK, hD⟩, hS.F ht⟩) hS.2.2 dX4_reckon_245
        refine de_cut (h := 105) (fun (x : St) => []) (fun x ls H locs => lv_has ls 4 [(2, .int p_2), (0, .ref (a h0)), (1, .int x0)] ∧ va_P (dC, dI) vwCl (Wd cy a sh n x) H ∧ va_D A (Wd cy a sh n x) ∧ va_S A s.heap H locs) (fun x => fn_X4_reckon_B105 F sh n h0 x0 p_2 x) (z8, r8) ?_ (fun B105 => ?_)
        · intro x ls H locs hI hf
          obtain ⟨z_53, ez⟩ : ∃ w, w = x := ⟨_, rfl⟩
          subst ez
          obtain ⟨hl2, hP2, hD2, hS2⟩ := hI
          replace hl : lv_has ls 4 [(2, .int p_2), (0, .ref (a h0)), (1, .int x0)] := hl2
          replace hP := hP2
          replace hD := hD2
          replace hS := hS2
          clear hl2 hP2 hD2 hS2
          replace hf := fn_X4_reckon_B105_s hf
          refine W.eq (g2 := F0 m 105 ls []) rfl ?_
          refine lv_aload_n hx hb dX4_reckon_105 rfl (lv_at hl 1 rfl) ?_
          obtain ⟨g_56, hf⟩ := grd_some hf
          obtain ⟨kg_56, sg_56⟩ := okO_at g_56
          obtain ⟨z_54, r_55, hfc, hf⟩ := cal_some hf
          have hFc := de_free hD hS hA
          refine va_calli (va_runV (As := []) (rest := []) ⟨hx, hb, hml, hown, hts⟩ (de_X4_pop l dC dI cy a sh n H.size F z_53 h0 hfc) (cwV 0 hts gX4_reckon_X4_pop rfl rfl rfl (by decide +kernel) ⟨Nat.le_of_ble_eq_true rfl, Nat.le_of_ble_eq_true rfl⟩) ⟨fun a U g mk q => by obtain ⟨q0, q1, qP, qK, qD, qN⟩ := q; exact ⟨q0, q1, qP, va_K.moved (u := U) (U := U.calling g mk a) (Vm.Alike.refl U.vm) qK, qD, qN.same rfl⟩, va_recv hK hP (ci := 4) (q0 := h0) rfl (Wd_ob kg_56 sg_56 (by decide)), fun U hU hW => ⟨rfl, by rw [hU], by rw [hU]; exact hP, va_K.moved hW.alike hK, hD.weaken (fun _ _ _ _ => trivial), hN.warm hW⟩⟩ rfl rfl hl.1 rfl (lv_room (Nat.le_of_ble_eq_true rfl)) dX4_reckon_106 ⟨Nat.le_of_ble_eq_true rfl, Nat.le_of_ble_eq_true rfl⟩) hS (fun q _ h => hFc q h) hFc (fun rr u t H_57 locs ht hvm hw hB hz1 hk1 hS2 => ?_)
          rw [hw]
          clear hw
          obtain ⟨hP1, -, hD1⟩ := hB
          rw [ht] at hP1
          replace hD := hD1.weaken (fun _ _ _ h => hFc _ h)
          replace hP := hP1
          replace hS := hS2
          clear hP1 hD1 hS2 hFc hfc hz1 hk1 hvm ht
          refine lv_goto (tgt := 125) hx hb dX4_reckon_109 (by decide) ?_
          exact B125 (z_54, r_55) ls H_57 locs ⟨lv_sub hl [0, 1, 2] rfl, hP, hD, hS⟩ hf
        refine lv_icmp_eq (tgt := 105) hx hb dX4_reckon_96 (by decide) (fun c_58 => ?_) (fun c_58 => ?_)
        · skip
          rw [if_pos c_58] at hf
          exact B105 (z_3) ls H locs ⟨lv_sub hl [0, 1, 2] rfl, hP, hD, hS⟩ hf
        · skip
          rw [if_neg c_58] at hf
          refine lv_iload_n hx hb dX4_reckon_99 rfl (lv_at hl 2 rfl) ?_
          refine lv_bipush (v := 33) hx hb dX4_reckon_100 (by decide) ?_
          refine lv_icmp_ne (tgt := 112) hx hb dX4_reckon_102 (by decide) (fun c_59 => ?_) (fun c_59 => ?_)
          · skip
            rw [if_neg c_59] at hf
            refine lv_aload_n hx hb dX4_reckon_112 rfl (lv_at hl 1 rfl) ?_
            refine lv_aload_n hx hb dX4_reckon_113 rfl (lv_at hl 1 rfl) ?_
            obtain ⟨g_60, hf⟩ := grd_some hf
            obtain ⟨kg_60, sg_60⟩ := okO_at g_60
            obtain ⟨k_61, ek_61, hf⟩ := lnk_some hf
            refine va_get (D := (dC, dI)) (ci := 4) (v := .ref (a k_61)) (C := RX4) (T := TX4) (N := 18) hx hb hts iwd_X4_reckon_X4 hown hK hP h0 (Wd_ob kg_60 sg_60 (by decide)) rfl 1 (by decide) (hts _ md_X4_reckon_1) (fun _ h9 => h9) (fl_q rfl ek_61) dX4_reckon_114 ?_
            obtain ⟨g_62, hf⟩ := grd_some hf
            obtain ⟨kg_62, sg_62⟩ := okO_at g_62
            obtain ⟨k_63, ek_63, hf⟩ := lnk_some hf
            refine va_get (D := (dC, dI)) (ci := 1) (v := .ref (a k_63)) (C := RX1) (T := TX1) (N := 7) hx hb hts iwd_X4_reckon_X1 hown hK hP k_61 (Wd_ob kg_62 sg_62 (by decide)) rfl 0 (by decide) (hts _ md_X4_reckon_5) (fun _ h9 => h9) (fl_q rfl ek_63) dX4_reckon_117 ?_
            refine lv_iload_n hx hb dX4_reckon_120 rfl (lv_at hl 0 rfl) ?_
            obtain ⟨g_64, hf⟩ := grd_some hf
            obtain ⟨kg_64, sg_64, ig_64⟩ := okA_at g_64
            refine va_bald hx hb hK hP k_63 0 (Wd_ab kg_64 sg_64) rfl ig_64 dX4_reckon_121 ?_
            obtain ⟨z_65, r_66, hfc, hf⟩ := cal_some hf
            have hFc := de_free hD hS hA
            refine va_calli (va_runV (As := [.int (z_3.1 k_63 p_2.toNatClampNeg)]) (rest := []) ⟨hx, hb, hml, hown, hts⟩ (de_X4_popOf l dC dI cy a sh n H.size F z_3 h0 (z_3.1 k_63 p_2.toNatClampNeg) hfc) (cwV 1 hts gX4_reckon_X4_popOf rfl rfl rfl (by decide +kernel) ⟨Nat.le_of_ble_eq_true rfl, Nat.le_of_ble_eq_true rfl⟩) ⟨fun a U g mk q => by obtain ⟨q0, q1, qP, qK, qD, qN⟩ := q; exact ⟨q0, q1, qP, va_K.moved (u := U) (U := U.calling g mk a) (Vm.Alike.refl U.vm) qK, qD, qN.same rfl⟩, va_recv hK hP (ci := 4) (q0 := h0) rfl (Wd_ob kg_60 sg_60 (by decide)), fun U hU hW => ⟨rfl, by rw [hU], by rw [hU]; exact hP, va_K.moved hW.alike hK, hD.weaken (fun _ _ _ _ => trivial), hN.warm hW⟩⟩ rfl rfl hl.1 rfl (lv_room (Nat.le_of_ble_eq_true rfl)) dX4_reckon_122 ⟨Nat.le_of_ble_eq_true rfl, Nat.le_of_ble_eq_true rfl⟩) hS (fun q _ h => hFc q h) hFc (fun rr u t H_67 locs ht hvm hw hB hz1 hk1 hS2 => ?_)
            rw [hw]
            clear hw
            obtain ⟨hP1, -, hD1⟩ := hB
            rw [ht] at hP1
            replace hD := hD1.weaken (fun _ _ _ h => hFc _ h)
            replace hP := hP1
            replace hS := hS2
            clear hP1 hD1 hS2 hFc hfc hz1 hk1 hvm ht
            exact B125 (z_65, r_66) ls H_67 locs ⟨lv_sub hl [0, 1, 2] rfl, hP, hD, hS⟩ hf
          · skip
            rw [if_pos c_59] at hf
            exact B105 (z_3) ls H locs ⟨lv_sub hl [0, 1, 2] rfl, hP, hD, hS⟩ hf
      · skip
        rw [if_neg c_4] at hf
        refine lv_aload_n hx hb dX4_reckon_59 rfl (lv_at hl 1 rfl) ?_
        obtain ⟨g_68, hf⟩ := grd_some hf
        obtain ⟨kg_68, sg_68⟩ := okO_at g_68
        obtain ⟨k_69, ek_69, hf⟩ := lnk_some hf
        refine va_get (D := (dC, dI)) (ci := 4) (v := .ref (a k_69)) (C := RX4) (T := TX4) (N := 18) hx hb hts iwd_X4_reckon_X4 hown hK hP h0 (Wd_ob kg_68 sg_68 (by decide)) rfl 3 (by decide) (hts _ md_X4_reckon_3) (fun _ h9 => h9) (fl_q rfl ek_69) dX4_reckon_60 ?_
        refine lv_aload_n hx hb dX4_reckon_63 rfl (lv_at hl 1 rfl) ?_
        obtain ⟨k_70, ek_70, hf⟩ := lnk_some hf
        refine va_get (D := (dC, dI)) (ci := 4) (v := .ref (a k_70)) (C := RX4) (T := TX4) (N := 18) hx hb hts iwd_X4_reckon_X4 hown hK hP h0 (Wd_ob kg_68 sg_68 (by decide)) rfl 1 (by decide) (hts _ md_X4_reckon_1) (fun _ h9 => h9) (fl_q rfl ek_70) dX4_reckon_64 ?_
        obtain ⟨g_71, hf⟩ := grd_some hf
        obtain ⟨kg_71, sg_71⟩ := okO_at g_71
        obtain ⟨k_72, ek_72, hf⟩ := lnk_some hf
        refine va_get (D := (dC, dI)) (ci := 1) (v := .ref (a k_72)) (C := RX1) (T := TX1) (N := 7) hx hb hts iwd_X4_reckon_X1 hown hK hP k_70 (Wd_ob kg_71 sg_71 (by decide)) rfl 2 (by decide) (hts _ md_X4_reckon_4) (fun _ h9 => h9) (fl_q rfl ek_72) dX4_reckon_67 ?_
        refine lv_iload_n hx hb dX4_reckon_70 rfl (lv_at hl 0 rfl) ?_
        obtain ⟨g_73, hf⟩ := grd_some hf
        obtain ⟨kg_73, sg_73, ig_73⟩ := okA_at g_73
        refine va_lald hx hb hK hP k_72 2 (Wd_al kg_73 sg_73) rfl ig_73 dX4_reckon_71 ?_
        refine lv_aload_n hx hb dX4_reckon_72 rfl (lv_at hl 1 rfl) ?_
        obtain ⟨k_74, ek_74, hf⟩ := lnk_some hf
        refine va_get (D := (dC, dI)) (ci := 4) (v := .ref (a k_74)) (C := RX4) (T := TX4) (N := 18) hx hb hts iwd_X4_reckon_X4 hown hK hP h0 (Wd_ob kg_68 sg_68 (by decide)) rfl 1 (by decide) (hts _ md_X4_reckon_1) (fun _ h9 => h9) (fl_q rfl ek_74) dX4_reckon_73 ?_
        obtain ⟨g_75, hf⟩ := grd_some hf
        obtain ⟨kg_75, sg_75⟩ := okO_at g_75
        obtain ⟨k_76, ek_76, hf⟩ := lnk_some hf
        refine va_get (D := (dC, dI)) (ci := 1) (v := .ref (a k_76)) (C := RX1) (T := TX1) (N := 7) hx hb hts iwd_X4_reckon_X1 hown hK hP k_74 (Wd_ob kg_75 sg_75 (by decide)) rfl 1 (by decide) (hts _ md_X4_reckon_2) (fun _ h9 => h9) (fl_q rfl ek_76) dX4_reckon_76 ?_
        refine lv_iload_n hx hb dX4_reckon_79 rfl (lv_at hl 0 rfl) ?_
        obtain ⟨g_77, hf⟩ := grd_some hf
        obtain ⟨kg_77, sg_77, ig_77⟩ := okA_at g_77
        refine va_lald hx hb hK hP k_76 2 (Wd_al kg_77 sg_77) rfl ig_77 dX4_reckon_80 ?_
        obtain ⟨g_79, hf⟩ := grd_some hf
        obtain ⟨kg_79, sg_79⟩ := okO_at g_79
        obtain ⟨z_78, _u, hfc, hf⟩ := cal_some hf
        have hFc := de_free hD hS hA
        refine va_callv (va_runV (As := [.long (z_3.2.1 k_72 p_2.toNatClampNeg), .long (z_3.2.1 k_76 p_2.toNatClampNeg)]) (rest := []) ⟨hx, hb, hml, hown, hts⟩ (de_X10_set l dC dI cy a sh n H.size F z_3 k_69 (z_3.2.1 k_72 p_2.toNatClampNeg) (z_3.2.1 k_76 p_2.toNatClampNeg) hfc) (cwV 2 hts gX4_reckon_X10_set rfl rfl rfl (by decide +kernel) ⟨Nat.le_of_ble_eq_true rfl, Nat.le_of_ble_eq_true rfl⟩) ⟨fun a U g mk q => by obtain ⟨q0, q1, qP, qK, qD, qN⟩ := q; exact ⟨q0, q1, qP, va_K.moved (u := U) (U := U.calling g mk a) (Vm.Alike.refl U.vm) qK, qD, qN.same rfl⟩, va_recv hK hP (ci := 10) (q0 := k_69) rfl (Wd_ob kg_79 sg_79 (by decide)), fun U hU hW => ⟨rfl, by rw [hU], by rw [hU]; exact hP, va_K.moved hW.alike hK, hD.weaken (fun _ _ _ _ => trivial), hN.warm hW⟩⟩ rfl rfl hl.1 rfl (lv_room (Nat.le_of_ble_eq_true rfl)) dX4_reckon_81 ⟨Nat.le_of_ble_eq_true rfl, Nat.le_of_ble_eq_true rfl⟩) hS (fun q _ h => hFc q h) hFc (fun u t H_80 locs ht hvm hw hB hz1 hk1 hS2 => ?_)
        obtain ⟨hP1, -, hD1⟩ := hB
        rw [ht] at hP1
        replace hD := hD1.weaken (fun _ _ _ h => hFc _ h)
        replace hP := hP1
        replace hS := hS2
        clear hP1 hD1 hS2 hFc hfc hz1 hk1 hvm ht
        refine lv_aload_n hx hb dX4_reckon_84 rfl (lv_at hl 1 rfl) ?_
        refine lv_iload_n hx hb dX4_reckon_85 rfl (lv_at hl 2 rfl) ?_
        refine lv_bipush (v := 40) hx hb dX4_reckon_86 (by decide) ?_
        refine lv_isub hx hb dX4_reckon_88 ?_
        obtain ⟨z_81, _u, hfc, hf⟩ := cal_some hf
        have hFc := de_free hD hS hA
        refine va_callv (va_runV (As := [.int (x0 - 40)]) (rest := []) ⟨hx, hb, hml, hown, hts⟩ (de_X4_pushWide l dC dI cy a sh n H_80.size F z_78 h0 (x0 - 40) hfc) (cwV 1 hts gX4_reckon_X4_pushWide rfl rfl rfl (by decide +kernel) ⟨Nat.le_of_ble_eq_true rfl, Nat.le_of_ble_eq_true rfl⟩) ⟨fun a U g mk q => by obtain ⟨q0, q1, qP, qK, qD, qN⟩ := q; exact ⟨q0, q1, qP, va_K.moved (u := U) (U := U.calling g mk a) (Vm.Alike.refl U.vm) qK, qD, qN.same rfl⟩, va_recv hK hP (ci := 4) (q0 := h0) rfl (Wd_ob kg_68 sg_68 (by decide)), fun U hU hW => ⟨rfl, by rw [hU], by rw [hU]; exact hP, va_K.moved hW.alike hK, hD.weaken (fun _ _ _ _ => trivial), hN.warm hW⟩⟩ rfl rfl hl.1 rfl (lv_room (Nat.le_of_ble_eq_true rfl)) dX4_reckon_89 ⟨Nat.le_of_ble_eq_true rfl, Nat.le_of_ble_eq_true rfl⟩) hS (fun q _ h => hFc q h) hFc (fun u t H_82 locs ht hvm hw hB hz1 hk1 hS2 => ?_)
        obtain ⟨hP1, -, hD1⟩ := hB
        rw [ht] at hP1
        replace hD := hD1.weaken (fun _ _ _ h => hFc _ h)
        replace hP := hP1
        replace hS := hS2
        clear hP1 hD1 hS2 hFc hfc hz1 hk1 hvm ht
        obtain ⟨h8, h9⟩ := ret_some hf
        rw [h8]
        exact W.vret hx hb hr (fun t ht hW => ⟨⟨(), rfl, trivial, by rw [ht]; exact hP, va_K.moved hW.alike hK, hD⟩, hS.F ht⟩) hS.2.2 dX4_reckon_92
    refine de_cut (h := 40) (fun (x : St) => []) (fun x ls H locs => lv_has ls 4 [(0, .ref (a h0)), (1, .int x0)] ∧ va_P (dC, dI) vwCl (Wd cy a sh n x) H ∧ va_D A (Wd cy a sh n x) ∧ va_S A s.heap H locs) (fun x => fn_X4_reckon_B40 F sh n h0 x0 x) (z8, r8) ?_ (fun B40 => ?_)
    · intro x ls H locs hI hf
      obtain ⟨z_83, ez⟩ : ∃ w, w = x := ⟨_, rfl⟩
      subst ez
      obtain ⟨hl2, hP2, hD2, hS2⟩ := hI
      replace hl : lv_has ls 4 [(0, .ref (a h0)), (1, .int x0)] := hl2
      replace hP := hP2
      replace hD := hD2
      replace hS := hS2
      clear hl2 hP2 hD2 hS2
      replace hf := fn_X4_reckon_B40_s hf
      refine W.eq (g2 := F0 m 40 ls []) rfl ?_
      refine lv_aload_n hx hb dX4_reckon_40 rfl (lv_at hl 0 rfl) ?_
      refine lv_iconst (v := 2) hx hb dX4_reckon_41 (by decide) ?_
      obtain ⟨g_86, hf⟩ := grd_some hf
      obtain ⟨kg_86, sg_86⟩ := okO_at g_86
      obtain ⟨z_84, r_85, hfc, hf⟩ := cal_some hf
      have hFc := de_free hD hS hA
      refine va_calli (va_runV (As := [.int 2]) (rest := []) ⟨hx, hb, hml, hown, hts⟩ (de_X4_popOf l dC dI cy a sh n H.size F z_83 h0 2 hfc) (cwV 1 hts gX4_reckon_X4_popOf rfl rfl rfl (by decide +kernel) ⟨Nat.le_of_ble_eq_true rfl, Nat.le_of_ble_eq_true rfl⟩) ⟨fun a U g mk q => by obtain ⟨q0, q1, qP, qK, qD, qN⟩ := q; exact ⟨q0, q1, qP, va_K.moved (u := U) (U := U.calling g mk a) (Vm.Alike.refl U.vm) qK, qD, qN.same rfl⟩, va_recv hK hP (ci := 4) (q0 := h0) rfl (Wd_ob kg_86 sg_86 (by decide)), fun U hU hW => ⟨rfl, by rw [hU], by rw [hU]; exact hP, va_K.moved hW.alike hK, hD.weaken (fun _ _ _ _ => trivial), hN.warm hW⟩⟩ rfl rfl hl.1 rfl (lv_room (Nat.le_of_ble_eq_true rfl)) dX4_reckon_42 ⟨Nat.le_of_ble_eq_true rfl, Nat.le_of_ble_eq_true rfl⟩) hS (fun q _ h => hFc q h) hFc (fun rr u t H_87 locs ht hvm hw hB hz1 hk1 hS2 => ?_)
      rw [hw]
      clear hw
      obtain ⟨hP1, -, hD1⟩ := hB
      rw [ht] at hP1
      replace hD := hD1.weaken (fun _ _ _ h => hFc _ h)
      replace hP := hP1
      replace hS := hS2
      clear hP1 hD1 hS2 hFc hfc hz1 hk1 hvm ht
      refine lv_goto (tgt := 52) hx hb dX4_reckon_45 (by decide) ?_
      exact B52 (z_84, r_85) ls H_87 locs ⟨lv_sub hl [0, 1] rfl, hP, hD, hS⟩ hf
    refine lv_icmp_eq (tgt := 40) hx hb dX4_reckon_31 (by decide) (fun c_88 => ?_) (fun c_88 => ?_)
    · skip
      rw [if_pos c_88] at hf
      exact B40 (z) ls H locs ⟨lv_sub hl [0, 1] rfl, hP, hD, hS⟩ hf
    · skip
      rw [if_neg c_88] at hf
      refine lv_iload_n hx hb dX4_reckon_34 rfl (lv_at hl 1 rfl) ?_
      refine lv_bipush (v := 33) hx hb dX4_reckon_35 (by decide) ?_
      refine lv_icmp_ne (tgt := 48) hx hb dX4_reckon_37 (by decide) (fun c_89 => ?_) (fun c_89 => ?_)
      · skip
        rw [if_neg c_89] at hf
        refine lv_aload_n hx hb dX4_reckon_48 rfl (lv_at hl 0 rfl) ?_
        obtain ⟨g_92, hf⟩ := grd_some hf
        obtain ⟨kg_92, sg_92⟩ := okO_at g_92
        obtain ⟨z_90, r_91, hfc, hf⟩ := cal_some hf
        have hFc := de_free hD hS hA
        refine va_calli (va_runV (As := []) (rest := []) ⟨hx, hb, hml, hown, hts⟩ (de_X4_pop l dC dI cy a sh n H.size F z h0 hfc) (cwV 0 hts gX4_reckon_X4_pop rfl rfl rfl (by decide +kernel) ⟨Nat.le_of_ble_eq_true rfl, Nat.le_of_ble_eq_true rfl⟩) ⟨fun a U g mk q => by obtain ⟨q0, q1, qP, qK, qD, qN⟩ := q; exact ⟨q0, q1, qP, va_K.moved (u := U) (U := U.calling g mk a) (Vm.Alike.refl U.vm) qK, qD, qN.same rfl⟩, va_recv hK hP (ci := 4) (q0 := h0) rfl (Wd_ob kg_92 sg_92 (by decide)), fun U hU hW => ⟨rfl, by rw [hU], by rw [hU]; exact hP, va_K.moved hW.alike hK, hD.weaken (fun _ _ _ _ => trivial), hN.warm hW⟩⟩ rfl rfl hl.1 rfl (lv_room (Nat.le_of_ble_eq_true rfl)) dX4_reckon_49 ⟨Nat.le_of_ble_eq_true rfl, Nat.le_of_ble_eq_true rfl⟩) hS (fun q _ h => hFc q h) hFc (fun rr u t H_93 locs ht hvm hw hB hz1 hk1 hS2 => ?_)
        rw [hw]
        clear hw
        obtain ⟨hP1, -, hD1⟩ := hB
        rw [ht] at hP1
        replace hD := hD1.weaken (fun _ _ _ h => hFc _ h)
        replace hP := hP1
        replace hS := hS2
        clear hP1 hD1 hS2 hFc hfc hz1 hk1 hvm ht
        exact B52 (z_90, r_91) ls H_93 locs ⟨lv_sub hl [0, 1] rfl, hP, hD, hS⟩ hf
      · skip
        rw [if_pos c_89] at hf
        exact B40 (z) ls H locs ⟨lv_sub hl [0, 1] rfl, hP, hD, hS⟩ hf
  · skip
    rw [if_pos c_1] at hf
    refine lv_aload_n hx hb dX4_reckon_6 rfl (lv_at hl 0 rfl) ?_
    refine lv_iconst (v := 1) hx hb dX4_reckon_7 (by decide) ?_
    refine lv_lconst (v := 0) hx hb dX4_reckon_8 (by decide) ?_
    refine lv_lconst (v := 1) hx hb dX4_reckon_9 (by decide) ?_
    refine lv_aload_n hx hb dX4_reckon_10 rfl (lv_at hl 0 rfl) ?_
    obtain ⟨g_94, hf⟩ := grd_some hf
    obtain ⟨kg_94, sg_94⟩ := okO_at g_94
    obtain ⟨k_95, ek_95, hf⟩ := lnk_some hf
    refine va_get (D := (dC, dI)) (ci := 4) (v := .ref (a k_95)) (C := RX4) (T := TX4) (N := 18) hx hb hts iwd_X4_reckon_X4 hown hK hP h0 (Wd_ob kg_94 sg_94 (by decide)) rfl 1 (by decide) (hts _ md_X4_reckon_1) (fun _ h9 => h9) (fl_q rfl ek_95) dX4_reckon_11 ?_
    obtain ⟨g_96, hf⟩ := grd_some hf
    obtain ⟨kg_96, sg_96⟩ := okO_at g_96
    obtain ⟨k_97, ek_97, hf⟩ := lnk_some hf
    refine va_get (D := (dC, dI)) (ci := 1) (v := .ref (a k_97)) (C := RX1) (T := TX1) (N := 7) hx hb hts iwd_X4_reckon_X1 hown hK hP k_95 (Wd_ob kg_96 sg_96 (by decide)) rfl 1 (by decide) (hts _ md_X4_reckon_2) (fun _ h9 => h9) (fl_q rfl ek_97) dX4_reckon_14 ?_
    refine lv_aload_n hx hb dX4_reckon_17 rfl (lv_at hl 0 rfl) ?_
    refine lv_iconst (v := 1) hx hb dX4_reckon_18 (by decide) ?_
    obtain ⟨z_98, r_99, hfc, hf⟩ := cal_some hf
    have hFc := de_free hD hS hA
    refine va_calli (va_runV (As := [.int 1]) (rest := [.ref (a k_97), .long 1, .long 0, .int 1, .ref (a h0)]) ⟨hx, hb, hml, hown, hts⟩ (de_X4_popOf l dC dI cy a sh n H.size F z h0 1 hfc) (cwV 1 hts gX4_reckon_X4_popOf rfl rfl rfl (by decide +kernel) ⟨Nat.le_of_ble_eq_true rfl, Nat.le_of_ble_eq_true rfl⟩) ⟨fun a U g mk q => by obtain ⟨q0, q1, qP, qK, qD, qN⟩ := q; exact ⟨q0, q1, qP, va_K.moved (u := U) (U := U.calling g mk a) (Vm.Alike.refl U.vm) qK, qD, qN.same rfl⟩, va_recv hK hP (ci := 4) (q0 := h0) rfl (Wd_ob kg_94 sg_94 (by decide)), fun U hU hW => ⟨rfl, by rw [hU], by rw [hU]; exact hP, va_K.moved hW.alike hK, hD.weaken (fun _ _ _ _ => trivial), hN.warm hW⟩⟩ rfl rfl hl.1 rfl (lv_room (Nat.le_of_ble_eq_true rfl)) dX4_reckon_19 ⟨Nat.le_of_ble_eq_true rfl, Nat.le_of_ble_eq_true rfl⟩) hS (fun q _ h => hFc q h) hFc (fun rr u t H_100 locs ht hvm hw hB hz1 hk1 hS2 => ?_)
    rw [hw]
    clear hw
    obtain ⟨hP1, -, hD1⟩ := hB
    rw [ht] at hP1
    replace hD := hD1.weaken (fun _ _ _ h => hFc _ h)
    replace hP := hP1
    replace hS := hS2
    clear hP1 hD1 hS2 hFc hfc hz1 hk1 hvm ht
    obtain ⟨g_101, hf⟩ := grd_some hf
    obtain ⟨kg_101, sg_101, ig_101⟩ := okA_at g_101
    refine va_lald hx hb hK hP k_97 2 (Wd_al kg_101 sg_101) rfl ig_101 dX4_reckon_22 ?_
    refine lv_lsub hx hb dX4_reckon_23 ?_
    obtain ⟨z_102, _u, hfc, hf⟩ := cal_some hf
    have hFc := de_free hD hS hA
    refine va_callv (va_runV (As := [.int 1, .long 0, .long (1 - (z_98.2.1 k_97 r_99.toNatClampNeg))]) (rest := []) ⟨hx, hb, hml, hown, hts⟩ (de_X4_pushNumber l dC dI cy a sh n H_100.size F z_98 h0 1 0 (1 - (z_98.2.1 k_97 r_99.toNatClampNeg)) hfc) (cwV 3 hts gX4_reckon_X4_pushNumber rfl rfl rfl (by decide +kernel) ⟨Nat.le_of_ble_eq_true rfl, Nat.le_of_ble_eq_true rfl⟩) ⟨fun a U g mk q => by obtain ⟨q0, q1, qP, qK, qD, qN⟩ := q; exact ⟨q0, q1, qP, va_K.moved (u := U) (U := U.calling g mk a) (Vm.Alike.refl U.vm) qK, qD, qN.same rfl⟩, va_recv hK hP (ci := 4) (q0 := h0) rfl (Wd_ob kg_94 sg_94 (by decide)), fun U hU hW => ⟨rfl, by rw [hU], by rw [hU]; exact hP, va_K.moved hW.alike hK, hD.weaken (fun _ _ _ _ => trivial), hN.warm hW⟩⟩ rfl rfl hl.1 rfl (lv_room (Nat.le_of_ble_eq_true rfl)) dX4_reckon_24 ⟨Nat.le_of_ble_eq_true rfl, Nat.le_of_ble_eq_true rfl⟩) hS (fun q _ h => hFc q h) hFc (fun u t H_103 locs ht hvm hw hB hz1 hk1 hS2 => ?_)
    obtain ⟨hP1, -, hD1⟩ := hB
    rw [ht] at hP1
    replace hD := hD1.weaken (fun _ _ _ h => hFc _ h)
    replace hP := hP1
    replace hS := hS2
    clear hP1 hD1 hS2 hFc hfc hz1 hk1 hvm ht
    obtain ⟨h8, h9⟩ := ret_some hf
    rw [h8]
    exact W.vret hx hb hr (fun t ht hW => ⟨⟨(), rfl, trivial, by rw [ht]; exact hP, va_K.moved hW.alike hK, hD⟩, hS.F ht⟩) hS.2.2 dX4_reckon_27

theorem md_X4_useCoin_2 : (.fieldLink RX4 12 "ResourceLedger$Machine" "heap" "LResourceLedger$Heap;" : Cond) ∈ wsX4_useCoin := List.mem_of_getElem? (i := 2) rfl
theorem iwd_X4_useCoin_X4 : ∀ w ∈ wsX40, w ∈ wsX4_useCoin := fun _ h => List.mem_cons_of_mem _ (List.mem_append_left _ (List.mem_append_left _ (List.mem_append_left _ (List.mem_append_left _ (List.mem_append_right _ h)))))
theorem md_X4_useCoin_3 : (.fieldLink RX4 163 "ResourceLedger$Heap" "low" "[J" : Cond) ∈ wsX4_useCoin := List.mem_of_getElem? (i := 3) rfl
theorem iwd_X4_useCoin_X1 : ∀ w ∈ wsX10, w ∈ wsX4_useCoin := fun _ h => List.mem_cons_of_mem _ (List.mem_append_left _ (List.mem_append_left _ (List.mem_append_left _ (List.mem_append_right _ h))))
theorem md_X4_useCoin_1 : (.fieldLink RX4 67 "ResourceLedger$Machine" "journal" "LResourceLedger$Journal;" : Cond) ∈ wsX4_useCoin := List.mem_of_getElem? (i := 1) rfl
theorem md_X4_useCoin_6 : (.fieldLink RX4 329 "ResourceLedger$Journal" "balance" "[J" : Cond) ∈ wsX4_useCoin := List.mem_of_getElem? (i := 6) rfl
theorem iwd_X4_useCoin_X2 : ∀ w ∈ wsX20, w ∈ wsX4_useCoin := fun _ h => List.mem_cons_of_mem _ (List.mem_append_left _ (List.mem_append_left _ (List.mem_append_right _ h)))
theorem md_X4_useCoin_5 : (.fieldLink RX4 325 "ResourceLedger$Journal" "isThere" "[Z" : Cond) ∈ wsX4_useCoin := List.mem_of_getElem? (i := 5) rfl
theorem md_X4_useCoin_4 : (.constantLong RX4 151 (4) : Cond) ∈ wsX4_useCoin := List.mem_of_getElem? (i := 4) rfl
set_option maxHeartbeats 4000000 in
set_option maxRecDepth 100000 in
theorem de_X4_useCoin (l : Launch) (dC : Nat → ClassId) (dI : Nat → Nat → Nat) (cy : Nat → ClassId) (a : Nat → Nat) (sh : Nat → Nat × Nat) (n sz : Nat) (F : Nat) (z : St) (h0 : Nat) (x0 : Int32) {z8 : St} {r8 : Unit} (hf : fn_X4_useCoin F sh n z h0 x0 = some (z8, r8)) : Met l yX4_useCoin wsX4_useCoin ({ frames := 52, cells := 0, slots := 0, locals := 1446 }) (va_Pc [.ref (a h0), .int x0] (fun U => U.heap.size = sz ∧ va_P (dC, dI) vwCl (Wd cy a sh n z) U.heap ∧ va_K (dC, dI) vwCl (TYS cy) U ∧ va_D (fun _ => True) (Wd cy a sh n z) ∧ NK U)) (va_Qv (fun u : Unit => True) (fun u t => va_P (dC, dI) vwCl (Wd cy a sh n z8) t.heap ∧ va_K (dC, dI) vwCl (TYS cy) t ∧ va_D (va_A (Wd cy a sh n z) sz) (Wd cy a sh n z8)) (va_A (Wd cy a sh n z) sz)) 0 0 (va_A (Wd cy a sh n z) sz) := by
  refine Met.ofW (cc := cX4_useCoin) (maxL := 5) (ret := none) (by decide) rfl ?_
  intro p e s m args below meth c s₁ B hml hv
  obtain ⟨rfl, hsz, hP, hK, hD0, hN⟩ := hv
  have hx := B.exec
  have hb := B.bytes
  have hr := B.returns
  have hts := atoms_spec (ws := wsX4_useCoin) B.pre
  have hown : s.vm.findClass RX4 = some m.cls := findClass_of_methodNamed B.named
  have hlocks := B.notSynchronized
  subst hsz
  have hD := hD0.self (sz := s.heap.size)
  clear hD0
  generalize hAe : va_A (Wd cy a sh n z) s.heap.size = A at hD ⊢
  have hA : ∀ q : Nat, s.heap.size ≤ q → A q := fun q h => by rw [← hAe]; exact Or.inr h
  clear hAe
  have hS : va_S A s.heap s.heap [] := va_S.rf
  have hl := lv_entry ([.ref (a h0), .int x0]) (n := 5) (Nat.le_of_ble_eq_true rfl)
  rw [lg_entry_eq]
  generalize (lg_sl ([.ref (a h0), .int x0]) ++ List.replicate (5 - (lg_sl ([.ref (a h0), .int x0])).length) Slot.unset).toArray = ls at hl ⊢
  replace hl : lv_has ls 5 [(0, .ref (a h0)), (1, .int x0)] := hl
  unfold fn_X4_useCoin at hf
  refine de_start hS hP (fun H locs hS hP => ?_)
  refine lv_iconst (v := 0) hx hb dX4_useCoin_0 (by decide) ?_
  refine lv_istore_n (lv' := [(2, .int 0), (0, .ref (a h0)), (1, .int x0)]) hx hb dX4_useCoin_1 rfl hl (by decide) rfl (fun ls hl2 => ?_)
  replace hl := hl2
  clear hl2
  refine lv_iload_n hx hb dX4_useCoin_2 rfl (lv_at hl 2 rfl) ?_
  refine lv_iconst (v := 1) hx hb dX4_useCoin_3 (by decide) ?_
  refine de_cut (h := 45) (fun (x : St × Int32) => []) (fun x ls H locs => lv_has ls 5 [(2, .int x.2), (0, .ref (a h0)), (1, .int x0)] ∧ va_P (dC, dI) vwCl (Wd cy a sh n x.1) H ∧ va_D A (Wd cy a sh n x.1) ∧ va_S A s.heap H locs) (fun x => fn_X4_useCoin_B45 F sh n h0 x0 x.1 x.2) (z8, r8) ?_ (fun B45 => ?_)
  · intro x ls H locs hI hf
    obtain ⟨z_2, p_1⟩ := x
    obtain ⟨hl2, hP2, hD2, hS2⟩ := hI
    replace hl : lv_has ls 5 [(2, .int p_1), (0, .ref (a h0)), (1, .int x0)] := hl2
    replace hP := hP2
    replace hD := hD2
    replace hS := hS2
    clear hl2 hP2 hD2 hS2
    replace hf := fn_X4_useCoin_B45_s hf
    refine W.eq (g2 := F0 m 45 ls []) rfl ?_
    refine lv_iload_n hx hb dX4_useCoin_45 rfl (lv_at hl 0 rfl) ?_
    refine lv_if_ge (tgt := 58) hx hb dX4_useCoin_46 (by decide) (fun c_3 => ?_) (fun c_3 => ?_)
    · skip
      rw [if_pos c_3] at hf
      refine lv_aload_n hx hb dX4_useCoin_58 rfl (lv_at hl 1 rfl) ?_
      refine lv_iconst (v := 5) hx hb dX4_useCoin_59 (by decide) ?_
      obtain ⟨g_6, hf⟩ := grd_some hf
      obtain ⟨kg_6, sg_6⟩ := okO_at g_6
      obtain ⟨z_4, r_5, hfc, hf⟩ := cal_some hf
      have hFc := de_free hD hS hA
      refine va_calli (va_runV (As := [.int 5]) (rest := []) ⟨hx, hb, hml, hown, hts⟩ (de_X4_pay l dC dI cy a sh n H.size F z_2 h0 5 hfc) (cwV 1 hts gX4_useCoin_X4_pay rfl rfl rfl (by decide +kernel) ⟨Nat.le_of_ble_eq_true rfl, Nat.le_of_ble_eq_true rfl⟩) ⟨fun a U g mk q => by obtain ⟨q0, q1, qP, qK, qD, qN⟩ := q; exact ⟨q0, q1, qP, va_K.moved (u := U) (U := U.calling g mk a) (Vm.Alike.refl U.vm) qK, qD, qN.same rfl⟩, va_recv hK hP (ci := 4) (q0 := h0) rfl (Wd_ob kg_6 sg_6 (by decide)), fun U hU hW => ⟨rfl, by rw [hU], by rw [hU]; exact hP, va_K.moved hW.alike hK, hD.weaken (fun _ _ _ _ => trivial), hN.warm hW⟩⟩ rfl rfl hl.1 rfl (lv_room (Nat.le_of_ble_eq_true rfl)) dX4_useCoin_60 ⟨Nat.le_of_ble_eq_true rfl, Nat.le_of_ble_eq_true rfl⟩) hS (fun q _ h => hFc q h) hFc (fun rr u t H_7 locs ht hvm hw hB hz1 hk1 hS2 => ?_)
      rw [hw]
      clear hw
      obtain ⟨hP1, -, hD1⟩ := hB
      rw [ht] at hP1
      replace hD := hD1.weaken (fun _ _ _ h => hFc _ h)
      replace hP := hP1
      replace hS := hS2
      clear hP1 hD1 hS2 hFc hfc hz1 hk1 hvm ht
      refine lv_if_ne (tgt := 67) hx hb dX4_useCoin_63 (by decide) (fun c_8 => ?_) (fun c_8 => ?_)
      · skip
        rw [if_neg c_8] at hf
        refine lv_aload_n hx hb dX4_useCoin_67 rfl (lv_at hl 1 rfl) ?_
        obtain ⟨k_9, ek_9, hf⟩ := lnk_some hf
        refine va_get (D := (dC, dI)) (ci := 4) (v := .ref (a k_9)) (C := RX4) (T := TX4) (N := 18) hx hb hts iwd_X4_useCoin_X4 hown hK hP h0 (Wd_ob kg_6 sg_6 (by decide)) rfl 1 (by decide) (hts _ md_X4_useCoin_2) (fun _ h9 => h9) (fl_q rfl ek_9) dX4_useCoin_68 ?_
        obtain ⟨g_10, hf⟩ := grd_some hf
        obtain ⟨kg_10, sg_10⟩ := okO_at g_10
        obtain ⟨k_11, ek_11, hf⟩ := lnk_some hf
        refine va_get (D := (dC, dI)) (ci := 1) (v := .ref (a k_11)) (C := RX1) (T := TX1) (N := 7) hx hb hts iwd_X4_useCoin_X1 hown hK hP k_9 (Wd_ob kg_10 sg_10 (by decide)) rfl 1 (by decide) (hts _ md_X4_useCoin_3) (fun _ h9 => h9) (fl_q rfl ek_11) dX4_useCoin_71 ?_
        refine lv_aload_n hx hb dX4_useCoin_74 rfl (lv_at hl 1 rfl) ?_
        refine lv_iconst (v := 0) hx hb dX4_useCoin_75 (by decide) ?_
        obtain ⟨z_12, r_13, hfc, hf⟩ := cal_some hf
        have hFc := de_free hD hS hA
        refine va_calli (va_runV (As := [.int 0]) (rest := [.ref (a k_11)]) ⟨hx, hb, hml, hown, hts⟩ (de_X4_peek l dC dI cy a sh n H_7.size F z_4 h0 0 hfc) (cwV 1 hts gX4_useCoin_X4_peek rfl rfl rfl (by decide +kernel) ⟨Nat.le_of_ble_eq_true rfl, Nat.le_of_ble_eq_true rfl⟩) ⟨fun a U g mk q => by obtain ⟨q0, q1, qP, qK, qD, qN⟩ := q; exact ⟨q0, q1, qP, va_K.moved (u := U) (U := U.calling g mk a) (Vm.Alike.refl U.vm) qK, qD, qN.same rfl⟩, va_recv hK hP (ci := 4) (q0 := h0) rfl (Wd_ob kg_6 sg_6 (by decide)), fun U hU hW => ⟨rfl, by rw [hU], by rw [hU]; exact hP, va_K.moved hW.alike hK, hD.weaken (fun _ _ _ _ => trivial), hN.warm hW⟩⟩ rfl rfl hl.1 rfl (lv_room (Nat.le_of_ble_eq_true rfl)) dX4_useCoin_76 ⟨Nat.le_of_ble_eq_true rfl, Nat.le_of_ble_eq_true rfl⟩) hS (fun q _ h => hFc q h) hFc (fun rr u t H_14 locs ht hvm hw hB hz1 hk1 hS2 => ?_)
        rw [hw]
        clear hw
        obtain ⟨hP1, -, hD1⟩ := hB
        rw [ht] at hP1
        replace hD := hD1.weaken (fun _ _ _ h => hFc _ h)
        replace hP := hP1
        replace hS := hS2
        clear hP1 hD1 hS2 hFc hfc hz1 hk1 hvm ht
        obtain ⟨g_15, hf⟩ := grd_some hf
        obtain ⟨kg_15, sg_15, ig_15⟩ := okA_at g_15
        refine va_lald hx hb hK hP k_11 2 (Wd_al kg_15 sg_15) rfl ig_15 dX4_useCoin_79 ?_
        refine lv_topl (fun v_16 ev_16 => ?_)
        replace hf := lt_at ev_16 hf
        clear ev_16
        refine lv_lstore_n (lv' := [(3, .long v_16), (2, .int p_1), (0, .ref (a h0)), (1, .int x0)]) hx hb dX4_useCoin_80 rfl hl (by decide) rfl (fun ls hl2 => ?_)
        replace hl := hl2
        clear hl2
        refine lv_iload_n hx hb dX4_useCoin_81 rfl (lv_at hl 3 rfl) ?_
        refine lv_if_ne (tgt := 93) hx hb dX4_useCoin_82 (by decide) (fun c_17 => ?_) (fun c_17 => ?_)
        · skip
          rw [if_neg c_17] at hf
          refine lv_iload_n hx hb dX4_useCoin_93 rfl (lv_at hl 3 rfl) ?_
          refine lv_iconst (v := 1) hx hb dX4_useCoin_94 (by decide) ?_
          refine lv_icmp_ne (tgt := 137) hx hb dX4_useCoin_95 (by decide) (fun c_18 => ?_) (fun c_18 => ?_)
          · skip
            rw [if_neg c_18] at hf
            refine lv_iload_n hx hb dX4_useCoin_137 rfl (lv_at hl 3 rfl) ?_
            refine lv_iconst (v := 2) hx hb dX4_useCoin_138 (by decide) ?_
            refine lv_icmp_ne (tgt := 167) hx hb dX4_useCoin_139 (by decide) (fun c_19 => ?_) (fun c_19 => ?_)
            · skip
              rw [if_neg c_19] at hf
              refine lv_iload_n hx hb dX4_useCoin_167 rfl (lv_at hl 3 rfl) ?_
              refine lv_iconst (v := 3) hx hb dX4_useCoin_168 (by decide) ?_
              refine lv_icmp_ne (tgt := 205) hx hb dX4_useCoin_169 (by decide) (fun c_20 => ?_) (fun c_20 => ?_)
              · skip
                rw [if_neg c_20] at hf
                refine lv_iload_n hx hb dX4_useCoin_205 rfl (lv_at hl 3 rfl) ?_
                refine lv_iconst (v := 4) hx hb dX4_useCoin_206 (by decide) ?_
                refine lv_icmp_ne (tgt := 218) hx hb dX4_useCoin_207 (by decide) (fun c_21 => ?_) (fun c_21 => ?_)
                · skip
                  rw [if_neg c_21] at hf
                  refine lv_aload_n hx hb dX4_useCoin_218 rfl (lv_at hl 2 rfl) ?_
                  refine lv_iconst (v := 5) hx hb dX4_useCoin_219 (by decide) ?_
                  obtain ⟨z_22, r_23, hfc, hf⟩ := cal_some hf
                  have hFc := de_free hD hS hA
                  refine va_calli (va_runV (As := [.int 5]) (rest := []) ⟨hx, hb, hml, hown, hts⟩ (de_X4_popOf l dC dI cy a sh n H_14.size F z_12 h0 5 hfc) (cwV 1 hts gX4_useCoin_X4_popOf rfl rfl rfl (by decide +kernel) ⟨Nat.le_of_ble_eq_true rfl, Nat.le_of_ble_eq_true rfl⟩) ⟨fun a U g mk q => by obtain ⟨q0, q1, qP, qK, qD, qN⟩ := q; exact ⟨q0, q1, qP, va_K.moved (u := U) (U := U.calling g mk a) (Vm.Alike.refl U.vm) qK, qD, qN.same rfl⟩, va_recv hK hP (ci := 4) (q0 := h0) rfl (Wd_ob kg_6 sg_6 (by decide)), fun U hU hW => ⟨rfl, by rw [hU], by rw [hU]; exact hP, va_K.moved hW.alike hK, hD.weaken (fun _ _ _ _ => trivial), hN.warm hW⟩⟩ rfl rfl hl.1 rfl (lv_room (Nat.le_of_ble_eq_true rfl)) dX4_useCoin_220 ⟨Nat.le_of_ble_eq_true rfl, Nat.le_of_ble_eq_true rfl⟩) hS (fun q _ h => hFc q h) hFc (fun rr u t H_24 locs ht hvm hw hB hz1 hk1 hS2 => ?_)
                  rw [hw]
                  clear hw
                  obtain ⟨hP1, -, hD1⟩ := hB
                  rw [ht] at hP1
                  replace hD := hD1.weaken (fun _ _ _ h => hFc _ h)
                  replace hP := hP1
                  replace hS := hS2
                  clear hP1 hD1 hS2 hFc hfc hz1 hk1 hvm ht
                  refine lv_pop hx hb dX4_useCoin_223 rfl ?_
                  refine lv_aload_n hx hb dX4_useCoin_224 rfl (lv_at hl 2 rfl) ?_
                  refine lv_iconst (v := 3) hx hb dX4_useCoin_225 (by decide) ?_
                  refine lv_lconst (v := 0) hx hb dX4_useCoin_226 (by decide) ?_
                  refine lv_aload_n hx hb dX4_useCoin_227 rfl (lv_at hl 2 rfl) ?_
                  obtain ⟨k_25, ek_25, hf⟩ := lnk_some hf
                  refine va_get (D := (dC, dI)) (ci := 4) (v := .ref (a k_25)) (C := RX4) (T := TX4) (N := 18) hx hb hts iwd_X4_useCoin_X4 hown hK hP h0 (Wd_ob kg_6 sg_6 (by decide)) rfl 2 (by decide) (hts _ md_X4_useCoin_1) (fun _ h9 => h9) (fl_q rfl ek_25) dX4_useCoin_228 ?_
                  obtain ⟨g_26, hf⟩ := grd_some hf
                  obtain ⟨kg_26, sg_26⟩ := okO_at g_26
                  obtain ⟨k_27, ek_27, hf⟩ := lnk_some hf
                  refine va_get (D := (dC, dI)) (ci := 2) (v := .ref (a k_27)) (C := RX2) (T := TX2) (N := 11) hx hb hts iwd_X4_useCoin_X2 hown hK hP k_25 (Wd_ob kg_26 sg_26 (by decide)) rfl 9 (by decide) (hts _ md_X4_useCoin_6) (fun _ h9 => h9) (fl_q rfl ek_27) dX4_useCoin_231 ?_
                  refine lv_iload_n hx hb dX4_useCoin_234 rfl (lv_at hl 1 rfl) ?_
                  obtain ⟨g_28, hf⟩ := grd_some hf
                  obtain ⟨kg_28, sg_28, ig_28⟩ := okA_at g_28
                  refine va_lald hx hb hK hP k_27 2 (Wd_al kg_28 sg_28) rfl ig_28 dX4_useCoin_235 ?_
                  obtain ⟨z_29, _u, hfc, hf⟩ := cal_some hf
                  have hFc := de_free hD hS hA
                  refine va_callv (va_runV (As := [.int 3, .long 0, .long (z_22.2.1 k_27 p_1.toNatClampNeg)]) (rest := []) ⟨hx, hb, hml, hown, hts⟩ (de_X4_pushNumber l dC dI cy a sh n H_24.size F z_22 h0 3 0 (z_22.2.1 k_27 p_1.toNatClampNeg) hfc) (cwV 3 hts gX4_useCoin_X4_pushNumber rfl rfl rfl (by decide +kernel) ⟨Nat.le_of_ble_eq_true rfl, Nat.le_of_ble_eq_true rfl⟩) ⟨fun a U g mk q => by obtain ⟨q0, q1, qP, qK, qD, qN⟩ := q; exact ⟨q0, q1, qP, va_K.moved (u := U) (U := U.calling g mk a) (Vm.Alike.refl U.vm) qK, qD, qN.same rfl⟩, va_recv hK hP (ci := 4) (q0 := h0) rfl (Wd_ob kg_6 sg_6 (by decide)), fun U hU hW => ⟨rfl, by rw [hU], by rw [hU]; exact hP, va_K.moved hW.alike hK, hD.weaken (fun _ _ _ _ => trivial), hN.warm hW⟩⟩ rfl rfl hl.1 rfl (lv_room (Nat.le_of_ble_eq_true rfl)) dX4_useCoin_236 ⟨Nat.le_of_ble_eq_true rfl, Nat.le_of_ble_eq_true rfl⟩) hS (fun q _ h => hFc q h) hFc (fun u t H_30 locs ht hvm hw hB hz1 hk1 hS2 => ?_)
                  obtain ⟨hP1, -, hD1⟩ := hB
                  rw [ht] at hP1
                  replace hD := hD1.weaken (fun _ _ _ h => hFc _ h)
                  replace hP := hP1
                  replace hS := hS2
                  clear hP1 hD1 hS2 hFc hfc hz1 hk1 hvm ht
                  obtain ⟨h8, h9⟩ := ret_some hf
                  rw [h8]
                  exact W.vret hx hb hr (fun t ht hW => ⟨⟨(), rfl, trivial, by rw [ht]; exact hP, va_K.moved hW.alike hK, hD⟩, hS.F ht⟩) hS.2.2 dX4_useCoin_239
                · skip
                  rw [if_pos c_21] at hf
                  refine lv_aload_n hx hb dX4_useCoin_210 rfl (lv_at hl 2 rfl) ?_
                  refine lv_lload_n hx hb dX4_useCoin_211 rfl (lv_at hl 0 rfl) ?_
                  obtain ⟨z_31, _u, hfc, hf⟩ := cal_some hf
                  have hFc := de_free hD hS hA
                  refine va_callv (va_runV (As := [.long v_16]) (rest := []) ⟨hx, hb, hml, hown, hts⟩ (de_X4_split l dC dI cy a sh n H_14.size F z_12 h0 v_16 hfc) (cwV 1 hts gX4_useCoin_X4_split rfl rfl rfl (by decide +kernel) ⟨Nat.le_of_ble_eq_true rfl, Nat.le_of_ble_eq_true rfl⟩) ⟨fun a U g mk q => by obtain ⟨q0, q1, qP, qK, qD, qN⟩ := q; exact ⟨q0, q1, qP, va_K.moved (u := U) (U := U.calling g mk a) (Vm.Alike.refl U.vm) qK, qD, qN.same rfl⟩, va_recv hK hP (ci := 4) (q0 := h0) rfl (Wd_ob kg_6 sg_6 (by decide)), fun U hU hW => ⟨rfl, by rw [hU], by rw [hU]; exact hP, va_K.moved hW.alike hK, hD.weaken (fun _ _ _ _ => trivial), hN.warm hW⟩⟩ rfl rfl hl.1 rfl (lv_room (Nat.le_of_ble_eq_true rfl)) dX4_useCoin_212 ⟨Nat.le_of_ble_eq_true rfl, Nat.le_of_ble_eq_true rfl⟩) hS (fun q _ h => hFc q h) hFc (fun u t H_32 locs ht hvm hw hB hz1 hk1 hS2 => ?_)
                  obtain ⟨hP1, -, hD1⟩ := hB
                  rw [ht] at hP1
                  replace hD := hD1.weaken (fun _ _ _ h => hFc _ h)
                  replace hP := hP1
                  replace hS := hS2
                  clear hP1 hD1 hS2 hFc hfc hz1 hk1 hvm ht
                  refine lv_goto (tgt := 239) hx hb dX4_useCoin_215 (by decide) ?_
                  obtain ⟨h8, h9⟩ := ret_some hf
                  rw [h8]
                  exact W.vret hx hb hr (fun t ht hW => ⟨⟨(), rfl, trivial, by rw [ht]; exact hP, va_K.moved hW.alike hK, hD⟩, hS.F ht⟩) hS.2.2 dX4_useCoin_239
              · skip
                rw [if_pos c_20] at hf
                refine lv_aload_n hx hb dX4_useCoin_172 rfl (lv_at hl 2 rfl) ?_
                refine lv_bipush (v := 10) hx hb dX4_useCoin_173 (by decide) ?_
                obtain ⟨z_33, r_34, hfc, hf⟩ := cal_some hf
                have hFc := de_free hD hS hA
                refine va_calli (va_runV (As := [.int 10]) (rest := []) ⟨hx, hb, hml, hown, hts⟩ (de_X4_popOf l dC dI cy a sh n H_14.size F z_12 h0 10 hfc) (cwV 1 hts gX4_useCoin_X4_popOf rfl rfl rfl (by decide +kernel) ⟨Nat.le_of_ble_eq_true rfl, Nat.le_of_ble_eq_true rfl⟩) ⟨fun a U g mk q => by obtain ⟨q0, q1, qP, qK, qD, qN⟩ := q; exact ⟨q0, q1, qP, va_K.moved (u := U) (U := U.calling g mk a) (Vm.Alike.refl U.vm) qK, qD, qN.same rfl⟩, va_recv hK hP (ci := 4) (q0 := h0) rfl (Wd_ob kg_6 sg_6 (by decide)), fun U hU hW => ⟨rfl, by rw [hU], by rw [hU]; exact hP, va_K.moved hW.alike hK, hD.weaken (fun _ _ _ _ => trivial), hN.warm hW⟩⟩ rfl rfl hl.1 rfl (lv_room (Nat.le_of_ble_eq_true rfl)) dX4_useCoin_175 ⟨Nat.le_of_ble_eq_true rfl, Nat.le_of_ble_eq_true rfl⟩) hS (fun q _ h => hFc q h) hFc (fun rr u t H_35 locs ht hvm hw hB hz1 hk1 hS2 => ?_)
                rw [hw]
                clear hw
                obtain ⟨hP1, -, hD1⟩ := hB
                rw [ht] at hP1
                replace hD := hD1.weaken (fun _ _ _ h => hFc _ h)
                replace hP := hP1
                replace hS := hS2
                clear hP1 hD1 hS2 hFc hfc hz1 hk1 hvm ht
                refine lv_pop hx hb dX4_useCoin_178 rfl ?_
                refine lv_aload_n hx hb dX4_useCoin_179 rfl (lv_at hl 2 rfl) ?_
                refine lv_bipush (v := 10) hx hb dX4_useCoin_180 (by decide) ?_
                refine lv_lconst (v := 0) hx hb dX4_useCoin_182 (by decide) ?_
                refine lv_aload_n hx hb dX4_useCoin_183 rfl (lv_at hl 2 rfl) ?_
                obtain ⟨k_36, ek_36, hf⟩ := lnk_some hf
                refine va_get (D := (dC, dI)) (ci := 4) (v := .ref (a k_36)) (C := RX4) (T := TX4) (N := 18) hx hb hts iwd_X4_useCoin_X4 hown hK hP h0 (Wd_ob kg_6 sg_6 (by decide)) rfl 1 (by decide) (hts _ md_X4_useCoin_2) (fun _ h9 => h9) (fl_q rfl ek_36) dX4_useCoin_184 ?_
                obtain ⟨g_37, hf⟩ := grd_some hf
                obtain ⟨kg_37, sg_37⟩ := okO_at g_37
                obtain ⟨k_38, ek_38, hf⟩ := lnk_some hf
                refine va_get (D := (dC, dI)) (ci := 1) (v := .ref (a k_38)) (C := RX1) (T := TX1) (N := 7) hx hb hts iwd_X4_useCoin_X1 hown hK hP k_36 (Wd_ob kg_37 sg_37 (by decide)) rfl 1 (by decide) (hts _ md_X4_useCoin_3) (fun _ h9 => h9) (fl_q rfl ek_38) dX4_useCoin_187 ?_
                refine lv_aload_n hx hb dX4_useCoin_190 rfl (lv_at hl 2 rfl) ?_
                refine lv_bipush (v := 10) hx hb dX4_useCoin_191 (by decide) ?_
                obtain ⟨z_39, r_40, hfc, hf⟩ := cal_some hf
                have hFc := de_free hD hS hA
                refine va_calli (va_runV (As := [.int 10]) (rest := [.ref (a k_38), .long 0, .int 10, .ref (a h0)]) ⟨hx, hb, hml, hown, hts⟩ (de_X4_popOf l dC dI cy a sh n H_35.size F z_33 h0 10 hfc) (cwV 1 hts gX4_useCoin_X4_popOf rfl rfl rfl (by decide +kernel) ⟨Nat.le_of_ble_eq_true rfl, Nat.le_of_ble_eq_true rfl⟩) ⟨fun a U g mk q => by obtain ⟨q0, q1, qP, qK, qD, qN⟩ := q; exact ⟨q0, q1, qP, va_K.moved (u := U) (U := U.calling g mk a) (Vm.Alike.refl U.vm) qK, qD, qN.same rfl⟩, va_recv hK hP (ci := 4) (q0 := h0) rfl (Wd_ob kg_6 sg_6 (by decide)), fun U hU hW => ⟨rfl, by rw [hU], by rw [hU]; exact hP, va_K.moved hW.alike hK, hD.weaken (fun _ _ _ _ => trivial), hN.warm hW⟩⟩ rfl rfl hl.1 rfl (lv_room (Nat.le_of_ble_eq_true rfl)) dX4_useCoin_193 ⟨Nat.le_of_ble_eq_true rfl, Nat.le_of_ble_eq_true rfl⟩) hS (fun q _ h => hFc q h) hFc (fun rr u t H_41 locs ht hvm hw hB hz1 hk1 hS2 => ?_)
                rw [hw]
                clear hw
                obtain ⟨hP1, -, hD1⟩ := hB
                rw [ht] at hP1
                replace hD := hD1.weaken (fun _ _ _ h => hFc _ h)
                replace hP := hP1
                replace hS := hS2
                clear hP1 hD1 hS2 hFc hfc hz1 hk1 hvm ht
                obtain ⟨g_42, hf⟩ := grd_some hf
                obtain ⟨kg_42, sg_42, ig_42⟩ := okA_at g_42
                refine va_lald hx hb hK hP k_38 2 (Wd_al kg_42 sg_42) rfl ig_42 dX4_useCoin_196 ?_
                refine lv_lload_n hx hb dX4_useCoin_197 rfl (lv_at hl 0 rfl) ?_
                refine lv_ladd hx hb dX4_useCoin_198 ?_
                obtain ⟨z_43, _u, hfc, hf⟩ := cal_some hf
                have hFc := de_free hD hS hA
                refine va_callv (va_runV (As := [.int 10, .long 0, .long ((z_39.2.1 k_38 r_40.toNatClampNeg) + v_16)]) (rest := []) ⟨hx, hb, hml, hown, hts⟩ (de_X4_pushNumber l dC dI cy a sh n H_41.size F z_39 h0 10 0 ((z_39.2.1 k_38 r_40.toNatClampNeg) + v_16) hfc) (cwV 3 hts gX4_useCoin_X4_pushNumber rfl rfl rfl (by decide +kernel) ⟨Nat.le_of_ble_eq_true rfl, Nat.le_of_ble_eq_true rfl⟩) ⟨fun a U g mk q => by obtain ⟨q0, q1, qP, qK, qD, qN⟩ := q; exact ⟨q0, q1, qP, va_K.moved (u := U) (U := U.calling g mk a) (Vm.Alike.refl U.vm) qK, qD, qN.same rfl⟩, va_recv hK hP (ci := 4) (q0 := h0) rfl (Wd_ob kg_6 sg_6 (by decide)), fun U hU hW => ⟨rfl, by rw [hU], by rw [hU]; exact hP, va_K.moved hW.alike hK, hD.weaken (fun _ _ _ _ => trivial), hN.warm hW⟩⟩ rfl rfl hl.1 rfl (lv_room (Nat.le_of_ble_eq_true rfl)) dX4_useCoin_199 ⟨Nat.le_of_ble_eq_true rfl, Nat.le_of_ble_eq_true rfl⟩) hS (fun q _ h => hFc q h) hFc (fun u t H_44 locs ht hvm hw hB hz1 hk1 hS2 => ?_)
                obtain ⟨hP1, -, hD1⟩ := hB
                rw [ht] at hP1
                replace hD := hD1.weaken (fun _ _ _ h => hFc _ h)
                replace hP := hP1
                replace hS := hS2
                clear hP1 hD1 hS2 hFc hfc hz1 hk1 hvm ht
                refine lv_goto (tgt := 239) hx hb dX4_useCoin_202 (by decide) ?_
                obtain ⟨h8, h9⟩ := ret_some hf
                rw [h8]
                exact W.vret hx hb hr (fun t ht hW => ⟨⟨(), rfl, trivial, by rw [ht]; exact hP, va_K.moved hW.alike hK, hD⟩, hS.F ht⟩) hS.2.2 dX4_useCoin_239
            · skip
              rw [if_pos c_19] at hf
              refine lv_aload_n hx hb dX4_useCoin_142 rfl (lv_at hl 2 rfl) ?_
              refine lv_iconst (v := 3) hx hb dX4_useCoin_143 (by decide) ?_
              refine lv_lconst (v := 0) hx hb dX4_useCoin_144 (by decide) ?_
              refine lv_aload_n hx hb dX4_useCoin_145 rfl (lv_at hl 2 rfl) ?_
              obtain ⟨k_45, ek_45, hf⟩ := lnk_some hf
              refine va_get (D := (dC, dI)) (ci := 4) (v := .ref (a k_45)) (C := RX4) (T := TX4) (N := 18) hx hb hts iwd_X4_useCoin_X4 hown hK hP h0 (Wd_ob kg_6 sg_6 (by decide)) rfl 1 (by decide) (hts _ md_X4_useCoin_2) (fun _ h9 => h9) (fl_q rfl ek_45) dX4_useCoin_146 ?_
              obtain ⟨g_46, hf⟩ := grd_some hf
              obtain ⟨kg_46, sg_46⟩ := okO_at g_46
              obtain ⟨k_47, ek_47, hf⟩ := lnk_some hf
              refine va_get (D := (dC, dI)) (ci := 1) (v := .ref (a k_47)) (C := RX1) (T := TX1) (N := 7) hx hb hts iwd_X4_useCoin_X1 hown hK hP k_45 (Wd_ob kg_46 sg_46 (by decide)) rfl 1 (by decide) (hts _ md_X4_useCoin_3) (fun _ h9 => h9) (fl_q rfl ek_47) dX4_useCoin_149 ?_
              refine lv_aload_n hx hb dX4_useCoin_152 rfl (lv_at hl 2 rfl) ?_
              refine lv_aload_n hx hb dX4_useCoin_153 rfl (lv_at hl 2 rfl) ?_
              obtain ⟨z_48, r_49, hfc, hf⟩ := cal_some hf
              have hFc := de_free hD hS hA
              refine va_calli (va_runV (As := []) (rest := [.ref (a h0), .ref (a k_47), .long 0, .int 3, .ref (a h0)]) ⟨hx, hb, hml, hown, hts⟩ (de_X4_pop l dC dI cy a sh n H_14.size F z_12 h0 hfc) (cwV 0 hts gX4_useCoin_X4_pop rfl rfl rfl (by decide +kernel) ⟨Nat.le_of_ble_eq_true rfl, Nat.le_of_ble_eq_true rfl⟩) ⟨fun a U g mk q => by obtain ⟨q0, q1, qP, qK, qD, qN⟩ := q; exact ⟨q0, q1, qP, va_K.moved (u := U) (U := U.calling g mk a) (Vm.Alike.refl U.vm) qK, qD, qN.same rfl⟩, va_recv hK hP (ci := 4) (q0 := h0) rfl (Wd_ob kg_6 sg_6 (by decide)), fun U hU hW => ⟨rfl, by rw [hU], by rw [hU]; exact hP, va_K.moved hW.alike hK, hD.weaken (fun _ _ _ _ => trivial), hN.warm hW⟩⟩ rfl rfl hl.1 rfl (lv_room (Nat.le_of_ble_eq_true rfl)) dX4_useCoin_154 ⟨Nat.le_of_ble_eq_true rfl, Nat.le_of_ble_eq_true rfl⟩) hS (fun q _ h => hFc q h) hFc (fun rr u t H_50 locs ht hvm hw hB hz1 hk1 hS2 => ?_)
              rw [hw]
              clear hw
              obtain ⟨hP1, -, hD1⟩ := hB
              rw [ht] at hP1
              replace hD := hD1.weaken (fun _ _ _ h => hFc _ h)
              replace hP := hP1
              replace hS := hS2
              clear hP1 hD1 hS2 hFc hfc hz1 hk1 hvm ht
              obtain ⟨z_51, r_52, hfc, hf⟩ := cal_some hf
              have hFc := de_free hD hS hA
              refine va_calli (va_runV (As := [.int r_49]) (rest := [.ref (a k_47), .long 0, .int 3, .ref (a h0)]) ⟨hx, hb, hml, hown, hts⟩ (de_X4_target l dC dI cy a sh n H_50.size F z_48 h0 r_49 hfc) (cwV 1 hts gX4_useCoin_X4_target rfl rfl rfl (by decide +kernel) ⟨Nat.le_of_ble_eq_true rfl, Nat.le_of_ble_eq_true rfl⟩) ⟨fun a U g mk q => by obtain ⟨q0, q1, qP, qK, qD, qN⟩ := q; exact ⟨q0, q1, qP, va_K.moved (u := U) (U := U.calling g mk a) (Vm.Alike.refl U.vm) qK, qD, qN.same rfl⟩, va_recv hK hP (ci := 4) (q0 := h0) rfl (Wd_ob kg_6 sg_6 (by decide)), fun U hU hW => ⟨rfl, by rw [hU], by rw [hU]; exact hP, va_K.moved hW.alike hK, hD.weaken (fun _ _ _ _ => trivial), hN.warm hW⟩⟩ rfl rfl hl.1 rfl (lv_room (Nat.le_of_ble_eq_true rfl)) dX4_useCoin_157 ⟨Nat.le_of_ble_eq_true rfl, Nat.le_of_ble_eq_true rfl⟩) hS (fun q _ h => hFc q h) hFc (fun rr u t H_53 locs ht hvm hw hB hz1 hk1 hS2 => ?_)
              rw [hw]
              clear hw
              obtain ⟨hP1, -, hD1⟩ := hB
              rw [ht] at hP1
              replace hD := hD1.weaken (fun _ _ _ h => hFc _ h)
              replace hP := hP1
              replace hS := hS2
              clear hP1 hD1 hS2 hFc hfc hz1 hk1 hvm ht
              obtain ⟨g_54, hf⟩ := grd_some hf
              obtain ⟨kg_54, sg_54, ig_54⟩ := okA_at g_54
              refine va_lald hx hb hK hP k_47 2 (Wd_al kg_54 sg_54) rfl ig_54 dX4_useCoin_160 ?_
              obtain ⟨z_55, _u, hfc, hf⟩ := cal_some hf
              have hFc := de_free hD hS hA
              refine va_callv (va_runV (As := [.int 3, .long 0, .long (z_51.2.1 k_47 r_52.toNatClampNeg)]) (rest := []) ⟨hx, hb, hml, hown, hts⟩ (de_X4_pushNumber l dC dI cy a sh n H_53.size F z_51 h0 3 0 (z_51.2.1 k_47 r_52.toNatClampNeg) hfc) (cwV 3 hts gX4_useCoin_X4_pushNumber rfl rfl rfl (by decide +kernel) ⟨Nat.le_of_ble_eq_true rfl, Nat.le_of_ble_eq_true rfl⟩) ⟨fun a U g mk q => by obtain ⟨q0, q1, qP, qK, qD, qN⟩ := q; exact ⟨q0, q1, qP, va_K.moved (u := U) (U := U.calling g mk a) (Vm.Alike.refl U.vm) qK, qD, qN.same rfl⟩, va_recv hK hP (ci := 4) (q0 := h0) rfl (Wd_ob kg_6 sg_6 (by decide)), fun U hU hW => ⟨rfl, by rw [hU], by rw [hU]; exact hP, va_K.moved hW.alike hK, hD.weaken (fun _ _ _ _ => trivial), hN.warm hW⟩⟩ rfl rfl hl.1 rfl (lv_room (Nat.le_of_ble_eq_true rfl)) dX4_useCoin_161 ⟨Nat.le_of_ble_eq_true rfl, Nat.le_of_ble_eq_true rfl⟩) hS (fun q _ h => hFc q h) hFc (fun u t H_56 locs ht hvm hw hB hz1 hk1 hS2 => ?_)
              obtain ⟨hP1, -, hD1⟩ := hB
              rw [ht] at hP1
              replace hD := hD1.weaken (fun _ _ _ h => hFc _ h)
              replace hP := hP1
              replace hS := hS2
              clear hP1 hD1 hS2 hFc hfc hz1 hk1 hvm ht
              refine lv_goto (tgt := 239) hx hb dX4_useCoin_164 (by decide) ?_
              obtain ⟨h8, h9⟩ := ret_some hf
              rw [h8]
              exact W.vret hx hb hr (fun t ht hW => ⟨⟨(), rfl, trivial, by rw [ht]; exact hP, va_K.moved hW.alike hK, hD⟩, hS.F ht⟩) hS.2.2 dX4_useCoin_239
          · skip
            rw [if_pos c_18] at hf
            refine lv_aload_n hx hb dX4_useCoin_98 rfl (lv_at hl 2 rfl) ?_
            refine lv_bipush (v := 10) hx hb dX4_useCoin_99 (by decide) ?_
            obtain ⟨z_57, r_58, hfc, hf⟩ := cal_some hf
            have hFc := de_free hD hS hA
            refine va_calli (va_runV (As := [.int 10]) (rest := []) ⟨hx, hb, hml, hown, hts⟩ (de_X4_popOf l dC dI cy a sh n H_14.size F z_12 h0 10 hfc) (cwV 1 hts gX4_useCoin_X4_popOf rfl rfl rfl (by decide +kernel) ⟨Nat.le_of_ble_eq_true rfl, Nat.le_of_ble_eq_true rfl⟩) ⟨fun a U g mk q => by obtain ⟨q0, q1, qP, qK, qD, qN⟩ := q; exact ⟨q0, q1, qP, va_K.moved (u := U) (U := U.calling g mk a) (Vm.Alike.refl U.vm) qK, qD, qN.same rfl⟩, va_recv hK hP (ci := 4) (q0 := h0) rfl (Wd_ob kg_6 sg_6 (by decide)), fun U hU hW => ⟨rfl, by rw [hU], by rw [hU]; exact hP, va_K.moved hW.alike hK, hD.weaken (fun _ _ _ _ => trivial), hN.warm hW⟩⟩ rfl rfl hl.1 rfl (lv_room (Nat.le_of_ble_eq_true rfl)) dX4_useCoin_101 ⟨Nat.le_of_ble_eq_true rfl, Nat.le_of_ble_eq_true rfl⟩) hS (fun q _ h => hFc q h) hFc (fun rr u t H_59 locs ht hvm hw hB hz1 hk1 hS2 => ?_)
            rw [hw]
            clear hw
            obtain ⟨hP1, -, hD1⟩ := hB
            rw [ht] at hP1
            replace hD := hD1.weaken (fun _ _ _ h => hFc _ h)
            replace hP := hP1
            replace hS := hS2
            clear hP1 hD1 hS2 hFc hfc hz1 hk1 hvm ht
            refine lv_pop hx hb dX4_useCoin_104 rfl ?_
            refine lv_aload_n hx hb dX4_useCoin_105 rfl (lv_at hl 2 rfl) ?_
            refine lv_iconst (v := 5) hx hb dX4_useCoin_106 (by decide) ?_
            obtain ⟨z_60, r_61, hfc, hf⟩ := cal_some hf
            have hFc := de_free hD hS hA
            refine va_calli (va_runV (As := [.int 5]) (rest := []) ⟨hx, hb, hml, hown, hts⟩ (de_X4_popOf l dC dI cy a sh n H_59.size F z_57 h0 5 hfc) (cwV 1 hts gX4_useCoin_X4_popOf rfl rfl rfl (by decide +kernel) ⟨Nat.le_of_ble_eq_true rfl, Nat.le_of_ble_eq_true rfl⟩) ⟨fun a U g mk q => by obtain ⟨q0, q1, qP, qK, qD, qN⟩ := q; exact ⟨q0, q1, qP, va_K.moved (u := U) (U := U.calling g mk a) (Vm.Alike.refl U.vm) qK, qD, qN.same rfl⟩, va_recv hK hP (ci := 4) (q0 := h0) rfl (Wd_ob kg_6 sg_6 (by decide)), fun U hU hW => ⟨rfl, by rw [hU], by rw [hU]; exact hP, va_K.moved hW.alike hK, hD.weaken (fun _ _ _ _ => trivial), hN.warm hW⟩⟩ rfl rfl hl.1 rfl (lv_room (Nat.le_of_ble_eq_true rfl)) dX4_useCoin_107 ⟨Nat.le_of_ble_eq_true rfl, Nat.le_of_ble_eq_true rfl⟩) hS (fun q _ h => hFc q h) hFc (fun rr u t H_62 locs ht hvm hw hB hz1 hk1 hS2 => ?_)
            rw [hw]
            clear hw
            obtain ⟨hP1, -, hD1⟩ := hB
            rw [ht] at hP1
            replace hD := hD1.weaken (fun _ _ _ h => hFc _ h)
            replace hP := hP1
            replace hS := hS2
            clear hP1 hD1 hS2 hFc hfc hz1 hk1 hvm ht
            refine lv_pop hx hb dX4_useCoin_110 rfl ?_
            refine lv_aload_n hx hb dX4_useCoin_111 rfl (lv_at hl 2 rfl) ?_
            obtain ⟨k_63, ek_63, hf⟩ := lnk_some hf
            refine va_get (D := (dC, dI)) (ci := 4) (v := .ref (a k_63)) (C := RX4) (T := TX4) (N := 18) hx hb hts iwd_X4_useCoin_X4 hown hK hP h0 (Wd_ob kg_6 sg_6 (by decide)) rfl 2 (by decide) (hts _ md_X4_useCoin_1) (fun _ h9 => h9) (fl_q rfl ek_63) dX4_useCoin_112 ?_
            obtain ⟨g_64, hf⟩ := grd_some hf
            obtain ⟨kg_64, sg_64⟩ := okO_at g_64
            obtain ⟨k_65, ek_65, hf⟩ := lnk_some hf
            refine va_get (D := (dC, dI)) (ci := 2) (v := .ref (a k_65)) (C := RX2) (T := TX2) (N := 11) hx hb hts iwd_X4_useCoin_X2 hown hK hP k_63 (Wd_ob kg_64 sg_64 (by decide)) rfl 8 (by decide) (hts _ md_X4_useCoin_5) (fun _ h9 => h9) (fl_q rfl ek_65) dX4_useCoin_115 ?_
            refine lv_iload_n hx hb dX4_useCoin_118 rfl (lv_at hl 1 rfl) ?_
            refine lv_iconst (v := 1) hx hb dX4_useCoin_119 (by decide) ?_
            obtain ⟨g_66, hf⟩ := grd_some hf
            obtain ⟨kg_66, sg_66, ig_66⟩ := okA_at g_66
            refine va_zast hx hb hK hP hD hS k_65 3 (Wd_az kg_66 sg_66) rfl ig_66 dX4_useCoin_120 (fun H_67 locs hP2 hD2 hS2 => ?_)
            rw [Wd_tz sg_66] at hP2 hD2
            obtain ⟨z_68, ez_68⟩ : ∃ w, w = si z_60 k_65 p_1.toNatClampNeg (vp_nar .boolean 1) := ⟨_, rfl⟩
            rw [← ez_68] at hP2 hD2
            replace hf := lt_at ez_68 hf
            clear ez_68
            replace hP := hP2
            replace hD := hD2
            replace hS := hS2
            clear hP2 hD2 hS2
            refine lv_aload_n hx hb dX4_useCoin_121 rfl (lv_at hl 2 rfl) ?_
            obtain ⟨k_69, ek_69, hf⟩ := lnk_some hf
            refine va_get (D := (dC, dI)) (ci := 4) (v := .ref (a k_69)) (C := RX4) (T := TX4) (N := 18) hx hb hts iwd_X4_useCoin_X4 hown hK hP h0 (Wd_ob kg_6 sg_6 (by decide)) rfl 2 (by decide) (hts _ md_X4_useCoin_1) (fun _ h9 => h9) (fl_q rfl ek_69) dX4_useCoin_122 ?_
            obtain ⟨g_70, hf⟩ := grd_some hf
            obtain ⟨kg_70, sg_70⟩ := okO_at g_70
            obtain ⟨k_71, ek_71, hf⟩ := lnk_some hf
            refine va_get (D := (dC, dI)) (ci := 2) (v := .ref (a k_71)) (C := RX2) (T := TX2) (N := 11) hx hb hts iwd_X4_useCoin_X2 hown hK hP k_69 (Wd_ob kg_70 sg_70 (by decide)) rfl 9 (by decide) (hts _ md_X4_useCoin_6) (fun _ h9 => h9) (fl_q rfl ek_71) dX4_useCoin_125 ?_
            refine lv_iload_n hx hb dX4_useCoin_128 rfl (lv_at hl 1 rfl) ?_
            refine lv_dup2_11 hx hb dX4_useCoin_129 rfl rfl ?_
            obtain ⟨g_72, hf⟩ := grd_some hf
            obtain ⟨kg_72, sg_72, ig_72⟩ := okA_at g_72
            refine va_lald hx hb hK hP k_71 2 (Wd_al kg_72 sg_72) rfl ig_72 dX4_useCoin_130 ?_
            refine lv_lload_n hx hb dX4_useCoin_131 rfl (lv_at hl 0 rfl) ?_
            refine lv_ladd hx hb dX4_useCoin_132 ?_
            obtain ⟨g_73, hf⟩ := grd_some hf
            obtain ⟨kg_73, sg_73, ig_73⟩ := okA_at g_73
            refine va_last hx hb hK hP hD hS k_71 2 (Wd_al kg_73 sg_73) rfl ig_73 dX4_useCoin_133 (fun H_74 locs hP2 hD2 hS2 => ?_)
            rw [Wd_tl sg_73] at hP2 hD2
            obtain ⟨z_75, ez_75⟩ : ∃ w, w = sl z_68 k_71 p_1.toNatClampNeg ((z_68.2.1 k_71 p_1.toNatClampNeg) + v_16) := ⟨_, rfl⟩
            rw [← ez_75] at hP2 hD2
            replace hf := lt_at ez_75 hf
            clear ez_75
            replace hP := hP2
            replace hD := hD2
            replace hS := hS2
            clear hP2 hD2 hS2
            refine lv_goto (tgt := 239) hx hb dX4_useCoin_134 (by decide) ?_
            obtain ⟨h8, h9⟩ := ret_some hf
            rw [h8]
            exact W.vret hx hb hr (fun t ht hW => ⟨⟨(), rfl, trivial, by rw [ht]; exact hP, va_K.moved hW.alike hK, hD⟩, hS.F ht⟩) hS.2.2 dX4_useCoin_239
        · skip
          rw [if_pos c_17] at hf
          refine lv_aload_n hx hb dX4_useCoin_85 rfl (lv_at hl 2 rfl) ?_
          refine lv_lload_n hx hb dX4_useCoin_86 rfl (lv_at hl 0 rfl) ?_
          obtain ⟨z_76, _u, hfc, hf⟩ := cal_some hf
          have hFc := de_free hD hS hA
          refine va_callv (va_runV (As := [.long v_16]) (rest := []) ⟨hx, hb, hml, hown, hts⟩ (de_X4_withdraw l dC dI cy a sh n H_14.size F z_12 h0 v_16 hfc) (cwV 1 hts gX4_useCoin_X4_withdraw rfl rfl rfl (by decide +kernel) ⟨Nat.le_of_ble_eq_true rfl, Nat.le_of_ble_eq_true rfl⟩) ⟨fun a U g mk q => by obtain ⟨q0, q1, qP, qK, qD, qN⟩ := q; exact ⟨q0, q1, qP, va_K.moved (u := U) (U := U.calling g mk a) (Vm.Alike.refl U.vm) qK, qD, qN.same rfl⟩, va_recv hK hP (ci := 4) (q0 := h0) rfl (Wd_ob kg_6 sg_6 (by decide)), fun U hU hW => ⟨rfl, by rw [hU], by rw [hU]; exact hP, va_K.moved hW.alike hK, hD.weaken (fun _ _ _ _ => trivial), hN.warm hW⟩⟩ rfl rfl hl.1 rfl (lv_room (Nat.le_of_ble_eq_true rfl)) dX4_useCoin_87 ⟨Nat.le_of_ble_eq_true rfl, Nat.le_of_ble_eq_true rfl⟩) hS (fun q _ h => hFc q h) hFc (fun u t H_77 locs ht hvm hw hB hz1 hk1 hS2 => ?_)
          obtain ⟨hP1, -, hD1⟩ := hB
          rw [ht] at hP1
          replace hD := hD1.weaken (fun _ _ _ h => hFc _ h)
          replace hP := hP1
          replace hS := hS2
          clear hP1 hD1 hS2 hFc hfc hz1 hk1 hvm ht
          refine lv_goto (tgt := 239) hx hb dX4_useCoin_90 (by decide) ?_
          obtain ⟨h8, h9⟩ := ret_some hf
          rw [h8]
          exact W.vret hx hb hr (fun t ht hW => ⟨⟨(), rfl, trivial, by rw [ht]; exact hP, va_K.moved hW.alike hK, hD⟩, hS.F ht⟩) hS.2.2 dX4_useCoin_239
      · skip
        rw [if_pos c_8] at hf
        obtain ⟨h8, h9⟩ := ret_some hf
        rw [h8]
        exact W.vret hx hb hr (fun t ht hW => ⟨⟨(), rfl, trivial, by rw [ht]; exact hP, va_K.moved hW.alike hK, hD⟩, hS.F ht⟩) hS.2.2 dX4_useCoin_66
    · skip
      rw [if_neg c_3] at hf
      refine lv_aload_n hx hb dX4_useCoin_49 rfl (lv_at hl 1 rfl) ?_
      refine lv_iconst (v := 2) hx hb dX4_useCoin_50 (by decide) ?_
      refine lv_ldc2 hx hb hown (hts _ md_X4_useCoin_4) dX4_useCoin_51 ?_
      obtain ⟨g_79, hf⟩ := grd_some hf
      obtain ⟨kg_79, sg_79⟩ := okO_at g_79
      obtain ⟨z_78, _u, hfc, hf⟩ := cal_some hf
      have hFc := de_free hD hS hA
      refine va_callv (va_runV (As := [.int 2, .long 4]) (rest := []) ⟨hx, hb, hml, hown, hts⟩ (de_X4_end l dC dI cy a sh n H.size F z_2 h0 2 4 hfc) (cwV 2 hts gX4_useCoin_X4_end rfl rfl rfl (by decide +kernel) ⟨Nat.le_of_ble_eq_true rfl, Nat.le_of_ble_eq_true rfl⟩) ⟨fun a U g mk q => by obtain ⟨q0, q1, qP, qK, qD, qN⟩ := q; exact ⟨q0, q1, qP, va_K.moved (u := U) (U := U.calling g mk a) (Vm.Alike.refl U.vm) qK, qD, qN.same rfl⟩, va_recv hK hP (ci := 4) (q0 := h0) rfl (Wd_ob kg_79 sg_79 (by decide)), fun U hU hW => ⟨rfl, by rw [hU], by rw [hU]; exact hP, va_K.moved hW.alike hK, hD.weaken (fun _ _ _ _ => trivial), hN.warm hW⟩⟩ rfl rfl hl.1 rfl (lv_room (Nat.le_of_ble_eq_true rfl)) dX4_useCoin_54 ⟨Nat.le_of_ble_eq_true rfl, Nat.le_of_ble_eq_true rfl⟩) hS (fun q _ h => hFc q h) hFc (fun u t H_80 locs ht hvm hw hB hz1 hk1 hS2 => ?_)
      obtain ⟨hP1, -, hD1⟩ := hB
      rw [ht] at hP1
      replace hD := hD1.weaken (fun _ _ _ h => hFc _ h)
      replace hP := hP1
      replace hS := hS2
      clear hP1 hD1 hS2 hFc hfc hz1 hk1 hvm ht
      obtain ⟨h8, h9⟩ := ret_some hf
      rw [h8]
      exact W.vret hx hb hr (fun t ht hW => ⟨⟨(), rfl, trivial, by rw [ht]; exact hP, va_K.moved hW.alike hK, hD⟩, hS.F ht⟩) hS.2.2 dX4_useCoin_57
  refine de_cut (h := 12) (fun (x : St) => []) (fun x ls H locs => lv_has ls 5 [(0, .ref (a h0)), (1, .int x0)] ∧ va_P (dC, dI) vwCl (Wd cy a sh n x) H ∧ va_D A (Wd cy a sh n x) ∧ va_S A s.heap H locs) (fun x => fn_X4_useCoin_B12 F sh n h0 x0 x) (z8, r8) ?_ (fun B12 => ?_)
  · intro x ls H locs hI hf
    obtain ⟨z_81, ez⟩ : ∃ w, w = x := ⟨_, rfl⟩
    subst ez
    obtain ⟨hl2, hP2, hD2, hS2⟩ := hI
    replace hl : lv_has ls 5 [(0, .ref (a h0)), (1, .int x0)] := hl2
    replace hP := hP2
    replace hD := hD2
    replace hS := hS2
    clear hl2 hP2 hD2 hS2
    replace hf := fn_X4_useCoin_B12_s hf
    refine W.eq (g2 := F0 m 12 ls []) rfl ?_
    refine lv_aload_n hx hb dX4_useCoin_12 rfl (lv_at hl 0 rfl) ?_
    obtain ⟨g_82, hf⟩ := grd_some hf
    obtain ⟨kg_82, sg_82⟩ := okO_at g_82
    obtain ⟨k_83, ek_83, hf⟩ := lnk_some hf
    refine va_get (D := (dC, dI)) (ci := 4) (v := .ref (a k_83)) (C := RX4) (T := TX4) (N := 18) hx hb hts iwd_X4_useCoin_X4 hown hK hP h0 (Wd_ob kg_82 sg_82 (by decide)) rfl 2 (by decide) (hts _ md_X4_useCoin_1) (fun _ h9 => h9) (fl_q rfl ek_83) dX4_useCoin_13 ?_
    refine lv_iconst (v := 1) hx hb dX4_useCoin_16 (by decide) ?_
    refine lv_aload_n hx hb dX4_useCoin_17 rfl (lv_at hl 0 rfl) ?_
    obtain ⟨k_84, ek_84, hf⟩ := lnk_some hf
    refine va_get (D := (dC, dI)) (ci := 4) (v := .ref (a k_84)) (C := RX4) (T := TX4) (N := 18) hx hb hts iwd_X4_useCoin_X4 hown hK hP h0 (Wd_ob kg_82 sg_82 (by decide)) rfl 1 (by decide) (hts _ md_X4_useCoin_2) (fun _ h9 => h9) (fl_q rfl ek_84) dX4_useCoin_18 ?_
    obtain ⟨g_85, hf⟩ := grd_some hf
    obtain ⟨kg_85, sg_85⟩ := okO_at g_85
    obtain ⟨k_86, ek_86, hf⟩ := lnk_some hf
    refine va_get (D := (dC, dI)) (ci := 1) (v := .ref (a k_86)) (C := RX1) (T := TX1) (N := 7) hx hb hts iwd_X4_useCoin_X1 hown hK hP k_84 (Wd_ob kg_85 sg_85 (by decide)) rfl 1 (by decide) (hts _ md_X4_useCoin_3) (fun _ h9 => h9) (fl_q rfl ek_86) dX4_useCoin_21 ?_
    refine lv_aload_n hx hb dX4_useCoin_24 rfl (lv_at hl 0 rfl) ?_
    refine lv_iload_n hx hb dX4_useCoin_25 rfl (lv_at hl 1 rfl) ?_
    refine lv_iconst (v := 1) hx hb dX4_useCoin_26 (by decide) ?_
    refine de_cut (h := 35) (fun (x : St × Int32) => [.int x.2, .ref (a h0), .ref (a k_86), .int 1, .ref (a k_83)]) (fun x ls H locs => lv_has ls 5 [(0, .ref (a h0)), (1, .int x0)] ∧ va_P (dC, dI) vwCl (Wd cy a sh n x.1) H ∧ va_D A (Wd cy a sh n x.1) ∧ va_S A s.heap H locs) (fun x => fn_X4_useCoin_B35 F sh n h0 k_86 k_83 x0 x.1 x.2) (z8, r8) ?_ (fun B35 => ?_)
    · intro x ls H locs hI hf
      obtain ⟨z_88, p_87⟩ := x
      obtain ⟨hl2, hP2, hD2, hS2⟩ := hI
      replace hl : lv_has ls 5 [(0, .ref (a h0)), (1, .int x0)] := hl2
      replace hP := hP2
      replace hD := hD2
      replace hS := hS2
      clear hl2 hP2 hD2 hS2
      replace hf := fn_X4_useCoin_B35_s hf
      refine W.eq (g2 := F0 m 35 ls [.int p_87, .ref (a h0), .ref (a k_86), .int 1, .ref (a k_83)]) rfl ?_
      obtain ⟨z_89, r_90, hfc, hf⟩ := cal_some hf
      have hFc := de_free hD hS hA
      refine va_calli (va_runV (As := [.int p_87]) (rest := [.ref (a k_86), .int 1, .ref (a k_83)]) ⟨hx, hb, hml, hown, hts⟩ (de_X4_peek l dC dI cy a sh n H.size F z_88 h0 p_87 hfc) (cwV 1 hts gX4_useCoin_X4_peek rfl rfl rfl (by decide +kernel) ⟨Nat.le_of_ble_eq_true rfl, Nat.le_of_ble_eq_true rfl⟩) ⟨fun a U g mk q => by obtain ⟨q0, q1, qP, qK, qD, qN⟩ := q; exact ⟨q0, q1, qP, va_K.moved (u := U) (U := U.calling g mk a) (Vm.Alike.refl U.vm) qK, qD, qN.same rfl⟩, va_recv hK hP (ci := 4) (q0 := h0) rfl (Wd_ob kg_82 sg_82 (by decide)), fun U hU hW => ⟨rfl, by rw [hU], by rw [hU]; exact hP, va_K.moved hW.alike hK, hD.weaken (fun _ _ _ _ => trivial), hN.warm hW⟩⟩ rfl rfl hl.1 rfl (lv_room (Nat.le_of_ble_eq_true rfl)) dX4_useCoin_35 ⟨Nat.le_of_ble_eq_true rfl, Nat.le_of_ble_eq_true rfl⟩) hS (fun q _ h => hFc q h) hFc (fun rr u t H_91 locs ht hvm hw hB hz1 hk1 hS2 => ?_)
      rw [hw]
      clear hw
      obtain ⟨hP1, -, hD1⟩ := hB
      rw [ht] at hP1
      replace hD := hD1.weaken (fun _ _ _ h => hFc _ h)
      replace hP := hP1
      replace hS := hS2
      clear hP1 hD1 hS2 hFc hfc hz1 hk1 hvm ht
      obtain ⟨g_92, hf⟩ := grd_some hf
      obtain ⟨kg_92, sg_92, ig_92⟩ := okA_at g_92
      refine va_lald hx hb hK hP k_86 2 (Wd_al kg_92 sg_92) rfl ig_92 dX4_useCoin_38 ?_
      refine lv_iconst (v := 0) hx hb dX4_useCoin_39 (by decide) ?_
      refine lv_iconst (v := 0) hx hb dX4_useCoin_40 (by decide) ?_
      obtain ⟨g_95, hf⟩ := grd_some hf
      obtain ⟨kg_95, sg_95⟩ := okO_at g_95
      obtain ⟨z_93, r_94, hfc, hf⟩ := cal_some hf
      have hFc := de_free hD hS hA
      refine va_calli (va_runV (As := [.int 1, .long (z_89.2.1 k_86 r_90.toNatClampNeg), .int 0, .int 0]) (rest := []) ⟨hx, hb, hml, hown, hts⟩ (de_X2_ask l dC dI cy a sh n H_91.size F z_89 k_83 1 (z_89.2.1 k_86 r_90.toNatClampNeg) 0 0 hfc) (cwV 4 hts gX4_useCoin_X2_ask rfl rfl rfl (by decide +kernel) ⟨Nat.le_of_ble_eq_true rfl, Nat.le_of_ble_eq_true rfl⟩) ⟨fun a U g mk q => by obtain ⟨q0, q1, qP, qK, qD, qN⟩ := q; exact ⟨q0, q1, qP, va_K.moved (u := U) (U := U.calling g mk a) (Vm.Alike.refl U.vm) qK, qD, qN.same rfl⟩, va_recv hK hP (ci := 2) (q0 := k_83) rfl (Wd_ob kg_95 sg_95 (by decide)), fun U hU hW => ⟨rfl, by rw [hU], by rw [hU]; exact hP, va_K.moved hW.alike hK, hD.weaken (fun _ _ _ _ => trivial), hN.warm hW⟩⟩ rfl rfl hl.1 rfl (lv_room (Nat.le_of_ble_eq_true rfl)) dX4_useCoin_41 ⟨Nat.le_of_ble_eq_true rfl, Nat.le_of_ble_eq_true rfl⟩) hS (fun q _ h => hFc q h) hFc (fun rr u t H_96 locs ht hvm hw hB hz1 hk1 hS2 => ?_)
      rw [hw]
      clear hw
      obtain ⟨hP1, -, hD1⟩ := hB
      rw [ht] at hP1
      replace hD := hD1.weaken (fun _ _ _ h => hFc _ h)
      replace hP := hP1
      replace hS := hS2
      clear hP1 hD1 hS2 hFc hfc hz1 hk1 hvm ht
      refine lv_istore_n (lv' := [(2, .int r_94), (0, .ref (a h0)), (1, .int x0)]) hx hb dX4_useCoin_44 rfl hl (by decide) rfl (fun ls hl2 => ?_)
      replace hl := hl2
      clear hl2
      exact B45 (z_93, r_94) ls H_96 locs ⟨lv_sub hl [0, 1, 2] rfl, hP, hD, hS⟩ hf
    refine lv_icmp_ne (tgt := 34) hx hb dX4_useCoin_27 (by decide) (fun c_97 => ?_) (fun c_97 => ?_)
    · skip
      rw [if_neg c_97] at hf
      refine lv_iconst (v := 0) hx hb dX4_useCoin_34 (by decide) ?_
      exact B35 (z_81, 0) ls H locs ⟨lv_sub hl [0, 1] rfl, hP, hD, hS⟩ hf
    · skip
      rw [if_pos c_97] at hf
      refine lv_iconst (v := 1) hx hb dX4_useCoin_30 (by decide) ?_
      refine lv_goto (tgt := 35) hx hb dX4_useCoin_31 (by decide) ?_
      exact B35 (z_81, 1) ls H locs ⟨lv_sub hl [0, 1] rfl, hP, hD, hS⟩ hf
  refine lv_icmp_eq (tgt := 12) hx hb dX4_useCoin_4 (by decide) (fun c_98 => ?_) (fun c_98 => ?_)
  · skip
    rw [if_pos c_98] at hf
    exact B12 (z) ls H locs ⟨lv_sub hl [1, 2] rfl, hP, hD, hS⟩ hf
  · skip
    rw [if_neg c_98] at hf
    refine lv_iload_n hx hb dX4_useCoin_7 rfl (lv_at hl 2 rfl) ?_
    refine lv_iconst (v := 5) hx hb dX4_useCoin_8 (by decide) ?_
    refine lv_icmp_ne (tgt := 45) hx hb dX4_useCoin_9 (by decide) (fun c_99 => ?_) (fun c_99 => ?_)
    · skip
      rw [if_neg c_99] at hf
      exact B45 (z, 0) ls H locs ⟨lv_sub hl [0, 1, 2] rfl, hP, hD, hS⟩ hf
    · skip
      rw [if_pos c_99] at hf
      exact B12 (z) ls H locs ⟨lv_sub hl [1, 2] rfl, hP, hD, hS⟩ hf

theorem md_X6_readFunctions_1 : (.fieldLink RX6 17 "ResourceLedger$Reader" "p" "LResourceLedger$Program;" : Cond) ∈ wsX6_readFunctions := List.mem_of_getElem? (i := 1) rfl
theorem iwd_X6_readFunctions_X6 : ∀ w ∈ wsX60, w ∈ wsX6_readFunctions := fun _ h => List.mem_cons_of_mem _ (List.mem_append_left _ (List.mem_append_right _ h))
theorem md_X6_readFunctions_2 : (.fieldLink RX6 120 "ResourceLedger$Program" "ownFunctions" "I" : Cond) ∈ wsX6_readFunctions := List.mem_of_getElem? (i := 2) rfl
theorem iwd_X6_readFunctions_X5 : ∀ w ∈ wsX50, w ∈ wsX6_readFunctions := fun _ h => List.mem_cons_of_mem _ (List.mem_append_right _ h)
theorem md_X6_readFunctions_3 : (.fieldLink RX6 21 "ResourceLedger$Reader" "fault" "I" : Cond) ∈ wsX6_readFunctions := List.mem_of_getElem? (i := 3) rfl
theorem md_X6_readFunctions_4 : (.fieldLink RX6 97 "ResourceLedger$Program" "number" "I" : Cond) ∈ wsX6_readFunctions := List.mem_of_getElem? (i := 4) rfl
theorem md_X6_readFunctions_5 : (.fieldLink RX6 53 "ResourceLedger$Program" "typeCount" "I" : Cond) ∈ wsX6_readFunctions := List.mem_of_getElem? (i := 5) rfl
theorem md_X6_readFunctions_6 : (.fieldLink RX6 123 "ResourceLedger$Reader" "locals" "I" : Cond) ∈ wsX6_readFunctions := List.mem_of_getElem? (i := 6) rfl
theorem md_X6_readFunctions_7 : (.fieldLink RX6 32 "ResourceLedger$Reader" "at" "I" : Cond) ∈ wsX6_readFunctions := List.mem_of_getElem? (i := 7) rfl
theorem md_X6_readFunctions_8 : (.fieldLink RX6 126 "ResourceLedger$Reader" "instructions" "I" : Cond) ∈ wsX6_readFunctions := List.mem_of_getElem? (i := 8) rfl
theorem md_X6_readFunctions_9 : (.fieldLink RX6 35 "ResourceLedger$Reader" "told" "I" : Cond) ∈ wsX6_readFunctions := List.mem_of_getElem? (i := 9) rfl
theorem md_X6_readFunctions_10 : (.fieldLink RX6 129 "ResourceLedger$Program" "startCount" "I" : Cond) ∈ wsX6_readFunctions := List.mem_of_getElem? (i := 10) rfl
set_option maxHeartbeats 4000000 in
set_option maxRecDepth 100000 in
theorem de_X6_readFunctions (l : Launch) (dC : Nat → ClassId) (dI : Nat → Nat → Nat) (cy : Nat → ClassId) (a : Nat → Nat) (sh : Nat → Nat × Nat) (n sz : Nat) (F : Nat) (sk : Nat → Nat) (z : St) (h0 : Nat) {z8 : St} {r8 : Unit} (hf : fn_X6_readFunctions F sh n z h0 = some (z8, r8)) : Met l yX6_readFunctions wsX6_readFunctions ({ frames := 4, cells := 0, slots := 0, locals := 93 }) (va_Pc [.ref (a h0)] (fun U => U.heap.size = sz ∧ va_P (dC, dI) vwCl (Wd cy a sh n z) U.heap ∧ va_K (dC, dI) vwCl (TYS cy) U ∧ va_D (fun _ => True) (Wd cy a sh n z) ∧ NK U ∧ SKs sk (a CBK) (va_A (Wd cy a sh n z) sz) U U.heap)) (va_Qv (fun u : Unit => True) (fun u t => va_P (dC, dI) vwCl (Wd cy a sh n z8) t.heap ∧ va_K (dC, dI) vwCl (TYS cy) t ∧ va_D (va_A (Wd cy a sh n z) sz) (Wd cy a sh n z8)) (va_A (Wd cy a sh n z) sz)) 0 0 (va_A (Wd cy a sh n z) sz) := by
  refine Met.ofW (cc := cX6_readFunctions) (maxL := 7) (ret := none) (by decide) rfl ?_
  intro p e s m args below meth c s₁ B hml hv
  obtain ⟨rfl, hsz, hP, hK, hD0, hN, hSK⟩ := hv
  have hx := B.exec
  have hb := B.bytes
  have hr := B.returns
  have hts := atoms_spec (ws := wsX6_readFunctions) B.pre
  have hown : s.vm.findClass RX6 = some m.cls := findClass_of_methodNamed B.named
  have hlocks := B.notSynchronized
  subst hsz
  have hD := hD0.self (sz := s.heap.size)
  clear hD0
  generalize hAe : va_A (Wd cy a sh n z) s.heap.size = A at hD hSK ⊢
  have hA : ∀ q : Nat, s.heap.size ≤ q → A q := fun q h => by rw [← hAe]; exact Or.inr h
  clear hAe
  have hS : va_S A s.heap s.heap [] := va_S.rf
  have hl := lv_entry ([.ref (a h0)]) (n := 7) (Nat.le_of_ble_eq_true rfl)
  rw [lg_entry_eq]
  generalize (lg_sl ([.ref (a h0)]) ++ List.replicate (7 - (lg_sl ([.ref (a h0)])).length) Slot.unset).toArray = ls at hl ⊢
  replace hl : lv_has ls 7 [(0, .ref (a h0))] := hl
  unfold fn_X6_readFunctions at hf
  refine de_start hS hP (fun H locs hS hP => ?_)
  refine lv_aload_n hx hb dX6_readFunctions_0 rfl (lv_at hl 0 rfl) ?_
  refine lv_iconst (v := 0) hx hb dX6_readFunctions_1 (by decide) ?_
  refine lv_bipush (v := 64) hx hb dX6_readFunctions_2 (by decide) ?_
  obtain ⟨g_3, hf⟩ := grd_some hf
  obtain ⟨kg_3, sg_3⟩ := okO_at g_3
  obtain ⟨z_1, r_2, hfc, hf⟩ := cal_some hf
  have hFc := de_free hD hS hA
  refine va_calli (va_runV (As := [.int 0, .int 64]) (rest := []) ⟨hx, hb, hml, hown, hts⟩ (de_X6_readNumber l dC dI cy a sh n H.size F sk z h0 0 64 hfc) (cwV 2 hts gX6_readFunctions_X6_readNumber rfl rfl rfl (by decide +kernel) ⟨Nat.le_of_ble_eq_true rfl, Nat.le_of_ble_eq_true rfl⟩) ⟨fun a U g mk q => by obtain ⟨q0, q1, qP, qK, qD, qN, qS⟩ := q; exact ⟨q0, q1, qP, va_K.moved (u := U) (U := U.calling g mk a) (Vm.Alike.refl U.vm) qK, qD, qN.same rfl, SKs.moved (u := U) (U := U.calling g mk a) (Vm.Alike.refl U.vm) qS⟩, va_recv hK hP (ci := 6) (q0 := h0) rfl (Wd_ob kg_3 sg_3 (by decide)), fun U hU hW => ⟨rfl, by rw [hU], by rw [hU]; exact hP, va_K.moved hW.alike hK, hD.weaken (fun _ _ _ _ => trivial), hN.warm hW, by rw [hU]; exact ((hSK.kept hS.2.1).narrow hFc).moved hW.alike⟩⟩ rfl rfl hl.1 rfl (lv_room (Nat.le_of_ble_eq_true rfl)) dX6_readFunctions_4 ⟨Nat.le_of_ble_eq_true rfl, Nat.le_of_ble_eq_true rfl⟩) hS (fun q _ h => hFc q h) hFc (fun rr u t H_4 locs ht hvm hw hB hz1 hk1 hS2 => ?_)
  rw [hw]
  clear hw
  obtain ⟨hP1, -, hD1⟩ := hB
  rw [ht] at hP1
  replace hD := hD1.weaken (fun _ _ _ h => hFc _ h)
  replace hP := hP1
  replace hS := hS2
  clear hP1 hD1 hS2 hFc hfc hz1 hk1 hvm ht
  refine lv_istore_n (lv' := [(1, .int r_2), (0, .ref (a h0))]) hx hb dX6_readFunctions_7 rfl hl (by decide) rfl (fun ls hl2 => ?_)
  replace hl := hl2
  clear hl2
  refine lv_aload_n hx hb dX6_readFunctions_8 rfl (lv_at hl 1 rfl) ?_
  obtain ⟨k_5, ek_5, hf⟩ := lnk_some hf
  refine va_get (D := (dC, dI)) (ci := 6) (v := .ref (a k_5)) (C := RX6) (T := TX6) (N := 9) hx hb hts iwd_X6_readFunctions_X6 hown hK hP h0 (Wd_ob kg_3 sg_3 (by decide)) rfl 2 (by decide) (hts _ md_X6_readFunctions_1) (fun _ h9 => h9) (fl_q rfl ek_5) dX6_readFunctions_9 ?_
  refine lv_iload_n hx hb dX6_readFunctions_12 rfl (lv_at hl 0 rfl) ?_
  obtain ⟨g_6, hf⟩ := grd_some hf
  obtain ⟨kg_6, sg_6⟩ := okO_at g_6
  refine va_put (D := (dC, dI)) (ci := 5) (v := .int r_2) (ty := .int) (C := RX5) (T := TX5) (N := 15) hx hb hts iwd_X6_readFunctions_X5 tyX5 tyX5_ok nmX5 hown hK hP hD hS k_5 (Wd_ob kg_6 sg_6 (by decide)) rfl 11 (by decide) (hts _ md_X6_readFunctions_2) (fun _ h9 => h9) rfl (by decide +kernel) rfl rfl (by rw [fl_len]; decide) dX6_readFunctions_13 (fun H_7 locs hP2 hD2 hS2 => ?_)
  rw [Wd_si sg_6 (by decide) rfl] at hP2 hD2
  obtain ⟨z_8, ez_8⟩ : ∃ w, w = si z_1 k_5 11 r_2 := ⟨_, rfl⟩
  rw [← ez_8] at hP2 hD2
  replace hf := lt_at ez_8 hf
  clear ez_8
  replace hP := hP2
  replace hD := hD2
  replace hS := hS2
  clear hP2 hD2 hS2
  refine lv_iconst (v := 0) hx hb dX6_readFunctions_16 (by decide) ?_
  refine lv_istore_n (lv' := [(2, .int 0), (1, .int r_2), (0, .ref (a h0))]) hx hb dX6_readFunctions_17 rfl hl (by decide) rfl (fun ls hl2 => ?_)
  replace hl := hl2
  clear hl2
  have hl0 : lv_has ls 7 [(2, .int 0), (1, .int r_2), (0, .ref (a h0))] := lv_sub hl [0, 1, 2] rfl
  refine de_loop (h := 18) (fun (x : St × Int32) ls H locs => lv_has ls 7 [(2, .int x.2), (1, .int r_2), (0, .ref (a h0))] ∧ va_P (dC, dI) vwCl (Wd cy a sh n x.1) H ∧ va_D A (Wd cy a sh n x.1) ∧ va_S A s.heap H locs) (fun f x => fn_X6_readFunctions_L18 F sh n r_2 h0 f x.1 x.2) (z8, r8) ?_ (fun _ => rfl) F (z_8, 0) ls H_7 locs ⟨hl0, hP, hD, hS⟩ hf
  intro f_11 x ls H locs ih18 hI hf
  obtain ⟨z_10, p_9⟩ := x
  obtain ⟨hl2, hP2, hD2, hS2⟩ := hI
  replace hl : lv_has ls 7 [(2, .int p_9), (1, .int r_2), (0, .ref (a h0))] := hl2
  replace hP := hP2
  replace hD := hD2
  replace hS := hS2
  clear hl2 hP2 hD2 hS2 hl0
  replace hf := fn_X6_readFunctions_L18_s hf
  refine lv_iload_n hx hb dX6_readFunctions_18 rfl (lv_at hl 0 rfl) ?_
  refine lv_iload_n hx hb dX6_readFunctions_19 rfl (lv_at hl 1 rfl) ?_
  refine lv_icmp_ge (tgt := 276) hx hb dX6_readFunctions_20 (by decide) (fun c_12 => ?_) (fun c_12 => ?_)
  · skip
    rw [if_pos c_12] at hf
    obtain ⟨h8, h9⟩ := ret_some hf
    rw [h8]
    exact W.vret hx hb hr (fun t ht hW => ⟨⟨(), rfl, trivial, by rw [ht]; exact hP, va_K.moved hW.alike hK, hD⟩, hS.F ht⟩) hS.2.2 dX6_readFunctions_276
  · skip
    rw [if_neg c_12] at hf
    refine lv_aload_n hx hb dX6_readFunctions_23 rfl (lv_at hl 2 rfl) ?_
    refine va_get (D := (dC, dI)) (ci := 6) (v := .int (z_10.1 h0 1)) (C := RX6) (T := TX6) (N := 9) hx hb hts iwd_X6_readFunctions_X6 hown hK hP h0 (Wd_ob kg_3 sg_3 (by decide)) rfl 1 (by decide) (hts _ md_X6_readFunctions_3) (fun _ h9 => h9) (fl_at (t := 0) rfl) dX6_readFunctions_24 ?_
    refine lv_if_ne (tgt := 276) hx hb dX6_readFunctions_27 (by decide) (fun c_13 => ?_) (fun c_13 => ?_)
    · skip
      rw [if_neg c_13] at hf
      obtain ⟨h8, h9⟩ := ret_some hf
      rw [h8]
      exact W.vret hx hb hr (fun t ht hW => ⟨⟨(), rfl, trivial, by rw [ht]; exact hP, va_K.moved hW.alike hK, hD⟩, hS.F ht⟩) hS.2.2 dX6_readFunctions_276
    · skip
      rw [if_pos c_13] at hf
      refine lv_aload_n hx hb dX6_readFunctions_30 rfl (lv_at hl 2 rfl) ?_
      obtain ⟨k_14, ek_14, hf⟩ := lnk_some hf
      refine va_get (D := (dC, dI)) (ci := 6) (v := .ref (a k_14)) (C := RX6) (T := TX6) (N := 9) hx hb hts iwd_X6_readFunctions_X6 hown hK hP h0 (Wd_ob kg_3 sg_3 (by decide)) rfl 2 (by decide) (hts _ md_X6_readFunctions_1) (fun _ h9 => h9) (fl_q rfl ek_14) dX6_readFunctions_31 ?_
      refine lv_iload_n hx hb dX6_readFunctions_34 rfl (lv_at hl 0 rfl) ?_
      refine lv_bipush (v := 7) hx hb dX6_readFunctions_35 (by decide) ?_
      refine lv_aload_n hx hb dX6_readFunctions_37 rfl (lv_at hl 2 rfl) ?_
      obtain ⟨k_15, ek_15, hf⟩ := lnk_some hf
      refine va_get (D := (dC, dI)) (ci := 6) (v := .ref (a k_15)) (C := RX6) (T := TX6) (N := 9) hx hb hts iwd_X6_readFunctions_X6 hown hK hP h0 (Wd_ob kg_3 sg_3 (by decide)) rfl 2 (by decide) (hts _ md_X6_readFunctions_1) (fun _ h9 => h9) (fl_q rfl ek_15) dX6_readFunctions_38 ?_
      obtain ⟨g_16, hf⟩ := grd_some hf
      obtain ⟨kg_16, sg_16⟩ := okO_at g_16
      refine va_get (D := (dC, dI)) (ci := 5) (v := .int (z_10.1 k_15 2)) (C := RX5) (T := TX5) (N := 15) hx hb hts iwd_X6_readFunctions_X5 hown hK hP k_15 (Wd_ob kg_16 sg_16 (by decide)) rfl 2 (by decide) (hts _ md_X6_readFunctions_4) (fun _ h9 => h9) (fl_at (t := 0) rfl) dX6_readFunctions_41 ?_
      obtain ⟨g_18, hf⟩ := grd_some hf
      obtain ⟨kg_18, sg_18⟩ := okO_at g_18
      obtain ⟨z_17, _u, hfc, hf⟩ := cal_some hf
      have hFc := de_free hD hS hA
      refine va_callv (va_runV (As := [.int p_9, .int 7, .int (z_10.1 k_15 2)]) (rest := []) ⟨hx, hb, hml, hown, hts⟩ (de_X5_setFunction l dC dI cy a sh n H.size F z_10 k_14 p_9 7 (z_10.1 k_15 2) hfc) (cwV 3 hts gX6_readFunctions_X5_setFunction rfl rfl rfl (by decide +kernel) ⟨Nat.le_of_ble_eq_true rfl, Nat.le_of_ble_eq_true rfl⟩) ⟨fun a U g mk q => by obtain ⟨q0, q1, qP, qK, qD, qN⟩ := q; exact ⟨q0, q1, qP, va_K.moved (u := U) (U := U.calling g mk a) (Vm.Alike.refl U.vm) qK, qD, qN.same rfl⟩, va_recv hK hP (ci := 5) (q0 := k_14) rfl (Wd_ob kg_18 sg_18 (by decide)), fun U hU hW => ⟨rfl, by rw [hU], by rw [hU]; exact hP, va_K.moved hW.alike hK, hD.weaken (fun _ _ _ _ => trivial), hN.warm hW⟩⟩ rfl rfl hl.1 rfl (lv_room (Nat.le_of_ble_eq_true rfl)) dX6_readFunctions_44 ⟨Nat.le_of_ble_eq_true rfl, Nat.le_of_ble_eq_true rfl⟩) hS (fun q _ h => hFc q h) hFc (fun u t H_19 locs ht hvm hw hB hz1 hk1 hS2 => ?_)
      obtain ⟨hP1, -, hD1⟩ := hB
      rw [ht] at hP1
      replace hD := hD1.weaken (fun _ _ _ h => hFc _ h)
      replace hP := hP1
      replace hS := hS2
      clear hP1 hD1 hS2 hFc hfc hz1 hk1 hvm ht
      refine lv_aload_n hx hb dX6_readFunctions_47 rfl (lv_at hl 2 rfl) ?_
      obtain ⟨k_20, ek_20, hf⟩ := lnk_some hf
      refine va_get (D := (dC, dI)) (ci := 6) (v := .ref (a k_20)) (C := RX6) (T := TX6) (N := 9) hx hb hts iwd_X6_readFunctions_X6 hown hK hP h0 (Wd_ob kg_3 sg_3 (by decide)) rfl 2 (by decide) (hts _ md_X6_readFunctions_1) (fun _ h9 => h9) (fl_q rfl ek_20) dX6_readFunctions_48 ?_
      refine lv_iload_n hx hb dX6_readFunctions_51 rfl (lv_at hl 0 rfl) ?_
      refine lv_bipush (v := 8) hx hb dX6_readFunctions_52 (by decide) ?_
      refine lv_iload_n hx hb dX6_readFunctions_54 rfl (lv_at hl 0 rfl) ?_
      obtain ⟨g_22, hf⟩ := grd_some hf
      obtain ⟨kg_22, sg_22⟩ := okO_at g_22
      obtain ⟨z_21, _u, hfc, hf⟩ := cal_some hf
      have hFc := de_free hD hS hA
      refine va_callv (va_runV (As := [.int p_9, .int 8, .int p_9]) (rest := []) ⟨hx, hb, hml, hown, hts⟩ (de_X5_setFunction l dC dI cy a sh n H_19.size F z_17 k_20 p_9 8 p_9 hfc) (cwV 3 hts gX6_readFunctions_X5_setFunction rfl rfl rfl (by decide +kernel) ⟨Nat.le_of_ble_eq_true rfl, Nat.le_of_ble_eq_true rfl⟩) ⟨fun a U g mk q => by obtain ⟨q0, q1, qP, qK, qD, qN⟩ := q; exact ⟨q0, q1, qP, va_K.moved (u := U) (U := U.calling g mk a) (Vm.Alike.refl U.vm) qK, qD, qN.same rfl⟩, va_recv hK hP (ci := 5) (q0 := k_20) rfl (Wd_ob kg_22 sg_22 (by decide)), fun U hU hW => ⟨rfl, by rw [hU], by rw [hU]; exact hP, va_K.moved hW.alike hK, hD.weaken (fun _ _ _ _ => trivial), hN.warm hW⟩⟩ rfl rfl hl.1 rfl (lv_room (Nat.le_of_ble_eq_true rfl)) dX6_readFunctions_55 ⟨Nat.le_of_ble_eq_true rfl, Nat.le_of_ble_eq_true rfl⟩) hS (fun q _ h => hFc q h) hFc (fun u t H_23 locs ht hvm hw hB hz1 hk1 hS2 => ?_)
      obtain ⟨hP1, -, hD1⟩ := hB
      rw [ht] at hP1
      replace hD := hD1.weaken (fun _ _ _ h => hFc _ h)
      replace hP := hP1
      replace hS := hS2
      clear hP1 hD1 hS2 hFc hfc hz1 hk1 hvm ht
      refine lv_aload_n hx hb dX6_readFunctions_58 rfl (lv_at hl 2 rfl) ?_
      obtain ⟨k_24, ek_24, hf⟩ := lnk_some hf
      refine va_get (D := (dC, dI)) (ci := 6) (v := .ref (a k_24)) (C := RX6) (T := TX6) (N := 9) hx hb hts iwd_X6_readFunctions_X6 hown hK hP h0 (Wd_ob kg_3 sg_3 (by decide)) rfl 2 (by decide) (hts _ md_X6_readFunctions_1) (fun _ h9 => h9) (fl_q rfl ek_24) dX6_readFunctions_59 ?_
      refine lv_iload_n hx hb dX6_readFunctions_62 rfl (lv_at hl 0 rfl) ?_
      refine lv_iconst (v := 0) hx hb dX6_readFunctions_63 (by decide) ?_
      refine lv_aload_n hx hb dX6_readFunctions_64 rfl (lv_at hl 2 rfl) ?_
      refine lv_iconst (v := 0) hx hb dX6_readFunctions_65 (by decide) ?_
      refine lv_bipush (v := 7) hx hb dX6_readFunctions_66 (by decide) ?_
      obtain ⟨z_25, r_26, hfc, hf⟩ := cal_some hf
      have hFc := de_free hD hS hA
      refine va_calli (va_runV (As := [.int 0, .int 7]) (rest := [.int 0, .int p_9, .ref (a k_24)]) ⟨hx, hb, hml, hown, hts⟩ (de_X6_readNumber l dC dI cy a sh n H_23.size F sk z_21 h0 0 7 hfc) (cwV 2 hts gX6_readFunctions_X6_readNumber rfl rfl rfl (by decide +kernel) ⟨Nat.le_of_ble_eq_true rfl, Nat.le_of_ble_eq_true rfl⟩) ⟨fun a U g mk q => by obtain ⟨q0, q1, qP, qK, qD, qN, qS⟩ := q; exact ⟨q0, q1, qP, va_K.moved (u := U) (U := U.calling g mk a) (Vm.Alike.refl U.vm) qK, qD, qN.same rfl, SKs.moved (u := U) (U := U.calling g mk a) (Vm.Alike.refl U.vm) qS⟩, va_recv hK hP (ci := 6) (q0 := h0) rfl (Wd_ob kg_3 sg_3 (by decide)), fun U hU hW => ⟨rfl, by rw [hU], by rw [hU]; exact hP, va_K.moved hW.alike hK, hD.weaken (fun _ _ _ _ => trivial), hN.warm hW, by rw [hU]; exact ((hSK.kept hS.2.1).narrow hFc).moved hW.alike⟩⟩ rfl rfl hl.1 rfl (lv_room (Nat.le_of_ble_eq_true rfl)) dX6_readFunctions_68 ⟨Nat.le_of_ble_eq_true rfl, Nat.le_of_ble_eq_true rfl⟩) hS (fun q _ h => hFc q h) hFc (fun rr u t H_27 locs ht hvm hw hB hz1 hk1 hS2 => ?_)
      rw [hw]
      clear hw
      obtain ⟨hP1, -, hD1⟩ := hB
      rw [ht] at hP1
      replace hD := hD1.weaken (fun _ _ _ h => hFc _ h)
      replace hP := hP1
      replace hS := hS2
      clear hP1 hD1 hS2 hFc hfc hz1 hk1 hvm ht
      obtain ⟨g_29, hf⟩ := grd_some hf
      obtain ⟨kg_29, sg_29⟩ := okO_at g_29
      obtain ⟨z_28, _u, hfc, hf⟩ := cal_some hf
      have hFc := de_free hD hS hA
      refine va_callv (va_runV (As := [.int p_9, .int 0, .int r_26]) (rest := []) ⟨hx, hb, hml, hown, hts⟩ (de_X5_setFunction l dC dI cy a sh n H_27.size F z_25 k_24 p_9 0 r_26 hfc) (cwV 3 hts gX6_readFunctions_X5_setFunction rfl rfl rfl (by decide +kernel) ⟨Nat.le_of_ble_eq_true rfl, Nat.le_of_ble_eq_true rfl⟩) ⟨fun a U g mk q => by obtain ⟨q0, q1, qP, qK, qD, qN⟩ := q; exact ⟨q0, q1, qP, va_K.moved (u := U) (U := U.calling g mk a) (Vm.Alike.refl U.vm) qK, qD, qN.same rfl⟩, va_recv hK hP (ci := 5) (q0 := k_24) rfl (Wd_ob kg_29 sg_29 (by decide)), fun U hU hW => ⟨rfl, by rw [hU], by rw [hU]; exact hP, va_K.moved hW.alike hK, hD.weaken (fun _ _ _ _ => trivial), hN.warm hW⟩⟩ rfl rfl hl.1 rfl (lv_room (Nat.le_of_ble_eq_true rfl)) dX6_readFunctions_71 ⟨Nat.le_of_ble_eq_true rfl, Nat.le_of_ble_eq_true rfl⟩) hS (fun q _ h => hFc q h) hFc (fun u t H_30 locs ht hvm hw hB hz1 hk1 hS2 => ?_)
      obtain ⟨hP1, -, hD1⟩ := hB
      rw [ht] at hP1
      replace hD := hD1.weaken (fun _ _ _ h => hFc _ h)
      replace hP := hP1
      replace hS := hS2
      clear hP1 hD1 hS2 hFc hfc hz1 hk1 hvm ht
      refine lv_aload_n hx hb dX6_readFunctions_74 rfl (lv_at hl 2 rfl) ?_
      obtain ⟨k_31, ek_31, hf⟩ := lnk_some hf
      refine va_get (D := (dC, dI)) (ci := 6) (v := .ref (a k_31)) (C := RX6) (T := TX6) (N := 9) hx hb hts iwd_X6_readFunctions_X6 hown hK hP h0 (Wd_ob kg_3 sg_3 (by decide)) rfl 2 (by decide) (hts _ md_X6_readFunctions_1) (fun _ h9 => h9) (fl_q rfl ek_31) dX6_readFunctions_75 ?_
      refine lv_iload_n hx hb dX6_readFunctions_78 rfl (lv_at hl 0 rfl) ?_
      refine lv_iconst (v := 1) hx hb dX6_readFunctions_79 (by decide) ?_
      refine lv_aload_n hx hb dX6_readFunctions_80 rfl (lv_at hl 2 rfl) ?_
      obtain ⟨k_32, ek_32, hf⟩ := lnk_some hf
      refine va_get (D := (dC, dI)) (ci := 6) (v := .ref (a k_32)) (C := RX6) (T := TX6) (N := 9) hx hb hts iwd_X6_readFunctions_X6 hown hK hP h0 (Wd_ob kg_3 sg_3 (by decide)) rfl 2 (by decide) (hts _ md_X6_readFunctions_1) (fun _ h9 => h9) (fl_q rfl ek_32) dX6_readFunctions_81 ?_
      obtain ⟨g_33, hf⟩ := grd_some hf
      obtain ⟨kg_33, sg_33⟩ := okO_at g_33
      refine va_get (D := (dC, dI)) (ci := 5) (v := .int (z_28.1 k_32 4)) (C := RX5) (T := TX5) (N := 15) hx hb hts iwd_X6_readFunctions_X5 hown hK hP k_32 (Wd_ob kg_33 sg_33 (by decide)) rfl 4 (by decide) (hts _ md_X6_readFunctions_5) (fun _ h9 => h9) (fl_at (t := 0) rfl) dX6_readFunctions_84 ?_
      obtain ⟨g_35, hf⟩ := grd_some hf
      obtain ⟨kg_35, sg_35⟩ := okO_at g_35
      obtain ⟨z_34, _u, hfc, hf⟩ := cal_some hf
      have hFc := de_free hD hS hA
      refine va_callv (va_runV (As := [.int p_9, .int 1, .int (z_28.1 k_32 4)]) (rest := []) ⟨hx, hb, hml, hown, hts⟩ (de_X5_setFunction l dC dI cy a sh n H_30.size F z_28 k_31 p_9 1 (z_28.1 k_32 4) hfc) (cwV 3 hts gX6_readFunctions_X5_setFunction rfl rfl rfl (by decide +kernel) ⟨Nat.le_of_ble_eq_true rfl, Nat.le_of_ble_eq_true rfl⟩) ⟨fun a U g mk q => by obtain ⟨q0, q1, qP, qK, qD, qN⟩ := q; exact ⟨q0, q1, qP, va_K.moved (u := U) (U := U.calling g mk a) (Vm.Alike.refl U.vm) qK, qD, qN.same rfl⟩, va_recv hK hP (ci := 5) (q0 := k_31) rfl (Wd_ob kg_35 sg_35 (by decide)), fun U hU hW => ⟨rfl, by rw [hU], by rw [hU]; exact hP, va_K.moved hW.alike hK, hD.weaken (fun _ _ _ _ => trivial), hN.warm hW⟩⟩ rfl rfl hl.1 rfl (lv_room (Nat.le_of_ble_eq_true rfl)) dX6_readFunctions_87 ⟨Nat.le_of_ble_eq_true rfl, Nat.le_of_ble_eq_true rfl⟩) hS (fun q _ h => hFc q h) hFc (fun u t H_36 locs ht hvm hw hB hz1 hk1 hS2 => ?_)
      obtain ⟨hP1, -, hD1⟩ := hB
      rw [ht] at hP1
      replace hD := hD1.weaken (fun _ _ _ h => hFc _ h)
      replace hP := hP1
      replace hS := hS2
      clear hP1 hD1 hS2 hFc hfc hz1 hk1 hvm ht
      refine lv_aload_n hx hb dX6_readFunctions_90 rfl (lv_at hl 2 rfl) ?_
      refine lv_bipush (v := 8) hx hb dX6_readFunctions_91 (by decide) ?_
      obtain ⟨z_37, r_38, hfc, hf⟩ := cal_some hf
      have hFc := de_free hD hS hA
      refine va_calli (va_runV (As := [.int 8]) (rest := []) ⟨hx, hb, hml, hown, hts⟩ (de_X6_readList l dC dI cy a sh n H_36.size F sk z_34 h0 8 hfc) (cwV 1 hts gX6_readFunctions_X6_readList rfl rfl rfl (by decide +kernel) ⟨Nat.le_of_ble_eq_true rfl, Nat.le_of_ble_eq_true rfl⟩) ⟨fun a U g mk q => by obtain ⟨q0, q1, qP, qK, qD, qN, qS⟩ := q; exact ⟨q0, q1, qP, va_K.moved (u := U) (U := U.calling g mk a) (Vm.Alike.refl U.vm) qK, qD, qN.same rfl, SKs.moved (u := U) (U := U.calling g mk a) (Vm.Alike.refl U.vm) qS⟩, va_recv hK hP (ci := 6) (q0 := h0) rfl (Wd_ob kg_3 sg_3 (by decide)), fun U hU hW => ⟨rfl, by rw [hU], by rw [hU]; exact hP, va_K.moved hW.alike hK, hD.weaken (fun _ _ _ _ => trivial), hN.warm hW, by rw [hU]; exact ((hSK.kept hS.2.1).narrow hFc).moved hW.alike⟩⟩ rfl rfl hl.1 rfl (lv_room (Nat.le_of_ble_eq_true rfl)) dX6_readFunctions_93 ⟨Nat.le_of_ble_eq_true rfl, Nat.le_of_ble_eq_true rfl⟩) hS (fun q _ h => hFc q h) hFc (fun rr u t H_39 locs ht hvm hw hB hz1 hk1 hS2 => ?_)
      rw [hw]
      clear hw
      obtain ⟨hP1, -, hD1⟩ := hB
      rw [ht] at hP1
      replace hD := hD1.weaken (fun _ _ _ h => hFc _ h)
      replace hP := hP1
      replace hS := hS2
      clear hP1 hD1 hS2 hFc hfc hz1 hk1 hvm ht
      refine lv_istore_n (lv' := [(3, .int r_38), (2, .int p_9), (1, .int r_2), (0, .ref (a h0))]) hx hb dX6_readFunctions_96 rfl hl (by decide) rfl (fun ls hl2 => ?_)
      replace hl := hl2
      clear hl2
      refine lv_aload_n hx hb dX6_readFunctions_97 rfl (lv_at hl 3 rfl) ?_
      obtain ⟨k_40, ek_40, hf⟩ := lnk_some hf
      refine va_get (D := (dC, dI)) (ci := 6) (v := .ref (a k_40)) (C := RX6) (T := TX6) (N := 9) hx hb hts iwd_X6_readFunctions_X6 hown hK hP h0 (Wd_ob kg_3 sg_3 (by decide)) rfl 2 (by decide) (hts _ md_X6_readFunctions_1) (fun _ h9 => h9) (fl_q rfl ek_40) dX6_readFunctions_98 ?_
      refine lv_iload_n hx hb dX6_readFunctions_101 rfl (lv_at hl 1 rfl) ?_
      refine lv_iconst (v := 2) hx hb dX6_readFunctions_102 (by decide) ?_
      refine lv_iload_n hx hb dX6_readFunctions_103 rfl (lv_at hl 0 rfl) ?_
      obtain ⟨g_42, hf⟩ := grd_some hf
      obtain ⟨kg_42, sg_42⟩ := okO_at g_42
      obtain ⟨z_41, _u, hfc, hf⟩ := cal_some hf
      have hFc := de_free hD hS hA
      refine va_callv (va_runV (As := [.int p_9, .int 2, .int r_38]) (rest := []) ⟨hx, hb, hml, hown, hts⟩ (de_X5_setFunction l dC dI cy a sh n H_39.size F z_37 k_40 p_9 2 r_38 hfc) (cwV 3 hts gX6_readFunctions_X5_setFunction rfl rfl rfl (by decide +kernel) ⟨Nat.le_of_ble_eq_true rfl, Nat.le_of_ble_eq_true rfl⟩) ⟨fun a U g mk q => by obtain ⟨q0, q1, qP, qK, qD, qN⟩ := q; exact ⟨q0, q1, qP, va_K.moved (u := U) (U := U.calling g mk a) (Vm.Alike.refl U.vm) qK, qD, qN.same rfl⟩, va_recv hK hP (ci := 5) (q0 := k_40) rfl (Wd_ob kg_42 sg_42 (by decide)), fun U hU hW => ⟨rfl, by rw [hU], by rw [hU]; exact hP, va_K.moved hW.alike hK, hD.weaken (fun _ _ _ _ => trivial), hN.warm hW⟩⟩ rfl rfl hl.1 rfl (lv_room (Nat.le_of_ble_eq_true rfl)) dX6_readFunctions_104 ⟨Nat.le_of_ble_eq_true rfl, Nat.le_of_ble_eq_true rfl⟩) hS (fun q _ h => hFc q h) hFc (fun u t H_43 locs ht hvm hw hB hz1 hk1 hS2 => ?_)
      obtain ⟨hP1, -, hD1⟩ := hB
      rw [ht] at hP1
      replace hD := hD1.weaken (fun _ _ _ h => hFc _ h)
      replace hP := hP1
      replace hS := hS2
      clear hP1 hD1 hS2 hFc hfc hz1 hk1 hvm ht
      refine lv_aload_n hx hb dX6_readFunctions_107 rfl (lv_at hl 3 rfl) ?_
      obtain ⟨k_44, ek_44, hf⟩ := lnk_some hf
      refine va_get (D := (dC, dI)) (ci := 6) (v := .ref (a k_44)) (C := RX6) (T := TX6) (N := 9) hx hb hts iwd_X6_readFunctions_X6 hown hK hP h0 (Wd_ob kg_3 sg_3 (by decide)) rfl 2 (by decide) (hts _ md_X6_readFunctions_1) (fun _ h9 => h9) (fl_q rfl ek_44) dX6_readFunctions_108 ?_
      refine lv_iload_n hx hb dX6_readFunctions_111 rfl (lv_at hl 1 rfl) ?_
      refine lv_iconst (v := 3) hx hb dX6_readFunctions_112 (by decide) ?_
      refine lv_aload_n hx hb dX6_readFunctions_113 rfl (lv_at hl 3 rfl) ?_
      refine lv_bipush (v := 8) hx hb dX6_readFunctions_114 (by decide) ?_
      obtain ⟨z_45, r_46, hfc, hf⟩ := cal_some hf
      have hFc := de_free hD hS hA
      refine va_calli (va_runV (As := [.int 8]) (rest := [.int 3, .int p_9, .ref (a k_44)]) ⟨hx, hb, hml, hown, hts⟩ (de_X6_readList l dC dI cy a sh n H_43.size F sk z_41 h0 8 hfc) (cwV 1 hts gX6_readFunctions_X6_readList rfl rfl rfl (by decide +kernel) ⟨Nat.le_of_ble_eq_true rfl, Nat.le_of_ble_eq_true rfl⟩) ⟨fun a U g mk q => by obtain ⟨q0, q1, qP, qK, qD, qN, qS⟩ := q; exact ⟨q0, q1, qP, va_K.moved (u := U) (U := U.calling g mk a) (Vm.Alike.refl U.vm) qK, qD, qN.same rfl, SKs.moved (u := U) (U := U.calling g mk a) (Vm.Alike.refl U.vm) qS⟩, va_recv hK hP (ci := 6) (q0 := h0) rfl (Wd_ob kg_3 sg_3 (by decide)), fun U hU hW => ⟨rfl, by rw [hU], by rw [hU]; exact hP, va_K.moved hW.alike hK, hD.weaken (fun _ _ _ _ => trivial), hN.warm hW, by rw [hU]; exact ((hSK.kept hS.2.1).narrow hFc).moved hW.alike⟩⟩ rfl rfl hl.1 rfl (lv_room (Nat.le_of_ble_eq_true rfl)) dX6_readFunctions_116 ⟨Nat.le_of_ble_eq_true rfl, Nat.le_of_ble_eq_true rfl⟩) hS (fun q _ h => hFc q h) hFc (fun rr u t H_47 locs ht hvm hw hB hz1 hk1 hS2 => ?_)
      rw [hw]
      clear hw
      obtain ⟨hP1, -, hD1⟩ := hB
      rw [ht] at hP1
      replace hD := hD1.weaken (fun _ _ _ h => hFc _ h)
      replace hP := hP1
      replace hS := hS2
      clear hP1 hD1 hS2 hFc hfc hz1 hk1 hvm ht
      obtain ⟨g_49, hf⟩ := grd_some hf
      obtain ⟨kg_49, sg_49⟩ := okO_at g_49
      obtain ⟨z_48, _u, hfc, hf⟩ := cal_some hf
      have hFc := de_free hD hS hA
      refine va_callv (va_runV (As := [.int p_9, .int 3, .int r_46]) (rest := []) ⟨hx, hb, hml, hown, hts⟩ (de_X5_setFunction l dC dI cy a sh n H_47.size F z_45 k_44 p_9 3 r_46 hfc) (cwV 3 hts gX6_readFunctions_X5_setFunction rfl rfl rfl (by decide +kernel) ⟨Nat.le_of_ble_eq_true rfl, Nat.le_of_ble_eq_true rfl⟩) ⟨fun a U g mk q => by obtain ⟨q0, q1, qP, qK, qD, qN⟩ := q; exact ⟨q0, q1, qP, va_K.moved (u := U) (U := U.calling g mk a) (Vm.Alike.refl U.vm) qK, qD, qN.same rfl⟩, va_recv hK hP (ci := 5) (q0 := k_44) rfl (Wd_ob kg_49 sg_49 (by decide)), fun U hU hW => ⟨rfl, by rw [hU], by rw [hU]; exact hP, va_K.moved hW.alike hK, hD.weaken (fun _ _ _ _ => trivial), hN.warm hW⟩⟩ rfl rfl hl.1 rfl (lv_room (Nat.le_of_ble_eq_true rfl)) dX6_readFunctions_119 ⟨Nat.le_of_ble_eq_true rfl, Nat.le_of_ble_eq_true rfl⟩) hS (fun q _ h => hFc q h) hFc (fun u t H_50 locs ht hvm hw hB hz1 hk1 hS2 => ?_)
      obtain ⟨hP1, -, hD1⟩ := hB
      rw [ht] at hP1
      replace hD := hD1.weaken (fun _ _ _ h => hFc _ h)
      replace hP := hP1
      replace hS := hS2
      clear hP1 hD1 hS2 hFc hfc hz1 hk1 hvm ht
      refine lv_aload_n hx hb dX6_readFunctions_122 rfl (lv_at hl 3 rfl) ?_
      refine lv_bipush (v := 32) hx hb dX6_readFunctions_123 (by decide) ?_
      obtain ⟨z_51, r_52, hfc, hf⟩ := cal_some hf
      have hFc := de_free hD hS hA
      refine va_calli (va_runV (As := [.int 32]) (rest := []) ⟨hx, hb, hml, hown, hts⟩ (de_X6_readList l dC dI cy a sh n H_50.size F sk z_48 h0 32 hfc) (cwV 1 hts gX6_readFunctions_X6_readList rfl rfl rfl (by decide +kernel) ⟨Nat.le_of_ble_eq_true rfl, Nat.le_of_ble_eq_true rfl⟩) ⟨fun a U g mk q => by obtain ⟨q0, q1, qP, qK, qD, qN, qS⟩ := q; exact ⟨q0, q1, qP, va_K.moved (u := U) (U := U.calling g mk a) (Vm.Alike.refl U.vm) qK, qD, qN.same rfl, SKs.moved (u := U) (U := U.calling g mk a) (Vm.Alike.refl U.vm) qS⟩, va_recv hK hP (ci := 6) (q0 := h0) rfl (Wd_ob kg_3 sg_3 (by decide)), fun U hU hW => ⟨rfl, by rw [hU], by rw [hU]; exact hP, va_K.moved hW.alike hK, hD.weaken (fun _ _ _ _ => trivial), hN.warm hW, by rw [hU]; exact ((hSK.kept hS.2.1).narrow hFc).moved hW.alike⟩⟩ rfl rfl hl.1 rfl (lv_room (Nat.le_of_ble_eq_true rfl)) dX6_readFunctions_125 ⟨Nat.le_of_ble_eq_true rfl, Nat.le_of_ble_eq_true rfl⟩) hS (fun q _ h => hFc q h) hFc (fun rr u t H_53 locs ht hvm hw hB hz1 hk1 hS2 => ?_)
      rw [hw]
      clear hw
      obtain ⟨hP1, -, hD1⟩ := hB
      rw [ht] at hP1
      replace hD := hD1.weaken (fun _ _ _ h => hFc _ h)
      replace hP := hP1
      replace hS := hS2
      clear hP1 hD1 hS2 hFc hfc hz1 hk1 hvm ht
      refine lv_istore (lv' := [(4, .int r_52), (3, .int r_38), (2, .int p_9), (1, .int r_2), (0, .ref (a h0))]) hx hb dX6_readFunctions_128 hl (by decide) rfl (fun ls hl2 => ?_)
      replace hl := hl2
      clear hl2
      refine lv_aload_n hx hb dX6_readFunctions_130 rfl (lv_at hl 4 rfl) ?_
      obtain ⟨k_54, ek_54, hf⟩ := lnk_some hf
      refine va_get (D := (dC, dI)) (ci := 6) (v := .ref (a k_54)) (C := RX6) (T := TX6) (N := 9) hx hb hts iwd_X6_readFunctions_X6 hown hK hP h0 (Wd_ob kg_3 sg_3 (by decide)) rfl 2 (by decide) (hts _ md_X6_readFunctions_1) (fun _ h9 => h9) (fl_q rfl ek_54) dX6_readFunctions_131 ?_
      refine lv_iload_n hx hb dX6_readFunctions_134 rfl (lv_at hl 2 rfl) ?_
      refine lv_iconst (v := 4) hx hb dX6_readFunctions_135 (by decide) ?_
      refine lv_iload hx hb dX6_readFunctions_136 (lv_at hl 0 rfl) ?_
      obtain ⟨g_56, hf⟩ := grd_some hf
      obtain ⟨kg_56, sg_56⟩ := okO_at g_56
      obtain ⟨z_55, _u, hfc, hf⟩ := cal_some hf
      have hFc := de_free hD hS hA
      refine va_callv (va_runV (As := [.int p_9, .int 4, .int r_52]) (rest := []) ⟨hx, hb, hml, hown, hts⟩ (de_X5_setFunction l dC dI cy a sh n H_53.size F z_51 k_54 p_9 4 r_52 hfc) (cwV 3 hts gX6_readFunctions_X5_setFunction rfl rfl rfl (by decide +kernel) ⟨Nat.le_of_ble_eq_true rfl, Nat.le_of_ble_eq_true rfl⟩) ⟨fun a U g mk q => by obtain ⟨q0, q1, qP, qK, qD, qN⟩ := q; exact ⟨q0, q1, qP, va_K.moved (u := U) (U := U.calling g mk a) (Vm.Alike.refl U.vm) qK, qD, qN.same rfl⟩, va_recv hK hP (ci := 5) (q0 := k_54) rfl (Wd_ob kg_56 sg_56 (by decide)), fun U hU hW => ⟨rfl, by rw [hU], by rw [hU]; exact hP, va_K.moved hW.alike hK, hD.weaken (fun _ _ _ _ => trivial), hN.warm hW⟩⟩ rfl rfl hl.1 rfl (lv_room (Nat.le_of_ble_eq_true rfl)) dX6_readFunctions_138 ⟨Nat.le_of_ble_eq_true rfl, Nat.le_of_ble_eq_true rfl⟩) hS (fun q _ h => hFc q h) hFc (fun u t H_57 locs ht hvm hw hB hz1 hk1 hS2 => ?_)
      obtain ⟨hP1, -, hD1⟩ := hB
      rw [ht] at hP1
      replace hD := hD1.weaken (fun _ _ _ h => hFc _ h)
      replace hP := hP1
      replace hS := hS2
      clear hP1 hD1 hS2 hFc hfc hz1 hk1 hvm ht
      refine lv_aload_n hx hb dX6_readFunctions_141 rfl (lv_at hl 4 rfl) ?_
      refine lv_iload_n hx hb dX6_readFunctions_142 rfl (lv_at hl 1 rfl) ?_
      refine lv_iload hx hb dX6_readFunctions_143 (lv_at hl 0 rfl) ?_
      refine lv_iadd hx hb dX6_readFunctions_145 ?_
      refine va_put (D := (dC, dI)) (ci := 6) (v := .int (r_38 + r_52)) (ty := .int) (C := RX6) (T := TX6) (N := 9) hx hb hts iwd_X6_readFunctions_X6 tyX6 tyX6_ok nmX6 hown hK hP hD hS h0 (Wd_ob kg_3 sg_3 (by decide)) rfl 6 (by decide) (hts _ md_X6_readFunctions_6) (fun _ h9 => h9) rfl (by decide +kernel) rfl rfl (by rw [fl_len]; decide) dX6_readFunctions_146 (fun H_58 locs hP2 hD2 hS2 => ?_)
      rw [Wd_si sg_3 (by decide) rfl] at hP2 hD2
      obtain ⟨z_59, ez_59⟩ : ∃ w, w = si z_55 h0 6 (r_38 + r_52) := ⟨_, rfl⟩
      rw [← ez_59] at hP2 hD2
      replace hf := lt_at ez_59 hf
      clear ez_59
      replace hP := hP2
      replace hD := hD2
      replace hS := hS2
      clear hP2 hD2 hS2
      refine lv_aload_n hx hb dX6_readFunctions_149 rfl (lv_at hl 4 rfl) ?_
      refine va_get (D := (dC, dI)) (ci := 6) (v := .int (z_59.1 h0 3)) (C := RX6) (T := TX6) (N := 9) hx hb hts iwd_X6_readFunctions_X6 hown hK hP h0 (Wd_ob kg_3 sg_3 (by decide)) rfl 3 (by decide) (hts _ md_X6_readFunctions_7) (fun _ h9 => h9) (fl_at (t := 0) rfl) dX6_readFunctions_150 ?_
      refine lv_topi (fun v_60 ev_60 => ?_)
      replace hf := lt_at ev_60 hf
      clear ev_60
      refine lv_istore (lv' := [(5, .int v_60), (4, .int r_52), (3, .int r_38), (2, .int p_9), (1, .int r_2), (0, .ref (a h0))]) hx hb dX6_readFunctions_153 hl (by decide) rfl (fun ls hl2 => ?_)
      replace hl := hl2
      clear hl2
      refine lv_aload_n hx hb dX6_readFunctions_155 rfl (lv_at hl 5 rfl) ?_
      refine lv_aload_n hx hb dX6_readFunctions_156 rfl (lv_at hl 5 rfl) ?_
      obtain ⟨z_61, r_62, hfc, hf⟩ := cal_some hf
      have hFc := de_free hD hS hA
      refine va_calli (va_runV (As := []) (rest := [.ref (a h0)]) ⟨hx, hb, hml, hown, hts⟩ (de_X6_readShort l dC dI cy a sh n H_58.size F sk z_59 h0 hfc) (cwV 0 hts gX6_readFunctions_X6_readShort rfl rfl rfl (by decide +kernel) ⟨Nat.le_of_ble_eq_true rfl, Nat.le_of_ble_eq_true rfl⟩) ⟨fun a U g mk q => by obtain ⟨q0, q1, qP, qK, qD, qN, qS⟩ := q; exact ⟨q0, q1, qP, va_K.moved (u := U) (U := U.calling g mk a) (Vm.Alike.refl U.vm) qK, qD, qN.same rfl, SKs.moved (u := U) (U := U.calling g mk a) (Vm.Alike.refl U.vm) qS⟩, va_recv hK hP (ci := 6) (q0 := h0) rfl (Wd_ob kg_3 sg_3 (by decide)), fun U hU hW => ⟨rfl, by rw [hU], by rw [hU]; exact hP, va_K.moved hW.alike hK, hD.weaken (fun _ _ _ _ => trivial), hN.warm hW, by rw [hU]; exact ((hSK.kept hS.2.1).narrow hFc).moved hW.alike⟩⟩ rfl rfl hl.1 rfl (lv_room (Nat.le_of_ble_eq_true rfl)) dX6_readFunctions_157 ⟨Nat.le_of_ble_eq_true rfl, Nat.le_of_ble_eq_true rfl⟩) hS (fun q _ h => hFc q h) hFc (fun rr u t H_63 locs ht hvm hw hB hz1 hk1 hS2 => ?_)
      rw [hw]
      clear hw
      obtain ⟨hP1, -, hD1⟩ := hB
      rw [ht] at hP1
      replace hD := hD1.weaken (fun _ _ _ h => hFc _ h)
      replace hP := hP1
      replace hS := hS2
      clear hP1 hD1 hS2 hFc hfc hz1 hk1 hvm ht
      refine va_put (D := (dC, dI)) (ci := 6) (v := .int r_62) (ty := .int) (C := RX6) (T := TX6) (N := 9) hx hb hts iwd_X6_readFunctions_X6 tyX6 tyX6_ok nmX6 hown hK hP hD hS h0 (Wd_ob kg_3 sg_3 (by decide)) rfl 7 (by decide) (hts _ md_X6_readFunctions_8) (fun _ h9 => h9) rfl (by decide +kernel) rfl rfl (by rw [fl_len]; decide) dX6_readFunctions_160 (fun H_64 locs hP2 hD2 hS2 => ?_)
      rw [Wd_si sg_3 (by decide) rfl] at hP2 hD2
      obtain ⟨z_65, ez_65⟩ : ∃ w, w = si z_61 h0 7 r_62 := ⟨_, rfl⟩
      rw [← ez_65] at hP2 hD2
      replace hf := lt_at ez_65 hf
      clear ez_65
      replace hP := hP2
      replace hD := hD2
      replace hS := hS2
      clear hP2 hD2 hS2
      refine lv_aload_n hx hb dX6_readFunctions_163 rfl (lv_at hl 5 rfl) ?_
      refine lv_dup hx hb dX6_readFunctions_164 rfl ?_
      refine va_get (D := (dC, dI)) (ci := 6) (v := .int (z_65.1 h0 5)) (C := RX6) (T := TX6) (N := 9) hx hb hts iwd_X6_readFunctions_X6 hown hK hP h0 (Wd_ob kg_3 sg_3 (by decide)) rfl 5 (by decide) (hts _ md_X6_readFunctions_9) (fun _ h9 => h9) (fl_at (t := 0) rfl) dX6_readFunctions_165 ?_
      refine lv_aload_n hx hb dX6_readFunctions_168 rfl (lv_at hl 5 rfl) ?_
      refine va_get (D := (dC, dI)) (ci := 6) (v := .int (z_65.1 h0 7)) (C := RX6) (T := TX6) (N := 9) hx hb hts iwd_X6_readFunctions_X6 hown hK hP h0 (Wd_ob kg_3 sg_3 (by decide)) rfl 7 (by decide) (hts _ md_X6_readFunctions_8) (fun _ h9 => h9) (fl_at (t := 0) rfl) dX6_readFunctions_169 ?_
      refine lv_iadd hx hb dX6_readFunctions_172 ?_
      refine va_put (D := (dC, dI)) (ci := 6) (v := .int ((z_65.1 h0 5) + (z_65.1 h0 7))) (ty := .int) (C := RX6) (T := TX6) (N := 9) hx hb hts iwd_X6_readFunctions_X6 tyX6 tyX6_ok nmX6 hown hK hP hD hS h0 (Wd_ob kg_3 sg_3 (by decide)) rfl 5 (by decide) (hts _ md_X6_readFunctions_9) (fun _ h9 => h9) rfl (by decide +kernel) rfl rfl (by rw [fl_len]; decide) dX6_readFunctions_173 (fun H_66 locs hP2 hD2 hS2 => ?_)
      rw [Wd_si sg_3 (by decide) rfl] at hP2 hD2
      obtain ⟨z_67, ez_67⟩ : ∃ w, w = si z_65 h0 5 ((z_65.1 h0 5) + (z_65.1 h0 7)) := ⟨_, rfl⟩
      rw [← ez_67] at hP2 hD2
      replace hf := lt_at ez_67 hf
      clear ez_67
      replace hP := hP2
      replace hD := hD2
      replace hS := hS2
      clear hP2 hD2 hS2
      refine lv_aload_n hx hb dX6_readFunctions_176 rfl (lv_at hl 5 rfl) ?_
      refine va_get (D := (dC, dI)) (ci := 6) (v := .int (z_67.1 h0 7)) (C := RX6) (T := TX6) (N := 9) hx hb hts iwd_X6_readFunctions_X6 hown hK hP h0 (Wd_ob kg_3 sg_3 (by decide)) rfl 7 (by decide) (hts _ md_X6_readFunctions_8) (fun _ h9 => h9) (fl_at (t := 0) rfl) dX6_readFunctions_177 ?_
      refine lv_iconst (v := 1) hx hb dX6_readFunctions_180 (by decide) ?_
      refine de_cut (h := 211) (fun (x : St) => []) (fun x ls H locs => lv_has ls 7 [(2, .int p_9), (1, .int r_2), (0, .ref (a h0))] ∧ va_P (dC, dI) vwCl (Wd cy a sh n x) H ∧ va_D A (Wd cy a sh n x) ∧ va_S A s.heap H locs) (fun x => fn_X6_readFunctions_B211 F sh n h0 p_9 (fun z9 q2 => fn_X6_readFunctions_L18 F sh n r_2 h0 f_11 z9 q2) x) (z8, r8) ?_ (fun B211 => ?_)
      · intro x ls H locs hI hf
        obtain ⟨z_68, ez⟩ : ∃ w, w = x := ⟨_, rfl⟩
        subst ez
        obtain ⟨hl2, hP2, hD2, hS2⟩ := hI
        replace hl : lv_has ls 7 [(2, .int p_9), (1, .int r_2), (0, .ref (a h0))] := hl2
        replace hP := hP2
        replace hD := hD2
        replace hS := hS2
        clear hl2 hP2 hD2 hS2
        replace hf := fn_X6_readFunctions_B211_s hf
        refine W.eq (g2 := F0 m 211 ls []) rfl ?_
        refine lv_aload_n hx hb dX6_readFunctions_211 rfl (lv_at hl 2 rfl) ?_
        obtain ⟨k_69, ek_69, hf⟩ := lnk_some hf
        refine va_get (D := (dC, dI)) (ci := 6) (v := .ref (a k_69)) (C := RX6) (T := TX6) (N := 9) hx hb hts iwd_X6_readFunctions_X6 hown hK hP h0 (Wd_ob kg_3 sg_3 (by decide)) rfl 2 (by decide) (hts _ md_X6_readFunctions_1) (fun _ h9 => h9) (fl_q rfl ek_69) dX6_readFunctions_212 ?_
        refine lv_iload_n hx hb dX6_readFunctions_215 rfl (lv_at hl 0 rfl) ?_
        refine lv_iconst (v := 5) hx hb dX6_readFunctions_216 (by decide) ?_
        refine lv_aload_n hx hb dX6_readFunctions_217 rfl (lv_at hl 2 rfl) ?_
        obtain ⟨k_70, ek_70, hf⟩ := lnk_some hf
        refine va_get (D := (dC, dI)) (ci := 6) (v := .ref (a k_70)) (C := RX6) (T := TX6) (N := 9) hx hb hts iwd_X6_readFunctions_X6 hown hK hP h0 (Wd_ob kg_3 sg_3 (by decide)) rfl 2 (by decide) (hts _ md_X6_readFunctions_1) (fun _ h9 => h9) (fl_q rfl ek_70) dX6_readFunctions_218 ?_
        obtain ⟨g_71, hf⟩ := grd_some hf
        obtain ⟨kg_71, sg_71⟩ := okO_at g_71
        refine va_get (D := (dC, dI)) (ci := 5) (v := .int (z_68.1 k_70 6)) (C := RX5) (T := TX5) (N := 15) hx hb hts iwd_X6_readFunctions_X5 hown hK hP k_70 (Wd_ob kg_71 sg_71 (by decide)) rfl 6 (by decide) (hts _ md_X6_readFunctions_10) (fun _ h9 => h9) (fl_at (t := 0) rfl) dX6_readFunctions_221 ?_
        obtain ⟨g_73, hf⟩ := grd_some hf
        obtain ⟨kg_73, sg_73⟩ := okO_at g_73
        obtain ⟨z_72, _u, hfc, hf⟩ := cal_some hf
        have hFc := de_free hD hS hA
        refine va_callv (va_runV (As := [.int p_9, .int 5, .int (z_68.1 k_70 6)]) (rest := []) ⟨hx, hb, hml, hown, hts⟩ (de_X5_setFunction l dC dI cy a sh n H.size F z_68 k_69 p_9 5 (z_68.1 k_70 6) hfc) (cwV 3 hts gX6_readFunctions_X5_setFunction rfl rfl rfl (by decide +kernel) ⟨Nat.le_of_ble_eq_true rfl, Nat.le_of_ble_eq_true rfl⟩) ⟨fun a U g mk q => by obtain ⟨q0, q1, qP, qK, qD, qN⟩ := q; exact ⟨q0, q1, qP, va_K.moved (u := U) (U := U.calling g mk a) (Vm.Alike.refl U.vm) qK, qD, qN.same rfl⟩, va_recv hK hP (ci := 5) (q0 := k_69) rfl (Wd_ob kg_73 sg_73 (by decide)), fun U hU hW => ⟨rfl, by rw [hU], by rw [hU]; exact hP, va_K.moved hW.alike hK, hD.weaken (fun _ _ _ _ => trivial), hN.warm hW⟩⟩ rfl rfl hl.1 rfl (lv_room (Nat.le_of_ble_eq_true rfl)) dX6_readFunctions_224 ⟨Nat.le_of_ble_eq_true rfl, Nat.le_of_ble_eq_true rfl⟩) hS (fun q _ h => hFc q h) hFc (fun u t H_74 locs ht hvm hw hB hz1 hk1 hS2 => ?_)
        obtain ⟨hP1, -, hD1⟩ := hB
        rw [ht] at hP1
        replace hD := hD1.weaken (fun _ _ _ h => hFc _ h)
        replace hP := hP1
        replace hS := hS2
        clear hP1 hD1 hS2 hFc hfc hz1 hk1 hvm ht
        refine lv_aload_n hx hb dX6_readFunctions_227 rfl (lv_at hl 2 rfl) ?_
        obtain ⟨k_75, ek_75, hf⟩ := lnk_some hf
        refine va_get (D := (dC, dI)) (ci := 6) (v := .ref (a k_75)) (C := RX6) (T := TX6) (N := 9) hx hb hts iwd_X6_readFunctions_X6 hown hK hP h0 (Wd_ob kg_3 sg_3 (by decide)) rfl 2 (by decide) (hts _ md_X6_readFunctions_1) (fun _ h9 => h9) (fl_q rfl ek_75) dX6_readFunctions_228 ?_
        refine lv_iload_n hx hb dX6_readFunctions_231 rfl (lv_at hl 0 rfl) ?_
        refine lv_bipush (v := 6) hx hb dX6_readFunctions_232 (by decide) ?_
        refine lv_aload_n hx hb dX6_readFunctions_234 rfl (lv_at hl 2 rfl) ?_
        refine va_get (D := (dC, dI)) (ci := 6) (v := .int (z_72.1 h0 7)) (C := RX6) (T := TX6) (N := 9) hx hb hts iwd_X6_readFunctions_X6 hown hK hP h0 (Wd_ob kg_3 sg_3 (by decide)) rfl 7 (by decide) (hts _ md_X6_readFunctions_8) (fun _ h9 => h9) (fl_at (t := 0) rfl) dX6_readFunctions_235 ?_
        obtain ⟨g_77, hf⟩ := grd_some hf
        obtain ⟨kg_77, sg_77⟩ := okO_at g_77
        obtain ⟨z_76, _u, hfc, hf⟩ := cal_some hf
        have hFc := de_free hD hS hA
        refine va_callv (va_runV (As := [.int p_9, .int 6, .int (z_72.1 h0 7)]) (rest := []) ⟨hx, hb, hml, hown, hts⟩ (de_X5_setFunction l dC dI cy a sh n H_74.size F z_72 k_75 p_9 6 (z_72.1 h0 7) hfc) (cwV 3 hts gX6_readFunctions_X5_setFunction rfl rfl rfl (by decide +kernel) ⟨Nat.le_of_ble_eq_true rfl, Nat.le_of_ble_eq_true rfl⟩) ⟨fun a U g mk q => by obtain ⟨q0, q1, qP, qK, qD, qN⟩ := q; exact ⟨q0, q1, qP, va_K.moved (u := U) (U := U.calling g mk a) (Vm.Alike.refl U.vm) qK, qD, qN.same rfl⟩, va_recv hK hP (ci := 5) (q0 := k_75) rfl (Wd_ob kg_77 sg_77 (by decide)), fun U hU hW => ⟨rfl, by rw [hU], by rw [hU]; exact hP, va_K.moved hW.alike hK, hD.weaken (fun _ _ _ _ => trivial), hN.warm hW⟩⟩ rfl rfl hl.1 rfl (lv_room (Nat.le_of_ble_eq_true rfl)) dX6_readFunctions_238 ⟨Nat.le_of_ble_eq_true rfl, Nat.le_of_ble_eq_true rfl⟩) hS (fun q _ h => hFc q h) hFc (fun u t H_78 locs ht hvm hw hB hz1 hk1 hS2 => ?_)
        obtain ⟨hP1, -, hD1⟩ := hB
        rw [ht] at hP1
        replace hD := hD1.weaken (fun _ _ _ h => hFc _ h)
        replace hP := hP1
        replace hS := hS2
        clear hP1 hD1 hS2 hFc hfc hz1 hk1 hvm ht
        refine lv_iconst (v := 0) hx hb dX6_readFunctions_241 (by decide) ?_
        refine lv_istore (lv' := [(6, .int 0), (2, .int p_9), (1, .int r_2), (0, .ref (a h0))]) hx hb dX6_readFunctions_242 hl (by decide) rfl (fun ls hl2 => ?_)
        replace hl := hl2
        clear hl2
        have hl0 : lv_has ls 7 [(6, .int 0), (2, .int p_9), (1, .int r_2), (0, .ref (a h0))] := lv_sub hl [0, 1, 2, 3] rfl
        refine de_loop (h := 244) (fun (x : St × Int32) ls H locs => lv_has ls 7 [(6, .int x.2), (2, .int p_9), (1, .int r_2), (0, .ref (a h0))] ∧ va_P (dC, dI) vwCl (Wd cy a sh n x.1) H ∧ va_D A (Wd cy a sh n x.1) ∧ va_S A s.heap H locs) (fun f x => fn_X6_readFunctions_L244 F sh n h0 p_9 (fun z9 q2 => fn_X6_readFunctions_L18 F sh n r_2 h0 f_11 z9 q2) f x.1 x.2) (z8, r8) ?_ (fun _ => rfl) F (z_76, 0) ls H_78 locs ⟨hl0, hP, hD, hS⟩ hf
        intro f_81 x ls H locs ih244 hI hf
        obtain ⟨z_80, p_79⟩ := x
        obtain ⟨hl2, hP2, hD2, hS2⟩ := hI
        replace hl : lv_has ls 7 [(6, .int p_79), (2, .int p_9), (1, .int r_2), (0, .ref (a h0))] := hl2
        replace hP := hP2
        replace hD := hD2
        replace hS := hS2
        clear hl2 hP2 hD2 hS2 hl0
        replace hf := fn_X6_readFunctions_L244_s hf
        refine lv_iload hx hb dX6_readFunctions_244 (lv_at hl 0 rfl) ?_
        refine lv_aload_n hx hb dX6_readFunctions_246 rfl (lv_at hl 3 rfl) ?_
        refine va_get (D := (dC, dI)) (ci := 6) (v := .int (z_80.1 h0 7)) (C := RX6) (T := TX6) (N := 9) hx hb hts iwd_X6_readFunctions_X6 hown hK hP h0 (Wd_ob kg_3 sg_3 (by decide)) rfl 7 (by decide) (hts _ md_X6_readFunctions_8) (fun _ h9 => h9) (fl_at (t := 0) rfl) dX6_readFunctions_247 ?_
        refine de_cut (h := 270) (fun (x : St) => []) (fun x ls H locs => lv_has ls 7 [(2, .int p_9), (1, .int r_2), (0, .ref (a h0))] ∧ va_P (dC, dI) vwCl (Wd cy a sh n x) H ∧ va_D A (Wd cy a sh n x) ∧ va_S A s.heap H locs) (fun x => fn_X6_readFunctions_B270 F sh n p_9 (fun z9 q2 => fn_X6_readFunctions_L18 F sh n r_2 h0 f_11 z9 q2) x) (z8, r8) ?_ (fun B270 => ?_)
        · intro x ls H locs hI hf
          obtain ⟨z_82, ez⟩ : ∃ w, w = x := ⟨_, rfl⟩
          subst ez
          obtain ⟨hl2, hP2, hD2, hS2⟩ := hI
          replace hl : lv_has ls 7 [(2, .int p_9), (1, .int r_2), (0, .ref (a h0))] := hl2
          replace hP := hP2
          replace hD := hD2
          replace hS := hS2
          clear hl2 hP2 hD2 hS2
          replace hf := fn_X6_readFunctions_B270_s hf
          refine W.eq (g2 := F0 m 270 ls []) rfl ?_
          refine lv_iinc (v := (p_9 + 1)) (lv' := [(2, .int (p_9 + 1)), (1, .int r_2), (0, .ref (a h0))]) hx hb dX6_readFunctions_270 hl (k := 0) rfl rfl (by decide) rfl (fun ls hl2 => ?_)
          replace hl := hl2
          clear hl2
          refine lv_goto (tgt := 18) hx hb dX6_readFunctions_273 (by decide) ?_
          exact ih18 (z_82, (p_9 + 1)) ls H locs ⟨lv_sub hl [0, 1, 2] rfl, hP, hD, hS⟩ hf
        refine lv_icmp_ge (tgt := 270) hx hb dX6_readFunctions_250 (by decide) (fun c_83 => ?_) (fun c_83 => ?_)
        · skip
          rw [if_pos c_83] at hf
          exact B270 (z_80) ls H locs ⟨lv_sub hl [1, 2, 3] rfl, hP, hD, hS⟩ hf
        · skip
          rw [if_neg c_83] at hf
          refine lv_aload_n hx hb dX6_readFunctions_253 rfl (lv_at hl 3 rfl) ?_
          refine va_get (D := (dC, dI)) (ci := 6) (v := .int (z_80.1 h0 1)) (C := RX6) (T := TX6) (N := 9) hx hb hts iwd_X6_readFunctions_X6 hown hK hP h0 (Wd_ob kg_3 sg_3 (by decide)) rfl 1 (by decide) (hts _ md_X6_readFunctions_3) (fun _ h9 => h9) (fl_at (t := 0) rfl) dX6_readFunctions_254 ?_
          refine lv_if_ne (tgt := 270) hx hb dX6_readFunctions_257 (by decide) (fun c_84 => ?_) (fun c_84 => ?_)
          · skip
            rw [if_neg c_84] at hf
            exact B270 (z_80) ls H locs ⟨lv_sub hl [1, 2, 3] rfl, hP, hD, hS⟩ hf
          · skip
            rw [if_pos c_84] at hf
            refine lv_aload_n hx hb dX6_readFunctions_260 rfl (lv_at hl 3 rfl) ?_
            obtain ⟨z_85, _u, hfc, hf⟩ := cal_some hf
            have hFc := de_free hD hS hA
            refine va_callv (va_runV (As := []) (rest := []) ⟨hx, hb, hml, hown, hts⟩ (de_X6_readInstruction l dC dI cy a sh n H.size F sk z_80 h0 hfc) (cwV 0 hts gX6_readFunctions_X6_readInstruction rfl rfl rfl (by decide +kernel) ⟨Nat.le_of_ble_eq_true rfl, Nat.le_of_ble_eq_true rfl⟩) ⟨fun a U g mk q => by obtain ⟨q0, q1, qP, qK, qD, qN, qS⟩ := q; exact ⟨q0, q1, qP, va_K.moved (u := U) (U := U.calling g mk a) (Vm.Alike.refl U.vm) qK, qD, qN.same rfl, SKs.moved (u := U) (U := U.calling g mk a) (Vm.Alike.refl U.vm) qS⟩, va_recv hK hP (ci := 6) (q0 := h0) rfl (Wd_ob kg_3 sg_3 (by decide)), fun U hU hW => ⟨rfl, by rw [hU], by rw [hU]; exact hP, va_K.moved hW.alike hK, hD.weaken (fun _ _ _ _ => trivial), hN.warm hW, by rw [hU]; exact ((hSK.kept hS.2.1).narrow hFc).moved hW.alike⟩⟩ rfl rfl hl.1 rfl (lv_room (Nat.le_of_ble_eq_true rfl)) dX6_readFunctions_261 ⟨Nat.le_of_ble_eq_true rfl, Nat.le_of_ble_eq_true rfl⟩) hS (fun q _ h => hFc q h) hFc (fun u t H_86 locs ht hvm hw hB hz1 hk1 hS2 => ?_)
            obtain ⟨hP1, -, hD1⟩ := hB
            rw [ht] at hP1
            replace hD := hD1.weaken (fun _ _ _ h => hFc _ h)
            replace hP := hP1
            replace hS := hS2
            clear hP1 hD1 hS2 hFc hfc hz1 hk1 hvm ht
            refine lv_iinc (v := (p_79 + 1)) (lv' := [(6, .int (p_79 + 1)), (2, .int p_9), (1, .int r_2), (0, .ref (a h0))]) hx hb dX6_readFunctions_264 hl (k := 0) rfl rfl (by decide) rfl (fun ls hl2 => ?_)
            replace hl := hl2
            clear hl2
            refine lv_goto (tgt := 244) hx hb dX6_readFunctions_267 (by decide) ?_
            exact ih244 (z_85, (p_79 + 1)) ls H_86 locs ⟨lv_sub hl [0, 1, 2, 3] rfl, hP, hD, hS⟩ hf
      refine de_cut (h := 204) (fun (x : St) => []) (fun x ls H locs => lv_has ls 7 [(5, .int v_60), (2, .int p_9), (1, .int r_2), (0, .ref (a h0))] ∧ va_P (dC, dI) vwCl (Wd cy a sh n x) H ∧ va_D A (Wd cy a sh n x) ∧ va_S A s.heap H locs) (fun x => fn_X6_readFunctions_B204 F sh n h0 v_60 p_9 (fun z9 q2 => fn_X6_readFunctions_L18 F sh n r_2 h0 f_11 z9 q2) x) (z8, r8) ?_ (fun B204 => ?_)
      · intro x ls H locs hI hf
        obtain ⟨z_87, ez⟩ : ∃ w, w = x := ⟨_, rfl⟩
        subst ez
        obtain ⟨hl2, hP2, hD2, hS2⟩ := hI
        replace hl : lv_has ls 7 [(5, .int v_60), (2, .int p_9), (1, .int r_2), (0, .ref (a h0))] := hl2
        replace hP := hP2
        replace hD := hD2
        replace hS := hS2
        clear hl2 hP2 hD2 hS2
        replace hf := fn_X6_readFunctions_B204_s hf
        refine W.eq (g2 := F0 m 204 ls []) rfl ?_
        refine lv_aload_n hx hb dX6_readFunctions_204 rfl (lv_at hl 3 rfl) ?_
        refine lv_iconst (v := 3) hx hb dX6_readFunctions_205 (by decide) ?_
        refine lv_iload hx hb dX6_readFunctions_206 (lv_at hl 0 rfl) ?_
        obtain ⟨z_88, _u, hfc, hf⟩ := cal_some hf
        have hFc := de_free hD hS hA
        refine va_callv (va_runV (As := [.int 3, .int v_60]) (rest := []) ⟨hx, hb, hml, hown, hts⟩ (de_X6_fail l dC dI cy a sh n H.size F z_87 h0 3 v_60 hfc) (cwV 2 hts gX6_readFunctions_X6_fail rfl rfl rfl (by decide +kernel) ⟨Nat.le_of_ble_eq_true rfl, Nat.le_of_ble_eq_true rfl⟩) ⟨fun a U g mk q => by obtain ⟨q0, q1, qP, qK, qD, qN⟩ := q; exact ⟨q0, q1, qP, va_K.moved (u := U) (U := U.calling g mk a) (Vm.Alike.refl U.vm) qK, qD, qN.same rfl⟩, va_recv hK hP (ci := 6) (q0 := h0) rfl (Wd_ob kg_3 sg_3 (by decide)), fun U hU hW => ⟨rfl, by rw [hU], by rw [hU]; exact hP, va_K.moved hW.alike hK, hD.weaken (fun _ _ _ _ => trivial), hN.warm hW⟩⟩ rfl rfl hl.1 rfl (lv_room (Nat.le_of_ble_eq_true rfl)) dX6_readFunctions_208 ⟨Nat.le_of_ble_eq_true rfl, Nat.le_of_ble_eq_true rfl⟩) hS (fun q _ h => hFc q h) hFc (fun u t H_89 locs ht hvm hw hB hz1 hk1 hS2 => ?_)
        obtain ⟨hP1, -, hD1⟩ := hB
        rw [ht] at hP1
        replace hD := hD1.weaken (fun _ _ _ h => hFc _ h)
        replace hP := hP1
        replace hS := hS2
        clear hP1 hD1 hS2 hFc hfc hz1 hk1 hvm ht
        exact B211 (z_88) ls H_89 locs ⟨lv_sub hl [1, 2, 3] rfl, hP, hD, hS⟩ hf
      refine lv_icmp_lt (tgt := 204) hx hb dX6_readFunctions_181 (by decide) (fun c_90 => ?_) (fun c_90 => ?_)
      · skip
        rw [if_pos c_90] at hf
        exact B204 (z_67) ls H_66 locs ⟨lv_sub hl [0, 3, 4, 5] rfl, hP, hD, hS⟩ hf
      · skip
        rw [if_neg c_90] at hf
        refine lv_aload_n hx hb dX6_readFunctions_184 rfl (lv_at hl 5 rfl) ?_
        refine va_get (D := (dC, dI)) (ci := 6) (v := .int (z_67.1 h0 7)) (C := RX6) (T := TX6) (N := 9) hx hb hts iwd_X6_readFunctions_X6 hown hK hP h0 (Wd_ob kg_3 sg_3 (by decide)) rfl 7 (by decide) (hts _ md_X6_readFunctions_8) (fun _ h9 => h9) (fl_at (t := 0) rfl) dX6_readFunctions_185 ?_
        refine lv_sipush (v := 1024) hx hb dX6_readFunctions_188 (by decide) ?_
        refine lv_icmp_gt (tgt := 204) hx hb dX6_readFunctions_191 (by decide) (fun c_91 => ?_) (fun c_91 => ?_)
        · skip
          rw [if_pos c_91] at hf
          exact B204 (z_67) ls H_66 locs ⟨lv_sub hl [0, 3, 4, 5] rfl, hP, hD, hS⟩ hf
        · skip
          rw [if_neg c_91] at hf
          refine lv_aload_n hx hb dX6_readFunctions_194 rfl (lv_at hl 5 rfl) ?_
          refine va_get (D := (dC, dI)) (ci := 6) (v := .int (z_67.1 h0 5)) (C := RX6) (T := TX6) (N := 9) hx hb hts iwd_X6_readFunctions_X6 hown hK hP h0 (Wd_ob kg_3 sg_3 (by decide)) rfl 5 (by decide) (hts _ md_X6_readFunctions_9) (fun _ h9 => h9) (fl_at (t := 0) rfl) dX6_readFunctions_195 ?_
          refine lv_sipush (v := 8192) hx hb dX6_readFunctions_198 (by decide) ?_
          refine lv_icmp_le (tgt := 211) hx hb dX6_readFunctions_201 (by decide) (fun c_92 => ?_) (fun c_92 => ?_)
          · skip
            rw [if_pos c_92] at hf
            exact B211 (z_67) ls H_66 locs ⟨lv_sub hl [3, 4, 5] rfl, hP, hD, hS⟩ hf
          · skip
            rw [if_neg c_92] at hf
            exact B204 (z_67) ls H_66 locs ⟨lv_sub hl [0, 3, 4, 5] rfl, hP, hD, hS⟩ hf

theorem md_X3_operate_1 : (.fieldLink RX3 44 "ResourceLedger$Looker" "p" "LResourceLedger$Program;" : Cond) ∈ wsX3_operate := List.mem_of_getElem? (i := 1) rfl
theorem iwd_X3_operate_X3 : ∀ w ∈ wsX30, w ∈ wsX3_operate := fun _ h => List.mem_cons_of_mem _ (List.mem_append_left _ (List.mem_append_right _ h))
theorem md_X3_operate_2 : (.fieldLink RX3 77 "ResourceLedger$Looker" "function" "I" : Cond) ∈ wsX3_operate := List.mem_of_getElem? (i := 2) rfl
theorem md_X3_operate_3 : (.fieldLink RX3 64 "ResourceLedger$Looker" "at" "I" : Cond) ∈ wsX3_operate := List.mem_of_getElem? (i := 3) rfl
theorem md_X3_operate_8 : (.fieldLink RX3 48 "ResourceLedger$Looker" "fault" "I" : Cond) ∈ wsX3_operate := List.mem_of_getElem? (i := 8) rfl
theorem md_X3_operate_4 : (.methodLink RX3 80 Lib.Math.min.name : Cond) ∈ wsX3_operate := List.mem_of_getElem? (i := 4) rfl
theorem md_X3_operate_5 : (.static Lib.Math.min.name : Cond) ∈ wsX3_operate := List.mem_of_getElem? (i := 5) rfl
theorem md_X3_operate_6 : (.initialized "java/lang/Math" : Cond) ∈ wsX3_operate := List.mem_of_getElem? (i := 6) rfl
theorem md_X3_operate_7 : (.code Lib.Math.min.name Lib.Math.min.code 2 (some .int) : Cond) ∈ wsX3_operate := List.mem_of_getElem? (i := 7) rfl
set_option maxHeartbeats 4000000 in
set_option maxRecDepth 100000 in
theorem de_X3_operate (l : Launch) (dC : Nat → ClassId) (dI : Nat → Nat → Nat) (cy : Nat → ClassId) (a : Nat → Nat) (sh : Nat → Nat × Nat) (n sz : Nat) (F : Nat) (sk : Nat → Nat) (z : St) (h0 : Nat) {z8 : St} {r8 : Unit} (hf : fn_X3_operate F sh n z h0 = some (z8, r8)) : Met l yX3_operate wsX3_operate ({ frames := 4, cells := 0, slots := 0, locals := 107 }) (va_Pc [.ref (a h0)] (fun U => U.heap.size = sz ∧ va_P (dC, dI) vwCl (Wd cy a sh n z) U.heap ∧ va_K (dC, dI) vwCl (TYS cy) U ∧ va_D (fun _ => True) (Wd cy a sh n z) ∧ NK U ∧ SKs sk (a CBK) (va_A (Wd cy a sh n z) sz) U U.heap)) (va_Qv (fun u : Unit => True) (fun u t => va_P (dC, dI) vwCl (Wd cy a sh n z8) t.heap ∧ va_K (dC, dI) vwCl (TYS cy) t ∧ va_D (va_A (Wd cy a sh n z) sz) (Wd cy a sh n z8)) (va_A (Wd cy a sh n z) sz)) 0 0 (va_A (Wd cy a sh n z) sz) := by
  refine Met.ofW (cc := cX3_operate) (maxL := 5) (ret := none) (by decide) rfl ?_
  intro p e s m args below meth c s₁ B hml hv
  obtain ⟨rfl, hsz, hP, hK, hD0, hN, hSK⟩ := hv
  have hx := B.exec
  have hb := B.bytes
  have hr := B.returns
  have hts := atoms_spec (ws := wsX3_operate) B.pre
  have hown : s.vm.findClass RX3 = some m.cls := findClass_of_methodNamed B.named
  have hlocks := B.notSynchronized
  subst hsz
  have hD := hD0.self (sz := s.heap.size)
  clear hD0
  generalize hAe : va_A (Wd cy a sh n z) s.heap.size = A at hD hSK ⊢
  have hA : ∀ q : Nat, s.heap.size ≤ q → A q := fun q h => by rw [← hAe]; exact Or.inr h
  clear hAe
  have hS : va_S A s.heap s.heap [] := va_S.rf
  have hl := lv_entry ([.ref (a h0)]) (n := 5) (Nat.le_of_ble_eq_true rfl)
  rw [lg_entry_eq]
  generalize (lg_sl ([.ref (a h0)]) ++ List.replicate (5 - (lg_sl ([.ref (a h0)])).length) Slot.unset).toArray = ls at hl ⊢
  replace hl : lv_has ls 5 [(0, .ref (a h0))] := hl
  unfold fn_X3_operate at hf
  refine de_start hS hP (fun H locs hS hP => ?_)
  refine lv_aload_n hx hb dX3_operate_0 rfl (lv_at hl 0 rfl) ?_
  obtain ⟨g_1, hf⟩ := grd_some hf
  obtain ⟨kg_1, sg_1⟩ := okO_at g_1
  obtain ⟨k_2, ek_2, hf⟩ := lnk_some hf
  refine va_get (D := (dC, dI)) (ci := 3) (v := .ref (a k_2)) (C := RX3) (T := TX3) (N := 22) hx hb hts iwd_X3_operate_X3 hown hK hP h0 (Wd_ob kg_1 sg_1 (by decide)) rfl 2 (by decide) (hts _ md_X3_operate_1) (fun _ h9 => h9) (fl_q rfl ek_2) dX3_operate_1 ?_
  refine lv_aload_n hx hb dX3_operate_4 rfl (lv_at hl 0 rfl) ?_
  refine va_get (D := (dC, dI)) (ci := 3) (v := .int (z.1 h0 3)) (C := RX3) (T := TX3) (N := 22) hx hb hts iwd_X3_operate_X3 hown hK hP h0 (Wd_ob kg_1 sg_1 (by decide)) rfl 3 (by decide) (hts _ md_X3_operate_2) (fun _ h9 => h9) (fl_at (t := 0) rfl) dX3_operate_5 ?_
  refine lv_aload_n hx hb dX3_operate_8 rfl (lv_at hl 0 rfl) ?_
  refine va_get (D := (dC, dI)) (ci := 3) (v := .int (z.1 h0 4)) (C := RX3) (T := TX3) (N := 22) hx hb hts iwd_X3_operate_X3 hown hK hP h0 (Wd_ob kg_1 sg_1 (by decide)) rfl 4 (by decide) (hts _ md_X3_operate_3) (fun _ h9 => h9) (fl_at (t := 0) rfl) dX3_operate_9 ?_
  obtain ⟨g_5, hf⟩ := grd_some hf
  obtain ⟨kg_5, sg_5⟩ := okO_at g_5
  obtain ⟨z_3, r_4, hfc, hf⟩ := cal_some hf
  have hFc := de_free hD hS hA
  refine va_calli (va_runV (As := [.int (z.1 h0 3), .int (z.1 h0 4)]) (rest := []) ⟨hx, hb, hml, hown, hts⟩ (de_X5_instructionPlace l dC dI cy a sh n H.size F z k_2 (z.1 h0 3) (z.1 h0 4) hfc) (cwV 2 hts gX3_operate_X5_instructionPlace rfl rfl rfl (by decide +kernel) ⟨Nat.le_of_ble_eq_true rfl, Nat.le_of_ble_eq_true rfl⟩) ⟨fun a U g mk q => by obtain ⟨q0, q1, qP, qK, qD, qN⟩ := q; exact ⟨q0, q1, qP, va_K.moved (u := U) (U := U.calling g mk a) (Vm.Alike.refl U.vm) qK, qD, qN.same rfl⟩, va_recv hK hP (ci := 5) (q0 := k_2) rfl (Wd_ob kg_5 sg_5 (by decide)), fun U hU hW => ⟨rfl, by rw [hU], by rw [hU]; exact hP, va_K.moved hW.alike hK, hD.weaken (fun _ _ _ _ => trivial), hN.warm hW⟩⟩ rfl rfl hl.1 rfl (lv_room (Nat.le_of_ble_eq_true rfl)) dX3_operate_12 ⟨Nat.le_of_ble_eq_true rfl, Nat.le_of_ble_eq_true rfl⟩) hS (fun q _ h => hFc q h) hFc (fun rr u t H_6 locs ht hvm hw hB hz1 hk1 hS2 => ?_)
  rw [hw]
  clear hw
  obtain ⟨hP1, -, hD1⟩ := hB
  rw [ht] at hP1
  replace hD := hD1.weaken (fun _ _ _ h => hFc _ h)
  replace hP := hP1
  replace hS := hS2
  clear hP1 hD1 hS2 hFc hfc hz1 hk1 hvm ht
  refine lv_istore_n (lv' := [(1, .int r_4), (0, .ref (a h0))]) hx hb dX3_operate_15 rfl hl (by decide) rfl (fun ls hl2 => ?_)
  replace hl := hl2
  clear hl2
  refine lv_aload_n hx hb dX3_operate_16 rfl (lv_at hl 1 rfl) ?_
  obtain ⟨k_7, ek_7, hf⟩ := lnk_some hf
  refine va_get (D := (dC, dI)) (ci := 3) (v := .ref (a k_7)) (C := RX3) (T := TX3) (N := 22) hx hb hts iwd_X3_operate_X3 hown hK hP h0 (Wd_ob kg_1 sg_1 (by decide)) rfl 2 (by decide) (hts _ md_X3_operate_1) (fun _ h9 => h9) (fl_q rfl ek_7) dX3_operate_17 ?_
  refine lv_iload_n hx hb dX3_operate_20 rfl (lv_at hl 0 rfl) ?_
  obtain ⟨g_10, hf⟩ := grd_some hf
  obtain ⟨kg_10, sg_10⟩ := okO_at g_10
  obtain ⟨z_8, r_9, hfc, hf⟩ := cal_some hf
  have hFc := de_free hD hS hA
  refine va_calli (va_runV (As := [.int r_4]) (rest := []) ⟨hx, hb, hml, hown, hts⟩ (de_X5_at l dC dI cy a sh n H_6.size F sk z_3 k_7 r_4 hfc) (cwV 1 hts gX3_operate_X5_at rfl rfl rfl (by decide +kernel) ⟨Nat.le_of_ble_eq_true rfl, Nat.le_of_ble_eq_true rfl⟩) ⟨fun a U g mk q => by obtain ⟨q0, q1, qP, qK, qD, qN, qS⟩ := q; exact ⟨q0, q1, qP, va_K.moved (u := U) (U := U.calling g mk a) (Vm.Alike.refl U.vm) qK, qD, qN.same rfl, SKs.moved (u := U) (U := U.calling g mk a) (Vm.Alike.refl U.vm) qS⟩, va_recv hK hP (ci := 5) (q0 := k_7) rfl (Wd_ob kg_10 sg_10 (by decide)), fun U hU hW => ⟨rfl, by rw [hU], by rw [hU]; exact hP, va_K.moved hW.alike hK, hD.weaken (fun _ _ _ _ => trivial), hN.warm hW, by rw [hU]; exact ((hSK.kept hS.2.1).narrow hFc).moved hW.alike⟩⟩ rfl rfl hl.1 rfl (lv_room (Nat.le_of_ble_eq_true rfl)) dX3_operate_21 ⟨Nat.le_of_ble_eq_true rfl, Nat.le_of_ble_eq_true rfl⟩) hS (fun q _ h => hFc q h) hFc (fun rr u t H_11 locs ht hvm hw hB hz1 hk1 hS2 => ?_)
  rw [hw]
  clear hw
  obtain ⟨hP1, -, hD1⟩ := hB
  rw [ht] at hP1
  replace hD := hD1.weaken (fun _ _ _ h => hFc _ h)
  replace hP := hP1
  replace hS := hS2
  clear hP1 hD1 hS2 hFc hfc hz1 hk1 hvm ht
  refine lv_istore_n (lv' := [(2, .int r_9), (1, .int r_4), (0, .ref (a h0))]) hx hb dX3_operate_24 rfl hl (by decide) rfl (fun ls hl2 => ?_)
  replace hl := hl2
  clear hl2
  refine lv_aload_n hx hb dX3_operate_25 rfl (lv_at hl 2 rfl) ?_
  obtain ⟨k_12, ek_12, hf⟩ := lnk_some hf
  refine va_get (D := (dC, dI)) (ci := 3) (v := .ref (a k_12)) (C := RX3) (T := TX3) (N := 22) hx hb hts iwd_X3_operate_X3 hown hK hP h0 (Wd_ob kg_1 sg_1 (by decide)) rfl 2 (by decide) (hts _ md_X3_operate_1) (fun _ h9 => h9) (fl_q rfl ek_12) dX3_operate_26 ?_
  refine lv_iload_n hx hb dX3_operate_29 rfl (lv_at hl 1 rfl) ?_
  refine lv_iconst (v := 1) hx hb dX3_operate_30 (by decide) ?_
  refine lv_iadd hx hb dX3_operate_31 ?_
  obtain ⟨g_15, hf⟩ := grd_some hf
  obtain ⟨kg_15, sg_15⟩ := okO_at g_15
  obtain ⟨z_13, r_14, hfc, hf⟩ := cal_some hf
  have hFc := de_free hD hS hA
  refine va_calli (va_runV (As := [.int (r_4 + 1)]) (rest := []) ⟨hx, hb, hml, hown, hts⟩ (de_X5_at l dC dI cy a sh n H_11.size F sk z_8 k_12 (r_4 + 1) hfc) (cwV 1 hts gX3_operate_X5_at rfl rfl rfl (by decide +kernel) ⟨Nat.le_of_ble_eq_true rfl, Nat.le_of_ble_eq_true rfl⟩) ⟨fun a U g mk q => by obtain ⟨q0, q1, qP, qK, qD, qN, qS⟩ := q; exact ⟨q0, q1, qP, va_K.moved (u := U) (U := U.calling g mk a) (Vm.Alike.refl U.vm) qK, qD, qN.same rfl, SKs.moved (u := U) (U := U.calling g mk a) (Vm.Alike.refl U.vm) qS⟩, va_recv hK hP (ci := 5) (q0 := k_12) rfl (Wd_ob kg_15 sg_15 (by decide)), fun U hU hW => ⟨rfl, by rw [hU], by rw [hU]; exact hP, va_K.moved hW.alike hK, hD.weaken (fun _ _ _ _ => trivial), hN.warm hW, by rw [hU]; exact ((hSK.kept hS.2.1).narrow hFc).moved hW.alike⟩⟩ rfl rfl hl.1 rfl (lv_room (Nat.le_of_ble_eq_true rfl)) dX3_operate_32 ⟨Nat.le_of_ble_eq_true rfl, Nat.le_of_ble_eq_true rfl⟩) hS (fun q _ h => hFc q h) hFc (fun rr u t H_16 locs ht hvm hw hB hz1 hk1 hS2 => ?_)
  rw [hw]
  clear hw
  obtain ⟨hP1, -, hD1⟩ := hB
  rw [ht] at hP1
  replace hD := hD1.weaken (fun _ _ _ h => hFc _ h)
  replace hP := hP1
  replace hS := hS2
  clear hP1 hD1 hS2 hFc hfc hz1 hk1 hvm ht
  refine lv_istore_n (lv' := [(3, .int r_14), (2, .int r_9), (1, .int r_4), (0, .ref (a h0))]) hx hb dX3_operate_35 rfl hl (by decide) rfl (fun ls hl2 => ?_)
  replace hl := hl2
  clear hl2
  refine lv_aload_n hx hb dX3_operate_36 rfl (lv_at hl 3 rfl) ?_
  obtain ⟨k_17, ek_17, hf⟩ := lnk_some hf
  refine va_get (D := (dC, dI)) (ci := 3) (v := .ref (a k_17)) (C := RX3) (T := TX3) (N := 22) hx hb hts iwd_X3_operate_X3 hown hK hP h0 (Wd_ob kg_1 sg_1 (by decide)) rfl 2 (by decide) (hts _ md_X3_operate_1) (fun _ h9 => h9) (fl_q rfl ek_17) dX3_operate_37 ?_
  refine lv_iload_n hx hb dX3_operate_40 rfl (lv_at hl 2 rfl) ?_
  refine lv_iconst (v := 2) hx hb dX3_operate_41 (by decide) ?_
  refine lv_iadd hx hb dX3_operate_42 ?_
  obtain ⟨g_20, hf⟩ := grd_some hf
  obtain ⟨kg_20, sg_20⟩ := okO_at g_20
  obtain ⟨z_18, r_19, hfc, hf⟩ := cal_some hf
  have hFc := de_free hD hS hA
  refine va_calli (va_runV (As := [.int (r_4 + 2)]) (rest := []) ⟨hx, hb, hml, hown, hts⟩ (de_X5_at l dC dI cy a sh n H_16.size F sk z_13 k_17 (r_4 + 2) hfc) (cwV 1 hts gX3_operate_X5_at rfl rfl rfl (by decide +kernel) ⟨Nat.le_of_ble_eq_true rfl, Nat.le_of_ble_eq_true rfl⟩) ⟨fun a U g mk q => by obtain ⟨q0, q1, qP, qK, qD, qN, qS⟩ := q; exact ⟨q0, q1, qP, va_K.moved (u := U) (U := U.calling g mk a) (Vm.Alike.refl U.vm) qK, qD, qN.same rfl, SKs.moved (u := U) (U := U.calling g mk a) (Vm.Alike.refl U.vm) qS⟩, va_recv hK hP (ci := 5) (q0 := k_17) rfl (Wd_ob kg_20 sg_20 (by decide)), fun U hU hW => ⟨rfl, by rw [hU], by rw [hU]; exact hP, va_K.moved hW.alike hK, hD.weaken (fun _ _ _ _ => trivial), hN.warm hW, by rw [hU]; exact ((hSK.kept hS.2.1).narrow hFc).moved hW.alike⟩⟩ rfl rfl hl.1 rfl (lv_room (Nat.le_of_ble_eq_true rfl)) dX3_operate_43 ⟨Nat.le_of_ble_eq_true rfl, Nat.le_of_ble_eq_true rfl⟩) hS (fun q _ h => hFc q h) hFc (fun rr u t H_21 locs ht hvm hw hB hz1 hk1 hS2 => ?_)
  rw [hw]
  clear hw
  obtain ⟨hP1, -, hD1⟩ := hB
  rw [ht] at hP1
  replace hD := hD1.weaken (fun _ _ _ h => hFc _ h)
  replace hP := hP1
  replace hS := hS2
  clear hP1 hD1 hS2 hFc hfc hz1 hk1 hvm ht
  refine lv_istore (lv' := [(4, .int r_19), (3, .int r_14), (2, .int r_9), (1, .int r_4), (0, .ref (a h0))]) hx hb dX3_operate_46 hl (by decide) rfl (fun ls hl2 => ?_)
  replace hl := hl2
  clear hl2
  refine lv_iload_n hx hb dX3_operate_48 rfl (lv_at hl 2 rfl) ?_
  refine lv_iconst (v := 1) hx hb dX3_operate_49 (by decide) ?_
  refine de_cut (h := 248) (fun (x : St) => []) (fun x ls H locs => lv_has ls 5 [(2, .int r_9), (1, .int r_4), (0, .ref (a h0))] ∧ va_P (dC, dI) vwCl (Wd cy a sh n x) H ∧ va_D A (Wd cy a sh n x) ∧ va_S A s.heap H locs) (fun x => fn_X3_operate_B248 F sh n h0 r_4 r_9 x) (z8, r8) ?_ (fun B248 => ?_)
  · intro x ls H locs hI hf
    obtain ⟨z_22, ez⟩ : ∃ w, w = x := ⟨_, rfl⟩
    subst ez
    obtain ⟨hl2, hP2, hD2, hS2⟩ := hI
    replace hl : lv_has ls 5 [(2, .int r_9), (1, .int r_4), (0, .ref (a h0))] := hl2
    replace hP := hP2
    replace hD := hD2
    replace hS := hS2
    clear hl2 hP2 hD2 hS2
    replace hf := fn_X3_operate_B248_s hf
    refine W.eq (g2 := F0 m 248 ls []) rfl ?_
    refine lv_aload_n hx hb dX3_operate_248 rfl (lv_at hl 2 rfl) ?_
    refine va_get (D := (dC, dI)) (ci := 3) (v := .int (z_22.1 h0 1)) (C := RX3) (T := TX3) (N := 22) hx hb hts iwd_X3_operate_X3 hown hK hP h0 (Wd_ob kg_1 sg_1 (by decide)) rfl 1 (by decide) (hts _ md_X3_operate_8) (fun _ h9 => h9) (fl_at (t := 0) rfl) dX3_operate_249 ?_
    refine lv_if_ne (tgt := 272) hx hb dX3_operate_252 (by decide) (fun c_23 => ?_) (fun c_23 => ?_)
    · skip
      rw [if_neg c_23] at hf
      obtain ⟨h8, h9⟩ := ret_some hf
      rw [h8]
      exact W.vret hx hb hr (fun t ht hW => ⟨⟨(), rfl, trivial, by rw [ht]; exact hP, va_K.moved hW.alike hK, hD⟩, hS.F ht⟩) hS.2.2 dX3_operate_272
    · skip
      rw [if_pos c_23] at hf
      refine lv_aload_n hx hb dX3_operate_255 rfl (lv_at hl 2 rfl) ?_
      refine lv_iload_n hx hb dX3_operate_256 rfl (lv_at hl 0 rfl) ?_
      refine lv_aload_n hx hb dX3_operate_257 rfl (lv_at hl 2 rfl) ?_
      obtain ⟨k_24, ek_24, hf⟩ := lnk_some hf
      refine va_get (D := (dC, dI)) (ci := 3) (v := .ref (a k_24)) (C := RX3) (T := TX3) (N := 22) hx hb hts iwd_X3_operate_X3 hown hK hP h0 (Wd_ob kg_1 sg_1 (by decide)) rfl 2 (by decide) (hts _ md_X3_operate_1) (fun _ h9 => h9) (fl_q rfl ek_24) dX3_operate_258 ?_
      refine lv_iload_n hx hb dX3_operate_261 rfl (lv_at hl 1 rfl) ?_
      refine lv_iconst (v := 1) hx hb dX3_operate_262 (by decide) ?_
      refine lv_iadd hx hb dX3_operate_263 ?_
      refine lv_iconst (v := 2) hx hb dX3_operate_264 (by decide) ?_
      obtain ⟨g_27, hf⟩ := grd_some hf
      obtain ⟨kg_27, sg_27⟩ := okO_at g_27
      obtain ⟨z_25, r_26, hfc, hf⟩ := cal_some hf
      have hFc := de_free hD hS hA
      refine va_calll (va_runV (As := [.int (r_4 + 1), .int 2]) (rest := [.int r_9, .ref (a h0)]) ⟨hx, hb, hml, hown, hts⟩ (de_X5_numberAt l dC dI cy a sh n H.size F sk z_22 k_24 (r_4 + 1) 2 hfc) (cwV 2 hts gX3_operate_X5_numberAt rfl rfl rfl (by decide +kernel) ⟨Nat.le_of_ble_eq_true rfl, Nat.le_of_ble_eq_true rfl⟩) ⟨fun a U g mk q => by obtain ⟨q0, q1, qP, qK, qD, qN, qS⟩ := q; exact ⟨q0, q1, qP, va_K.moved (u := U) (U := U.calling g mk a) (Vm.Alike.refl U.vm) qK, qD, qN.same rfl, SKs.moved (u := U) (U := U.calling g mk a) (Vm.Alike.refl U.vm) qS⟩, va_recv hK hP (ci := 5) (q0 := k_24) rfl (Wd_ob kg_27 sg_27 (by decide)), fun U hU hW => ⟨rfl, by rw [hU], by rw [hU]; exact hP, va_K.moved hW.alike hK, hD.weaken (fun _ _ _ _ => trivial), hN.warm hW, by rw [hU]; exact ((hSK.kept hS.2.1).narrow hFc).moved hW.alike⟩⟩ rfl rfl hl.1 rfl (lv_room (Nat.le_of_ble_eq_true rfl)) dX3_operate_265 ⟨Nat.le_of_ble_eq_true rfl, Nat.le_of_ble_eq_true rfl⟩) hS (fun q _ h => hFc q h) hFc (fun rr u t H_28 locs ht hvm hw hB hz1 hk1 hS2 => ?_)
      rw [hw]
      clear hw
      obtain ⟨hP1, -, hD1⟩ := hB
      rw [ht] at hP1
      replace hD := hD1.weaken (fun _ _ _ h => hFc _ h)
      replace hP := hP1
      replace hS := hS2
      clear hP1 hD1 hS2 hFc hfc hz1 hk1 hvm ht
      refine lv_l2i (v := (r_26 : Int64).toInt32) hx hb dX3_operate_268 rfl ?_
      obtain ⟨z_29, _u, hfc, hf⟩ := cal_some hf
      have hFc := de_free hD hS hA
      refine va_callv (va_runV (As := [.int r_9, .int ((r_26 : Int64).toInt32)]) (rest := []) ⟨hx, hb, hml, hown, hts⟩ (de_X3_leave l dC dI cy a sh n H_28.size F z_25 h0 r_9 ((r_26 : Int64).toInt32) hfc) (cwV 2 hts gX3_operate_X3_leave rfl rfl rfl (by decide +kernel) ⟨Nat.le_of_ble_eq_true rfl, Nat.le_of_ble_eq_true rfl⟩) ⟨fun a U g mk q => by obtain ⟨q0, q1, qP, qK, qD, qN⟩ := q; exact ⟨q0, q1, qP, va_K.moved (u := U) (U := U.calling g mk a) (Vm.Alike.refl U.vm) qK, qD, qN.same rfl⟩, va_recv hK hP (ci := 3) (q0 := h0) rfl (Wd_ob kg_1 sg_1 (by decide)), fun U hU hW => ⟨rfl, by rw [hU], by rw [hU]; exact hP, va_K.moved hW.alike hK, hD.weaken (fun _ _ _ _ => trivial), hN.warm hW⟩⟩ rfl rfl hl.1 rfl (lv_room (Nat.le_of_ble_eq_true rfl)) dX3_operate_269 ⟨Nat.le_of_ble_eq_true rfl, Nat.le_of_ble_eq_true rfl⟩) hS (fun q _ h => hFc q h) hFc (fun u t H_30 locs ht hvm hw hB hz1 hk1 hS2 => ?_)
      obtain ⟨hP1, -, hD1⟩ := hB
      rw [ht] at hP1
      replace hD := hD1.weaken (fun _ _ _ h => hFc _ h)
      replace hP := hP1
      replace hS := hS2
      clear hP1 hD1 hS2 hFc hfc hz1 hk1 hvm ht
      obtain ⟨h8, h9⟩ := ret_some hf
      rw [h8]
      exact W.vret hx hb hr (fun t ht hW => ⟨⟨(), rfl, trivial, by rw [ht]; exact hP, va_K.moved hW.alike hK, hD⟩, hS.F ht⟩) hS.2.2 dX3_operate_272
  refine lv_icmp_ne (tgt := 60) hx hb dX3_operate_50 (by decide) (fun c_31 => ?_) (fun c_31 => ?_)
  · skip
    rw [if_neg c_31] at hf
    refine lv_iload_n hx hb dX3_operate_60 rfl (lv_at hl 2 rfl) ?_
    refine lv_iconst (v := 4) hx hb dX3_operate_61 (by decide) ?_
    refine de_cut (h := 71) (fun (x : St) => []) (fun x ls H locs => lv_has ls 5 [(2, .int r_9), (1, .int r_4), (0, .ref (a h0))] ∧ va_P (dC, dI) vwCl (Wd cy a sh n x) H ∧ va_D A (Wd cy a sh n x) ∧ va_S A s.heap H locs) (fun x => fn_X3_operate_B71 F sh n h0 r_9 r_4 x) (z8, r8) ?_ (fun B71 => ?_)
    · intro x ls H locs hI hf
      obtain ⟨z_32, ez⟩ : ∃ w, w = x := ⟨_, rfl⟩
      subst ez
      obtain ⟨hl2, hP2, hD2, hS2⟩ := hI
      replace hl : lv_has ls 5 [(2, .int r_9), (1, .int r_4), (0, .ref (a h0))] := hl2
      replace hP := hP2
      replace hD := hD2
      replace hS := hS2
      clear hl2 hP2 hD2 hS2
      replace hf := fn_X3_operate_B71_s hf
      refine W.eq (g2 := F0 m 71 ls []) rfl ?_
      refine lv_aload_n hx hb dX3_operate_71 rfl (lv_at hl 2 rfl) ?_
      refine lv_iload_n hx hb dX3_operate_72 rfl (lv_at hl 0 rfl) ?_
      obtain ⟨z_33, _u, hfc, hf⟩ := cal_some hf
      have hFc := de_free hD hS hA
      refine va_callv (va_runV (As := [.int r_9]) (rest := []) ⟨hx, hb, hml, hown, hts⟩ (de_X3_steer l dC dI cy a sh n H.size F z_32 h0 r_9 hfc) (cwV 1 hts gX3_operate_X3_steer rfl rfl rfl (by decide +kernel) ⟨Nat.le_of_ble_eq_true rfl, Nat.le_of_ble_eq_true rfl⟩) ⟨fun a U g mk q => by obtain ⟨q0, q1, qP, qK, qD, qN⟩ := q; exact ⟨q0, q1, qP, va_K.moved (u := U) (U := U.calling g mk a) (Vm.Alike.refl U.vm) qK, qD, qN.same rfl⟩, va_recv hK hP (ci := 3) (q0 := h0) rfl (Wd_ob kg_1 sg_1 (by decide)), fun U hU hW => ⟨rfl, by rw [hU], by rw [hU]; exact hP, va_K.moved hW.alike hK, hD.weaken (fun _ _ _ _ => trivial), hN.warm hW⟩⟩ rfl rfl hl.1 rfl (lv_room (Nat.le_of_ble_eq_true rfl)) dX3_operate_73 ⟨Nat.le_of_ble_eq_true rfl, Nat.le_of_ble_eq_true rfl⟩) hS (fun q _ h => hFc q h) hFc (fun u t H_34 locs ht hvm hw hB hz1 hk1 hS2 => ?_)
      obtain ⟨hP1, -, hD1⟩ := hB
      rw [ht] at hP1
      replace hD := hD1.weaken (fun _ _ _ h => hFc _ h)
      replace hP := hP1
      replace hS := hS2
      clear hP1 hD1 hS2 hFc hfc hz1 hk1 hvm ht
      refine lv_goto (tgt := 248) hx hb dX3_operate_76 (by decide) ?_
      exact B248 (z_33) ls H_34 locs ⟨lv_sub hl [0, 1, 2] rfl, hP, hD, hS⟩ hf
    refine lv_icmp_le (tgt := 71) hx hb dX3_operate_62 (by decide) (fun c_35 => ?_) (fun c_35 => ?_)
    · skip
      rw [if_pos c_35] at hf
      exact B71 (z_18) ls H_21 locs ⟨lv_sub hl [2, 3, 4] rfl, hP, hD, hS⟩ hf
    · skip
      rw [if_neg c_35] at hf
      refine lv_iload_n hx hb dX3_operate_65 rfl (lv_at hl 2 rfl) ?_
      refine lv_bipush (v := 45) hx hb dX3_operate_66 (by decide) ?_
      refine lv_icmp_ne (tgt := 79) hx hb dX3_operate_68 (by decide) (fun c_36 => ?_) (fun c_36 => ?_)
      · skip
        rw [if_neg c_36] at hf
        refine lv_iload_n hx hb dX3_operate_79 rfl (lv_at hl 2 rfl) ?_
        refine lv_bipush (v := 10) hx hb dX3_operate_80 (by decide) ?_
        refine de_cut (h := 97) (fun (x : St) => []) (fun x ls H locs => lv_has ls 5 [(2, .int r_9), (1, .int r_4), (0, .ref (a h0))] ∧ va_P (dC, dI) vwCl (Wd cy a sh n x) H ∧ va_D A (Wd cy a sh n x) ∧ va_S A s.heap H locs) (fun x => fn_X3_operate_B97 F sh n h0 r_9 r_4 x) (z8, r8) ?_ (fun B97 => ?_)
        · intro x ls H locs hI hf
          obtain ⟨z_37, ez⟩ : ∃ w, w = x := ⟨_, rfl⟩
          subst ez
          obtain ⟨hl2, hP2, hD2, hS2⟩ := hI
          replace hl : lv_has ls 5 [(2, .int r_9), (1, .int r_4), (0, .ref (a h0))] := hl2
          replace hP := hP2
          replace hD := hD2
          replace hS := hS2
          clear hl2 hP2 hD2 hS2
          replace hf := fn_X3_operate_B97_s hf
          refine W.eq (g2 := F0 m 97 ls []) rfl ?_
          refine lv_aload_n hx hb dX3_operate_97 rfl (lv_at hl 2 rfl) ?_
          refine lv_iload_n hx hb dX3_operate_98 rfl (lv_at hl 0 rfl) ?_
          obtain ⟨z_38, _u, hfc, hf⟩ := cal_some hf
          have hFc := de_free hD hS hA
          refine va_callv (va_runV (As := [.int r_9]) (rest := []) ⟨hx, hb, hml, hown, hts⟩ (de_X3_set l dC dI cy a sh n H.size F z_37 h0 r_9 hfc) (cwV 1 hts gX3_operate_X3_set rfl rfl rfl (by decide +kernel) ⟨Nat.le_of_ble_eq_true rfl, Nat.le_of_ble_eq_true rfl⟩) ⟨fun a U g mk q => by obtain ⟨q0, q1, qP, qK, qD, qN⟩ := q; exact ⟨q0, q1, qP, va_K.moved (u := U) (U := U.calling g mk a) (Vm.Alike.refl U.vm) qK, qD, qN.same rfl⟩, va_recv hK hP (ci := 3) (q0 := h0) rfl (Wd_ob kg_1 sg_1 (by decide)), fun U hU hW => ⟨rfl, by rw [hU], by rw [hU]; exact hP, va_K.moved hW.alike hK, hD.weaken (fun _ _ _ _ => trivial), hN.warm hW⟩⟩ rfl rfl hl.1 rfl (lv_room (Nat.le_of_ble_eq_true rfl)) dX3_operate_99 ⟨Nat.le_of_ble_eq_true rfl, Nat.le_of_ble_eq_true rfl⟩) hS (fun q _ h => hFc q h) hFc (fun u t H_39 locs ht hvm hw hB hz1 hk1 hS2 => ?_)
          obtain ⟨hP1, -, hD1⟩ := hB
          rw [ht] at hP1
          replace hD := hD1.weaken (fun _ _ _ h => hFc _ h)
          replace hP := hP1
          replace hS := hS2
          clear hP1 hD1 hS2 hFc hfc hz1 hk1 hvm ht
          refine lv_goto (tgt := 248) hx hb dX3_operate_102 (by decide) ?_
          exact B248 (z_38) ls H_39 locs ⟨lv_sub hl [0, 1, 2] rfl, hP, hD, hS⟩ hf
        refine lv_icmp_le (tgt := 97) hx hb dX3_operate_82 (by decide) (fun c_40 => ?_) (fun c_40 => ?_)
        · skip
          rw [if_pos c_40] at hf
          exact B97 (z_18) ls H_21 locs ⟨lv_sub hl [2, 3, 4] rfl, hP, hD, hS⟩ hf
        · skip
          rw [if_neg c_40] at hf
          refine lv_iload_n hx hb dX3_operate_85 rfl (lv_at hl 2 rfl) ?_
          refine lv_bipush (v := 35) hx hb dX3_operate_86 (by decide) ?_
          refine lv_icmp_eq (tgt := 97) hx hb dX3_operate_88 (by decide) (fun c_41 => ?_) (fun c_41 => ?_)
          · skip
            rw [if_pos c_41] at hf
            exact B97 (z_18) ls H_21 locs ⟨lv_sub hl [2, 3, 4] rfl, hP, hD, hS⟩ hf
          · skip
            rw [if_neg c_41] at hf
            refine lv_iload_n hx hb dX3_operate_91 rfl (lv_at hl 2 rfl) ?_
            refine lv_bipush (v := 46) hx hb dX3_operate_92 (by decide) ?_
            refine lv_icmp_ne (tgt := 105) hx hb dX3_operate_94 (by decide) (fun c_42 => ?_) (fun c_42 => ?_)
            · skip
              rw [if_neg c_42] at hf
              refine lv_iload_n hx hb dX3_operate_105 rfl (lv_at hl 2 rfl) ?_
              refine lv_bipush (v := 13) hx hb dX3_operate_106 (by decide) ?_
              refine lv_icmp_gt (tgt := 125) hx hb dX3_operate_108 (by decide) (fun c_43 => ?_) (fun c_43 => ?_)
              · skip
                rw [if_pos c_43] at hf
                refine lv_iload_n hx hb dX3_operate_125 rfl (lv_at hl 2 rfl) ?_
                refine lv_bipush (v := 15) hx hb dX3_operate_126 (by decide) ?_
                refine lv_icmp_gt (tgt := 155) hx hb dX3_operate_128 (by decide) (fun c_44 => ?_) (fun c_44 => ?_)
                · skip
                  rw [if_pos c_44] at hf
                  refine lv_iload_n hx hb dX3_operate_155 rfl (lv_at hl 2 rfl) ?_
                  refine lv_bipush (v := 20) hx hb dX3_operate_156 (by decide) ?_
                  refine lv_icmp_gt (tgt := 172) hx hb dX3_operate_158 (by decide) (fun c_45 => ?_) (fun c_45 => ?_)
                  · skip
                    rw [if_pos c_45] at hf
                    refine lv_iload_n hx hb dX3_operate_172 rfl (lv_at hl 2 rfl) ?_
                    refine lv_bipush (v := 22) hx hb dX3_operate_173 (by decide) ?_
                    refine lv_icmp_gt (tgt := 197) hx hb dX3_operate_175 (by decide) (fun c_46 => ?_) (fun c_46 => ?_)
                    · skip
                      rw [if_pos c_46] at hf
                      refine lv_iload_n hx hb dX3_operate_197 rfl (lv_at hl 2 rfl) ?_
                      refine lv_bipush (v := 23) hx hb dX3_operate_198 (by decide) ?_
                      refine lv_icmp_ne (tgt := 211) hx hb dX3_operate_200 (by decide) (fun c_47 => ?_) (fun c_47 => ?_)
                      · skip
                        rw [if_neg c_47] at hf
                        refine lv_iload_n hx hb dX3_operate_211 rfl (lv_at hl 2 rfl) ?_
                        refine lv_bipush (v := 44) hx hb dX3_operate_212 (by decide) ?_
                        refine lv_icmp_gt (tgt := 225) hx hb dX3_operate_214 (by decide) (fun c_48 => ?_) (fun c_48 => ?_)
                        · skip
                          rw [if_pos c_48] at hf
                          refine lv_iload_n hx hb dX3_operate_225 rfl (lv_at hl 2 rfl) ?_
                          refine lv_bipush (v := 51) hx hb dX3_operate_226 (by decide) ?_
                          refine lv_icmp_gt (tgt := 240) hx hb dX3_operate_228 (by decide) (fun c_49 => ?_) (fun c_49 => ?_)
                          · skip
                            rw [if_pos c_49] at hf
                            refine lv_aload_n hx hb dX3_operate_240 rfl (lv_at hl 4 rfl) ?_
                            refine lv_iload_n hx hb dX3_operate_241 rfl (lv_at hl 2 rfl) ?_
                            refine lv_iload_n hx hb dX3_operate_242 rfl (lv_at hl 1 rfl) ?_
                            refine lv_iload hx hb dX3_operate_243 (lv_at hl 0 rfl) ?_
                            obtain ⟨z_50, _u, hfc, hf⟩ := cal_some hf
                            have hFc := de_free hD hS hA
                            refine va_callv (va_runV (As := [.int r_9, .int r_14, .int r_19]) (rest := []) ⟨hx, hb, hml, hown, hts⟩ (de_X3_lineUp l dC dI cy a sh n H_21.size F z_18 h0 r_9 r_14 r_19 hfc) (cwV 3 hts gX3_operate_X3_lineUp rfl rfl rfl (by decide +kernel) ⟨Nat.le_of_ble_eq_true rfl, Nat.le_of_ble_eq_true rfl⟩) ⟨fun a U g mk q => by obtain ⟨q0, q1, qP, qK, qD, qN⟩ := q; exact ⟨q0, q1, qP, va_K.moved (u := U) (U := U.calling g mk a) (Vm.Alike.refl U.vm) qK, qD, qN.same rfl⟩, va_recv hK hP (ci := 3) (q0 := h0) rfl (Wd_ob kg_1 sg_1 (by decide)), fun U hU hW => ⟨rfl, by rw [hU], by rw [hU]; exact hP, va_K.moved hW.alike hK, hD.weaken (fun _ _ _ _ => trivial), hN.warm hW⟩⟩ rfl rfl hl.1 rfl (lv_room (Nat.le_of_ble_eq_true rfl)) dX3_operate_245 ⟨Nat.le_of_ble_eq_true rfl, Nat.le_of_ble_eq_true rfl⟩) hS (fun q _ h => hFc q h) hFc (fun u t H_51 locs ht hvm hw hB hz1 hk1 hS2 => ?_)
                            obtain ⟨hP1, -, hD1⟩ := hB
                            rw [ht] at hP1
                            replace hD := hD1.weaken (fun _ _ _ h => hFc _ h)
                            replace hP := hP1
                            replace hS := hS2
                            clear hP1 hD1 hS2 hFc hfc hz1 hk1 hvm ht
                            exact B248 (z_50) ls H_51 locs ⟨lv_sub hl [2, 3, 4] rfl, hP, hD, hS⟩ hf
                          · skip
                            rw [if_neg c_49] at hf
                            refine lv_aload_n hx hb dX3_operate_231 rfl (lv_at hl 4 rfl) ?_
                            refine lv_iload_n hx hb dX3_operate_232 rfl (lv_at hl 2 rfl) ?_
                            refine lv_iload_n hx hb dX3_operate_233 rfl (lv_at hl 1 rfl) ?_
                            obtain ⟨z_52, _u, hfc, hf⟩ := cal_some hf
                            have hFc := de_free hD hS hA
                            refine va_callv (va_runV (As := [.int r_9, .int r_14]) (rest := []) ⟨hx, hb, hml, hown, hts⟩ (de_X3_keep l dC dI cy a sh n H_21.size F z_18 h0 r_9 r_14 hfc) (cwV 2 hts gX3_operate_X3_keep rfl rfl rfl (by decide +kernel) ⟨Nat.le_of_ble_eq_true rfl, Nat.le_of_ble_eq_true rfl⟩) ⟨fun a U g mk q => by obtain ⟨q0, q1, qP, qK, qD, qN⟩ := q; exact ⟨q0, q1, qP, va_K.moved (u := U) (U := U.calling g mk a) (Vm.Alike.refl U.vm) qK, qD, qN.same rfl⟩, va_recv hK hP (ci := 3) (q0 := h0) rfl (Wd_ob kg_1 sg_1 (by decide)), fun U hU hW => ⟨rfl, by rw [hU], by rw [hU]; exact hP, va_K.moved hW.alike hK, hD.weaken (fun _ _ _ _ => trivial), hN.warm hW⟩⟩ rfl rfl hl.1 rfl (lv_room (Nat.le_of_ble_eq_true rfl)) dX3_operate_234 ⟨Nat.le_of_ble_eq_true rfl, Nat.le_of_ble_eq_true rfl⟩) hS (fun q _ h => hFc q h) hFc (fun u t H_53 locs ht hvm hw hB hz1 hk1 hS2 => ?_)
                            obtain ⟨hP1, -, hD1⟩ := hB
                            rw [ht] at hP1
                            replace hD := hD1.weaken (fun _ _ _ h => hFc _ h)
                            replace hP := hP1
                            replace hS := hS2
                            clear hP1 hD1 hS2 hFc hfc hz1 hk1 hvm ht
                            refine lv_goto (tgt := 248) hx hb dX3_operate_237 (by decide) ?_
                            exact B248 (z_52) ls H_53 locs ⟨lv_sub hl [2, 3, 4] rfl, hP, hD, hS⟩ hf
                        · skip
                          rw [if_neg c_48] at hf
                          refine lv_aload_n hx hb dX3_operate_217 rfl (lv_at hl 4 rfl) ?_
                          refine lv_iload_n hx hb dX3_operate_218 rfl (lv_at hl 2 rfl) ?_
                          obtain ⟨z_54, _u, hfc, hf⟩ := cal_some hf
                          have hFc := de_free hD hS hA
                          refine va_callv (va_runV (As := [.int r_9]) (rest := []) ⟨hx, hb, hml, hown, hts⟩ (de_X3_reckon l dC dI cy a sh n H_21.size F z_18 h0 r_9 hfc) (cwV 1 hts gX3_operate_X3_reckon rfl rfl rfl (by decide +kernel) ⟨Nat.le_of_ble_eq_true rfl, Nat.le_of_ble_eq_true rfl⟩) ⟨fun a U g mk q => by obtain ⟨q0, q1, qP, qK, qD, qN⟩ := q; exact ⟨q0, q1, qP, va_K.moved (u := U) (U := U.calling g mk a) (Vm.Alike.refl U.vm) qK, qD, qN.same rfl⟩, va_recv hK hP (ci := 3) (q0 := h0) rfl (Wd_ob kg_1 sg_1 (by decide)), fun U hU hW => ⟨rfl, by rw [hU], by rw [hU]; exact hP, va_K.moved hW.alike hK, hD.weaken (fun _ _ _ _ => trivial), hN.warm hW⟩⟩ rfl rfl hl.1 rfl (lv_room (Nat.le_of_ble_eq_true rfl)) dX3_operate_219 ⟨Nat.le_of_ble_eq_true rfl, Nat.le_of_ble_eq_true rfl⟩) hS (fun q _ h => hFc q h) hFc (fun u t H_55 locs ht hvm hw hB hz1 hk1 hS2 => ?_)
                          obtain ⟨hP1, -, hD1⟩ := hB
                          rw [ht] at hP1
                          replace hD := hD1.weaken (fun _ _ _ h => hFc _ h)
                          replace hP := hP1
                          replace hS := hS2
                          clear hP1 hD1 hS2 hFc hfc hz1 hk1 hvm ht
                          refine lv_goto (tgt := 248) hx hb dX3_operate_222 (by decide) ?_
                          exact B248 (z_54) ls H_55 locs ⟨lv_sub hl [2, 3, 4] rfl, hP, hD, hS⟩ hf
                      · skip
                        rw [if_pos c_47] at hf
                        refine lv_aload_n hx hb dX3_operate_203 rfl (lv_at hl 4 rfl) ?_
                        refine lv_iload_n hx hb dX3_operate_204 rfl (lv_at hl 1 rfl) ?_
                        obtain ⟨z_56, _u, hfc, hf⟩ := cal_some hf
                        have hFc := de_free hD hS hA
                        refine va_callv (va_runV (As := [.int r_14]) (rest := []) ⟨hx, hb, hml, hown, hts⟩ (de_X3_enter l dC dI cy a sh n H_21.size F z_18 h0 r_14 hfc) (cwV 1 hts gX3_operate_X3_enter rfl rfl rfl (by decide +kernel) ⟨Nat.le_of_ble_eq_true rfl, Nat.le_of_ble_eq_true rfl⟩) ⟨fun a U g mk q => by obtain ⟨q0, q1, qP, qK, qD, qN⟩ := q; exact ⟨q0, q1, qP, va_K.moved (u := U) (U := U.calling g mk a) (Vm.Alike.refl U.vm) qK, qD, qN.same rfl⟩, va_recv hK hP (ci := 3) (q0 := h0) rfl (Wd_ob kg_1 sg_1 (by decide)), fun U hU hW => ⟨rfl, by rw [hU], by rw [hU]; exact hP, va_K.moved hW.alike hK, hD.weaken (fun _ _ _ _ => trivial), hN.warm hW⟩⟩ rfl rfl hl.1 rfl (lv_room (Nat.le_of_ble_eq_true rfl)) dX3_operate_205 ⟨Nat.le_of_ble_eq_true rfl, Nat.le_of_ble_eq_true rfl⟩) hS (fun q _ h => hFc q h) hFc (fun u t H_57 locs ht hvm hw hB hz1 hk1 hS2 => ?_)
                        obtain ⟨hP1, -, hD1⟩ := hB
                        rw [ht] at hP1
                        replace hD := hD1.weaken (fun _ _ _ h => hFc _ h)
                        replace hP := hP1
                        replace hS := hS2
                        clear hP1 hD1 hS2 hFc hfc hz1 hk1 hvm ht
                        refine lv_goto (tgt := 248) hx hb dX3_operate_208 (by decide) ?_
                        exact B248 (z_56) ls H_57 locs ⟨lv_sub hl [2, 3, 4] rfl, hP, hD, hS⟩ hf
                    · skip
                      rw [if_neg c_46] at hf
                      refine lv_aload_n hx hb dX3_operate_178 rfl (lv_at hl 4 rfl) ?_
                      refine lv_iload_n hx hb dX3_operate_179 rfl (lv_at hl 2 rfl) ?_
                      refine lv_bipush (v := 21) hx hb dX3_operate_180 (by decide) ?_
                      refine de_cut (h := 190) (fun (x : St × Int32) => [.int x.2, .ref (a h0)]) (fun x ls H locs => lv_has ls 5 [(3, .int r_14), (2, .int r_9), (1, .int r_4), (0, .ref (a h0))] ∧ va_P (dC, dI) vwCl (Wd cy a sh n x.1) H ∧ va_D A (Wd cy a sh n x.1) ∧ va_S A s.heap H locs) (fun x => fn_X3_operate_B190 F sh n h0 r_14 r_4 r_9 x.1 x.2) (z8, r8) ?_ (fun B190 => ?_)
                      · intro x ls H locs hI hf
                        obtain ⟨z_59, p_58⟩ := x
                        obtain ⟨hl2, hP2, hD2, hS2⟩ := hI
                        replace hl : lv_has ls 5 [(3, .int r_14), (2, .int r_9), (1, .int r_4), (0, .ref (a h0))] := hl2
                        replace hP := hP2
                        replace hD := hD2
                        replace hS := hS2
                        clear hl2 hP2 hD2 hS2
                        replace hf := fn_X3_operate_B190_s hf
                        refine W.eq (g2 := F0 m 190 ls [.int p_58, .ref (a h0)]) rfl ?_
                        refine lv_iload_n hx hb dX3_operate_190 rfl (lv_at hl 0 rfl) ?_
                        obtain ⟨z_60, _u, hfc, hf⟩ := cal_some hf
                        have hFc := de_free hD hS hA
                        refine va_callv (va_runV (As := [.int p_58, .int r_14]) (rest := []) ⟨hx, hb, hml, hown, hts⟩ (de_X3_pack l dC dI cy a sh n H.size F z_59 h0 p_58 r_14 hfc) (cwV 2 hts gX3_operate_X3_pack rfl rfl rfl (by decide +kernel) ⟨Nat.le_of_ble_eq_true rfl, Nat.le_of_ble_eq_true rfl⟩) ⟨fun a U g mk q => by obtain ⟨q0, q1, qP, qK, qD, qN⟩ := q; exact ⟨q0, q1, qP, va_K.moved (u := U) (U := U.calling g mk a) (Vm.Alike.refl U.vm) qK, qD, qN.same rfl⟩, va_recv hK hP (ci := 3) (q0 := h0) rfl (Wd_ob kg_1 sg_1 (by decide)), fun U hU hW => ⟨rfl, by rw [hU], by rw [hU]; exact hP, va_K.moved hW.alike hK, hD.weaken (fun _ _ _ _ => trivial), hN.warm hW⟩⟩ rfl rfl hl.1 rfl (lv_room (Nat.le_of_ble_eq_true rfl)) dX3_operate_191 ⟨Nat.le_of_ble_eq_true rfl, Nat.le_of_ble_eq_true rfl⟩) hS (fun q _ h => hFc q h) hFc (fun u t H_61 locs ht hvm hw hB hz1 hk1 hS2 => ?_)
                        obtain ⟨hP1, -, hD1⟩ := hB
                        rw [ht] at hP1
                        replace hD := hD1.weaken (fun _ _ _ h => hFc _ h)
                        replace hP := hP1
                        replace hS := hS2
                        clear hP1 hD1 hS2 hFc hfc hz1 hk1 hvm ht
                        refine lv_goto (tgt := 248) hx hb dX3_operate_194 (by decide) ?_
                        exact B248 (z_60) ls H_61 locs ⟨lv_sub hl [1, 2, 3] rfl, hP, hD, hS⟩ hf
                      refine lv_icmp_ne (tgt := 189) hx hb dX3_operate_182 (by decide) (fun c_62 => ?_) (fun c_62 => ?_)
                      · skip
                        rw [if_neg c_62] at hf
                        refine lv_iconst (v := 0) hx hb dX3_operate_189 (by decide) ?_
                        exact B190 (z_18, 0) ls H_21 locs ⟨lv_sub hl [1, 2, 3, 4] rfl, hP, hD, hS⟩ hf
                      · skip
                        rw [if_pos c_62] at hf
                        refine lv_iconst (v := 1) hx hb dX3_operate_185 (by decide) ?_
                        refine lv_goto (tgt := 190) hx hb dX3_operate_186 (by decide) ?_
                        exact B190 (z_18, 1) ls H_21 locs ⟨lv_sub hl [1, 2, 3, 4] rfl, hP, hD, hS⟩ hf
                  · skip
                    rw [if_neg c_45] at hf
                    refine lv_aload_n hx hb dX3_operate_161 rfl (lv_at hl 4 rfl) ?_
                    refine lv_iload_n hx hb dX3_operate_162 rfl (lv_at hl 2 rfl) ?_
                    refine lv_iload_n hx hb dX3_operate_163 rfl (lv_at hl 1 rfl) ?_
                    refine lv_iload hx hb dX3_operate_164 (lv_at hl 0 rfl) ?_
                    obtain ⟨z_63, _u, hfc, hf⟩ := cal_some hf
                    have hFc := de_free hD hS hA
                    refine va_callv (va_runV (As := [.int r_9, .int r_14, .int r_19]) (rest := []) ⟨hx, hb, hml, hown, hts⟩ (de_X3_refer l dC dI cy a sh n H_21.size F z_18 h0 r_9 r_14 r_19 hfc) (cwV 3 hts gX3_operate_X3_refer rfl rfl rfl (by decide +kernel) ⟨Nat.le_of_ble_eq_true rfl, Nat.le_of_ble_eq_true rfl⟩) ⟨fun a U g mk q => by obtain ⟨q0, q1, qP, qK, qD, qN⟩ := q; exact ⟨q0, q1, qP, va_K.moved (u := U) (U := U.calling g mk a) (Vm.Alike.refl U.vm) qK, qD, qN.same rfl⟩, va_recv hK hP (ci := 3) (q0 := h0) rfl (Wd_ob kg_1 sg_1 (by decide)), fun U hU hW => ⟨rfl, by rw [hU], by rw [hU]; exact hP, va_K.moved hW.alike hK, hD.weaken (fun _ _ _ _ => trivial), hN.warm hW⟩⟩ rfl rfl hl.1 rfl (lv_room (Nat.le_of_ble_eq_true rfl)) dX3_operate_166 ⟨Nat.le_of_ble_eq_true rfl, Nat.le_of_ble_eq_true rfl⟩) hS (fun q _ h => hFc q h) hFc (fun u t H_64 locs ht hvm hw hB hz1 hk1 hS2 => ?_)
                    obtain ⟨hP1, -, hD1⟩ := hB
                    rw [ht] at hP1
                    replace hD := hD1.weaken (fun _ _ _ h => hFc _ h)
                    replace hP := hP1
                    replace hS := hS2
                    clear hP1 hD1 hS2 hFc hfc hz1 hk1 hvm ht
                    refine lv_goto (tgt := 248) hx hb dX3_operate_169 (by decide) ?_
                    exact B248 (z_63) ls H_64 locs ⟨lv_sub hl [2, 3, 4] rfl, hP, hD, hS⟩ hf
                · skip
                  rw [if_neg c_44] at hf
                  refine lv_aload_n hx hb dX3_operate_131 rfl (lv_at hl 4 rfl) ?_
                  refine lv_iload_n hx hb dX3_operate_132 rfl (lv_at hl 2 rfl) ?_
                  refine lv_bipush (v := 15) hx hb dX3_operate_133 (by decide) ?_
                  refine de_cut (h := 143) (fun (x : St × Int32) => [.int x.2, .ref (a h0)]) (fun x ls H locs => lv_has ls 5 [(3, .int r_14), (2, .int r_9), (1, .int r_4), (0, .ref (a h0))] ∧ va_P (dC, dI) vwCl (Wd cy a sh n x.1) H ∧ va_D A (Wd cy a sh n x.1) ∧ va_S A s.heap H locs) (fun x => fn_X3_operate_B143 F sh n r_14 h0 r_4 r_9 x.1 x.2) (z8, r8) ?_ (fun B143 => ?_)
                  · intro x ls H locs hI hf
                    obtain ⟨z_66, p_65⟩ := x
                    obtain ⟨hl2, hP2, hD2, hS2⟩ := hI
                    replace hl : lv_has ls 5 [(3, .int r_14), (2, .int r_9), (1, .int r_4), (0, .ref (a h0))] := hl2
                    replace hP := hP2
                    replace hD := hD2
                    replace hS := hS2
                    clear hl2 hP2 hD2 hS2
                    replace hf := fn_X3_operate_B143_s hf
                    refine W.eq (g2 := F0 m 143 ls [.int p_65, .ref (a h0)]) rfl ?_
                    refine lv_iload_n hx hb dX3_operate_143 rfl (lv_at hl 0 rfl) ?_
                    refine lv_bipush (v := 39) hx hb dX3_operate_144 (by decide) ?_
                    refine va_mmin hx hb (hml.trans hl.1.symm) hown (hts _ md_X3_operate_4) (hts _ md_X3_operate_5) (hts _ md_X3_operate_6) (hts _ md_X3_operate_7) (Nat.le_of_ble_eq_true rfl) (Nat.le_of_ble_eq_true rfl) (Nat.le_of_ble_eq_true rfl) (Nat.le_of_ble_eq_true rfl) dX3_operate_146 ?_
                    refine lv_topi (fun v_67 ev_67 => ?_)
                    replace hf := lt_at ev_67 hf
                    clear ev_67
                    obtain ⟨z_68, _u, hfc, hf⟩ := cal_some hf
                    have hFc := de_free hD hS hA
                    refine va_callv (va_runV (As := [.int p_65, .int v_67]) (rest := []) ⟨hx, hb, hml, hown, hts⟩ (de_X3_borrowLocal l dC dI cy a sh n H.size F z_66 h0 p_65 v_67 hfc) (cwV 2 hts gX3_operate_X3_borrowLocal rfl rfl rfl (by decide +kernel) ⟨Nat.le_of_ble_eq_true rfl, Nat.le_of_ble_eq_true rfl⟩) ⟨fun a U g mk q => by obtain ⟨q0, q1, qP, qK, qD, qN⟩ := q; exact ⟨q0, q1, qP, va_K.moved (u := U) (U := U.calling g mk a) (Vm.Alike.refl U.vm) qK, qD, qN.same rfl⟩, va_recv hK hP (ci := 3) (q0 := h0) rfl (Wd_ob kg_1 sg_1 (by decide)), fun U hU hW => ⟨rfl, by rw [hU], by rw [hU]; exact hP, va_K.moved hW.alike hK, hD.weaken (fun _ _ _ _ => trivial), hN.warm hW⟩⟩ rfl rfl hl.1 rfl (lv_room (Nat.le_of_ble_eq_true rfl)) dX3_operate_149 ⟨Nat.le_of_ble_eq_true rfl, Nat.le_of_ble_eq_true rfl⟩) hS (fun q _ h => hFc q h) hFc (fun u t H_69 locs ht hvm hw hB hz1 hk1 hS2 => ?_)
                    obtain ⟨hP1, -, hD1⟩ := hB
                    rw [ht] at hP1
                    replace hD := hD1.weaken (fun _ _ _ h => hFc _ h)
                    replace hP := hP1
                    replace hS := hS2
                    clear hP1 hD1 hS2 hFc hfc hz1 hk1 hvm ht
                    refine lv_goto (tgt := 248) hx hb dX3_operate_152 (by decide) ?_
                    exact B248 (z_68) ls H_69 locs ⟨lv_sub hl [1, 2, 3] rfl, hP, hD, hS⟩ hf
                  refine lv_icmp_ne (tgt := 142) hx hb dX3_operate_135 (by decide) (fun c_70 => ?_) (fun c_70 => ?_)
                  · skip
                    rw [if_neg c_70] at hf
                    refine lv_iconst (v := 0) hx hb dX3_operate_142 (by decide) ?_
                    exact B143 (z_18, 0) ls H_21 locs ⟨lv_sub hl [1, 2, 3, 4] rfl, hP, hD, hS⟩ hf
                  · skip
                    rw [if_pos c_70] at hf
                    refine lv_iconst (v := 1) hx hb dX3_operate_138 (by decide) ?_
                    refine lv_goto (tgt := 143) hx hb dX3_operate_139 (by decide) ?_
                    exact B143 (z_18, 1) ls H_21 locs ⟨lv_sub hl [1, 2, 3, 4] rfl, hP, hD, hS⟩ hf
              · skip
                rw [if_neg c_43] at hf
                refine lv_aload_n hx hb dX3_operate_111 rfl (lv_at hl 4 rfl) ?_
                refine lv_iload_n hx hb dX3_operate_112 rfl (lv_at hl 2 rfl) ?_
                refine lv_iload_n hx hb dX3_operate_113 rfl (lv_at hl 1 rfl) ?_
                refine lv_bipush (v := 39) hx hb dX3_operate_114 (by decide) ?_
                refine va_mmin hx hb (hml.trans hl.1.symm) hown (hts _ md_X3_operate_4) (hts _ md_X3_operate_5) (hts _ md_X3_operate_6) (hts _ md_X3_operate_7) (Nat.le_of_ble_eq_true rfl) (Nat.le_of_ble_eq_true rfl) (Nat.le_of_ble_eq_true rfl) (Nat.le_of_ble_eq_true rfl) dX3_operate_116 ?_
                refine lv_topi (fun v_71 ev_71 => ?_)
                replace hf := lt_at ev_71 hf
                clear ev_71
                obtain ⟨z_72, _u, hfc, hf⟩ := cal_some hf
                have hFc := de_free hD hS hA
                refine va_callv (va_runV (As := [.int r_9, .int v_71]) (rest := []) ⟨hx, hb, hml, hown, hts⟩ (de_X3_useLocal l dC dI cy a sh n H_21.size F z_18 h0 r_9 v_71 hfc) (cwV 2 hts gX3_operate_X3_useLocal rfl rfl rfl (by decide +kernel) ⟨Nat.le_of_ble_eq_true rfl, Nat.le_of_ble_eq_true rfl⟩) ⟨fun a U g mk q => by obtain ⟨q0, q1, qP, qK, qD, qN⟩ := q; exact ⟨q0, q1, qP, va_K.moved (u := U) (U := U.calling g mk a) (Vm.Alike.refl U.vm) qK, qD, qN.same rfl⟩, va_recv hK hP (ci := 3) (q0 := h0) rfl (Wd_ob kg_1 sg_1 (by decide)), fun U hU hW => ⟨rfl, by rw [hU], by rw [hU]; exact hP, va_K.moved hW.alike hK, hD.weaken (fun _ _ _ _ => trivial), hN.warm hW⟩⟩ rfl rfl hl.1 rfl (lv_room (Nat.le_of_ble_eq_true rfl)) dX3_operate_119 ⟨Nat.le_of_ble_eq_true rfl, Nat.le_of_ble_eq_true rfl⟩) hS (fun q _ h => hFc q h) hFc (fun u t H_73 locs ht hvm hw hB hz1 hk1 hS2 => ?_)
                obtain ⟨hP1, -, hD1⟩ := hB
                rw [ht] at hP1
                replace hD := hD1.weaken (fun _ _ _ h => hFc _ h)
                replace hP := hP1
                replace hS := hS2
                clear hP1 hD1 hS2 hFc hfc hz1 hk1 hvm ht
                refine lv_goto (tgt := 248) hx hb dX3_operate_122 (by decide) ?_
                exact B248 (z_72) ls H_73 locs ⟨lv_sub hl [2, 3, 4] rfl, hP, hD, hS⟩ hf
            · skip
              rw [if_pos c_42] at hf
              exact B97 (z_18) ls H_21 locs ⟨lv_sub hl [2, 3, 4] rfl, hP, hD, hS⟩ hf
      · skip
        rw [if_pos c_36] at hf
        exact B71 (z_18) ls H_21 locs ⟨lv_sub hl [2, 3, 4] rfl, hP, hD, hS⟩ hf
  · skip
    rw [if_pos c_31] at hf
    refine lv_aload_n hx hb dX3_operate_53 rfl (lv_at hl 4 rfl) ?_
    obtain ⟨z_74, _u, hfc, hf⟩ := cal_some hf
    have hFc := de_free hD hS hA
    refine va_callv (va_runV (As := []) (rest := []) ⟨hx, hb, hml, hown, hts⟩ (de_X3_giveBack l dC dI cy a sh n H_21.size F z_18 h0 hfc) (cwV 0 hts gX3_operate_X3_giveBack rfl rfl rfl (by decide +kernel) ⟨Nat.le_of_ble_eq_true rfl, Nat.le_of_ble_eq_true rfl⟩) ⟨fun a U g mk q => by obtain ⟨q0, q1, qP, qK, qD, qN⟩ := q; exact ⟨q0, q1, qP, va_K.moved (u := U) (U := U.calling g mk a) (Vm.Alike.refl U.vm) qK, qD, qN.same rfl⟩, va_recv hK hP (ci := 3) (q0 := h0) rfl (Wd_ob kg_1 sg_1 (by decide)), fun U hU hW => ⟨rfl, by rw [hU], by rw [hU]; exact hP, va_K.moved hW.alike hK, hD.weaken (fun _ _ _ _ => trivial), hN.warm hW⟩⟩ rfl rfl hl.1 rfl (lv_room (Nat.le_of_ble_eq_true rfl)) dX3_operate_54 ⟨Nat.le_of_ble_eq_true rfl, Nat.le_of_ble_eq_true rfl⟩) hS (fun q _ h => hFc q h) hFc (fun u t H_75 locs ht hvm hw hB hz1 hk1 hS2 => ?_)
    obtain ⟨hP1, -, hD1⟩ := hB
    rw [ht] at hP1
    replace hD := hD1.weaken (fun _ _ _ h => hFc _ h)
    replace hP := hP1
    replace hS := hS2
    clear hP1 hD1 hS2 hFc hfc hz1 hk1 hvm ht
    refine lv_goto (tgt := 248) hx hb dX3_operate_57 (by decide) ?_
    exact B248 (z_74) ls H_75 locs ⟨lv_sub hl [2, 3, 4] rfl, hP, hD, hS⟩ hf

theorem md_X9_climb_1 : (.fieldLink RX9 31 "ResourceLedger$Tree" "order" "[I" : Cond) ∈ wsX9_climb := List.mem_of_getElem? (i := 1) rfl
theorem iwd_X9_climb_X9 : ∀ w ∈ wsX90, w ∈ wsX9_climb := fun _ h => List.mem_cons_of_mem _ (List.mem_append_left _ (List.mem_append_right _ h))
theorem md_X9_climb_2 : (.methodLink RX9 176 Lib.Math.max.name : Cond) ∈ wsX9_climb := List.mem_of_getElem? (i := 2) rfl
theorem md_X9_climb_3 : (.static Lib.Math.max.name : Cond) ∈ wsX9_climb := List.mem_of_getElem? (i := 3) rfl
theorem md_X9_climb_4 : (.initialized "java/lang/Math" : Cond) ∈ wsX9_climb := List.mem_of_getElem? (i := 4) rfl
theorem md_X9_climb_5 : (.code Lib.Math.max.name Lib.Math.max.code 2 (some .int) : Cond) ∈ wsX9_climb := List.mem_of_getElem? (i := 5) rfl
theorem md_X9_climb_6 : (.fieldLink RX9 25 "ResourceLedger$Tree" "leaves" "[J" : Cond) ∈ wsX9_climb := List.mem_of_getElem? (i := 6) rfl
theorem md_X9_climb_7 : (.fieldLink RX9 39 "ResourceLedger$Tree" "now" "[J" : Cond) ∈ wsX9_climb := List.mem_of_getElem? (i := 7) rfl
theorem md_X9_climb_8 : (.methodLink RX9 179 arraycopyName : Cond) ∈ wsX9_climb := List.mem_of_getElem? (i := 8) rfl
theorem md_X9_climb_9 : (.native arraycopyName : Cond) ∈ wsX9_climb := List.mem_of_getElem? (i := 9) rfl
theorem md_X9_climb_10 : (.static arraycopyName : Cond) ∈ wsX9_climb := List.mem_of_getElem? (i := 10) rfl
theorem md_X9_climb_11 : (.initialized "java/lang/System" : Cond) ∈ wsX9_climb := List.mem_of_getElem? (i := 11) rfl
theorem md_X9_climb_13 : (.fieldLink RX9 69 "ResourceLedger$Tree" "waitingCount" "I" : Cond) ∈ wsX9_climb := List.mem_of_getElem? (i := 13) rfl
theorem md_X9_climb_16 : (.fieldLink RX9 42 "ResourceLedger$Tree" "waiting" "[J" : Cond) ∈ wsX9_climb := List.mem_of_getElem? (i := 16) rfl
theorem md_X9_climb_14 : (.fieldLink RX9 45 "ResourceLedger$Tree" "waitingLevel" "[I" : Cond) ∈ wsX9_climb := List.mem_of_getElem? (i := 14) rfl
theorem md_X9_climb_12 : (.fieldLink RX9 22 "ResourceLedger$Tree" "rows" "[J" : Cond) ∈ wsX9_climb := List.mem_of_getElem? (i := 12) rfl
theorem md_X9_climb_15 : (.fieldLink RX9 18 "ResourceLedger$Tree" "digest" "LResourceLedger$Digest;" : Cond) ∈ wsX9_climb := List.mem_of_getElem? (i := 15) rfl
set_option maxHeartbeats 4000000 in
set_option maxRecDepth 100000 in
theorem de_X9_climb (l : Launch) (dC : Nat → ClassId) (dI : Nat → Nat → Nat) (cy : Nat → ClassId) (a : Nat → Nat) (sh : Nat → Nat × Nat) (n sz : Nat) (F : Nat) (sk : Nat → Nat) (z : St) (h0 : Nat) (x0 : Int32) {z8 : St} {r8 : Unit} (hf : fn_X9_climb F sh n z h0 x0 = some (z8, r8)) : Met l yX9_climb wsX9_climb ({ frames := 4, cells := 0, slots := 0, locals := 99 }) (va_Pc [.ref (a h0), .int x0] (fun U => U.heap.size = sz ∧ va_P (dC, dI) vwCl (Wd cy a sh n z) U.heap ∧ va_K (dC, dI) vwCl (TYS cy) U ∧ va_D (fun _ => True) (Wd cy a sh n z) ∧ NK U ∧ SKs sk (a CBK) (va_A (Wd cy a sh n z) sz) U U.heap)) (va_Qv (fun u : Unit => True) (fun u t => va_P (dC, dI) vwCl (Wd cy a sh n z8) t.heap ∧ va_K (dC, dI) vwCl (TYS cy) t ∧ va_D (va_A (Wd cy a sh n z) sz) (Wd cy a sh n z8)) (va_A (Wd cy a sh n z) sz)) 0 0 (va_A (Wd cy a sh n z) sz) := by
  refine Met.ofW (cc := cX9_climb) (maxL := 8) (ret := none) (by decide) rfl ?_
  intro p e s m args below meth c s₁ B hml hv
  obtain ⟨rfl, hsz, hP, hK, hD0, hN, hSK⟩ := hv
  have hx := B.exec
  have hb := B.bytes
  have hr := B.returns
  have hts := atoms_spec (ws := wsX9_climb) B.pre
  have hown : s.vm.findClass RX9 = some m.cls := findClass_of_methodNamed B.named
  have hlocks := B.notSynchronized
  subst hsz
  have hD := hD0.self (sz := s.heap.size)
  clear hD0
  generalize hAe : va_A (Wd cy a sh n z) s.heap.size = A at hD hSK ⊢
  have hA : ∀ q : Nat, s.heap.size ≤ q → A q := fun q h => by rw [← hAe]; exact Or.inr h
  clear hAe
  have hS : va_S A s.heap s.heap [] := va_S.rf
  have hl := lv_entry ([.ref (a h0), .int x0]) (n := 8) (Nat.le_of_ble_eq_true rfl)
  rw [lg_entry_eq]
  generalize (lg_sl ([.ref (a h0), .int x0]) ++ List.replicate (8 - (lg_sl ([.ref (a h0), .int x0])).length) Slot.unset).toArray = ls at hl ⊢
  replace hl : lv_has ls 8 [(0, .ref (a h0)), (1, .int x0)] := hl
  unfold fn_X9_climb at hf
  refine de_start hS hP (fun H locs hS hP => ?_)
  refine lv_aload_n hx hb dX9_climb_0 rfl (lv_at hl 0 rfl) ?_
  obtain ⟨g_1, hf⟩ := grd_some hf
  obtain ⟨kg_1, sg_1⟩ := okO_at g_1
  obtain ⟨k_2, ek_2, hf⟩ := lnk_some hf
  refine va_get (D := (dC, dI)) (ci := 9) (v := .ref (a k_2)) (C := RX9) (T := TX9) (N := 13) hx hb hts iwd_X9_climb_X9 hown hK hP h0 (Wd_ob kg_1 sg_1 (by decide)) rfl 6 (by decide) (hts _ md_X9_climb_1) (fun _ h9 => h9) (fl_q rfl ek_2) dX9_climb_1 ?_
  refine lv_iload_n hx hb dX9_climb_4 rfl (lv_at hl 1 rfl) ?_
  obtain ⟨g_3, hf⟩ := grd_some hf
  obtain ⟨kg_3, sg_3, ig_3⟩ := okA_at g_3
  refine va_iald hx hb hK hP k_2 1 (Wd_ai kg_3 sg_3) rfl ig_3 dX9_climb_5 ?_
  refine lv_bipush (v := 7) hx hb dX9_climb_6 (by decide) ?_
  refine lv_imul hx hb dX9_climb_8 ?_
  refine lv_topi (fun v_4 ev_4 => ?_)
  replace hf := lt_at ev_4 hf
  clear ev_4
  refine lv_istore_n (lv' := [(2, .int v_4), (0, .ref (a h0)), (1, .int x0)]) hx hb dX9_climb_9 rfl hl (by decide) rfl (fun ls hl2 => ?_)
  replace hl := hl2
  clear hl2
  refine lv_aload_n hx hb dX9_climb_10 rfl (lv_at hl 1 rfl) ?_
  refine lv_iload_n hx hb dX9_climb_11 rfl (lv_at hl 2 rfl) ?_
  obtain ⟨z_5, r_6, hfc, hf⟩ := cal_some hf
  have hFc := de_free hD hS hA
  refine va_calli (va_runV (As := [.int x0]) (rest := []) ⟨hx, hb, hml, hown, hts⟩ (de_X9_parting l dC dI cy a sh n H.size F z h0 x0 hfc) (cwV 1 hts gX9_climb_X9_parting rfl rfl rfl (by decide +kernel) ⟨Nat.le_of_ble_eq_true rfl, Nat.le_of_ble_eq_true rfl⟩) ⟨fun a U g mk q => by obtain ⟨q0, q1, qP, qK, qD, qN⟩ := q; exact ⟨q0, q1, qP, va_K.moved (u := U) (U := U.calling g mk a) (Vm.Alike.refl U.vm) qK, qD, qN.same rfl⟩, va_recv hK hP (ci := 9) (q0 := h0) rfl (Wd_ob kg_1 sg_1 (by decide)), fun U hU hW => ⟨rfl, by rw [hU], by rw [hU]; exact hP, va_K.moved hW.alike hK, hD.weaken (fun _ _ _ _ => trivial), hN.warm hW⟩⟩ rfl rfl hl.1 rfl (lv_room (Nat.le_of_ble_eq_true rfl)) dX9_climb_12 ⟨Nat.le_of_ble_eq_true rfl, Nat.le_of_ble_eq_true rfl⟩) hS (fun q _ h => hFc q h) hFc (fun rr u t H_7 locs ht hvm hw hB hz1 hk1 hS2 => ?_)
  rw [hw]
  clear hw
  obtain ⟨hP1, -, hD1⟩ := hB
  rw [ht] at hP1
  replace hD := hD1.weaken (fun _ _ _ h => hFc _ h)
  replace hP := hP1
  replace hS := hS2
  clear hP1 hD1 hS2 hFc hfc hz1 hk1 hvm ht
  refine lv_istore_n (lv' := [(3, .int r_6), (2, .int v_4), (0, .ref (a h0)), (1, .int x0)]) hx hb dX9_climb_15 rfl hl (by decide) rfl (fun ls hl2 => ?_)
  replace hl := hl2
  clear hl2
  refine lv_aload_n hx hb dX9_climb_16 rfl (lv_at hl 2 rfl) ?_
  refine lv_iload_n hx hb dX9_climb_17 rfl (lv_at hl 3 rfl) ?_
  refine lv_iconst (v := 1) hx hb dX9_climb_18 (by decide) ?_
  refine lv_isub hx hb dX9_climb_19 ?_
  obtain ⟨z_8, r_9, hfc, hf⟩ := cal_some hf
  have hFc := de_free hD hS hA
  refine va_calli (va_runV (As := [.int (x0 - 1)]) (rest := []) ⟨hx, hb, hml, hown, hts⟩ (de_X9_parting l dC dI cy a sh n H_7.size F z_5 h0 (x0 - 1) hfc) (cwV 1 hts gX9_climb_X9_parting rfl rfl rfl (by decide +kernel) ⟨Nat.le_of_ble_eq_true rfl, Nat.le_of_ble_eq_true rfl⟩) ⟨fun a U g mk q => by obtain ⟨q0, q1, qP, qK, qD, qN⟩ := q; exact ⟨q0, q1, qP, va_K.moved (u := U) (U := U.calling g mk a) (Vm.Alike.refl U.vm) qK, qD, qN.same rfl⟩, va_recv hK hP (ci := 9) (q0 := h0) rfl (Wd_ob kg_1 sg_1 (by decide)), fun U hU hW => ⟨rfl, by rw [hU], by rw [hU]; exact hP, va_K.moved hW.alike hK, hD.weaken (fun _ _ _ _ => trivial), hN.warm hW⟩⟩ rfl rfl hl.1 rfl (lv_room (Nat.le_of_ble_eq_true rfl)) dX9_climb_20 ⟨Nat.le_of_ble_eq_true rfl, Nat.le_of_ble_eq_true rfl⟩) hS (fun q _ h => hFc q h) hFc (fun rr u t H_10 locs ht hvm hw hB hz1 hk1 hS2 => ?_)
  rw [hw]
  clear hw
  obtain ⟨hP1, -, hD1⟩ := hB
  rw [ht] at hP1
  replace hD := hD1.weaken (fun _ _ _ h => hFc _ h)
  replace hP := hP1
  replace hS := hS2
  clear hP1 hD1 hS2 hFc hfc hz1 hk1 hvm ht
  refine lv_iload_n hx hb dX9_climb_23 rfl (lv_at hl 0 rfl) ?_
  refine va_mmax hx hb (hml.trans hl.1.symm) hown (hts _ md_X9_climb_2) (hts _ md_X9_climb_3) (hts _ md_X9_climb_4) (hts _ md_X9_climb_5) (Nat.le_of_ble_eq_true rfl) (Nat.le_of_ble_eq_true rfl) (Nat.le_of_ble_eq_true rfl) (Nat.le_of_ble_eq_true rfl) dX9_climb_24 ?_
  refine lv_topi (fun v_11 ev_11 => ?_)
  replace hf := lt_at ev_11 hf
  clear ev_11
  refine lv_istore (lv' := [(4, .int v_11), (3, .int r_6), (2, .int v_4), (0, .ref (a h0)), (1, .int x0)]) hx hb dX9_climb_27 hl (by decide) rfl (fun ls hl2 => ?_)
  replace hl := hl2
  clear hl2
  refine lv_aload_n hx hb dX9_climb_29 rfl (lv_at hl 3 rfl) ?_
  obtain ⟨k_12, ek_12, hf⟩ := lnk_some hf
  refine va_get (D := (dC, dI)) (ci := 9) (v := .ref (a k_12)) (C := RX9) (T := TX9) (N := 13) hx hb hts iwd_X9_climb_X9 hown hK hP h0 (Wd_ob kg_1 sg_1 (by decide)) rfl 4 (by decide) (hts _ md_X9_climb_6) (fun _ h9 => h9) (fl_q rfl ek_12) dX9_climb_30 ?_
  refine lv_aload_n hx hb dX9_climb_33 rfl (lv_at hl 3 rfl) ?_
  obtain ⟨k_13, ek_13, hf⟩ := lnk_some hf
  refine va_get (D := (dC, dI)) (ci := 9) (v := .ref (a k_13)) (C := RX9) (T := TX9) (N := 13) hx hb hts iwd_X9_climb_X9 hown hK hP h0 (Wd_ob kg_1 sg_1 (by decide)) rfl 6 (by decide) (hts _ md_X9_climb_1) (fun _ h9 => h9) (fl_q rfl ek_13) dX9_climb_34 ?_
  refine lv_iload_n hx hb dX9_climb_37 rfl (lv_at hl 4 rfl) ?_
  obtain ⟨g_14, hf⟩ := grd_some hf
  obtain ⟨kg_14, sg_14, ig_14⟩ := okA_at g_14
  refine va_iald hx hb hK hP k_13 1 (Wd_ai kg_14 sg_14) rfl ig_14 dX9_climb_38 ?_
  refine lv_iconst (v := 4) hx hb dX9_climb_39 (by decide) ?_
  refine lv_imul hx hb dX9_climb_40 ?_
  refine lv_aload_n hx hb dX9_climb_41 rfl (lv_at hl 3 rfl) ?_
  obtain ⟨k_15, ek_15, hf⟩ := lnk_some hf
  refine va_get (D := (dC, dI)) (ci := 9) (v := .ref (a k_15)) (C := RX9) (T := TX9) (N := 13) hx hb hts iwd_X9_climb_X9 hown hK hP h0 (Wd_ob kg_1 sg_1 (by decide)) rfl 9 (by decide) (hts _ md_X9_climb_7) (fun _ h9 => h9) (fl_q rfl ek_15) dX9_climb_42 ?_
  refine lv_iconst (v := 0) hx hb dX9_climb_45 (by decide) ?_
  refine lv_iconst (v := 4) hx hb dX9_climb_46 (by decide) ?_
  obtain ⟨g_16, hf⟩ := grd_some hf
  obtain ⟨kg_16, sg_16⟩ := okO_at g_16
  obtain ⟨g_18, hf⟩ := grd_some hf
  obtain ⟨kg_18, sg_18⟩ := okO_at g_18
  obtain ⟨g_17, hf⟩ := grd_some hf
  obtain ⟨ag_17, bg_17, cg_17, dg_17, eg_17⟩ := okC_at g_17
  refine va_copyl (ty := .long) hx hb (hml.trans hl.1.symm) hown (hts _ md_X9_climb_8) (hts _ md_X9_climb_9) (hts _ md_X9_climb_10) (hts _ md_X9_climb_11) hK hP hD hS k_12 k_15 2 2 (Wd_al kg_18 sg_18) (Wd_al kg_16 sg_16) rfl rfl rfl ag_17 bg_17 cg_17 dg_17 eg_17 (fun _ _ => rfl) (Nat.le_of_ble_eq_true rfl) (Nat.le_of_ble_eq_true rfl) dX9_climb_47 (fun H_19 locs hP2 hD2 hS2 => ?_)
  rw [Wd_scl sg_16] at hP2 hD2
  obtain ⟨z_20, ez_20⟩ : ∃ w, w = scl z_8 k_15 (z_8.2.1 k_12) ((z_8.1 k_13 x0.toNatClampNeg) * 4).toNatClampNeg (0 : Int32).toNatClampNeg (4 : Int32).toNatClampNeg := ⟨_, rfl⟩
  rw [← ez_20] at hP2 hD2
  replace hf := lt_at ez_20 hf
  clear ez_20
  replace hP := hP2
  replace hD := hD2
  replace hS := hS2
  clear hP2 hD2 hS2
  have hl0 : lv_has ls 8 [(4, .int v_11), (3, .int r_6), (2, .int v_4), (0, .ref (a h0))] := lv_sub hl [0, 1, 2, 3] rfl
  refine de_loop (h := 50) (fun (x : St × Int32) ls H locs => lv_has ls 8 [(4, .int x.2), (3, .int r_6), (2, .int v_4), (0, .ref (a h0))] ∧ va_P (dC, dI) vwCl (Wd cy a sh n x.1) H ∧ va_D A (Wd cy a sh n x.1) ∧ va_S A s.heap H locs) (fun f x => fn_X9_climb_L50 F sh n r_6 h0 v_4 f x.1 x.2) (z8, r8) ?_ (fun _ => rfl) F (z_20, v_11) ls H_19 locs ⟨hl0, hP, hD, hS⟩ hf
  intro f_23 x ls H locs ih50 hI hf
  obtain ⟨z_22, p_21⟩ := x
  obtain ⟨hl2, hP2, hD2, hS2⟩ := hI
  replace hl : lv_has ls 8 [(4, .int p_21), (3, .int r_6), (2, .int v_4), (0, .ref (a h0))] := hl2
  replace hP := hP2
  replace hD := hD2
  replace hS := hS2
  clear hl2 hP2 hD2 hS2 hl0
  replace hf := fn_X9_climb_L50_s hf
  refine lv_iload hx hb dX9_climb_50 (lv_at hl 0 rfl) ?_
  refine lv_iload_n hx hb dX9_climb_52 rfl (lv_at hl 1 rfl) ?_
  refine lv_icmp_le (tgt := 239) hx hb dX9_climb_53 (by decide) (fun c_24 => ?_) (fun c_24 => ?_)
  · skip
    rw [if_pos c_24] at hf
    refine lv_aload_n hx hb dX9_climb_239 rfl (lv_at hl 3 rfl) ?_
    refine va_get (D := (dC, dI)) (ci := 9) (v := .int (z_22.1 h0 12)) (C := RX9) (T := TX9) (N := 13) hx hb hts iwd_X9_climb_X9 hown hK hP h0 (Wd_ob kg_1 sg_1 (by decide)) rfl 12 (by decide) (hts _ md_X9_climb_13) (fun _ h9 => h9) (fl_at (t := 0) rfl) dX9_climb_240 ?_
    refine lv_sipush (v := 256) hx hb dX9_climb_243 (by decide) ?_
    refine lv_icmp_gt (tgt := 288) hx hb dX9_climb_246 (by decide) (fun c_25 => ?_) (fun c_25 => ?_)
    · skip
      rw [if_pos c_25] at hf
      obtain ⟨h8, h9⟩ := ret_some hf
      rw [h8]
      exact W.vret hx hb hr (fun t ht hW => ⟨⟨(), rfl, trivial, by rw [ht]; exact hP, va_K.moved hW.alike hK, hD⟩, hS.F ht⟩) hS.2.2 dX9_climb_288
    · skip
      rw [if_neg c_25] at hf
      refine lv_aload_n hx hb dX9_climb_249 rfl (lv_at hl 3 rfl) ?_
      obtain ⟨k_26, ek_26, hf⟩ := lnk_some hf
      refine va_get (D := (dC, dI)) (ci := 9) (v := .ref (a k_26)) (C := RX9) (T := TX9) (N := 13) hx hb hts iwd_X9_climb_X9 hown hK hP h0 (Wd_ob kg_1 sg_1 (by decide)) rfl 9 (by decide) (hts _ md_X9_climb_7) (fun _ h9 => h9) (fl_q rfl ek_26) dX9_climb_250 ?_
      refine lv_iconst (v := 0) hx hb dX9_climb_253 (by decide) ?_
      refine lv_aload_n hx hb dX9_climb_254 rfl (lv_at hl 3 rfl) ?_
      obtain ⟨k_27, ek_27, hf⟩ := lnk_some hf
      refine va_get (D := (dC, dI)) (ci := 9) (v := .ref (a k_27)) (C := RX9) (T := TX9) (N := 13) hx hb hts iwd_X9_climb_X9 hown hK hP h0 (Wd_ob kg_1 sg_1 (by decide)) rfl 10 (by decide) (hts _ md_X9_climb_16) (fun _ h9 => h9) (fl_q rfl ek_27) dX9_climb_255 ?_
      refine lv_aload_n hx hb dX9_climb_258 rfl (lv_at hl 3 rfl) ?_
      refine va_get (D := (dC, dI)) (ci := 9) (v := .int (z_22.1 h0 12)) (C := RX9) (T := TX9) (N := 13) hx hb hts iwd_X9_climb_X9 hown hK hP h0 (Wd_ob kg_1 sg_1 (by decide)) rfl 12 (by decide) (hts _ md_X9_climb_13) (fun _ h9 => h9) (fl_at (t := 0) rfl) dX9_climb_259 ?_
      refine lv_iconst (v := 4) hx hb dX9_climb_262 (by decide) ?_
      refine lv_imul hx hb dX9_climb_263 ?_
      refine lv_iconst (v := 4) hx hb dX9_climb_264 (by decide) ?_
      obtain ⟨g_28, hf⟩ := grd_some hf
      obtain ⟨kg_28, sg_28⟩ := okO_at g_28
      obtain ⟨g_30, hf⟩ := grd_some hf
      obtain ⟨kg_30, sg_30⟩ := okO_at g_30
      obtain ⟨g_29, hf⟩ := grd_some hf
      obtain ⟨ag_29, bg_29, cg_29, dg_29, eg_29⟩ := okC_at g_29
      refine va_copyl (ty := .long) hx hb (hml.trans hl.1.symm) hown (hts _ md_X9_climb_8) (hts _ md_X9_climb_9) (hts _ md_X9_climb_10) (hts _ md_X9_climb_11) hK hP hD hS k_26 k_27 2 2 (Wd_al kg_30 sg_30) (Wd_al kg_28 sg_28) rfl rfl rfl ag_29 bg_29 cg_29 dg_29 eg_29 (fun _ _ => rfl) (Nat.le_of_ble_eq_true rfl) (Nat.le_of_ble_eq_true rfl) dX9_climb_265 (fun H_31 locs hP2 hD2 hS2 => ?_)
      rw [Wd_scl sg_28] at hP2 hD2
      obtain ⟨z_32, ez_32⟩ : ∃ w, w = scl z_22 k_27 (z_22.2.1 k_26) (0 : Int32).toNatClampNeg ((z_22.1 h0 12) * 4).toNatClampNeg (4 : Int32).toNatClampNeg := ⟨_, rfl⟩
      rw [← ez_32] at hP2 hD2
      replace hf := lt_at ez_32 hf
      clear ez_32
      replace hP := hP2
      replace hD := hD2
      replace hS := hS2
      clear hP2 hD2 hS2
      refine lv_aload_n hx hb dX9_climb_268 rfl (lv_at hl 3 rfl) ?_
      obtain ⟨k_33, ek_33, hf⟩ := lnk_some hf
      refine va_get (D := (dC, dI)) (ci := 9) (v := .ref (a k_33)) (C := RX9) (T := TX9) (N := 13) hx hb hts iwd_X9_climb_X9 hown hK hP h0 (Wd_ob kg_1 sg_1 (by decide)) rfl 11 (by decide) (hts _ md_X9_climb_14) (fun _ h9 => h9) (fl_q rfl ek_33) dX9_climb_269 ?_
      refine lv_aload_n hx hb dX9_climb_272 rfl (lv_at hl 3 rfl) ?_
      refine va_get (D := (dC, dI)) (ci := 9) (v := .int (z_32.1 h0 12)) (C := RX9) (T := TX9) (N := 13) hx hb hts iwd_X9_climb_X9 hown hK hP h0 (Wd_ob kg_1 sg_1 (by decide)) rfl 12 (by decide) (hts _ md_X9_climb_13) (fun _ h9 => h9) (fl_at (t := 0) rfl) dX9_climb_273 ?_
      refine lv_iload_n hx hb dX9_climb_276 rfl (lv_at hl 1 rfl) ?_
      obtain ⟨g_34, hf⟩ := grd_some hf
      obtain ⟨kg_34, sg_34, ig_34⟩ := okA_at g_34
      refine va_iast hx hb hK hP hD hS k_33 1 (Wd_ai kg_34 sg_34) rfl ig_34 dX9_climb_277 (fun H_35 locs hP2 hD2 hS2 => ?_)
      rw [Wd_ti sg_34] at hP2 hD2
      obtain ⟨z_36, ez_36⟩ : ∃ w, w = si z_32 k_33 (z_32.1 h0 12).toNatClampNeg r_6 := ⟨_, rfl⟩
      rw [← ez_36] at hP2 hD2
      replace hf := lt_at ez_36 hf
      clear ez_36
      replace hP := hP2
      replace hD := hD2
      replace hS := hS2
      clear hP2 hD2 hS2
      refine lv_aload_n hx hb dX9_climb_278 rfl (lv_at hl 3 rfl) ?_
      refine lv_dup hx hb dX9_climb_279 rfl ?_
      refine va_get (D := (dC, dI)) (ci := 9) (v := .int (z_36.1 h0 12)) (C := RX9) (T := TX9) (N := 13) hx hb hts iwd_X9_climb_X9 hown hK hP h0 (Wd_ob kg_1 sg_1 (by decide)) rfl 12 (by decide) (hts _ md_X9_climb_13) (fun _ h9 => h9) (fl_at (t := 0) rfl) dX9_climb_280 ?_
      refine lv_iconst (v := 1) hx hb dX9_climb_283 (by decide) ?_
      refine lv_iadd hx hb dX9_climb_284 ?_
      refine va_put (D := (dC, dI)) (ci := 9) (v := .int ((z_36.1 h0 12) + 1)) (ty := .int) (C := RX9) (T := TX9) (N := 13) hx hb hts iwd_X9_climb_X9 tyX9 tyX9_ok nmX9 hown hK hP hD hS h0 (Wd_ob kg_1 sg_1 (by decide)) rfl 12 (by decide) (hts _ md_X9_climb_13) (fun _ h9 => h9) rfl (by decide +kernel) rfl rfl (by rw [fl_len]; decide) dX9_climb_285 (fun H_37 locs hP2 hD2 hS2 => ?_)
      rw [Wd_si sg_1 (by decide) rfl] at hP2 hD2
      obtain ⟨z_38, ez_38⟩ : ∃ w, w = si z_36 h0 12 ((z_36.1 h0 12) + 1) := ⟨_, rfl⟩
      rw [← ez_38] at hP2 hD2
      replace hf := lt_at ez_38 hf
      clear ez_38
      replace hP := hP2
      replace hD := hD2
      replace hS := hS2
      clear hP2 hD2 hS2
      obtain ⟨h8, h9⟩ := ret_some hf
      rw [h8]
      exact W.vret hx hb hr (fun t ht hW => ⟨⟨(), rfl, trivial, by rw [ht]; exact hP, va_K.moved hW.alike hK, hD⟩, hS.F ht⟩) hS.2.2 dX9_climb_288
  · skip
    rw [if_neg c_24] at hf
    refine lv_aload_n hx hb dX9_climb_56 rfl (lv_at hl 3 rfl) ?_
    obtain ⟨k_39, ek_39, hf⟩ := lnk_some hf
    refine va_get (D := (dC, dI)) (ci := 9) (v := .ref (a k_39)) (C := RX9) (T := TX9) (N := 13) hx hb hts iwd_X9_climb_X9 hown hK hP h0 (Wd_ob kg_1 sg_1 (by decide)) rfl 3 (by decide) (hts _ md_X9_climb_12) (fun _ h9 => h9) (fl_q rfl ek_39) dX9_climb_57 ?_
    refine lv_iload_n hx hb dX9_climb_60 rfl (lv_at hl 2 rfl) ?_
    refine lv_iload hx hb dX9_climb_61 (lv_at hl 0 rfl) ?_
    refine lv_iconst (v := 1) hx hb dX9_climb_63 (by decide) ?_
    refine lv_isub hx hb dX9_climb_64 ?_
    refine lv_bipush (v := 64) hx hb dX9_climb_65 (by decide) ?_
    refine lv_idiv hx hb dX9_climb_67 (by decide) ?_
    refine lv_iadd hx hb dX9_climb_68 ?_
    obtain ⟨g_40, hf⟩ := grd_some hf
    obtain ⟨kg_40, sg_40, ig_40⟩ := okA_at g_40
    refine va_lald hx hb hK hP k_39 2 (Wd_al kg_40 sg_40) rfl ig_40 dX9_climb_69 ?_
    refine lv_bipush (v := 63) hx hb dX9_climb_70 (by decide) ?_
    refine lv_iload hx hb dX9_climb_72 (lv_at hl 0 rfl) ?_
    refine lv_iconst (v := 1) hx hb dX9_climb_74 (by decide) ?_
    refine lv_isub hx hb dX9_climb_75 ?_
    refine lv_bipush (v := 64) hx hb dX9_climb_76 (by decide) ?_
    refine lv_irem hx hb dX9_climb_78 (by decide) ?_
    refine lv_isub hx hb dX9_climb_79 ?_
    refine lv_lushr (v := (((z_22.2.1 k_39 (v_4 + ((p_21 - 1) / 64)).toNatClampNeg) : Int64).toUInt64 >>> (((63 - ((p_21 - 1) - (p_21 - 1) / 64 * 64)) : Int32).toInt64.toUInt64 &&& Int64.toUInt64 63)).toInt64) hx hb dX9_climb_80 rfl ?_
    refine lv_lconst (v := 1) hx hb dX9_climb_81 (by decide) ?_
    refine lv_land hx hb dX9_climb_82 ?_
    refine lv_topl (fun v_41 ev_41 => ?_)
    replace hf := lt_at ev_41 hf
    clear ev_41
    refine lv_lstore (lv' := [(5, .long v_41), (4, .int p_21), (3, .int r_6), (2, .int v_4), (0, .ref (a h0))]) hx hb dX9_climb_83 hl (by decide) rfl (fun ls hl2 => ?_)
    replace hl := hl2
    clear hl2
    refine lv_lload hx hb dX9_climb_85 (lv_at hl 0 rfl) ?_
    refine lv_lconst (v := 0) hx hb dX9_climb_87 (by decide) ?_
    refine W.lcmp hx hb dX9_climb_88 ?_
    refine de_cut (h := 120) (fun (x : St × Int32) => [.int x.2]) (fun x ls H locs => lv_has ls 8 [(5, .long v_41), (4, .int p_21), (3, .int r_6), (2, .int v_4), (0, .ref (a h0))] ∧ va_P (dC, dI) vwCl (Wd cy a sh n x.1) H ∧ va_D A (Wd cy a sh n x.1) ∧ va_S A s.heap H locs) (fun x => fn_X9_climb_B120 F sh n h0 v_41 p_21 (fun z9 q4 => fn_X9_climb_L50 F sh n r_6 h0 v_4 f_23 z9 q4) x.1 x.2) (z8, r8) ?_ (fun B120 => ?_)
    · intro x ls H locs hI hf
      obtain ⟨z_43, p_42⟩ := x
      obtain ⟨hl2, hP2, hD2, hS2⟩ := hI
      replace hl : lv_has ls 8 [(5, .long v_41), (4, .int p_21), (3, .int r_6), (2, .int v_4), (0, .ref (a h0))] := hl2
      replace hP := hP2
      replace hD := hD2
      replace hS := hS2
      clear hl2 hP2 hD2 hS2
      replace hf := fn_X9_climb_B120_s hf
      refine W.eq (g2 := F0 m 120 ls [.int p_42]) rfl ?_
      refine lv_istore (lv' := [(7, .int p_42), (5, .long v_41), (4, .int p_21), (3, .int r_6), (2, .int v_4), (0, .ref (a h0))]) hx hb dX9_climb_120 hl (by decide) rfl (fun ls hl2 => ?_)
      replace hl := hl2
      clear hl2
      refine lv_aload_n hx hb dX9_climb_122 rfl (lv_at hl 5 rfl) ?_
      obtain ⟨k_44, ek_44, hf⟩ := lnk_some hf
      refine va_get (D := (dC, dI)) (ci := 9) (v := .ref (a k_44)) (C := RX9) (T := TX9) (N := 13) hx hb hts iwd_X9_climb_X9 hown hK hP h0 (Wd_ob kg_1 sg_1 (by decide)) rfl 2 (by decide) (hts _ md_X9_climb_15) (fun _ h9 => h9) (fl_q rfl ek_44) dX9_climb_123 ?_
      obtain ⟨g_46, hf⟩ := grd_some hf
      obtain ⟨kg_46, sg_46⟩ := okO_at g_46
      obtain ⟨z_45, _u, hfc, hf⟩ := cal_some hf
      have hFc := de_free hD hS hA
      refine va_callv (va_runV (As := []) (rest := []) ⟨hx, hb, hml, hown, hts⟩ (de_X0_start l dC dI cy a sh n H.size F sk z_43 k_44 hfc) (cwV 0 hts gX9_climb_X0_start rfl rfl rfl (by decide +kernel) ⟨Nat.le_of_ble_eq_true rfl, Nat.le_of_ble_eq_true rfl⟩) ⟨fun a U g mk q => by obtain ⟨q0, q1, qP, qK, qD, qN, qS⟩ := q; exact ⟨q0, q1, qP, va_K.moved (u := U) (U := U.calling g mk a) (Vm.Alike.refl U.vm) qK, qD, qN.same rfl, SKs.moved (u := U) (U := U.calling g mk a) (Vm.Alike.refl U.vm) qS⟩, va_recv hK hP (ci := 0) (q0 := k_44) rfl (Wd_ob kg_46 sg_46 (by decide)), fun U hU hW => ⟨rfl, by rw [hU], by rw [hU]; exact hP, va_K.moved hW.alike hK, hD.weaken (fun _ _ _ _ => trivial), hN.warm hW, by rw [hU]; exact ((hSK.kept hS.2.1).narrow hFc).moved hW.alike⟩⟩ rfl rfl hl.1 rfl (lv_room (Nat.le_of_ble_eq_true rfl)) dX9_climb_126 ⟨Nat.le_of_ble_eq_true rfl, Nat.le_of_ble_eq_true rfl⟩) hS (fun q _ h => hFc q h) hFc (fun u t H_47 locs ht hvm hw hB hz1 hk1 hS2 => ?_)
      obtain ⟨hP1, -, hD1⟩ := hB
      rw [ht] at hP1
      replace hD := hD1.weaken (fun _ _ _ h => hFc _ h)
      replace hP := hP1
      replace hS := hS2
      clear hP1 hD1 hS2 hFc hfc hz1 hk1 hvm ht
      refine lv_aload_n hx hb dX9_climb_129 rfl (lv_at hl 5 rfl) ?_
      obtain ⟨k_48, ek_48, hf⟩ := lnk_some hf
      refine va_get (D := (dC, dI)) (ci := 9) (v := .ref (a k_48)) (C := RX9) (T := TX9) (N := 13) hx hb hts iwd_X9_climb_X9 hown hK hP h0 (Wd_ob kg_1 sg_1 (by decide)) rfl 2 (by decide) (hts _ md_X9_climb_15) (fun _ h9 => h9) (fl_q rfl ek_48) dX9_climb_130 ?_
      refine lv_iconst (v := 1) hx hb dX9_climb_133 (by decide) ?_
      obtain ⟨g_50, hf⟩ := grd_some hf
      obtain ⟨kg_50, sg_50⟩ := okO_at g_50
      obtain ⟨z_49, _u, hfc, hf⟩ := cal_some hf
      have hFc := de_free hD hS hA
      refine va_callv (va_runV (As := [.int 1]) (rest := []) ⟨hx, hb, hml, hown, hts⟩ (de_X0_put l dC dI cy a sh n H_47.size F sk z_45 k_48 1 hfc) (cwV 1 hts gX9_climb_X0_put rfl rfl rfl (by decide +kernel) ⟨Nat.le_of_ble_eq_true rfl, Nat.le_of_ble_eq_true rfl⟩) ⟨fun a U g mk q => by obtain ⟨q0, q1, qP, qK, qD, qN, qS⟩ := q; exact ⟨q0, q1, qP, va_K.moved (u := U) (U := U.calling g mk a) (Vm.Alike.refl U.vm) qK, qD, qN.same rfl, SKs.moved (u := U) (U := U.calling g mk a) (Vm.Alike.refl U.vm) qS⟩, va_recv hK hP (ci := 0) (q0 := k_48) rfl (Wd_ob kg_50 sg_50 (by decide)), fun U hU hW => ⟨rfl, by rw [hU], by rw [hU]; exact hP, va_K.moved hW.alike hK, hD.weaken (fun _ _ _ _ => trivial), hN.warm hW, by rw [hU]; exact ((hSK.kept hS.2.1).narrow hFc).moved hW.alike⟩⟩ rfl rfl hl.1 rfl (lv_room (Nat.le_of_ble_eq_true rfl)) dX9_climb_134 ⟨Nat.le_of_ble_eq_true rfl, Nat.le_of_ble_eq_true rfl⟩) hS (fun q _ h => hFc q h) hFc (fun u t H_51 locs ht hvm hw hB hz1 hk1 hS2 => ?_)
      obtain ⟨hP1, -, hD1⟩ := hB
      rw [ht] at hP1
      replace hD := hD1.weaken (fun _ _ _ h => hFc _ h)
      replace hP := hP1
      replace hS := hS2
      clear hP1 hD1 hS2 hFc hfc hz1 hk1 hvm ht
      refine lv_lload hx hb dX9_climb_137 (lv_at hl 1 rfl) ?_
      refine lv_lconst (v := 0) hx hb dX9_climb_139 (by decide) ?_
      refine W.lcmp hx hb dX9_climb_140 ?_
      refine de_cut (h := 214) (fun (x : St) => []) (fun x ls H locs => lv_has ls 8 [(4, .int p_21), (3, .int r_6), (2, .int v_4), (0, .ref (a h0))] ∧ va_P (dC, dI) vwCl (Wd cy a sh n x) H ∧ va_D A (Wd cy a sh n x) ∧ va_S A s.heap H locs) (fun x => fn_X9_climb_B214 F sh n h0 p_21 (fun z9 q4 => fn_X9_climb_L50 F sh n r_6 h0 v_4 f_23 z9 q4) x) (z8, r8) ?_ (fun B214 => ?_)
      · intro x ls H locs hI hf
        obtain ⟨z_52, ez⟩ : ∃ w, w = x := ⟨_, rfl⟩
        subst ez
        obtain ⟨hl2, hP2, hD2, hS2⟩ := hI
        replace hl : lv_has ls 8 [(4, .int p_21), (3, .int r_6), (2, .int v_4), (0, .ref (a h0))] := hl2
        replace hP := hP2
        replace hD := hD2
        replace hS := hS2
        clear hl2 hP2 hD2 hS2
        replace hf := fn_X9_climb_B214_s hf
        refine W.eq (g2 := F0 m 214 ls []) rfl ?_
        refine lv_aload_n hx hb dX9_climb_214 rfl (lv_at hl 3 rfl) ?_
        obtain ⟨k_53, ek_53, hf⟩ := lnk_some hf
        refine va_get (D := (dC, dI)) (ci := 9) (v := .ref (a k_53)) (C := RX9) (T := TX9) (N := 13) hx hb hts iwd_X9_climb_X9 hown hK hP h0 (Wd_ob kg_1 sg_1 (by decide)) rfl 2 (by decide) (hts _ md_X9_climb_15) (fun _ h9 => h9) (fl_q rfl ek_53) dX9_climb_215 ?_
        obtain ⟨g_55, hf⟩ := grd_some hf
        obtain ⟨kg_55, sg_55⟩ := okO_at g_55
        obtain ⟨z_54, _u, hfc, hf⟩ := cal_some hf
        have hFc := de_free hD hS hA
        refine va_callv (va_runV (As := []) (rest := []) ⟨hx, hb, hml, hown, hts⟩ (de_X0_finish l dC dI cy a sh n H.size F sk z_52 k_53 hfc) (cwV 0 hts gX9_climb_X0_finish rfl rfl rfl (by decide +kernel) ⟨Nat.le_of_ble_eq_true rfl, Nat.le_of_ble_eq_true rfl⟩) ⟨fun a U g mk q => by obtain ⟨q0, q1, qP, qK, qD, qN, qS⟩ := q; exact ⟨q0, q1, qP, va_K.moved (u := U) (U := U.calling g mk a) (Vm.Alike.refl U.vm) qK, qD, qN.same rfl, SKs.moved (u := U) (U := U.calling g mk a) (Vm.Alike.refl U.vm) qS⟩, va_recv hK hP (ci := 0) (q0 := k_53) rfl (Wd_ob kg_55 sg_55 (by decide)), fun U hU hW => ⟨rfl, by rw [hU], by rw [hU]; exact hP, va_K.moved hW.alike hK, hD.weaken (fun _ _ _ _ => trivial), hN.warm hW, by rw [hU]; exact ((hSK.kept hS.2.1).narrow hFc).moved hW.alike⟩⟩ rfl rfl hl.1 rfl (lv_room (Nat.le_of_ble_eq_true rfl)) dX9_climb_218 ⟨Nat.le_of_ble_eq_true rfl, Nat.le_of_ble_eq_true rfl⟩) hS (fun q _ h => hFc q h) hFc (fun u t H_56 locs ht hvm hw hB hz1 hk1 hS2 => ?_)
        obtain ⟨hP1, -, hD1⟩ := hB
        rw [ht] at hP1
        replace hD := hD1.weaken (fun _ _ _ h => hFc _ h)
        replace hP := hP1
        replace hS := hS2
        clear hP1 hD1 hS2 hFc hfc hz1 hk1 hvm ht
        refine lv_aload_n hx hb dX9_climb_221 rfl (lv_at hl 3 rfl) ?_
        obtain ⟨k_57, ek_57, hf⟩ := lnk_some hf
        refine va_get (D := (dC, dI)) (ci := 9) (v := .ref (a k_57)) (C := RX9) (T := TX9) (N := 13) hx hb hts iwd_X9_climb_X9 hown hK hP h0 (Wd_ob kg_1 sg_1 (by decide)) rfl 2 (by decide) (hts _ md_X9_climb_15) (fun _ h9 => h9) (fl_q rfl ek_57) dX9_climb_222 ?_
        refine lv_aload_n hx hb dX9_climb_225 rfl (lv_at hl 3 rfl) ?_
        obtain ⟨k_58, ek_58, hf⟩ := lnk_some hf
        refine va_get (D := (dC, dI)) (ci := 9) (v := .ref (a k_58)) (C := RX9) (T := TX9) (N := 13) hx hb hts iwd_X9_climb_X9 hown hK hP h0 (Wd_ob kg_1 sg_1 (by decide)) rfl 9 (by decide) (hts _ md_X9_climb_7) (fun _ h9 => h9) (fl_q rfl ek_58) dX9_climb_226 ?_
        refine lv_iconst (v := 0) hx hb dX9_climb_229 (by decide) ?_
        obtain ⟨g_60, hf⟩ := grd_some hf
        obtain ⟨kg_60, sg_60⟩ := okO_at g_60
        obtain ⟨z_59, _u, hfc, hf⟩ := cal_some hf
        have hFc := de_free hD hS hA
        refine va_callv (va_runV (As := [.ref (a k_58), .int 0]) (rest := []) ⟨hx, hb, hml, hown, hts⟩ (de_X0_copyTo l dC dI cy a sh n H_56.size F z_54 k_57 k_58 0 hfc) (cwV 2 hts gX9_climb_X0_copyTo rfl rfl rfl (by decide +kernel) ⟨Nat.le_of_ble_eq_true rfl, Nat.le_of_ble_eq_true rfl⟩) ⟨fun a U g mk q => by obtain ⟨q0, q1, qP, qK, qD, qN⟩ := q; exact ⟨q0, q1, qP, va_K.moved (u := U) (U := U.calling g mk a) (Vm.Alike.refl U.vm) qK, qD, qN.same rfl⟩, va_recv hK hP (ci := 0) (q0 := k_57) rfl (Wd_ob kg_60 sg_60 (by decide)), fun U hU hW => ⟨rfl, by rw [hU], by rw [hU]; exact hP, va_K.moved hW.alike hK, hD.weaken (fun _ _ _ _ => trivial), hN.warm hW⟩⟩ rfl rfl hl.1 rfl (lv_room (Nat.le_of_ble_eq_true rfl)) dX9_climb_230 ⟨Nat.le_of_ble_eq_true rfl, Nat.le_of_ble_eq_true rfl⟩) hS (fun q _ h => hFc q h) hFc (fun u t H_61 locs ht hvm hw hB hz1 hk1 hS2 => ?_)
        obtain ⟨hP1, -, hD1⟩ := hB
        rw [ht] at hP1
        replace hD := hD1.weaken (fun _ _ _ h => hFc _ h)
        replace hP := hP1
        replace hS := hS2
        clear hP1 hD1 hS2 hFc hfc hz1 hk1 hvm ht
        refine lv_iinc (v := (p_21 + (-1))) (lv' := [(4, .int (p_21 + (-1))), (3, .int r_6), (2, .int v_4), (0, .ref (a h0))]) hx hb dX9_climb_233 hl (k := 0) rfl rfl (by decide) rfl (fun ls hl2 => ?_)
        replace hl := hl2
        clear hl2
        refine lv_goto (tgt := 50) hx hb dX9_climb_236 (by decide) ?_
        exact ih50 (z_59, (p_21 + (-1))) ls H_61 locs ⟨lv_sub hl [0, 1, 2, 3] rfl, hP, hD, hS⟩ hf
      refine lv_if_ne (tgt := 163) hx hb dX9_climb_141 (by decide) (fun c_62 => ?_) (fun c_62 => ?_)
      · skip
        rw [lg_cmp_eq] at c_62
        rw [if_neg c_62] at hf
        refine lv_iload hx hb dX9_climb_163 (lv_at hl 0 rfl) ?_
        refine de_cut (h := 202) (fun (x : St) => []) (fun x ls H locs => lv_has ls 8 [(4, .int p_21), (3, .int r_6), (2, .int v_4), (0, .ref (a h0))] ∧ va_P (dC, dI) vwCl (Wd cy a sh n x) H ∧ va_D A (Wd cy a sh n x) ∧ va_S A s.heap H locs) (fun x => fn_X9_climb_B202 F sh n h0 p_21 (fun z9 q4 => fn_X9_climb_L50 F sh n r_6 h0 v_4 f_23 z9 q4) x) (z8, r8) ?_ (fun B202 => ?_)
        · intro x ls H locs hI hf
          obtain ⟨z_63, ez⟩ : ∃ w, w = x := ⟨_, rfl⟩
          subst ez
          obtain ⟨hl2, hP2, hD2, hS2⟩ := hI
          replace hl : lv_has ls 8 [(4, .int p_21), (3, .int r_6), (2, .int v_4), (0, .ref (a h0))] := hl2
          replace hP := hP2
          replace hD := hD2
          replace hS := hS2
          clear hl2 hP2 hD2 hS2
          replace hf := fn_X9_climb_B202_s hf
          refine W.eq (g2 := F0 m 202 ls []) rfl ?_
          refine lv_aload_n hx hb dX9_climb_202 rfl (lv_at hl 3 rfl) ?_
          obtain ⟨k_64, ek_64, hf⟩ := lnk_some hf
          refine va_get (D := (dC, dI)) (ci := 9) (v := .ref (a k_64)) (C := RX9) (T := TX9) (N := 13) hx hb hts iwd_X9_climb_X9 hown hK hP h0 (Wd_ob kg_1 sg_1 (by decide)) rfl 2 (by decide) (hts _ md_X9_climb_15) (fun _ h9 => h9) (fl_q rfl ek_64) dX9_climb_203 ?_
          refine lv_aload_n hx hb dX9_climb_206 rfl (lv_at hl 3 rfl) ?_
          obtain ⟨k_65, ek_65, hf⟩ := lnk_some hf
          refine va_get (D := (dC, dI)) (ci := 9) (v := .ref (a k_65)) (C := RX9) (T := TX9) (N := 13) hx hb hts iwd_X9_climb_X9 hown hK hP h0 (Wd_ob kg_1 sg_1 (by decide)) rfl 9 (by decide) (hts _ md_X9_climb_7) (fun _ h9 => h9) (fl_q rfl ek_65) dX9_climb_207 ?_
          refine lv_iconst (v := 0) hx hb dX9_climb_210 (by decide) ?_
          obtain ⟨g_67, hf⟩ := grd_some hf
          obtain ⟨kg_67, sg_67⟩ := okO_at g_67
          obtain ⟨z_66, _u, hfc, hf⟩ := cal_some hf
          have hFc := de_free hD hS hA
          refine va_callv (va_runV (As := [.ref (a k_65), .int 0]) (rest := []) ⟨hx, hb, hml, hown, hts⟩ (de_X0_putLongs l dC dI cy a sh n H.size F sk z_63 k_64 k_65 0 hfc) (cwV 2 hts gX9_climb_X0_putLongs rfl rfl rfl (by decide +kernel) ⟨Nat.le_of_ble_eq_true rfl, Nat.le_of_ble_eq_true rfl⟩) ⟨fun a U g mk q => by obtain ⟨q0, q1, qP, qK, qD, qN, qS⟩ := q; exact ⟨q0, q1, qP, va_K.moved (u := U) (U := U.calling g mk a) (Vm.Alike.refl U.vm) qK, qD, qN.same rfl, SKs.moved (u := U) (U := U.calling g mk a) (Vm.Alike.refl U.vm) qS⟩, va_recv hK hP (ci := 0) (q0 := k_64) rfl (Wd_ob kg_67 sg_67 (by decide)), fun U hU hW => ⟨rfl, by rw [hU], by rw [hU]; exact hP, va_K.moved hW.alike hK, hD.weaken (fun _ _ _ _ => trivial), hN.warm hW, by rw [hU]; exact ((hSK.kept hS.2.1).narrow hFc).moved hW.alike⟩⟩ rfl rfl hl.1 rfl (lv_room (Nat.le_of_ble_eq_true rfl)) dX9_climb_211 ⟨Nat.le_of_ble_eq_true rfl, Nat.le_of_ble_eq_true rfl⟩) hS (fun q _ h => hFc q h) hFc (fun u t H_68 locs ht hvm hw hB hz1 hk1 hS2 => ?_)
          obtain ⟨hP1, -, hD1⟩ := hB
          rw [ht] at hP1
          replace hD := hD1.weaken (fun _ _ _ h => hFc _ h)
          replace hP := hP1
          replace hS := hS2
          clear hP1 hD1 hS2 hFc hfc hz1 hk1 hvm ht
          exact B214 (z_66) ls H_68 locs ⟨lv_sub hl [0, 1, 2, 3] rfl, hP, hD, hS⟩ hf
        refine lv_if_eq (tgt := 198) hx hb dX9_climb_165 (by decide) (fun c_69 => ?_) (fun c_69 => ?_)
        · skip
          rw [if_pos c_69] at hf
          refine lv_aload_n hx hb dX9_climb_198 rfl (lv_at hl 5 rfl) ?_
          obtain ⟨z_70, _u, hfc, hf⟩ := cal_some hf
          have hFc := de_free hD hS hA
          refine va_callv (va_runV (As := []) (rest := []) ⟨hx, hb, hml, hown, hts⟩ (de_X9_putNothing l dC dI cy a sh n H_51.size F sk z_49 h0 hfc) (cwV 0 hts gX9_climb_X9_putNothing rfl rfl rfl (by decide +kernel) ⟨Nat.le_of_ble_eq_true rfl, Nat.le_of_ble_eq_true rfl⟩) ⟨fun a U g mk q => by obtain ⟨q0, q1, qP, qK, qD, qN, qS⟩ := q; exact ⟨q0, q1, qP, va_K.moved (u := U) (U := U.calling g mk a) (Vm.Alike.refl U.vm) qK, qD, qN.same rfl, SKs.moved (u := U) (U := U.calling g mk a) (Vm.Alike.refl U.vm) qS⟩, va_recv hK hP (ci := 9) (q0 := h0) rfl (Wd_ob kg_1 sg_1 (by decide)), fun U hU hW => ⟨rfl, by rw [hU], by rw [hU]; exact hP, va_K.moved hW.alike hK, hD.weaken (fun _ _ _ _ => trivial), hN.warm hW, by rw [hU]; exact ((hSK.kept hS.2.1).narrow hFc).moved hW.alike⟩⟩ rfl rfl hl.1 rfl (lv_room (Nat.le_of_ble_eq_true rfl)) dX9_climb_199 ⟨Nat.le_of_ble_eq_true rfl, Nat.le_of_ble_eq_true rfl⟩) hS (fun q _ h => hFc q h) hFc (fun u t H_71 locs ht hvm hw hB hz1 hk1 hS2 => ?_)
          obtain ⟨hP1, -, hD1⟩ := hB
          rw [ht] at hP1
          replace hD := hD1.weaken (fun _ _ _ h => hFc _ h)
          replace hP := hP1
          replace hS := hS2
          clear hP1 hD1 hS2 hFc hfc hz1 hk1 hvm ht
          exact B202 (z_70) ls H_71 locs ⟨lv_sub hl [2, 3, 4, 5] rfl, hP, hD, hS⟩ hf
        · skip
          rw [if_neg c_69] at hf
          refine lv_aload_n hx hb dX9_climb_168 rfl (lv_at hl 5 rfl) ?_
          refine lv_dup hx hb dX9_climb_169 rfl ?_
          refine va_get (D := (dC, dI)) (ci := 9) (v := .int (z_49.1 h0 12)) (C := RX9) (T := TX9) (N := 13) hx hb hts iwd_X9_climb_X9 hown hK hP h0 (Wd_ob kg_1 sg_1 (by decide)) rfl 12 (by decide) (hts _ md_X9_climb_13) (fun _ h9 => h9) (fl_at (t := 0) rfl) dX9_climb_170 ?_
          refine lv_iconst (v := 1) hx hb dX9_climb_173 (by decide) ?_
          refine lv_isub hx hb dX9_climb_174 ?_
          refine va_put (D := (dC, dI)) (ci := 9) (v := .int ((z_49.1 h0 12) - 1)) (ty := .int) (C := RX9) (T := TX9) (N := 13) hx hb hts iwd_X9_climb_X9 tyX9 tyX9_ok nmX9 hown hK hP hD hS h0 (Wd_ob kg_1 sg_1 (by decide)) rfl 12 (by decide) (hts _ md_X9_climb_13) (fun _ h9 => h9) rfl (by decide +kernel) rfl rfl (by rw [fl_len]; decide) dX9_climb_175 (fun H_72 locs hP2 hD2 hS2 => ?_)
          rw [Wd_si sg_1 (by decide) rfl] at hP2 hD2
          obtain ⟨z_73, ez_73⟩ : ∃ w, w = si z_49 h0 12 ((z_49.1 h0 12) - 1) := ⟨_, rfl⟩
          rw [← ez_73] at hP2 hD2
          replace hf := lt_at ez_73 hf
          clear ez_73
          replace hP := hP2
          replace hD := hD2
          replace hS := hS2
          clear hP2 hD2 hS2
          refine lv_aload_n hx hb dX9_climb_178 rfl (lv_at hl 5 rfl) ?_
          obtain ⟨k_74, ek_74, hf⟩ := lnk_some hf
          refine va_get (D := (dC, dI)) (ci := 9) (v := .ref (a k_74)) (C := RX9) (T := TX9) (N := 13) hx hb hts iwd_X9_climb_X9 hown hK hP h0 (Wd_ob kg_1 sg_1 (by decide)) rfl 2 (by decide) (hts _ md_X9_climb_15) (fun _ h9 => h9) (fl_q rfl ek_74) dX9_climb_179 ?_
          refine lv_aload_n hx hb dX9_climb_182 rfl (lv_at hl 5 rfl) ?_
          obtain ⟨k_75, ek_75, hf⟩ := lnk_some hf
          refine va_get (D := (dC, dI)) (ci := 9) (v := .ref (a k_75)) (C := RX9) (T := TX9) (N := 13) hx hb hts iwd_X9_climb_X9 hown hK hP h0 (Wd_ob kg_1 sg_1 (by decide)) rfl 10 (by decide) (hts _ md_X9_climb_16) (fun _ h9 => h9) (fl_q rfl ek_75) dX9_climb_183 ?_
          refine lv_aload_n hx hb dX9_climb_186 rfl (lv_at hl 5 rfl) ?_
          refine va_get (D := (dC, dI)) (ci := 9) (v := .int (z_73.1 h0 12)) (C := RX9) (T := TX9) (N := 13) hx hb hts iwd_X9_climb_X9 hown hK hP h0 (Wd_ob kg_1 sg_1 (by decide)) rfl 12 (by decide) (hts _ md_X9_climb_13) (fun _ h9 => h9) (fl_at (t := 0) rfl) dX9_climb_187 ?_
          refine lv_iconst (v := 4) hx hb dX9_climb_190 (by decide) ?_
          refine lv_imul hx hb dX9_climb_191 ?_
          obtain ⟨g_77, hf⟩ := grd_some hf
          obtain ⟨kg_77, sg_77⟩ := okO_at g_77
          obtain ⟨z_76, _u, hfc, hf⟩ := cal_some hf
          have hFc := de_free hD hS hA
          refine va_callv (va_runV (As := [.ref (a k_75), .int ((z_73.1 h0 12) * 4)]) (rest := []) ⟨hx, hb, hml, hown, hts⟩ (de_X0_putLongs l dC dI cy a sh n H_72.size F sk z_73 k_74 k_75 ((z_73.1 h0 12) * 4) hfc) (cwV 2 hts gX9_climb_X0_putLongs rfl rfl rfl (by decide +kernel) ⟨Nat.le_of_ble_eq_true rfl, Nat.le_of_ble_eq_true rfl⟩) ⟨fun a U g mk q => by obtain ⟨q0, q1, qP, qK, qD, qN, qS⟩ := q; exact ⟨q0, q1, qP, va_K.moved (u := U) (U := U.calling g mk a) (Vm.Alike.refl U.vm) qK, qD, qN.same rfl, SKs.moved (u := U) (U := U.calling g mk a) (Vm.Alike.refl U.vm) qS⟩, va_recv hK hP (ci := 0) (q0 := k_74) rfl (Wd_ob kg_77 sg_77 (by decide)), fun U hU hW => ⟨rfl, by rw [hU], by rw [hU]; exact hP, va_K.moved hW.alike hK, hD.weaken (fun _ _ _ _ => trivial), hN.warm hW, by rw [hU]; exact ((hSK.kept hS.2.1).narrow hFc).moved hW.alike⟩⟩ rfl rfl hl.1 rfl (lv_room (Nat.le_of_ble_eq_true rfl)) dX9_climb_192 ⟨Nat.le_of_ble_eq_true rfl, Nat.le_of_ble_eq_true rfl⟩) hS (fun q _ h => hFc q h) hFc (fun u t H_78 locs ht hvm hw hB hz1 hk1 hS2 => ?_)
          obtain ⟨hP1, -, hD1⟩ := hB
          rw [ht] at hP1
          replace hD := hD1.weaken (fun _ _ _ h => hFc _ h)
          replace hP := hP1
          replace hS := hS2
          clear hP1 hD1 hS2 hFc hfc hz1 hk1 hvm ht
          refine lv_goto (tgt := 202) hx hb dX9_climb_195 (by decide) ?_
          exact B202 (z_76) ls H_78 locs ⟨lv_sub hl [2, 3, 4, 5] rfl, hP, hD, hS⟩ hf
      · skip
        rw [lg_cmp_eq] at c_62
        rw [if_pos c_62] at hf
        refine lv_aload_n hx hb dX9_climb_144 rfl (lv_at hl 5 rfl) ?_
        obtain ⟨k_79, ek_79, hf⟩ := lnk_some hf
        refine va_get (D := (dC, dI)) (ci := 9) (v := .ref (a k_79)) (C := RX9) (T := TX9) (N := 13) hx hb hts iwd_X9_climb_X9 hown hK hP h0 (Wd_ob kg_1 sg_1 (by decide)) rfl 2 (by decide) (hts _ md_X9_climb_15) (fun _ h9 => h9) (fl_q rfl ek_79) dX9_climb_145 ?_
        refine lv_aload_n hx hb dX9_climb_148 rfl (lv_at hl 5 rfl) ?_
        obtain ⟨k_80, ek_80, hf⟩ := lnk_some hf
        refine va_get (D := (dC, dI)) (ci := 9) (v := .ref (a k_80)) (C := RX9) (T := TX9) (N := 13) hx hb hts iwd_X9_climb_X9 hown hK hP h0 (Wd_ob kg_1 sg_1 (by decide)) rfl 9 (by decide) (hts _ md_X9_climb_7) (fun _ h9 => h9) (fl_q rfl ek_80) dX9_climb_149 ?_
        refine lv_iconst (v := 0) hx hb dX9_climb_152 (by decide) ?_
        obtain ⟨g_82, hf⟩ := grd_some hf
        obtain ⟨kg_82, sg_82⟩ := okO_at g_82
        obtain ⟨z_81, _u, hfc, hf⟩ := cal_some hf
        have hFc := de_free hD hS hA
        refine va_callv (va_runV (As := [.ref (a k_80), .int 0]) (rest := []) ⟨hx, hb, hml, hown, hts⟩ (de_X0_putLongs l dC dI cy a sh n H_51.size F sk z_49 k_79 k_80 0 hfc) (cwV 2 hts gX9_climb_X0_putLongs rfl rfl rfl (by decide +kernel) ⟨Nat.le_of_ble_eq_true rfl, Nat.le_of_ble_eq_true rfl⟩) ⟨fun a U g mk q => by obtain ⟨q0, q1, qP, qK, qD, qN, qS⟩ := q; exact ⟨q0, q1, qP, va_K.moved (u := U) (U := U.calling g mk a) (Vm.Alike.refl U.vm) qK, qD, qN.same rfl, SKs.moved (u := U) (U := U.calling g mk a) (Vm.Alike.refl U.vm) qS⟩, va_recv hK hP (ci := 0) (q0 := k_79) rfl (Wd_ob kg_82 sg_82 (by decide)), fun U hU hW => ⟨rfl, by rw [hU], by rw [hU]; exact hP, va_K.moved hW.alike hK, hD.weaken (fun _ _ _ _ => trivial), hN.warm hW, by rw [hU]; exact ((hSK.kept hS.2.1).narrow hFc).moved hW.alike⟩⟩ rfl rfl hl.1 rfl (lv_room (Nat.le_of_ble_eq_true rfl)) dX9_climb_153 ⟨Nat.le_of_ble_eq_true rfl, Nat.le_of_ble_eq_true rfl⟩) hS (fun q _ h => hFc q h) hFc (fun u t H_83 locs ht hvm hw hB hz1 hk1 hS2 => ?_)
        obtain ⟨hP1, -, hD1⟩ := hB
        rw [ht] at hP1
        replace hD := hD1.weaken (fun _ _ _ h => hFc _ h)
        replace hP := hP1
        replace hS := hS2
        clear hP1 hD1 hS2 hFc hfc hz1 hk1 hvm ht
        refine lv_aload_n hx hb dX9_climb_156 rfl (lv_at hl 5 rfl) ?_
        obtain ⟨z_84, _u, hfc, hf⟩ := cal_some hf
        have hFc := de_free hD hS hA
        refine va_callv (va_runV (As := []) (rest := []) ⟨hx, hb, hml, hown, hts⟩ (de_X9_putNothing l dC dI cy a sh n H_83.size F sk z_81 h0 hfc) (cwV 0 hts gX9_climb_X9_putNothing rfl rfl rfl (by decide +kernel) ⟨Nat.le_of_ble_eq_true rfl, Nat.le_of_ble_eq_true rfl⟩) ⟨fun a U g mk q => by obtain ⟨q0, q1, qP, qK, qD, qN, qS⟩ := q; exact ⟨q0, q1, qP, va_K.moved (u := U) (U := U.calling g mk a) (Vm.Alike.refl U.vm) qK, qD, qN.same rfl, SKs.moved (u := U) (U := U.calling g mk a) (Vm.Alike.refl U.vm) qS⟩, va_recv hK hP (ci := 9) (q0 := h0) rfl (Wd_ob kg_1 sg_1 (by decide)), fun U hU hW => ⟨rfl, by rw [hU], by rw [hU]; exact hP, va_K.moved hW.alike hK, hD.weaken (fun _ _ _ _ => trivial), hN.warm hW, by rw [hU]; exact ((hSK.kept hS.2.1).narrow hFc).moved hW.alike⟩⟩ rfl rfl hl.1 rfl (lv_room (Nat.le_of_ble_eq_true rfl)) dX9_climb_157 ⟨Nat.le_of_ble_eq_true rfl, Nat.le_of_ble_eq_true rfl⟩) hS (fun q _ h => hFc q h) hFc (fun u t H_85 locs ht hvm hw hB hz1 hk1 hS2 => ?_)
        obtain ⟨hP1, -, hD1⟩ := hB
        rw [ht] at hP1
        replace hD := hD1.weaken (fun _ _ _ h => hFc _ h)
        replace hP := hP1
        replace hS := hS2
        clear hP1 hD1 hS2 hFc hfc hz1 hk1 hvm ht
        refine lv_goto (tgt := 214) hx hb dX9_climb_160 (by decide) ?_
        exact B214 (z_84) ls H_85 locs ⟨lv_sub hl [2, 3, 4, 5] rfl, hP, hD, hS⟩ hf
    refine de_cut (h := 119) (fun (x : St) => []) (fun x ls H locs => lv_has ls 8 [(5, .long v_41), (4, .int p_21), (3, .int r_6), (2, .int v_4), (0, .ref (a h0))] ∧ va_P (dC, dI) vwCl (Wd cy a sh n x) H ∧ va_D A (Wd cy a sh n x) ∧ va_S A s.heap H locs) (fun x => fn_X9_climb_B119 F sh n h0 v_41 p_21 (fun z9 q4 => fn_X9_climb_L50 F sh n r_6 h0 v_4 f_23 z9 q4) x) (z8, r8) ?_ (fun B119 => ?_)
    · intro x ls H locs hI hf
      obtain ⟨z_86, ez⟩ : ∃ w, w = x := ⟨_, rfl⟩
      subst ez
      obtain ⟨hl2, hP2, hD2, hS2⟩ := hI
      replace hl : lv_has ls 8 [(5, .long v_41), (4, .int p_21), (3, .int r_6), (2, .int v_4), (0, .ref (a h0))] := hl2
      replace hP := hP2
      replace hD := hD2
      replace hS := hS2
      clear hl2 hP2 hD2 hS2
      replace hf := fn_X9_climb_B119_s hf
      refine W.eq (g2 := F0 m 119 ls []) rfl ?_
      refine lv_iconst (v := 0) hx hb dX9_climb_119 (by decide) ?_
      exact B120 (z_86, 0) ls H locs ⟨lv_sub hl [0, 1, 2, 3, 4] rfl, hP, hD, hS⟩ hf
    refine lv_if_eq (tgt := 119) hx hb dX9_climb_89 (by decide) (fun c_87 => ?_) (fun c_87 => ?_)
    · skip
      rw [lg_cmp_eq] at c_87
      rw [if_pos c_87] at hf
      exact B119 (z_22) ls H locs ⟨lv_sub hl [0, 1, 2, 3, 4] rfl, hP, hD, hS⟩ hf
    · skip
      rw [lg_cmp_eq] at c_87
      rw [if_neg c_87] at hf
      refine lv_aload_n hx hb dX9_climb_92 rfl (lv_at hl 4 rfl) ?_
      refine va_get (D := (dC, dI)) (ci := 9) (v := .int (z_22.1 h0 12)) (C := RX9) (T := TX9) (N := 13) hx hb hts iwd_X9_climb_X9 hown hK hP h0 (Wd_ob kg_1 sg_1 (by decide)) rfl 12 (by decide) (hts _ md_X9_climb_13) (fun _ h9 => h9) (fl_at (t := 0) rfl) dX9_climb_93 ?_
      refine lv_if_le (tgt := 119) hx hb dX9_climb_96 (by decide) (fun c_88 => ?_) (fun c_88 => ?_)
      · skip
        rw [if_pos c_88] at hf
        exact B119 (z_22) ls H locs ⟨lv_sub hl [0, 1, 2, 3, 4] rfl, hP, hD, hS⟩ hf
      · skip
        rw [if_neg c_88] at hf
        refine lv_aload_n hx hb dX9_climb_99 rfl (lv_at hl 4 rfl) ?_
        obtain ⟨k_89, ek_89, hf⟩ := lnk_some hf
        refine va_get (D := (dC, dI)) (ci := 9) (v := .ref (a k_89)) (C := RX9) (T := TX9) (N := 13) hx hb hts iwd_X9_climb_X9 hown hK hP h0 (Wd_ob kg_1 sg_1 (by decide)) rfl 11 (by decide) (hts _ md_X9_climb_14) (fun _ h9 => h9) (fl_q rfl ek_89) dX9_climb_100 ?_
        refine lv_aload_n hx hb dX9_climb_103 rfl (lv_at hl 4 rfl) ?_
        refine va_get (D := (dC, dI)) (ci := 9) (v := .int (z_22.1 h0 12)) (C := RX9) (T := TX9) (N := 13) hx hb hts iwd_X9_climb_X9 hown hK hP h0 (Wd_ob kg_1 sg_1 (by decide)) rfl 12 (by decide) (hts _ md_X9_climb_13) (fun _ h9 => h9) (fl_at (t := 0) rfl) dX9_climb_104 ?_
        refine lv_iconst (v := 1) hx hb dX9_climb_107 (by decide) ?_
        refine lv_isub hx hb dX9_climb_108 ?_
        obtain ⟨g_90, hf⟩ := grd_some hf
        obtain ⟨kg_90, sg_90, ig_90⟩ := okA_at g_90
        refine va_iald hx hb hK hP k_89 1 (Wd_ai kg_90 sg_90) rfl ig_90 dX9_climb_109 ?_
        refine lv_iload hx hb dX9_climb_110 (lv_at hl 1 rfl) ?_
        refine lv_icmp_ne (tgt := 119) hx hb dX9_climb_112 (by decide) (fun c_91 => ?_) (fun c_91 => ?_)
        · skip
          rw [if_neg c_91] at hf
          exact B119 (z_22) ls H locs ⟨lv_sub hl [0, 1, 2, 3, 4] rfl, hP, hD, hS⟩ hf
        · skip
          rw [if_pos c_91] at hf
          refine lv_iconst (v := 1) hx hb dX9_climb_115 (by decide) ?_
          refine lv_goto (tgt := 120) hx hb dX9_climb_116 (by decide) ?_
          exact B120 (z_22, 1) ls H locs ⟨lv_sub hl [0, 1, 2, 3, 4] rfl, hP, hD, hS⟩ hf

theorem md_X14_level_1 : (.fieldLink RX14 79 "ResourceLedgerModel$Roots" "nodes" "I" : Cond) ∈ wsX14_level := List.mem_of_getElem? (i := 1) rfl
theorem iwd_X14_level_X14 : ∀ w ∈ wsX140, w ∈ wsX14_level := fun _ h => List.mem_cons_of_mem _ (List.mem_append_left _ (List.mem_append_right _ h))
theorem md_X14_level_2 : (.fieldLink RX14 29 "ResourceLedgerModel$Roots" "begins" "[I" : Cond) ∈ wsX14_level := List.mem_of_getElem? (i := 2) rfl
theorem md_X14_level_3 : (.fieldLink RX14 32 "ResourceLedgerModel$Roots" "sizes" "[I" : Cond) ∈ wsX14_level := List.mem_of_getElem? (i := 3) rfl
theorem md_X14_level_6 : (.fieldLink RX14 26 "ResourceLedgerModel$Roots" "hashes" "[J" : Cond) ∈ wsX14_level := List.mem_of_getElem? (i := 6) rfl
theorem md_X14_level_5 : (.fieldLink RX14 35 "ResourceLedgerModel$Roots" "digester" "LResourceLedgerModel$Digester;" : Cond) ∈ wsX14_level := List.mem_of_getElem? (i := 5) rfl
theorem md_X14_level_4 : (.fieldLink RX14 7 "ResourceLedgerModel$Roots" "keys" "[J" : Cond) ∈ wsX14_level := List.mem_of_getElem? (i := 4) rfl
set_option maxHeartbeats 4000000 in
set_option maxRecDepth 100000 in
theorem de_X14_level (l : Launch) (dC : Nat → ClassId) (dI : Nat → Nat → Nat) (cy : Nat → ClassId) (a : Nat → Nat) (sh : Nat → Nat × Nat) (n sz : Nat) (F : Nat) (sk : Nat → Nat) (z : St) (h0 : Nat) (x0 : Int32) {z8 : St} {r8 : Unit} (hf : fn_X14_level F sh n z h0 x0 = some (z8, r8)) : Met l yX14_level wsX14_level ({ frames := 4, cells := 0, slots := 0, locals := 108 }) (va_Pc [.ref (a h0), .int x0] (fun U => U.heap.size = sz ∧ va_P (dC, dI) vwCl (Wd cy a sh n z) U.heap ∧ va_K (dC, dI) vwCl (TYS cy) U ∧ va_D (fun _ => True) (Wd cy a sh n z) ∧ NK U ∧ SKs sk (a CBK) (va_A (Wd cy a sh n z) sz) U U.heap)) (va_Qv (fun u : Unit => True) (fun u t => va_P (dC, dI) vwCl (Wd cy a sh n z8) t.heap ∧ va_K (dC, dI) vwCl (TYS cy) t ∧ va_D (va_A (Wd cy a sh n z) sz) (Wd cy a sh n z8)) (va_A (Wd cy a sh n z) sz)) 0 0 (va_A (Wd cy a sh n z) sz) := by
  refine Met.ofW (cc := cX14_level) (maxL := 8) (ret := none) (by decide) rfl ?_
  intro p e s m args below meth c s₁ B hml hv
  obtain ⟨rfl, hsz, hP, hK, hD0, hN, hSK⟩ := hv
  have hx := B.exec
  have hb := B.bytes
  have hr := B.returns
  have hts := atoms_spec (ws := wsX14_level) B.pre
  have hown : s.vm.findClass RX14 = some m.cls := findClass_of_methodNamed B.named
  have hlocks := B.notSynchronized
  subst hsz
  have hD := hD0.self (sz := s.heap.size)
  clear hD0
  generalize hAe : va_A (Wd cy a sh n z) s.heap.size = A at hD hSK ⊢
  have hA : ∀ q : Nat, s.heap.size ≤ q → A q := fun q h => by rw [← hAe]; exact Or.inr h
  clear hAe
  have hS : va_S A s.heap s.heap [] := va_S.rf
  have hl := lv_entry ([.ref (a h0), .int x0]) (n := 8) (Nat.le_of_ble_eq_true rfl)
  rw [lg_entry_eq]
  generalize (lg_sl ([.ref (a h0), .int x0]) ++ List.replicate (8 - (lg_sl ([.ref (a h0), .int x0])).length) Slot.unset).toArray = ls at hl ⊢
  replace hl : lv_has ls 8 [(0, .ref (a h0)), (1, .int x0)] := hl
  unfold fn_X14_level at hf
  refine de_start hS hP (fun H locs hS hP => ?_)
  refine lv_iconst (v := 0) hx hb dX14_level_0 (by decide) ?_
  refine lv_istore_n (lv' := [(2, .int 0), (0, .ref (a h0)), (1, .int x0)]) hx hb dX14_level_1 rfl hl (by decide) rfl (fun ls hl2 => ?_)
  replace hl := hl2
  clear hl2
  refine lv_iconst (v := 0) hx hb dX14_level_2 (by decide) ?_
  refine lv_istore_n (lv' := [(3, .int 0), (2, .int 0), (0, .ref (a h0)), (1, .int x0)]) hx hb dX14_level_3 rfl hl (by decide) rfl (fun ls hl2 => ?_)
  replace hl := hl2
  clear hl2
  have hl0 : lv_has ls 8 [(3, .int 0), (2, .int 0), (0, .ref (a h0)), (1, .int x0)] := lv_sub hl [0, 1, 2, 3] rfl
  refine de_loop (h := 4) (fun (x : St × Int32 × Int32) ls H locs => lv_has ls 8 [(3, .int x.2.2), (2, .int x.2.1), (0, .ref (a h0)), (1, .int x0)] ∧ va_P (dC, dI) vwCl (Wd cy a sh n x.1) H ∧ va_D A (Wd cy a sh n x.1) ∧ va_S A s.heap H locs) (fun f x => fn_X14_level_L4 F sh n h0 x0 f x.1 x.2.1 x.2.2) (z8, r8) ?_ (fun _ => rfl) F (z, 0, 0) ls H locs ⟨hl0, hP, hD, hS⟩ hf
  intro f_4 x ls H locs ih4 hI hf
  obtain ⟨z_3, p_1, p_2⟩ := x
  obtain ⟨hl2, hP2, hD2, hS2⟩ := hI
  replace hl : lv_has ls 8 [(3, .int p_2), (2, .int p_1), (0, .ref (a h0)), (1, .int x0)] := hl2
  replace hP := hP2
  replace hD := hD2
  replace hS := hS2
  clear hl2 hP2 hD2 hS2 hl0
  replace hf := fn_X14_level_L4_s hf
  refine lv_iload_n hx hb dX14_level_4 rfl (lv_at hl 0 rfl) ?_
  refine lv_aload_n hx hb dX14_level_5 rfl (lv_at hl 2 rfl) ?_
  obtain ⟨g_5, hf⟩ := grd_some hf
  obtain ⟨kg_5, sg_5⟩ := okO_at g_5
  refine va_get (D := (dC, dI)) (ci := 14) (v := .int (z_3.1 h0 9)) (C := RX14) (T := TX14) (N := 11) hx hb hts iwd_X14_level_X14 hown hK hP h0 (Wd_ob kg_5 sg_5 (by decide)) rfl 9 (by decide) (hts _ md_X14_level_1) (fun _ h9 => h9) (fl_at (t := 0) rfl) dX14_level_6 ?_
  refine lv_icmp_ge (tgt := 292) hx hb dX14_level_9 (by decide) (fun c_6 => ?_) (fun c_6 => ?_)
  · skip
    rw [if_pos c_6] at hf
    refine lv_aload_n hx hb dX14_level_292 rfl (lv_at hl 2 rfl) ?_
    refine lv_iload_n hx hb dX14_level_293 rfl (lv_at hl 1 rfl) ?_
    refine va_put (D := (dC, dI)) (ci := 14) (v := .int p_1) (ty := .int) (C := RX14) (T := TX14) (N := 11) hx hb hts iwd_X14_level_X14 tyX14 tyX14_ok nmX14 hown hK hP hD hS h0 (Wd_ob kg_5 sg_5 (by decide)) rfl 9 (by decide) (hts _ md_X14_level_1) (fun _ h9 => h9) rfl (by decide +kernel) rfl rfl (by rw [fl_len]; decide) dX14_level_294 (fun H_7 locs hP2 hD2 hS2 => ?_)
    rw [Wd_si sg_5 (by decide) rfl] at hP2 hD2
    obtain ⟨z_8, ez_8⟩ : ∃ w, w = si z_3 h0 9 p_1 := ⟨_, rfl⟩
    rw [← ez_8] at hP2 hD2
    replace hf := lt_at ez_8 hf
    clear ez_8
    replace hP := hP2
    replace hD := hD2
    replace hS := hS2
    clear hP2 hD2 hS2
    obtain ⟨h8, h9⟩ := ret_some hf
    rw [h8]
    exact W.vret hx hb hr (fun t ht hW => ⟨⟨(), rfl, trivial, by rw [ht]; exact hP, va_K.moved hW.alike hK, hD⟩, hS.F ht⟩) hS.2.2 dX14_level_297
  · skip
    rw [if_neg c_6] at hf
    refine lv_iload_n hx hb dX14_level_12 rfl (lv_at hl 0 rfl) ?_
    refine lv_iconst (v := 1) hx hb dX14_level_13 (by decide) ?_
    refine lv_iadd hx hb dX14_level_14 ?_
    refine lv_aload_n hx hb dX14_level_15 rfl (lv_at hl 2 rfl) ?_
    refine va_get (D := (dC, dI)) (ci := 14) (v := .int (z_3.1 h0 9)) (C := RX14) (T := TX14) (N := 11) hx hb hts iwd_X14_level_X14 hown hK hP h0 (Wd_ob kg_5 sg_5 (by decide)) rfl 9 (by decide) (hts _ md_X14_level_1) (fun _ h9 => h9) (fl_at (t := 0) rfl) dX14_level_16 ?_
    refine de_cut (h := 49) (fun (x : St × Int32) => [.int x.2]) (fun x ls H locs => lv_has ls 8 [(3, .int p_2), (2, .int p_1), (0, .ref (a h0)), (1, .int x0)] ∧ va_P (dC, dI) vwCl (Wd cy a sh n x.1) H ∧ va_D A (Wd cy a sh n x.1) ∧ va_S A s.heap H locs) (fun x => fn_X14_level_B49 F sh n h0 p_2 p_1 x0 (fun z9 q2 q3 => fn_X14_level_L4 F sh n h0 x0 f_4 z9 q2 q3) x.1 x.2) (z8, r8) ?_ (fun B49 => ?_)
    · intro x ls H locs hI hf
      obtain ⟨z_10, p_9⟩ := x
      obtain ⟨hl2, hP2, hD2, hS2⟩ := hI
      replace hl : lv_has ls 8 [(3, .int p_2), (2, .int p_1), (0, .ref (a h0)), (1, .int x0)] := hl2
      replace hP := hP2
      replace hD := hD2
      replace hS := hS2
      clear hl2 hP2 hD2 hS2
      replace hf := fn_X14_level_B49_s hf
      refine W.eq (g2 := F0 m 49 ls [.int p_9]) rfl ?_
      refine lv_istore (lv' := [(4, .int p_9), (3, .int p_2), (2, .int p_1), (0, .ref (a h0)), (1, .int x0)]) hx hb dX14_level_49 hl (by decide) rfl (fun ls hl2 => ?_)
      replace hl := hl2
      clear hl2
      refine lv_aload_n hx hb dX14_level_51 rfl (lv_at hl 3 rfl) ?_
      obtain ⟨k_11, ek_11, hf⟩ := lnk_some hf
      refine va_get (D := (dC, dI)) (ci := 14) (v := .ref (a k_11)) (C := RX14) (T := TX14) (N := 11) hx hb hts iwd_X14_level_X14 hown hK hP h0 (Wd_ob kg_5 sg_5 (by decide)) rfl 7 (by decide) (hts _ md_X14_level_2) (fun _ h9 => h9) (fl_q rfl ek_11) dX14_level_52 ?_
      refine lv_iload_n hx hb dX14_level_55 rfl (lv_at hl 1 rfl) ?_
      obtain ⟨g_12, hf⟩ := grd_some hf
      obtain ⟨kg_12, sg_12, ig_12⟩ := okA_at g_12
      refine va_iald hx hb hK hP k_11 1 (Wd_ai kg_12 sg_12) rfl ig_12 dX14_level_56 ?_
      refine lv_topi (fun v_13 ev_13 => ?_)
      replace hf := lt_at ev_13 hf
      clear ev_13
      refine lv_istore (lv' := [(5, .int v_13), (4, .int p_9), (3, .int p_2), (2, .int p_1), (0, .ref (a h0)), (1, .int x0)]) hx hb dX14_level_57 hl (by decide) rfl (fun ls hl2 => ?_)
      replace hl := hl2
      clear hl2
      refine lv_iload hx hb dX14_level_59 (lv_at hl 1 rfl) ?_
      refine de_cut (h := 88) (fun (x : St × Int32) => [.int x.2]) (fun x ls H locs => lv_has ls 8 [(5, .int v_13), (4, .int p_9), (3, .int p_2), (2, .int p_1), (0, .ref (a h0)), (1, .int x0)] ∧ va_P (dC, dI) vwCl (Wd cy a sh n x.1) H ∧ va_D A (Wd cy a sh n x.1) ∧ va_S A s.heap H locs) (fun x => fn_X14_level_B88 F sh n h0 p_1 v_13 p_9 p_2 x0 (fun z9 q2 q3 => fn_X14_level_L4 F sh n h0 x0 f_4 z9 q2 q3) x.1 x.2) (z8, r8) ?_ (fun B88 => ?_)
      · intro x ls H locs hI hf
        obtain ⟨z_15, p_14⟩ := x
        obtain ⟨hl2, hP2, hD2, hS2⟩ := hI
        replace hl : lv_has ls 8 [(5, .int v_13), (4, .int p_9), (3, .int p_2), (2, .int p_1), (0, .ref (a h0)), (1, .int x0)] := hl2
        replace hP := hP2
        replace hD := hD2
        replace hS := hS2
        clear hl2 hP2 hD2 hS2
        replace hf := fn_X14_level_B88_s hf
        refine W.eq (g2 := F0 m 88 ls [.int p_14]) rfl ?_
        refine lv_istore (lv' := [(6, .int p_14), (5, .int v_13), (4, .int p_9), (3, .int p_2), (2, .int p_1), (0, .ref (a h0)), (1, .int x0)]) hx hb dX14_level_88 hl (by decide) rfl (fun ls hl2 => ?_)
        replace hl := hl2
        clear hl2
        refine lv_iload hx hb dX14_level_90 (lv_at hl 0 rfl) ?_
        refine lv_iconst (v := 1) hx hb dX14_level_92 (by decide) ?_
        refine de_cut (h := 257) (fun (x : St) => []) (fun x ls H locs => lv_has ls 8 [(6, .int p_14), (5, .int v_13), (4, .int p_9), (3, .int p_2), (2, .int p_1), (0, .ref (a h0)), (1, .int x0)] ∧ va_P (dC, dI) vwCl (Wd cy a sh n x) H ∧ va_D A (Wd cy a sh n x) ∧ va_S A s.heap H locs) (fun x => fn_X14_level_B257 F sh n h0 p_1 v_13 p_14 p_9 p_2 (fun z9 q2 q3 => fn_X14_level_L4 F sh n h0 x0 f_4 z9 q2 q3) x) (z8, r8) ?_ (fun B257 => ?_)
        · intro x ls H locs hI hf
          obtain ⟨z_16, ez⟩ : ∃ w, w = x := ⟨_, rfl⟩
          subst ez
          obtain ⟨hl2, hP2, hD2, hS2⟩ := hI
          replace hl : lv_has ls 8 [(6, .int p_14), (5, .int v_13), (4, .int p_9), (3, .int p_2), (2, .int p_1), (0, .ref (a h0)), (1, .int x0)] := hl2
          replace hP := hP2
          replace hD := hD2
          replace hS := hS2
          clear hl2 hP2 hD2 hS2
          replace hf := fn_X14_level_B257_s hf
          refine W.eq (g2 := F0 m 257 ls []) rfl ?_
          refine lv_aload_n hx hb dX14_level_257 rfl (lv_at hl 5 rfl) ?_
          obtain ⟨k_17, ek_17, hf⟩ := lnk_some hf
          refine va_get (D := (dC, dI)) (ci := 14) (v := .ref (a k_17)) (C := RX14) (T := TX14) (N := 11) hx hb hts iwd_X14_level_X14 hown hK hP h0 (Wd_ob kg_5 sg_5 (by decide)) rfl 7 (by decide) (hts _ md_X14_level_2) (fun _ h9 => h9) (fl_q rfl ek_17) dX14_level_258 ?_
          refine lv_iload_n hx hb dX14_level_261 rfl (lv_at hl 4 rfl) ?_
          refine lv_iload hx hb dX14_level_262 (lv_at hl 1 rfl) ?_
          obtain ⟨g_18, hf⟩ := grd_some hf
          obtain ⟨kg_18, sg_18, ig_18⟩ := okA_at g_18
          refine va_iast hx hb hK hP hD hS k_17 1 (Wd_ai kg_18 sg_18) rfl ig_18 dX14_level_264 (fun H_19 locs hP2 hD2 hS2 => ?_)
          rw [Wd_ti sg_18] at hP2 hD2
          obtain ⟨z_20, ez_20⟩ : ∃ w, w = si z_16 k_17 p_1.toNatClampNeg v_13 := ⟨_, rfl⟩
          rw [← ez_20] at hP2 hD2
          replace hf := lt_at ez_20 hf
          clear ez_20
          replace hP := hP2
          replace hD := hD2
          replace hS := hS2
          clear hP2 hD2 hS2
          refine lv_aload_n hx hb dX14_level_265 rfl (lv_at hl 5 rfl) ?_
          obtain ⟨k_21, ek_21, hf⟩ := lnk_some hf
          refine va_get (D := (dC, dI)) (ci := 14) (v := .ref (a k_21)) (C := RX14) (T := TX14) (N := 11) hx hb hts iwd_X14_level_X14 hown hK hP h0 (Wd_ob kg_5 sg_5 (by decide)) rfl 8 (by decide) (hts _ md_X14_level_3) (fun _ h9 => h9) (fl_q rfl ek_21) dX14_level_266 ?_
          refine lv_iload_n hx hb dX14_level_269 rfl (lv_at hl 4 rfl) ?_
          refine lv_iload hx hb dX14_level_270 (lv_at hl 0 rfl) ?_
          obtain ⟨g_22, hf⟩ := grd_some hf
          obtain ⟨kg_22, sg_22, ig_22⟩ := okA_at g_22
          refine va_iast hx hb hK hP hD hS k_21 1 (Wd_ai kg_22 sg_22) rfl ig_22 dX14_level_272 (fun H_23 locs hP2 hD2 hS2 => ?_)
          rw [Wd_ti sg_22] at hP2 hD2
          obtain ⟨z_24, ez_24⟩ : ∃ w, w = si z_20 k_21 p_1.toNatClampNeg p_14 := ⟨_, rfl⟩
          rw [← ez_24] at hP2 hD2
          replace hf := lt_at ez_24 hf
          clear ez_24
          replace hP := hP2
          replace hD := hD2
          replace hS := hS2
          clear hP2 hD2 hS2
          refine lv_iinc (v := (p_1 + 1)) (lv' := [(2, .int (p_1 + 1)), (6, .int p_14), (5, .int v_13), (4, .int p_9), (3, .int p_2), (0, .ref (a h0)), (1, .int x0)]) hx hb dX14_level_273 hl (k := 4) rfl rfl (by decide) rfl (fun ls hl2 => ?_)
          replace hl := hl2
          clear hl2
          refine lv_iload_n hx hb dX14_level_276 rfl (lv_at hl 4 rfl) ?_
          refine lv_iload hx hb dX14_level_277 (lv_at hl 3 rfl) ?_
          refine de_cut (h := 287) (fun (x : St × Int32) => [.int x.2, .int p_2]) (fun x ls H locs => lv_has ls 8 [(2, .int (p_1 + 1)), (0, .ref (a h0)), (1, .int x0)] ∧ va_P (dC, dI) vwCl (Wd cy a sh n x.1) H ∧ va_D A (Wd cy a sh n x.1) ∧ va_S A s.heap H locs) (fun x => fn_X14_level_B287 F sh n p_2 p_1 (fun z9 q2 q3 => fn_X14_level_L4 F sh n h0 x0 f_4 z9 q2 q3) x.1 x.2) (z8, r8) ?_ (fun B287 => ?_)
          · intro x ls H locs hI hf
            obtain ⟨z_26, p_25⟩ := x
            obtain ⟨hl2, hP2, hD2, hS2⟩ := hI
            replace hl : lv_has ls 8 [(2, .int (p_1 + 1)), (0, .ref (a h0)), (1, .int x0)] := hl2
            replace hP := hP2
            replace hD := hD2
            replace hS := hS2
            clear hl2 hP2 hD2 hS2
            replace hf := fn_X14_level_B287_s hf
            refine W.eq (g2 := F0 m 287 ls [.int p_25, .int p_2]) rfl ?_
            refine lv_iadd hx hb dX14_level_287 ?_
            refine lv_topi (fun v_27 ev_27 => ?_)
            replace hf := lt_at ev_27 hf
            clear ev_27
            refine lv_istore_n (lv' := [(3, .int v_27), (2, .int (p_1 + 1)), (0, .ref (a h0)), (1, .int x0)]) hx hb dX14_level_288 rfl hl (by decide) rfl (fun ls hl2 => ?_)
            replace hl := hl2
            clear hl2
            refine lv_goto (tgt := 4) hx hb dX14_level_289 (by decide) ?_
            exact ih4 (z_26, (p_1 + 1), v_27) ls H locs ⟨lv_sub hl [0, 1, 2, 3] rfl, hP, hD, hS⟩ hf
          refine lv_if_eq (tgt := 286) hx hb dX14_level_279 (by decide) (fun c_28 => ?_) (fun c_28 => ?_)
          · skip
            rw [if_pos c_28] at hf
            refine lv_iconst (v := 1) hx hb dX14_level_286 (by decide) ?_
            exact B287 (z_24, 1) ls H_23 locs ⟨lv_sub hl [0, 5, 6] rfl, hP, hD, hS⟩ hf
          · skip
            rw [if_neg c_28] at hf
            refine lv_iconst (v := 2) hx hb dX14_level_282 (by decide) ?_
            refine lv_goto (tgt := 287) hx hb dX14_level_283 (by decide) ?_
            exact B287 (z_24, 2) ls H_23 locs ⟨lv_sub hl [0, 5, 6] rfl, hP, hD, hS⟩ hf
        refine lv_icmp_le (tgt := 220) hx hb dX14_level_93 (by decide) (fun c_29 => ?_) (fun c_29 => ?_)
        · skip
          rw [if_pos c_29] at hf
          refine lv_iconst (v := 0) hx hb dX14_level_220 (by decide) ?_
          refine lv_istore (lv' := [(7, .int 0), (6, .int p_14), (5, .int v_13), (4, .int p_9), (3, .int p_2), (2, .int p_1), (0, .ref (a h0)), (1, .int x0)]) hx hb dX14_level_221 hl (by decide) rfl (fun ls hl2 => ?_)
          replace hl := hl2
          clear hl2
          have hl0 : lv_has ls 8 [(7, .int 0), (6, .int p_14), (5, .int v_13), (4, .int p_9), (3, .int p_2), (2, .int p_1), (0, .ref (a h0)), (1, .int x0)] := lv_sub hl [0, 1, 2, 3, 4, 5, 6, 7] rfl
          refine de_loop (h := 223) (fun (x : St × Int32) ls H locs => lv_has ls 8 [(7, .int x.2), (6, .int p_14), (5, .int v_13), (4, .int p_9), (3, .int p_2), (2, .int p_1), (0, .ref (a h0)), (1, .int x0)] ∧ va_P (dC, dI) vwCl (Wd cy a sh n x.1) H ∧ va_D A (Wd cy a sh n x.1) ∧ va_S A s.heap H locs) (fun f x => fn_X14_level_L223 F sh n h0 p_1 v_13 p_14 p_9 p_2 (fun z9 q2 q3 => fn_X14_level_L4 F sh n h0 x0 f_4 z9 q2 q3) f x.1 x.2) (z8, r8) ?_ (fun _ => rfl) F (z_15, 0) ls H locs ⟨hl0, hP, hD, hS⟩ hf
          intro f_32 x ls H locs ih223 hI hf
          obtain ⟨z_31, p_30⟩ := x
          obtain ⟨hl2, hP2, hD2, hS2⟩ := hI
          replace hl : lv_has ls 8 [(7, .int p_30), (6, .int p_14), (5, .int v_13), (4, .int p_9), (3, .int p_2), (2, .int p_1), (0, .ref (a h0)), (1, .int x0)] := hl2
          replace hP := hP2
          replace hD := hD2
          replace hS := hS2
          clear hl2 hP2 hD2 hS2 hl0
          replace hf := fn_X14_level_L223_s hf
          refine lv_iload hx hb dX14_level_223 (lv_at hl 0 rfl) ?_
          refine lv_iconst (v := 4) hx hb dX14_level_225 (by decide) ?_
          refine lv_icmp_ge (tgt := 257) hx hb dX14_level_226 (by decide) (fun c_33 => ?_) (fun c_33 => ?_)
          · skip
            rw [if_pos c_33] at hf
            exact B257 (z_31) ls H locs ⟨lv_sub hl [1, 2, 3, 4, 5, 6, 7] rfl, hP, hD, hS⟩ hf
          · skip
            rw [if_neg c_33] at hf
            refine lv_aload_n hx hb dX14_level_229 rfl (lv_at hl 6 rfl) ?_
            obtain ⟨k_34, ek_34, hf⟩ := lnk_some hf
            refine va_get (D := (dC, dI)) (ci := 14) (v := .ref (a k_34)) (C := RX14) (T := TX14) (N := 11) hx hb hts iwd_X14_level_X14 hown hK hP h0 (Wd_ob kg_5 sg_5 (by decide)) rfl 6 (by decide) (hts _ md_X14_level_6) (fun _ h9 => h9) (fl_q rfl ek_34) dX14_level_230 ?_
            refine lv_iconst (v := 4) hx hb dX14_level_233 (by decide) ?_
            refine lv_iload_n hx hb dX14_level_234 rfl (lv_at hl 5 rfl) ?_
            refine lv_imul hx hb dX14_level_235 ?_
            refine lv_iload hx hb dX14_level_236 (lv_at hl 0 rfl) ?_
            refine lv_iadd hx hb dX14_level_238 ?_
            refine lv_aload_n hx hb dX14_level_239 rfl (lv_at hl 6 rfl) ?_
            obtain ⟨k_35, ek_35, hf⟩ := lnk_some hf
            refine va_get (D := (dC, dI)) (ci := 14) (v := .ref (a k_35)) (C := RX14) (T := TX14) (N := 11) hx hb hts iwd_X14_level_X14 hown hK hP h0 (Wd_ob kg_5 sg_5 (by decide)) rfl 6 (by decide) (hts _ md_X14_level_6) (fun _ h9 => h9) (fl_q rfl ek_35) dX14_level_240 ?_
            refine lv_iconst (v := 4) hx hb dX14_level_243 (by decide) ?_
            refine lv_iload_n hx hb dX14_level_244 rfl (lv_at hl 4 rfl) ?_
            refine lv_imul hx hb dX14_level_245 ?_
            refine lv_iload hx hb dX14_level_246 (lv_at hl 0 rfl) ?_
            refine lv_iadd hx hb dX14_level_248 ?_
            obtain ⟨g_36, hf⟩ := grd_some hf
            obtain ⟨kg_36, sg_36, ig_36⟩ := okA_at g_36
            refine va_lald hx hb hK hP k_35 2 (Wd_al kg_36 sg_36) rfl ig_36 dX14_level_249 ?_
            obtain ⟨g_37, hf⟩ := grd_some hf
            obtain ⟨kg_37, sg_37, ig_37⟩ := okA_at g_37
            refine va_last hx hb hK hP hD hS k_34 2 (Wd_al kg_37 sg_37) rfl ig_37 dX14_level_250 (fun H_38 locs hP2 hD2 hS2 => ?_)
            rw [Wd_tl sg_37] at hP2 hD2
            obtain ⟨z_39, ez_39⟩ : ∃ w, w = sl z_31 k_34 ((4 * p_1) + p_30).toNatClampNeg (z_31.2.1 k_35 ((4 * p_2) + p_30).toNatClampNeg) := ⟨_, rfl⟩
            rw [← ez_39] at hP2 hD2
            replace hf := lt_at ez_39 hf
            clear ez_39
            replace hP := hP2
            replace hD := hD2
            replace hS := hS2
            clear hP2 hD2 hS2
            refine lv_iinc (v := (p_30 + 1)) (lv' := [(7, .int (p_30 + 1)), (6, .int p_14), (5, .int v_13), (4, .int p_9), (3, .int p_2), (2, .int p_1), (0, .ref (a h0)), (1, .int x0)]) hx hb dX14_level_251 hl (k := 0) rfl rfl (by decide) rfl (fun ls hl2 => ?_)
            replace hl := hl2
            clear hl2
            refine lv_goto (tgt := 223) hx hb dX14_level_254 (by decide) ?_
            exact ih223 (z_39, (p_30 + 1)) ls H_38 locs ⟨lv_sub hl [0, 1, 2, 3, 4, 5, 6, 7] rfl, hP, hD, hS⟩ hf
        · skip
          rw [if_neg c_29] at hf
          refine lv_iload hx hb dX14_level_96 (lv_at hl 2 rfl) ?_
          refine de_cut (h := 135) (fun (x : St × Int32) => [.int x.2]) (fun x ls H locs => lv_has ls 8 [(6, .int p_14), (5, .int v_13), (4, .int p_9), (3, .int p_2), (2, .int p_1), (0, .ref (a h0)), (1, .int x0)] ∧ va_P (dC, dI) vwCl (Wd cy a sh n x.1) H ∧ va_D A (Wd cy a sh n x.1) ∧ va_S A s.heap H locs) (fun x => fn_X14_level_B135 F sh n h0 p_2 p_9 p_1 v_13 p_14 (fun z9 q2 q3 => fn_X14_level_L4 F sh n h0 x0 f_4 z9 q2 q3) x.1 x.2) (z8, r8) ?_ (fun B135 => ?_)
          · intro x ls H locs hI hf
            obtain ⟨z_41, p_40⟩ := x
            obtain ⟨hl2, hP2, hD2, hS2⟩ := hI
            replace hl : lv_has ls 8 [(6, .int p_14), (5, .int v_13), (4, .int p_9), (3, .int p_2), (2, .int p_1), (0, .ref (a h0)), (1, .int x0)] := hl2
            replace hP := hP2
            replace hD := hD2
            replace hS := hS2
            clear hl2 hP2 hD2 hS2
            replace hf := fn_X14_level_B135_s hf
            refine W.eq (g2 := F0 m 135 ls [.int p_40]) rfl ?_
            refine lv_istore (lv' := [(7, .int p_40), (6, .int p_14), (5, .int v_13), (4, .int p_9), (3, .int p_2), (2, .int p_1), (0, .ref (a h0)), (1, .int x0)]) hx hb dX14_level_135 hl (by decide) rfl (fun ls hl2 => ?_)
            replace hl := hl2
            clear hl2
            refine lv_aload_n hx hb dX14_level_137 rfl (lv_at hl 6 rfl) ?_
            obtain ⟨k_42, ek_42, hf⟩ := lnk_some hf
            refine va_get (D := (dC, dI)) (ci := 14) (v := .ref (a k_42)) (C := RX14) (T := TX14) (N := 11) hx hb hts iwd_X14_level_X14 hown hK hP h0 (Wd_ob kg_5 sg_5 (by decide)) rfl 10 (by decide) (hts _ md_X14_level_5) (fun _ h9 => h9) (fl_q rfl ek_42) dX14_level_138 ?_
            obtain ⟨g_44, hf⟩ := grd_some hf
            obtain ⟨kg_44, sg_44⟩ := okO_at g_44
            obtain ⟨z_43, _u, hfc, hf⟩ := cal_some hf
            have hFc := de_free hD hS hA
            refine va_callv (va_runV (As := []) (rest := []) ⟨hx, hb, hml, hown, hts⟩ (de_X12_begin l dC dI cy a sh n H.size F z_41 k_42 hfc) (cwV 0 hts gX14_level_X12_begin rfl rfl rfl (by decide +kernel) ⟨Nat.le_of_ble_eq_true rfl, Nat.le_of_ble_eq_true rfl⟩) ⟨fun a U g mk q => by obtain ⟨q0, q1, qP, qK, qD, qN⟩ := q; exact ⟨q0, q1, qP, va_K.moved (u := U) (U := U.calling g mk a) (Vm.Alike.refl U.vm) qK, qD, qN.same rfl⟩, va_recv hK hP (ci := 12) (q0 := k_42) rfl (Wd_ob kg_44 sg_44 (by decide)), fun U hU hW => ⟨rfl, by rw [hU], by rw [hU]; exact hP, va_K.moved hW.alike hK, hD.weaken (fun _ _ _ _ => trivial), hN.warm hW⟩⟩ rfl rfl hl.1 rfl (lv_room (Nat.le_of_ble_eq_true rfl)) dX14_level_141 ⟨Nat.le_of_ble_eq_true rfl, Nat.le_of_ble_eq_true rfl⟩) hS (fun q _ h => hFc q h) hFc (fun u t H_45 locs ht hvm hw hB hz1 hk1 hS2 => ?_)
            obtain ⟨hP1, -, hD1⟩ := hB
            rw [ht] at hP1
            replace hD := hD1.weaken (fun _ _ _ h => hFc _ h)
            replace hP := hP1
            replace hS := hS2
            clear hP1 hD1 hS2 hFc hfc hz1 hk1 hvm ht
            refine lv_aload_n hx hb dX14_level_144 rfl (lv_at hl 6 rfl) ?_
            obtain ⟨k_46, ek_46, hf⟩ := lnk_some hf
            refine va_get (D := (dC, dI)) (ci := 14) (v := .ref (a k_46)) (C := RX14) (T := TX14) (N := 11) hx hb hts iwd_X14_level_X14 hown hK hP h0 (Wd_ob kg_5 sg_5 (by decide)) rfl 10 (by decide) (hts _ md_X14_level_5) (fun _ h9 => h9) (fl_q rfl ek_46) dX14_level_145 ?_
            refine lv_iconst (v := 1) hx hb dX14_level_148 (by decide) ?_
            obtain ⟨g_48, hf⟩ := grd_some hf
            obtain ⟨kg_48, sg_48⟩ := okO_at g_48
            obtain ⟨z_47, _u, hfc, hf⟩ := cal_some hf
            have hFc := de_free hD hS hA
            refine va_callv (va_runV (As := [.int 1]) (rest := []) ⟨hx, hb, hml, hown, hts⟩ (de_X12_add l dC dI cy a sh n H_45.size F z_43 k_46 1 hfc) (cwV 1 hts gX14_level_X12_add rfl rfl rfl (by decide +kernel) ⟨Nat.le_of_ble_eq_true rfl, Nat.le_of_ble_eq_true rfl⟩) ⟨fun a U g mk q => by obtain ⟨q0, q1, qP, qK, qD, qN⟩ := q; exact ⟨q0, q1, qP, va_K.moved (u := U) (U := U.calling g mk a) (Vm.Alike.refl U.vm) qK, qD, qN.same rfl⟩, va_recv hK hP (ci := 12) (q0 := k_46) rfl (Wd_ob kg_48 sg_48 (by decide)), fun U hU hW => ⟨rfl, by rw [hU], by rw [hU]; exact hP, va_K.moved hW.alike hK, hD.weaken (fun _ _ _ _ => trivial), hN.warm hW⟩⟩ rfl rfl hl.1 rfl (lv_room (Nat.le_of_ble_eq_true rfl)) dX14_level_149 ⟨Nat.le_of_ble_eq_true rfl, Nat.le_of_ble_eq_true rfl⟩) hS (fun q _ h => hFc q h) hFc (fun u t H_49 locs ht hvm hw hB hz1 hk1 hS2 => ?_)
            obtain ⟨hP1, -, hD1⟩ := hB
            rw [ht] at hP1
            replace hD := hD1.weaken (fun _ _ _ h => hFc _ h)
            replace hP := hP1
            replace hS := hS2
            clear hP1 hD1 hS2 hFc hfc hz1 hk1 hvm ht
            refine lv_aload_n hx hb dX14_level_152 rfl (lv_at hl 6 rfl) ?_
            refine lv_aload_n hx hb dX14_level_153 rfl (lv_at hl 6 rfl) ?_
            obtain ⟨k_50, ek_50, hf⟩ := lnk_some hf
            refine va_get (D := (dC, dI)) (ci := 14) (v := .ref (a k_50)) (C := RX14) (T := TX14) (N := 11) hx hb hts iwd_X14_level_X14 hown hK hP h0 (Wd_ob kg_5 sg_5 (by decide)) rfl 6 (by decide) (hts _ md_X14_level_6) (fun _ h9 => h9) (fl_q rfl ek_50) dX14_level_154 ?_
            refine lv_iconst (v := 4) hx hb dX14_level_157 (by decide) ?_
            refine lv_iload_n hx hb dX14_level_158 rfl (lv_at hl 4 rfl) ?_
            refine lv_imul hx hb dX14_level_159 ?_
            refine lv_iload hx hb dX14_level_160 (lv_at hl 0 rfl) ?_
            refine de_cut (h := 170) (fun (x : St × Int32) => [.int x.2, .int (4 * p_2), .ref (a k_50), .ref (a h0)]) (fun x ls H locs => lv_has ls 8 [(7, .int p_40), (6, .int p_14), (5, .int v_13), (4, .int p_9), (3, .int p_2), (2, .int p_1), (0, .ref (a h0)), (1, .int x0)] ∧ va_P (dC, dI) vwCl (Wd cy a sh n x.1) H ∧ va_D A (Wd cy a sh n x.1) ∧ va_S A s.heap H locs) (fun x => fn_X14_level_B170 F sh n h0 k_50 p_2 p_9 p_40 p_1 v_13 p_14 (fun z9 q2 q3 => fn_X14_level_L4 F sh n h0 x0 f_4 z9 q2 q3) x.1 x.2) (z8, r8) ?_ (fun B170 => ?_)
            · intro x ls H locs hI hf
              obtain ⟨z_52, p_51⟩ := x
              obtain ⟨hl2, hP2, hD2, hS2⟩ := hI
              replace hl : lv_has ls 8 [(7, .int p_40), (6, .int p_14), (5, .int v_13), (4, .int p_9), (3, .int p_2), (2, .int p_1), (0, .ref (a h0)), (1, .int x0)] := hl2
              replace hP := hP2
              replace hD := hD2
              replace hS := hS2
              clear hl2 hP2 hD2 hS2
              replace hf := fn_X14_level_B170_s hf
              refine W.eq (g2 := F0 m 170 ls [.int p_51, .int (4 * p_2), .ref (a k_50), .ref (a h0)]) rfl ?_
              obtain ⟨z_53, _u, hfc, hf⟩ := cal_some hf
              have hFc := de_free hD hS hA
              refine va_callv (va_runV (As := [.ref (a k_50), .int (4 * p_2), .int p_51]) (rest := []) ⟨hx, hb, hml, hown, hts⟩ (de_X14_add l dC dI cy a sh n H.size F z_52 h0 k_50 (4 * p_2) p_51 hfc) (cwV 3 hts gX14_level_X14_add rfl rfl rfl (by decide +kernel) ⟨Nat.le_of_ble_eq_true rfl, Nat.le_of_ble_eq_true rfl⟩) ⟨fun a U g mk q => by obtain ⟨q0, q1, qP, qK, qD, qN⟩ := q; exact ⟨q0, q1, qP, va_K.moved (u := U) (U := U.calling g mk a) (Vm.Alike.refl U.vm) qK, qD, qN.same rfl⟩, va_recv hK hP (ci := 14) (q0 := h0) rfl (Wd_ob kg_5 sg_5 (by decide)), fun U hU hW => ⟨rfl, by rw [hU], by rw [hU]; exact hP, va_K.moved hW.alike hK, hD.weaken (fun _ _ _ _ => trivial), hN.warm hW⟩⟩ rfl rfl hl.1 rfl (lv_room (Nat.le_of_ble_eq_true rfl)) dX14_level_170 ⟨Nat.le_of_ble_eq_true rfl, Nat.le_of_ble_eq_true rfl⟩) hS (fun q _ h => hFc q h) hFc (fun u t H_54 locs ht hvm hw hB hz1 hk1 hS2 => ?_)
              obtain ⟨hP1, -, hD1⟩ := hB
              rw [ht] at hP1
              replace hD := hD1.weaken (fun _ _ _ h => hFc _ h)
              replace hP := hP1
              replace hS := hS2
              clear hP1 hD1 hS2 hFc hfc hz1 hk1 hvm ht
              refine lv_aload_n hx hb dX14_level_173 rfl (lv_at hl 6 rfl) ?_
              refine lv_aload_n hx hb dX14_level_174 rfl (lv_at hl 6 rfl) ?_
              obtain ⟨k_55, ek_55, hf⟩ := lnk_some hf
              refine va_get (D := (dC, dI)) (ci := 14) (v := .ref (a k_55)) (C := RX14) (T := TX14) (N := 11) hx hb hts iwd_X14_level_X14 hown hK hP h0 (Wd_ob kg_5 sg_5 (by decide)) rfl 6 (by decide) (hts _ md_X14_level_6) (fun _ h9 => h9) (fl_q rfl ek_55) dX14_level_175 ?_
              refine lv_iload hx hb dX14_level_178 (lv_at hl 3 rfl) ?_
              refine de_cut (h := 194) (fun (x : St × Int32) => [.int x.2, .ref (a k_55), .ref (a h0)]) (fun x ls H locs => lv_has ls 8 [(7, .int p_40), (6, .int p_14), (5, .int v_13), (4, .int p_9), (3, .int p_2), (2, .int p_1), (0, .ref (a h0)), (1, .int x0)] ∧ va_P (dC, dI) vwCl (Wd cy a sh n x.1) H ∧ va_D A (Wd cy a sh n x.1) ∧ va_S A s.heap H locs) (fun x => fn_X14_level_B194 F sh n p_9 p_40 h0 k_55 p_1 v_13 p_14 p_2 (fun z9 q2 q3 => fn_X14_level_L4 F sh n h0 x0 f_4 z9 q2 q3) x.1 x.2) (z8, r8) ?_ (fun B194 => ?_)
              · intro x ls H locs hI hf
                obtain ⟨z_57, p_56⟩ := x
                obtain ⟨hl2, hP2, hD2, hS2⟩ := hI
                replace hl : lv_has ls 8 [(7, .int p_40), (6, .int p_14), (5, .int v_13), (4, .int p_9), (3, .int p_2), (2, .int p_1), (0, .ref (a h0)), (1, .int x0)] := hl2
                replace hP := hP2
                replace hD := hD2
                replace hS := hS2
                clear hl2 hP2 hD2 hS2
                replace hf := fn_X14_level_B194_s hf
                refine W.eq (g2 := F0 m 194 ls [.int p_56, .ref (a k_55), .ref (a h0)]) rfl ?_
                refine lv_iload hx hb dX14_level_194 (lv_at hl 3 rfl) ?_
                refine de_cut (h := 209) (fun (x : St × Int32) => [.int x.2, .int p_56, .ref (a k_55), .ref (a h0)]) (fun x ls H locs => lv_has ls 8 [(6, .int p_14), (5, .int v_13), (4, .int p_9), (3, .int p_2), (2, .int p_1), (0, .ref (a h0)), (1, .int x0)] ∧ va_P (dC, dI) vwCl (Wd cy a sh n x.1) H ∧ va_D A (Wd cy a sh n x.1) ∧ va_S A s.heap H locs) (fun x => fn_X14_level_B209 F sh n h0 k_55 p_56 p_1 v_13 p_14 p_9 p_2 (fun z9 q2 q3 => fn_X14_level_L4 F sh n h0 x0 f_4 z9 q2 q3) x.1 x.2) (z8, r8) ?_ (fun B209 => ?_)
                · intro x ls H locs hI hf
                  obtain ⟨z_59, p_58⟩ := x
                  obtain ⟨hl2, hP2, hD2, hS2⟩ := hI
                  replace hl : lv_has ls 8 [(6, .int p_14), (5, .int v_13), (4, .int p_9), (3, .int p_2), (2, .int p_1), (0, .ref (a h0)), (1, .int x0)] := hl2
                  replace hP := hP2
                  replace hD := hD2
                  replace hS := hS2
                  clear hl2 hP2 hD2 hS2
                  replace hf := fn_X14_level_B209_s hf
                  refine W.eq (g2 := F0 m 209 ls [.int p_58, .int p_56, .ref (a k_55), .ref (a h0)]) rfl ?_
                  obtain ⟨z_60, _u, hfc, hf⟩ := cal_some hf
                  have hFc := de_free hD hS hA
                  refine va_callv (va_runV (As := [.ref (a k_55), .int p_56, .int p_58]) (rest := []) ⟨hx, hb, hml, hown, hts⟩ (de_X14_add l dC dI cy a sh n H.size F z_59 h0 k_55 p_56 p_58 hfc) (cwV 3 hts gX14_level_X14_add rfl rfl rfl (by decide +kernel) ⟨Nat.le_of_ble_eq_true rfl, Nat.le_of_ble_eq_true rfl⟩) ⟨fun a U g mk q => by obtain ⟨q0, q1, qP, qK, qD, qN⟩ := q; exact ⟨q0, q1, qP, va_K.moved (u := U) (U := U.calling g mk a) (Vm.Alike.refl U.vm) qK, qD, qN.same rfl⟩, va_recv hK hP (ci := 14) (q0 := h0) rfl (Wd_ob kg_5 sg_5 (by decide)), fun U hU hW => ⟨rfl, by rw [hU], by rw [hU]; exact hP, va_K.moved hW.alike hK, hD.weaken (fun _ _ _ _ => trivial), hN.warm hW⟩⟩ rfl rfl hl.1 rfl (lv_room (Nat.le_of_ble_eq_true rfl)) dX14_level_209 ⟨Nat.le_of_ble_eq_true rfl, Nat.le_of_ble_eq_true rfl⟩) hS (fun q _ h => hFc q h) hFc (fun u t H_61 locs ht hvm hw hB hz1 hk1 hS2 => ?_)
                  obtain ⟨hP1, -, hD1⟩ := hB
                  rw [ht] at hP1
                  replace hD := hD1.weaken (fun _ _ _ h => hFc _ h)
                  replace hP := hP1
                  replace hS := hS2
                  clear hP1 hD1 hS2 hFc hfc hz1 hk1 hvm ht
                  refine lv_aload_n hx hb dX14_level_212 rfl (lv_at hl 5 rfl) ?_
                  refine lv_iload_n hx hb dX14_level_213 rfl (lv_at hl 4 rfl) ?_
                  obtain ⟨z_62, _u, hfc, hf⟩ := cal_some hf
                  have hFc := de_free hD hS hA
                  refine va_callv (va_runV (As := [.int p_1]) (rest := []) ⟨hx, hb, hml, hown, hts⟩ (de_X14_keepHash l dC dI cy a sh n H_61.size F sk z_60 h0 p_1 hfc) (cwV 1 hts gX14_level_X14_keepHash rfl rfl rfl (by decide +kernel) ⟨Nat.le_of_ble_eq_true rfl, Nat.le_of_ble_eq_true rfl⟩) ⟨fun a U g mk q => by obtain ⟨q0, q1, qP, qK, qD, qN, qS⟩ := q; exact ⟨q0, q1, qP, va_K.moved (u := U) (U := U.calling g mk a) (Vm.Alike.refl U.vm) qK, qD, qN.same rfl, SKs.moved (u := U) (U := U.calling g mk a) (Vm.Alike.refl U.vm) qS⟩, va_recv hK hP (ci := 14) (q0 := h0) rfl (Wd_ob kg_5 sg_5 (by decide)), fun U hU hW => ⟨rfl, by rw [hU], by rw [hU]; exact hP, va_K.moved hW.alike hK, hD.weaken (fun _ _ _ _ => trivial), hN.warm hW, by rw [hU]; exact ((hSK.kept hS.2.1).narrow hFc).moved hW.alike⟩⟩ rfl rfl hl.1 rfl (lv_room (Nat.le_of_ble_eq_true rfl)) dX14_level_214 ⟨Nat.le_of_ble_eq_true rfl, Nat.le_of_ble_eq_true rfl⟩) hS (fun q _ h => hFc q h) hFc (fun u t H_63 locs ht hvm hw hB hz1 hk1 hS2 => ?_)
                  obtain ⟨hP1, -, hD1⟩ := hB
                  rw [ht] at hP1
                  replace hD := hD1.weaken (fun _ _ _ h => hFc _ h)
                  replace hP := hP1
                  replace hS := hS2
                  clear hP1 hD1 hS2 hFc hfc hz1 hk1 hvm ht
                  refine lv_goto (tgt := 257) hx hb dX14_level_217 (by decide) ?_
                  exact B257 (z_62) ls H_63 locs ⟨lv_sub hl [0, 1, 2, 3, 4, 5, 6] rfl, hP, hD, hS⟩ hf
                refine de_cut (h := 204) (fun (x : St) => [.int p_56, .ref (a k_55), .ref (a h0)]) (fun x ls H locs => lv_has ls 8 [(6, .int p_14), (5, .int v_13), (4, .int p_9), (3, .int p_2), (2, .int p_1), (0, .ref (a h0)), (1, .int x0)] ∧ va_P (dC, dI) vwCl (Wd cy a sh n x) H ∧ va_D A (Wd cy a sh n x) ∧ va_S A s.heap H locs) (fun x => fn_X14_level_B204 F sh n h0 k_55 p_56 p_1 v_13 p_14 p_9 p_2 (fun z9 q2 q3 => fn_X14_level_L4 F sh n h0 x0 f_4 z9 q2 q3) x) (z8, r8) ?_ (fun B204 => ?_)
                · intro x ls H locs hI hf
                  obtain ⟨z_64, ez⟩ : ∃ w, w = x := ⟨_, rfl⟩
                  subst ez
                  obtain ⟨hl2, hP2, hD2, hS2⟩ := hI
                  replace hl : lv_has ls 8 [(6, .int p_14), (5, .int v_13), (4, .int p_9), (3, .int p_2), (2, .int p_1), (0, .ref (a h0)), (1, .int x0)] := hl2
                  replace hP := hP2
                  replace hD := hD2
                  replace hS := hS2
                  clear hl2 hP2 hD2 hS2
                  replace hf := fn_X14_level_B204_s hf
                  refine W.eq (g2 := F0 m 204 ls [.int p_56, .ref (a k_55), .ref (a h0)]) rfl ?_
                  refine lv_iconst (v := 1) hx hb dX14_level_204 (by decide) ?_
                  refine lv_goto (tgt := 209) hx hb dX14_level_205 (by decide) ?_
                  exact B209 (z_64, 1) ls H locs ⟨lv_sub hl [0, 1, 2, 3, 4, 5, 6] rfl, hP, hD, hS⟩ hf
                refine lv_if_ne (tgt := 204) hx hb dX14_level_196 (by decide) (fun c_65 => ?_) (fun c_65 => ?_)
                · skip
                  rw [if_neg c_65] at hf
                  exact B204 (z_57) ls H locs ⟨lv_sub hl [1, 2, 3, 4, 5, 6, 7] rfl, hP, hD, hS⟩ hf
                · skip
                  rw [if_pos c_65] at hf
                  refine lv_iload hx hb dX14_level_199 (lv_at hl 0 rfl) ?_
                  refine lv_if_eq (tgt := 208) hx hb dX14_level_201 (by decide) (fun c_66 => ?_) (fun c_66 => ?_)
                  · skip
                    rw [if_pos c_66] at hf
                    refine lv_iconst (v := 0) hx hb dX14_level_208 (by decide) ?_
                    exact B209 (z_57, 0) ls H locs ⟨lv_sub hl [1, 2, 3, 4, 5, 6, 7] rfl, hP, hD, hS⟩ hf
                  · skip
                    rw [if_neg c_66] at hf
                    exact B204 (z_57) ls H locs ⟨lv_sub hl [1, 2, 3, 4, 5, 6, 7] rfl, hP, hD, hS⟩ hf
              refine lv_if_eq (tgt := 191) hx hb dX14_level_180 (by decide) (fun c_67 => ?_) (fun c_67 => ?_)
              · skip
                rw [if_pos c_67] at hf
                refine lv_iconst (v := 4) hx hb dX14_level_191 (by decide) ?_
                refine lv_iload_n hx hb dX14_level_192 rfl (lv_at hl 4 rfl) ?_
                refine lv_imul hx hb dX14_level_193 ?_
                exact B194 (z_53, (4 * p_2)) ls H_54 locs ⟨lv_sub hl [0, 1, 2, 3, 4, 5, 6, 7] rfl, hP, hD, hS⟩ hf
              · skip
                rw [if_neg c_67] at hf
                refine lv_iconst (v := 4) hx hb dX14_level_183 (by decide) ?_
                refine lv_iload_n hx hb dX14_level_184 rfl (lv_at hl 4 rfl) ?_
                refine lv_imul hx hb dX14_level_185 ?_
                refine lv_iconst (v := 4) hx hb dX14_level_186 (by decide) ?_
                refine lv_iadd hx hb dX14_level_187 ?_
                refine lv_goto (tgt := 194) hx hb dX14_level_188 (by decide) ?_
                exact B194 (z_53, ((4 * p_2) + 4)) ls H_54 locs ⟨lv_sub hl [0, 1, 2, 3, 4, 5, 6, 7] rfl, hP, hD, hS⟩ hf
            refine lv_if_ne (tgt := 169) hx hb dX14_level_162 (by decide) (fun c_68 => ?_) (fun c_68 => ?_)
            · skip
              rw [if_neg c_68] at hf
              refine lv_iconst (v := 0) hx hb dX14_level_169 (by decide) ?_
              exact B170 (z_47, 0) ls H_49 locs ⟨lv_sub hl [0, 1, 2, 3, 4, 5, 6, 7] rfl, hP, hD, hS⟩ hf
            · skip
              rw [if_pos c_68] at hf
              refine lv_iconst (v := 1) hx hb dX14_level_165 (by decide) ?_
              refine lv_goto (tgt := 170) hx hb dX14_level_166 (by decide) ?_
              exact B170 (z_47, 1) ls H_49 locs ⟨lv_sub hl [0, 1, 2, 3, 4, 5, 6, 7] rfl, hP, hD, hS⟩ hf
          refine de_cut (h := 134) (fun (x : St) => []) (fun x ls H locs => lv_has ls 8 [(6, .int p_14), (5, .int v_13), (4, .int p_9), (3, .int p_2), (2, .int p_1), (0, .ref (a h0)), (1, .int x0)] ∧ va_P (dC, dI) vwCl (Wd cy a sh n x) H ∧ va_D A (Wd cy a sh n x) ∧ va_S A s.heap H locs) (fun x => fn_X14_level_B134 F sh n h0 p_2 p_9 p_1 v_13 p_14 (fun z9 q2 q3 => fn_X14_level_L4 F sh n h0 x0 f_4 z9 q2 q3) x) (z8, r8) ?_ (fun B134 => ?_)
          · intro x ls H locs hI hf
            obtain ⟨z_69, ez⟩ : ∃ w, w = x := ⟨_, rfl⟩
            subst ez
            obtain ⟨hl2, hP2, hD2, hS2⟩ := hI
            replace hl : lv_has ls 8 [(6, .int p_14), (5, .int v_13), (4, .int p_9), (3, .int p_2), (2, .int p_1), (0, .ref (a h0)), (1, .int x0)] := hl2
            replace hP := hP2
            replace hD := hD2
            replace hS := hS2
            clear hl2 hP2 hD2 hS2
            replace hf := fn_X14_level_B134_s hf
            refine W.eq (g2 := F0 m 134 ls []) rfl ?_
            refine lv_iconst (v := 0) hx hb dX14_level_134 (by decide) ?_
            exact B135 (z_69, 0) ls H locs ⟨lv_sub hl [0, 1, 2, 3, 4, 5, 6] rfl, hP, hD, hS⟩ hf
          refine lv_if_ne (tgt := 134) hx hb dX14_level_98 (by decide) (fun c_70 => ?_) (fun c_70 => ?_)
          · skip
            rw [if_neg c_70] at hf
            exact B134 (z_15) ls H locs ⟨lv_sub hl [0, 1, 2, 3, 4, 5, 6] rfl, hP, hD, hS⟩ hf
          · skip
            rw [if_pos c_70] at hf
            refine lv_aload_n hx hb dX14_level_101 rfl (lv_at hl 5 rfl) ?_
            obtain ⟨k_71, ek_71, hf⟩ := lnk_some hf
            refine va_get (D := (dC, dI)) (ci := 14) (v := .ref (a k_71)) (C := RX14) (T := TX14) (N := 11) hx hb hts iwd_X14_level_X14 hown hK hP h0 (Wd_ob kg_5 sg_5 (by decide)) rfl 0 (by decide) (hts _ md_X14_level_4) (fun _ h9 => h9) (fl_q rfl ek_71) dX14_level_102 ?_
            refine lv_iconst (v := 4) hx hb dX14_level_105 (by decide) ?_
            refine lv_iload hx hb dX14_level_106 (lv_at hl 1 rfl) ?_
            refine lv_imul hx hb dX14_level_108 ?_
            refine lv_iload_n hx hb dX14_level_109 rfl (lv_at hl 6 rfl) ?_
            refine lv_bipush (v := 64) hx hb dX14_level_110 (by decide) ?_
            refine lv_idiv hx hb dX14_level_112 (by decide) ?_
            refine lv_iadd hx hb dX14_level_113 ?_
            obtain ⟨g_72, hf⟩ := grd_some hf
            obtain ⟨kg_72, sg_72, ig_72⟩ := okA_at g_72
            refine va_lald hx hb hK hP k_71 2 (Wd_al kg_72 sg_72) rfl ig_72 dX14_level_114 ?_
            refine lv_bipush (v := 63) hx hb dX14_level_115 (by decide) ?_
            refine lv_iload_n hx hb dX14_level_117 rfl (lv_at hl 6 rfl) ?_
            refine lv_bipush (v := 64) hx hb dX14_level_118 (by decide) ?_
            refine lv_irem hx hb dX14_level_120 (by decide) ?_
            refine lv_isub hx hb dX14_level_121 ?_
            refine lv_lshr (v := ((z_15.2.1 k_71 ((4 * v_13) + (x0 / 64)).toNatClampNeg) >>> (((63 - (x0 - x0 / 64 * 64)) : Int32).toInt64 &&& 63))) hx hb dX14_level_122 rfl ?_
            refine lv_lconst (v := 1) hx hb dX14_level_123 (by decide) ?_
            refine lv_land hx hb dX14_level_124 ?_
            refine lv_lconst (v := 1) hx hb dX14_level_125 (by decide) ?_
            refine W.lcmp hx hb dX14_level_126 ?_
            refine lv_if_ne (tgt := 134) hx hb dX14_level_127 (by decide) (fun c_73 => ?_) (fun c_73 => ?_)
            · skip
              rw [lg_cmp_eq] at c_73
              rw [if_neg c_73] at hf
              exact B134 (z_15) ls H locs ⟨lv_sub hl [0, 1, 2, 3, 4, 5, 6] rfl, hP, hD, hS⟩ hf
            · skip
              rw [lg_cmp_eq] at c_73
              rw [if_pos c_73] at hf
              refine lv_iconst (v := 1) hx hb dX14_level_130 (by decide) ?_
              refine lv_goto (tgt := 135) hx hb dX14_level_131 (by decide) ?_
              exact B135 (z_15, 1) ls H locs ⟨lv_sub hl [0, 1, 2, 3, 4, 5, 6] rfl, hP, hD, hS⟩ hf
      refine lv_if_eq (tgt := 82) hx hb dX14_level_61 (by decide) (fun c_74 => ?_) (fun c_74 => ?_)
      · skip
        rw [if_pos c_74] at hf
        refine lv_aload_n hx hb dX14_level_82 rfl (lv_at hl 4 rfl) ?_
        obtain ⟨k_75, ek_75, hf⟩ := lnk_some hf
        refine va_get (D := (dC, dI)) (ci := 14) (v := .ref (a k_75)) (C := RX14) (T := TX14) (N := 11) hx hb hts iwd_X14_level_X14 hown hK hP h0 (Wd_ob kg_5 sg_5 (by decide)) rfl 8 (by decide) (hts _ md_X14_level_3) (fun _ h9 => h9) (fl_q rfl ek_75) dX14_level_83 ?_
        refine lv_iload_n hx hb dX14_level_86 rfl (lv_at hl 2 rfl) ?_
        obtain ⟨g_76, hf⟩ := grd_some hf
        obtain ⟨kg_76, sg_76, ig_76⟩ := okA_at g_76
        refine va_iald hx hb hK hP k_75 1 (Wd_ai kg_76 sg_76) rfl ig_76 dX14_level_87 ?_
        exact B88 (z_10, (z_10.1 k_75 p_2.toNatClampNeg)) ls H locs ⟨lv_sub hl [0, 1, 2, 3, 4, 5] rfl, hP, hD, hS⟩ hf
      · skip
        rw [if_neg c_74] at hf
        refine lv_aload_n hx hb dX14_level_64 rfl (lv_at hl 4 rfl) ?_
        obtain ⟨k_77, ek_77, hf⟩ := lnk_some hf
        refine va_get (D := (dC, dI)) (ci := 14) (v := .ref (a k_77)) (C := RX14) (T := TX14) (N := 11) hx hb hts iwd_X14_level_X14 hown hK hP h0 (Wd_ob kg_5 sg_5 (by decide)) rfl 8 (by decide) (hts _ md_X14_level_3) (fun _ h9 => h9) (fl_q rfl ek_77) dX14_level_65 ?_
        refine lv_iload_n hx hb dX14_level_68 rfl (lv_at hl 2 rfl) ?_
        obtain ⟨g_78, hf⟩ := grd_some hf
        obtain ⟨kg_78, sg_78, ig_78⟩ := okA_at g_78
        refine va_iald hx hb hK hP k_77 1 (Wd_ai kg_78 sg_78) rfl ig_78 dX14_level_69 ?_
        refine lv_aload_n hx hb dX14_level_70 rfl (lv_at hl 4 rfl) ?_
        obtain ⟨k_79, ek_79, hf⟩ := lnk_some hf
        refine va_get (D := (dC, dI)) (ci := 14) (v := .ref (a k_79)) (C := RX14) (T := TX14) (N := 11) hx hb hts iwd_X14_level_X14 hown hK hP h0 (Wd_ob kg_5 sg_5 (by decide)) rfl 8 (by decide) (hts _ md_X14_level_3) (fun _ h9 => h9) (fl_q rfl ek_79) dX14_level_71 ?_
        refine lv_iload_n hx hb dX14_level_74 rfl (lv_at hl 2 rfl) ?_
        refine lv_iconst (v := 1) hx hb dX14_level_75 (by decide) ?_
        refine lv_iadd hx hb dX14_level_76 ?_
        obtain ⟨g_80, hf⟩ := grd_some hf
        obtain ⟨kg_80, sg_80, ig_80⟩ := okA_at g_80
        refine va_iald hx hb hK hP k_79 1 (Wd_ai kg_80 sg_80) rfl ig_80 dX14_level_77 ?_
        refine lv_iadd hx hb dX14_level_78 ?_
        refine lv_goto (tgt := 88) hx hb dX14_level_79 (by decide) ?_
        exact B88 (z_10, ((z_10.1 k_77 p_2.toNatClampNeg) + (z_10.1 k_79 (p_2 + 1).toNatClampNeg))) ls H locs ⟨lv_sub hl [0, 1, 2, 3, 4, 5] rfl, hP, hD, hS⟩ hf
    refine de_cut (h := 48) (fun (x : St) => []) (fun x ls H locs => lv_has ls 8 [(3, .int p_2), (2, .int p_1), (0, .ref (a h0)), (1, .int x0)] ∧ va_P (dC, dI) vwCl (Wd cy a sh n x) H ∧ va_D A (Wd cy a sh n x) ∧ va_S A s.heap H locs) (fun x => fn_X14_level_B48 F sh n h0 p_2 p_1 x0 (fun z9 q2 q3 => fn_X14_level_L4 F sh n h0 x0 f_4 z9 q2 q3) x) (z8, r8) ?_ (fun B48 => ?_)
    · intro x ls H locs hI hf
      obtain ⟨z_81, ez⟩ : ∃ w, w = x := ⟨_, rfl⟩
      subst ez
      obtain ⟨hl2, hP2, hD2, hS2⟩ := hI
      replace hl : lv_has ls 8 [(3, .int p_2), (2, .int p_1), (0, .ref (a h0)), (1, .int x0)] := hl2
      replace hP := hP2
      replace hD := hD2
      replace hS := hS2
      clear hl2 hP2 hD2 hS2
      replace hf := fn_X14_level_B48_s hf
      refine W.eq (g2 := F0 m 48 ls []) rfl ?_
      refine lv_iconst (v := 0) hx hb dX14_level_48 (by decide) ?_
      exact B49 (z_81, 0) ls H locs ⟨lv_sub hl [0, 1, 2, 3] rfl, hP, hD, hS⟩ hf
    refine lv_icmp_ge (tgt := 48) hx hb dX14_level_19 (by decide) (fun c_82 => ?_) (fun c_82 => ?_)
    · skip
      rw [if_pos c_82] at hf
      exact B48 (z_3) ls H locs ⟨lv_sub hl [0, 1, 2, 3] rfl, hP, hD, hS⟩ hf
    · skip
      rw [if_neg c_82] at hf
      refine lv_aload_n hx hb dX14_level_22 rfl (lv_at hl 2 rfl) ?_
      refine lv_aload_n hx hb dX14_level_23 rfl (lv_at hl 2 rfl) ?_
      obtain ⟨k_83, ek_83, hf⟩ := lnk_some hf
      refine va_get (D := (dC, dI)) (ci := 14) (v := .ref (a k_83)) (C := RX14) (T := TX14) (N := 11) hx hb hts iwd_X14_level_X14 hown hK hP h0 (Wd_ob kg_5 sg_5 (by decide)) rfl 7 (by decide) (hts _ md_X14_level_2) (fun _ h9 => h9) (fl_q rfl ek_83) dX14_level_24 ?_
      refine lv_iload_n hx hb dX14_level_27 rfl (lv_at hl 0 rfl) ?_
      obtain ⟨g_84, hf⟩ := grd_some hf
      obtain ⟨kg_84, sg_84, ig_84⟩ := okA_at g_84
      refine va_iald hx hb hK hP k_83 1 (Wd_ai kg_84 sg_84) rfl ig_84 dX14_level_28 ?_
      refine lv_aload_n hx hb dX14_level_29 rfl (lv_at hl 2 rfl) ?_
      obtain ⟨k_85, ek_85, hf⟩ := lnk_some hf
      refine va_get (D := (dC, dI)) (ci := 14) (v := .ref (a k_85)) (C := RX14) (T := TX14) (N := 11) hx hb hts iwd_X14_level_X14 hown hK hP h0 (Wd_ob kg_5 sg_5 (by decide)) rfl 7 (by decide) (hts _ md_X14_level_2) (fun _ h9 => h9) (fl_q rfl ek_85) dX14_level_30 ?_
      refine lv_iload_n hx hb dX14_level_33 rfl (lv_at hl 0 rfl) ?_
      refine lv_iconst (v := 1) hx hb dX14_level_34 (by decide) ?_
      refine lv_iadd hx hb dX14_level_35 ?_
      obtain ⟨g_86, hf⟩ := grd_some hf
      obtain ⟨kg_86, sg_86, ig_86⟩ := okA_at g_86
      refine va_iald hx hb hK hP k_85 1 (Wd_ai kg_86 sg_86) rfl ig_86 dX14_level_36 ?_
      refine lv_iload_n hx hb dX14_level_37 rfl (lv_at hl 3 rfl) ?_
      obtain ⟨z_87, r_88, hfc, hf⟩ := cal_some hf
      have hFc := de_free hD hS hA
      refine va_calli (va_runV (As := [.int (z_3.1 k_83 p_2.toNatClampNeg), .int (z_3.1 k_85 (p_2 + 1).toNatClampNeg), .int x0]) (rest := []) ⟨hx, hb, hml, hown, hts⟩ (de_X14_agree l dC dI cy a sh n H.size F z_3 h0 (z_3.1 k_83 p_2.toNatClampNeg) (z_3.1 k_85 (p_2 + 1).toNatClampNeg) x0 hfc) (cwV 3 hts gX14_level_X14_agree rfl rfl rfl (by decide +kernel) ⟨Nat.le_of_ble_eq_true rfl, Nat.le_of_ble_eq_true rfl⟩) ⟨fun a U g mk q => by obtain ⟨q0, q1, qP, qK, qD, qN⟩ := q; exact ⟨q0, q1, qP, va_K.moved (u := U) (U := U.calling g mk a) (Vm.Alike.refl U.vm) qK, qD, qN.same rfl⟩, va_recv hK hP (ci := 14) (q0 := h0) rfl (Wd_ob kg_5 sg_5 (by decide)), fun U hU hW => ⟨rfl, by rw [hU], by rw [hU]; exact hP, va_K.moved hW.alike hK, hD.weaken (fun _ _ _ _ => trivial), hN.warm hW⟩⟩ rfl rfl hl.1 rfl (lv_room (Nat.le_of_ble_eq_true rfl)) dX14_level_38 ⟨Nat.le_of_ble_eq_true rfl, Nat.le_of_ble_eq_true rfl⟩) hS (fun q _ h => hFc q h) hFc (fun rr u t H_89 locs ht hvm hw hB hz1 hk1 hS2 => ?_)
      rw [hw]
      clear hw
      obtain ⟨hP1, -, hD1⟩ := hB
      rw [ht] at hP1
      replace hD := hD1.weaken (fun _ _ _ h => hFc _ h)
      replace hP := hP1
      replace hS := hS2
      clear hP1 hD1 hS2 hFc hfc hz1 hk1 hvm ht
      refine lv_if_eq (tgt := 48) hx hb dX14_level_41 (by decide) (fun c_90 => ?_) (fun c_90 => ?_)
      · skip
        rw [if_pos c_90] at hf
        exact B48 (z_87) ls H_89 locs ⟨lv_sub hl [0, 1, 2, 3] rfl, hP, hD, hS⟩ hf
      · skip
        rw [if_neg c_90] at hf
        refine lv_iconst (v := 1) hx hb dX14_level_44 (by decide) ?_
        refine lv_goto (tgt := 49) hx hb dX14_level_45 (by decide) ?_
        exact B49 (z_87, 1) ls H_89 locs ⟨lv_sub hl [0, 1, 2, 3] rfl, hP, hD, hS⟩ hf

theorem md_X13_onLocal_1 : (.fieldLink RX13 7 "ResourceLedgerModel$Looker" "localTypes" "[J" : Cond) ∈ wsX13_onLocal := List.mem_of_getElem? (i := 1) rfl
theorem iwd_X13_onLocal_X13 : ∀ w ∈ wsX130, w ∈ wsX13_onLocal := fun _ h => List.mem_cons_of_mem _ (List.mem_append_left _ (List.mem_append_right _ h))
theorem md_X13_onLocal_2 : (.fieldLink RX13 39 "ResourceLedgerModel$Looker" "there" "[Z" : Cond) ∈ wsX13_onLocal := List.mem_of_getElem? (i := 2) rfl
theorem md_X13_onLocal_4 : (.fieldLink RX13 42 "ResourceLedgerModel$Looker" "points" "[J" : Cond) ∈ wsX13_onLocal := List.mem_of_getElem? (i := 4) rfl
theorem md_X13_onLocal_6 : (.fieldLink RX13 45 "ResourceLedgerModel$Looker" "within" "[Z" : Cond) ∈ wsX13_onLocal := List.mem_of_getElem? (i := 6) rfl
theorem md_X13_onLocal_3 : (.fieldLink RX13 48 "ResourceLedgerModel$Looker" "fault" "I" : Cond) ∈ wsX13_onLocal := List.mem_of_getElem? (i := 3) rfl
theorem md_X13_onLocal_7 : (.fieldLink RX13 106 "ResourceLedgerModel$Looker" "takenInside" "Z" : Cond) ∈ wsX13_onLocal := List.mem_of_getElem? (i := 7) rfl
theorem md_X13_onLocal_5 : (.fieldLink RX13 103 "ResourceLedgerModel$Looker" "takenOrigins" "J" : Cond) ∈ wsX13_onLocal := List.mem_of_getElem? (i := 5) rfl
set_option maxHeartbeats 4000000 in
set_option maxRecDepth 100000 in
theorem de_X13_onLocal (l : Launch) (dC : Nat → ClassId) (dI : Nat → Nat → Nat) (cy : Nat → ClassId) (a : Nat → Nat) (sh : Nat → Nat × Nat) (n sz : Nat) (F : Nat) (z : St) (h0 : Nat) (x0 : Int32) (x1 : Int32) {z8 : St} {r8 : Unit} (hf : fn_X13_onLocal F sh n z h0 x0 x1 = some (z8, r8)) : Met l yX13_onLocal wsX13_onLocal ({ frames := 4, cells := 0, slots := 0, locals := 94 }) (va_Pc [.ref (a h0), .int x0, .int x1] (fun U => U.heap.size = sz ∧ va_P (dC, dI) vwCl (Wd cy a sh n z) U.heap ∧ va_K (dC, dI) vwCl (TYS cy) U ∧ va_D (fun _ => True) (Wd cy a sh n z) ∧ NK U)) (va_Qv (fun u : Unit => True) (fun u t => va_P (dC, dI) vwCl (Wd cy a sh n z8) t.heap ∧ va_K (dC, dI) vwCl (TYS cy) t ∧ va_D (va_A (Wd cy a sh n z) sz) (Wd cy a sh n z8)) (va_A (Wd cy a sh n z) sz)) 0 0 (va_A (Wd cy a sh n z) sz) := by
  refine Met.ofW (cc := cX13_onLocal) (maxL := 6) (ret := none) (by decide) rfl ?_
  intro p e s m args below meth c s₁ B hml hv
  obtain ⟨rfl, hsz, hP, hK, hD0, hN⟩ := hv
  have hx := B.exec
  have hb := B.bytes
  have hr := B.returns
  have hts := atoms_spec (ws := wsX13_onLocal) B.pre
  have hown : s.vm.findClass RX13 = some m.cls := findClass_of_methodNamed B.named
  have hlocks := B.notSynchronized
  subst hsz
  have hD := hD0.self (sz := s.heap.size)
  clear hD0
  generalize hAe : va_A (Wd cy a sh n z) s.heap.size = A at hD ⊢
  have hA : ∀ q : Nat, s.heap.size ≤ q → A q := fun q h => by rw [← hAe]; exact Or.inr h
  clear hAe
  have hS : va_S A s.heap s.heap [] := va_S.rf
  have hl := lv_entry ([.ref (a h0), .int x0, .int x1]) (n := 6) (Nat.le_of_ble_eq_true rfl)
  rw [lg_entry_eq]
  generalize (lg_sl ([.ref (a h0), .int x0, .int x1]) ++ List.replicate (6 - (lg_sl ([.ref (a h0), .int x0, .int x1])).length) Slot.unset).toArray = ls at hl ⊢
  replace hl : lv_has ls 6 [(0, .ref (a h0)), (1, .int x0), (2, .int x1)] := hl
  unfold fn_X13_onLocal at hf
  refine de_start hS hP (fun H locs hS hP => ?_)
  refine lv_aload_n hx hb dX13_onLocal_0 rfl (lv_at hl 0 rfl) ?_
  obtain ⟨g_1, hf⟩ := grd_some hf
  obtain ⟨kg_1, sg_1⟩ := okO_at g_1
  obtain ⟨k_2, ek_2, hf⟩ := lnk_some hf
  refine va_get (D := (dC, dI)) (ci := 13) (v := .ref (a k_2)) (C := RX13) (T := TX13) (N := 22) hx hb hts iwd_X13_onLocal_X13 hown hK hP h0 (Wd_ob kg_1 sg_1 (by decide)) rfl 3 (by decide) (hts _ md_X13_onLocal_1) (fun _ h9 => h9) (fl_q rfl ek_2) dX13_onLocal_1 ?_
  refine lv_iload_n hx hb dX13_onLocal_4 rfl (lv_at hl 2 rfl) ?_
  obtain ⟨g_3, hf⟩ := grd_some hf
  obtain ⟨kg_3, sg_3, ig_3⟩ := okA_at g_3
  refine va_lald hx hb hK hP k_2 2 (Wd_al kg_3 sg_3) rfl ig_3 dX13_onLocal_5 ?_
  refine lv_topl (fun v_4 ev_4 => ?_)
  replace hf := lt_at ev_4 hf
  clear ev_4
  refine lv_lstore_n (lv' := [(3, .long v_4), (0, .ref (a h0)), (1, .int x0), (2, .int x1)]) hx hb dX13_onLocal_6 rfl hl (by decide) rfl (fun ls hl2 => ?_)
  replace hl := hl2
  clear hl2
  refine lv_lload_n hx hb dX13_onLocal_7 rfl (lv_at hl 0 rfl) ?_
  obtain ⟨z_5, r_6, hfc, hf⟩ := cal_some hf
  have hFc := de_free hD hS hA
  refine va_calli (va_runS (As := [.long v_4]) (rest := []) ⟨hx, hb, hml, hown, hts⟩ (de_X13_isReference l dC dI cy a sh n H.size F z v_4 hfc) (va_cwS 1 hts gX13_onLocal_X13_isReference rfl rfl rfl (by decide +kernel) ⟨Nat.le_of_ble_eq_true rfl, Nat.le_of_ble_eq_true rfl⟩) ⟨fun a U g mk q => by obtain ⟨q0, q1, qP, qK, qD, qN⟩ := q; exact ⟨q0, q1, qP, va_K.moved (u := U) (U := U.calling g mk a) (Vm.Alike.refl U.vm) qK, qD, qN.same rfl⟩, fun U hU hW => ⟨rfl, by rw [hU], by rw [hU]; exact hP, va_K.moved hW.alike hK, hD.weaken (fun _ _ _ _ => trivial), hN.warm hW⟩⟩ rfl rfl hl.1 rfl (lv_room (Nat.le_of_ble_eq_true rfl)) dX13_onLocal_8 ⟨Nat.le_of_ble_eq_true rfl, Nat.le_of_ble_eq_true rfl⟩) hS (fun q _ h => hFc q h) hFc (fun rr u t H_7 locs ht hvm hw hB hz1 hk1 hS2 => ?_)
  rw [hw]
  clear hw
  obtain ⟨hP1, -, hD1⟩ := hB
  rw [ht] at hP1
  replace hD := hD1.weaken (fun _ _ _ h => hFc _ h)
  replace hP := hP1
  replace hS := hS2
  clear hP1 hD1 hS2 hFc hfc hz1 hk1 hvm ht
  refine de_cut (h := 19) (fun (x : St × Int32) => [.int x.2]) (fun x ls H locs => lv_has ls 6 [(3, .long v_4), (0, .ref (a h0)), (1, .int x0), (2, .int x1)] ∧ va_P (dC, dI) vwCl (Wd cy a sh n x.1) H ∧ va_D A (Wd cy a sh n x.1) ∧ va_S A s.heap H locs) (fun x => fn_X13_onLocal_B19 F sh n x0 h0 v_4 x1 x.1 x.2) (z8, r8) ?_ (fun B19 => ?_)
  · intro x ls H locs hI hf
    obtain ⟨z_9, p_8⟩ := x
    obtain ⟨hl2, hP2, hD2, hS2⟩ := hI
    replace hl : lv_has ls 6 [(3, .long v_4), (0, .ref (a h0)), (1, .int x0), (2, .int x1)] := hl2
    replace hP := hP2
    replace hD := hD2
    replace hS := hS2
    clear hl2 hP2 hD2 hS2
    replace hf := fn_X13_onLocal_B19_s hf
    refine W.eq (g2 := F0 m 19 ls [.int p_8]) rfl ?_
    refine lv_istore (lv' := [(5, .int p_8), (3, .long v_4), (0, .ref (a h0)), (1, .int x0), (2, .int x1)]) hx hb dX13_onLocal_19 hl (by decide) rfl (fun ls hl2 => ?_)
    replace hl := hl2
    clear hl2
    refine lv_iload_n hx hb dX13_onLocal_21 rfl (lv_at hl 3 rfl) ?_
    refine lv_bipush (v := 13) hx hb dX13_onLocal_22 (by decide) ?_
    refine lv_icmp_ne (tgt := 150) hx hb dX13_onLocal_24 (by decide) (fun c_10 => ?_) (fun c_10 => ?_)
    · skip
      rw [if_neg c_10] at hf
      refine lv_aload_n hx hb dX13_onLocal_150 rfl (lv_at hl 2 rfl) ?_
      refine lv_aload_n hx hb dX13_onLocal_151 rfl (lv_at hl 2 rfl) ?_
      obtain ⟨k_11, ek_11, hf⟩ := lnk_some hf
      refine va_get (D := (dC, dI)) (ci := 13) (v := .ref (a k_11)) (C := RX13) (T := TX13) (N := 22) hx hb hts iwd_X13_onLocal_X13 hown hK hP h0 (Wd_ob kg_1 sg_1 (by decide)) rfl 15 (by decide) (hts _ md_X13_onLocal_2) (fun _ h9 => h9) (fl_q rfl ek_11) dX13_onLocal_152 ?_
      refine lv_iload_n hx hb dX13_onLocal_155 rfl (lv_at hl 4 rfl) ?_
      obtain ⟨g_12, hf⟩ := grd_some hf
      obtain ⟨kg_12, sg_12, ig_12⟩ := okA_at g_12
      refine va_zald hx hb hK hP k_11 3 (Wd_az kg_12 sg_12) rfl ig_12 dX13_onLocal_156 ?_
      refine lv_iconst (v := 5) hx hb dX13_onLocal_157 (by decide) ?_
      obtain ⟨z_13, _u, hfc, hf⟩ := cal_some hf
      have hFc := de_free hD hS hA
      refine va_callv (va_runV (As := [.int (z_9.1 k_11 x1.toNatClampNeg), .int 5]) (rest := []) ⟨hx, hb, hml, hown, hts⟩ (de_X13_need l dC dI cy a sh n H.size F z_9 h0 (z_9.1 k_11 x1.toNatClampNeg) 5 hfc) (cwV 2 hts gX13_onLocal_X13_need rfl rfl rfl (by decide +kernel) ⟨Nat.le_of_ble_eq_true rfl, Nat.le_of_ble_eq_true rfl⟩) ⟨fun a U g mk q => by obtain ⟨q0, q1, qP, qK, qD, qN⟩ := q; exact ⟨q0, q1, qP, va_K.moved (u := U) (U := U.calling g mk a) (Vm.Alike.refl U.vm) qK, qD, qN.same rfl⟩, va_recv hK hP (ci := 13) (q0 := h0) rfl (Wd_ob kg_1 sg_1 (by decide)), fun U hU hW => ⟨rfl, by rw [hU], by rw [hU]; exact hP, va_K.moved hW.alike hK, hD.weaken (fun _ _ _ _ => trivial), hN.warm hW⟩⟩ rfl rfl hl.1 rfl (lv_room (Nat.le_of_ble_eq_true rfl)) dX13_onLocal_158 ⟨Nat.le_of_ble_eq_true rfl, Nat.le_of_ble_eq_true rfl⟩) hS (fun q _ h => hFc q h) hFc (fun u t H_14 locs ht hvm hw hB hz1 hk1 hS2 => ?_)
      obtain ⟨hP1, -, hD1⟩ := hB
      rw [ht] at hP1
      replace hD := hD1.weaken (fun _ _ _ h => hFc _ h)
      replace hP := hP1
      replace hS := hS2
      clear hP1 hD1 hS2 hFc hfc hz1 hk1 hvm ht
      refine lv_iload_n hx hb dX13_onLocal_161 rfl (lv_at hl 3 rfl) ?_
      refine lv_bipush (v := 11) hx hb dX13_onLocal_162 (by decide) ?_
      refine lv_icmp_ne (tgt := 223) hx hb dX13_onLocal_164 (by decide) (fun c_15 => ?_) (fun c_15 => ?_)
      · skip
        rw [if_neg c_15] at hf
        refine lv_iload_n hx hb dX13_onLocal_223 rfl (lv_at hl 3 rfl) ?_
        refine lv_bipush (v := 12) hx hb dX13_onLocal_224 (by decide) ?_
        refine lv_icmp_ne (tgt := 303) hx hb dX13_onLocal_226 (by decide) (fun c_16 => ?_) (fun c_16 => ?_)
        · skip
          rw [if_neg c_16] at hf
          refine lv_aload_n hx hb dX13_onLocal_303 rfl (lv_at hl 2 rfl) ?_
          refine lv_iload hx hb dX13_onLocal_304 (lv_at hl 0 rfl) ?_
          refine lv_iconst (v := 3) hx hb dX13_onLocal_306 (by decide) ?_
          obtain ⟨z_17, _u, hfc, hf⟩ := cal_some hf
          have hFc := de_free hD hS hA
          refine va_callv (va_runV (As := [.int p_8, .int 3]) (rest := []) ⟨hx, hb, hml, hown, hts⟩ (de_X13_need l dC dI cy a sh n H_14.size F z_13 h0 p_8 3 hfc) (cwV 2 hts gX13_onLocal_X13_need rfl rfl rfl (by decide +kernel) ⟨Nat.le_of_ble_eq_true rfl, Nat.le_of_ble_eq_true rfl⟩) ⟨fun a U g mk q => by obtain ⟨q0, q1, qP, qK, qD, qN⟩ := q; exact ⟨q0, q1, qP, va_K.moved (u := U) (U := U.calling g mk a) (Vm.Alike.refl U.vm) qK, qD, qN.same rfl⟩, va_recv hK hP (ci := 13) (q0 := h0) rfl (Wd_ob kg_1 sg_1 (by decide)), fun U hU hW => ⟨rfl, by rw [hU], by rw [hU]; exact hP, va_K.moved hW.alike hK, hD.weaken (fun _ _ _ _ => trivial), hN.warm hW⟩⟩ rfl rfl hl.1 rfl (lv_room (Nat.le_of_ble_eq_true rfl)) dX13_onLocal_307 ⟨Nat.le_of_ble_eq_true rfl, Nat.le_of_ble_eq_true rfl⟩) hS (fun q _ h => hFc q h) hFc (fun u t H_18 locs ht hvm hw hB hz1 hk1 hS2 => ?_)
          obtain ⟨hP1, -, hD1⟩ := hB
          rw [ht] at hP1
          replace hD := hD1.weaken (fun _ _ _ h => hFc _ h)
          replace hP := hP1
          replace hS := hS2
          clear hP1 hD1 hS2 hFc hfc hz1 hk1 hvm ht
          refine lv_aload_n hx hb dX13_onLocal_310 rfl (lv_at hl 2 rfl) ?_
          refine lv_aload_n hx hb dX13_onLocal_311 rfl (lv_at hl 2 rfl) ?_
          refine lv_iload_n hx hb dX13_onLocal_312 rfl (lv_at hl 4 rfl) ?_
          refine lv_iload_n hx hb dX13_onLocal_313 rfl (lv_at hl 3 rfl) ?_
          refine lv_bipush (v := 14) hx hb dX13_onLocal_314 (by decide) ?_
          refine de_cut (h := 324) (fun (x : St × Int32) => [.int x.2, .int x1, .ref (a h0), .ref (a h0)]) (fun x ls H locs => lv_has ls 6 [(3, .long v_4), (0, .ref (a h0)), (1, .int x0), (2, .int x1)] ∧ va_P (dC, dI) vwCl (Wd cy a sh n x.1) H ∧ va_D A (Wd cy a sh n x.1) ∧ va_S A s.heap H locs) (fun x => fn_X13_onLocal_B324 F sh n h0 x1 x0 v_4 x.1 x.2) (z8, r8) ?_ (fun B324 => ?_)
          · intro x ls H locs hI hf
            obtain ⟨z_20, p_19⟩ := x
            obtain ⟨hl2, hP2, hD2, hS2⟩ := hI
            replace hl : lv_has ls 6 [(3, .long v_4), (0, .ref (a h0)), (1, .int x0), (2, .int x1)] := hl2
            replace hP := hP2
            replace hD := hD2
            replace hS := hS2
            clear hl2 hP2 hD2 hS2
            replace hf := fn_X13_onLocal_B324_s hf
            refine W.eq (g2 := F0 m 324 ls [.int p_19, .int x1, .ref (a h0), .ref (a h0)]) rfl ?_
            obtain ⟨z_21, r_22, hfc, hf⟩ := cal_some hf
            have hFc := de_free hD hS hA
            refine va_calli (va_runV (As := [.int x1, .int p_19]) (rest := [.ref (a h0)]) ⟨hx, hb, hml, hown, hts⟩ (de_X13_isPointed l dC dI cy a sh n H.size F z_20 h0 x1 p_19 hfc) (cwV 2 hts gX13_onLocal_X13_isPointed rfl rfl rfl (by decide +kernel) ⟨Nat.le_of_ble_eq_true rfl, Nat.le_of_ble_eq_true rfl⟩) ⟨fun a U g mk q => by obtain ⟨q0, q1, qP, qK, qD, qN⟩ := q; exact ⟨q0, q1, qP, va_K.moved (u := U) (U := U.calling g mk a) (Vm.Alike.refl U.vm) qK, qD, qN.same rfl⟩, va_recv hK hP (ci := 13) (q0 := h0) rfl (Wd_ob kg_1 sg_1 (by decide)), fun U hU hW => ⟨rfl, by rw [hU], by rw [hU]; exact hP, va_K.moved hW.alike hK, hD.weaken (fun _ _ _ _ => trivial), hN.warm hW⟩⟩ rfl rfl hl.1 rfl (lv_room (Nat.le_of_ble_eq_true rfl)) dX13_onLocal_324 ⟨Nat.le_of_ble_eq_true rfl, Nat.le_of_ble_eq_true rfl⟩) hS (fun q _ h => hFc q h) hFc (fun rr u t H_23 locs ht hvm hw hB hz1 hk1 hS2 => ?_)
            rw [hw]
            clear hw
            obtain ⟨hP1, -, hD1⟩ := hB
            rw [ht] at hP1
            replace hD := hD1.weaken (fun _ _ _ h => hFc _ h)
            replace hP := hP1
            replace hS := hS2
            clear hP1 hD1 hS2 hFc hfc hz1 hk1 hvm ht
            refine de_cut (h := 335) (fun (x : St × Int32) => [.int x.2, .ref (a h0)]) (fun x ls H locs => lv_has ls 6 [(3, .long v_4), (0, .ref (a h0)), (1, .int x0), (2, .int x1)] ∧ va_P (dC, dI) vwCl (Wd cy a sh n x.1) H ∧ va_D A (Wd cy a sh n x.1) ∧ va_S A s.heap H locs) (fun x => fn_X13_onLocal_B335 F sh n h0 x0 v_4 x1 x.1 x.2) (z8, r8) ?_ (fun B335 => ?_)
            · intro x ls H locs hI hf
              obtain ⟨z_25, p_24⟩ := x
              obtain ⟨hl2, hP2, hD2, hS2⟩ := hI
              replace hl : lv_has ls 6 [(3, .long v_4), (0, .ref (a h0)), (1, .int x0), (2, .int x1)] := hl2
              replace hP := hP2
              replace hD := hD2
              replace hS := hS2
              clear hl2 hP2 hD2 hS2
              replace hf := fn_X13_onLocal_B335_s hf
              refine W.eq (g2 := F0 m 335 ls [.int p_24, .ref (a h0)]) rfl ?_
              refine lv_bipush (v := 6) hx hb dX13_onLocal_335 (by decide) ?_
              obtain ⟨z_26, _u, hfc, hf⟩ := cal_some hf
              have hFc := de_free hD hS hA
              refine va_callv (va_runV (As := [.int p_24, .int 6]) (rest := []) ⟨hx, hb, hml, hown, hts⟩ (de_X13_need l dC dI cy a sh n H.size F z_25 h0 p_24 6 hfc) (cwV 2 hts gX13_onLocal_X13_need rfl rfl rfl (by decide +kernel) ⟨Nat.le_of_ble_eq_true rfl, Nat.le_of_ble_eq_true rfl⟩) ⟨fun a U g mk q => by obtain ⟨q0, q1, qP, qK, qD, qN⟩ := q; exact ⟨q0, q1, qP, va_K.moved (u := U) (U := U.calling g mk a) (Vm.Alike.refl U.vm) qK, qD, qN.same rfl⟩, va_recv hK hP (ci := 13) (q0 := h0) rfl (Wd_ob kg_1 sg_1 (by decide)), fun U hU hW => ⟨rfl, by rw [hU], by rw [hU]; exact hP, va_K.moved hW.alike hK, hD.weaken (fun _ _ _ _ => trivial), hN.warm hW⟩⟩ rfl rfl hl.1 rfl (lv_room (Nat.le_of_ble_eq_true rfl)) dX13_onLocal_337 ⟨Nat.le_of_ble_eq_true rfl, Nat.le_of_ble_eq_true rfl⟩) hS (fun q _ h => hFc q h) hFc (fun u t H_27 locs ht hvm hw hB hz1 hk1 hS2 => ?_)
              obtain ⟨hP1, -, hD1⟩ := hB
              rw [ht] at hP1
              replace hD := hD1.weaken (fun _ _ _ h => hFc _ h)
              replace hP := hP1
              replace hS := hS2
              clear hP1 hD1 hS2 hFc hfc hz1 hk1 hvm ht
              refine lv_aload_n hx hb dX13_onLocal_340 rfl (lv_at hl 1 rfl) ?_
              refine lv_iload_n hx hb dX13_onLocal_341 rfl (lv_at hl 2 rfl) ?_
              refine lv_bipush (v := 14) hx hb dX13_onLocal_342 (by decide) ?_
              refine de_cut (h := 354) (fun (x : St × Int32) => [.int x.2, .ref (a h0)]) (fun x ls H locs => lv_has ls 6 [(3, .long v_4), (2, .int x1)] ∧ va_P (dC, dI) vwCl (Wd cy a sh n x.1) H ∧ va_D A (Wd cy a sh n x.1) ∧ va_S A s.heap H locs) (fun x => fn_X13_onLocal_B354 F sh n v_4 h0 x1 x.1 x.2) (z8, r8) ?_ (fun B354 => ?_)
              · intro x ls H locs hI hf
                obtain ⟨z_29, p_28⟩ := x
                obtain ⟨hl2, hP2, hD2, hS2⟩ := hI
                replace hl : lv_has ls 6 [(3, .long v_4), (2, .int x1)] := hl2
                replace hP := hP2
                replace hD := hD2
                replace hS := hS2
                clear hl2 hP2 hD2 hS2
                replace hf := fn_X13_onLocal_B354_s hf
                refine W.eq (g2 := F0 m 354 ls [.int p_28, .ref (a h0)]) rfl ?_
                refine lv_lload_n hx hb dX13_onLocal_354 rfl (lv_at hl 0 rfl) ?_
                obtain ⟨z_30, r_31, hfc, hf⟩ := cal_some hf
                have hFc := de_free hD hS hA
                refine va_calll (va_runS (As := [.int p_28, .long v_4]) (rest := [.ref (a h0)]) ⟨hx, hb, hml, hown, hts⟩ (de_X13_before l dC dI cy a sh n H.size F z_29 p_28 v_4 hfc) (va_cwS 2 hts gX13_onLocal_X13_before rfl rfl rfl (by decide +kernel) ⟨Nat.le_of_ble_eq_true rfl, Nat.le_of_ble_eq_true rfl⟩) ⟨fun a U g mk q => by obtain ⟨q0, q1, qP, qK, qD, qN⟩ := q; exact ⟨q0, q1, qP, va_K.moved (u := U) (U := U.calling g mk a) (Vm.Alike.refl U.vm) qK, qD, qN.same rfl⟩, fun U hU hW => ⟨rfl, by rw [hU], by rw [hU]; exact hP, va_K.moved hW.alike hK, hD.weaken (fun _ _ _ _ => trivial), hN.warm hW⟩⟩ rfl rfl hl.1 rfl (lv_room (Nat.le_of_ble_eq_true rfl)) dX13_onLocal_355 ⟨Nat.le_of_ble_eq_true rfl, Nat.le_of_ble_eq_true rfl⟩) hS (fun q _ h => hFc q h) hFc (fun rr u t H_32 locs ht hvm hw hB hz1 hk1 hS2 => ?_)
                rw [hw]
                clear hw
                obtain ⟨hP1, -, hD1⟩ := hB
                rw [ht] at hP1
                replace hD := hD1.weaken (fun _ _ _ h => hFc _ h)
                replace hP := hP1
                replace hS := hS2
                clear hP1 hD1 hS2 hFc hfc hz1 hk1 hvm ht
                refine lv_lconst (v := 1) hx hb dX13_onLocal_358 (by decide) ?_
                refine lv_iload_n hx hb dX13_onLocal_359 rfl (lv_at hl 1 rfl) ?_
                refine lv_lshl (v := (1 <<< ((x1 : Int32).toInt64 &&& 63))) hx hb dX13_onLocal_360 rfl ?_
                refine lv_iconst (v := 0) hx hb dX13_onLocal_361 (by decide) ?_
                obtain ⟨z_33, _u, hfc, hf⟩ := cal_some hf
                have hFc := de_free hD hS hA
                refine va_callv (va_runV (As := [.long r_31, .long ((1 <<< ((x1 : Int32).toInt64 &&& 63))), .int 0]) (rest := []) ⟨hx, hb, hml, hown, hts⟩ (de_X13_push l dC dI cy a sh n H_32.size F z_30 h0 r_31 ((1 <<< ((x1 : Int32).toInt64 &&& 63))) 0 hfc) (cwV 3 hts gX13_onLocal_X13_push rfl rfl rfl (by decide +kernel) ⟨Nat.le_of_ble_eq_true rfl, Nat.le_of_ble_eq_true rfl⟩) ⟨fun a U g mk q => by obtain ⟨q0, q1, qP, qK, qD, qN⟩ := q; exact ⟨q0, q1, qP, va_K.moved (u := U) (U := U.calling g mk a) (Vm.Alike.refl U.vm) qK, qD, qN.same rfl⟩, va_recv hK hP (ci := 13) (q0 := h0) rfl (Wd_ob kg_1 sg_1 (by decide)), fun U hU hW => ⟨rfl, by rw [hU], by rw [hU]; exact hP, va_K.moved hW.alike hK, hD.weaken (fun _ _ _ _ => trivial), hN.warm hW⟩⟩ rfl rfl hl.1 rfl (lv_room (Nat.le_of_ble_eq_true rfl)) dX13_onLocal_362 ⟨Nat.le_of_ble_eq_true rfl, Nat.le_of_ble_eq_true rfl⟩) hS (fun q _ h => hFc q h) hFc (fun u t H_34 locs ht hvm hw hB hz1 hk1 hS2 => ?_)
                obtain ⟨hP1, -, hD1⟩ := hB
                rw [ht] at hP1
                replace hD := hD1.weaken (fun _ _ _ h => hFc _ h)
                replace hP := hP1
                replace hS := hS2
                clear hP1 hD1 hS2 hFc hfc hz1 hk1 hvm ht
                obtain ⟨h8, h9⟩ := ret_some hf
                rw [h8]
                exact W.vret hx hb hr (fun t ht hW => ⟨⟨(), rfl, trivial, by rw [ht]; exact hP, va_K.moved hW.alike hK, hD⟩, hS.F ht⟩) hS.2.2 dX13_onLocal_365
              refine lv_icmp_ne (tgt := 352) hx hb dX13_onLocal_344 (by decide) (fun c_35 => ?_) (fun c_35 => ?_)
              · skip
                rw [if_neg c_35] at hf
                refine lv_bipush (v := 9) hx hb dX13_onLocal_352 (by decide) ?_
                exact B354 (z_26, 9) ls H_27 locs ⟨lv_sub hl [0, 3] rfl, hP, hD, hS⟩ hf
              · skip
                rw [if_pos c_35] at hf
                refine lv_bipush (v := 8) hx hb dX13_onLocal_347 (by decide) ?_
                refine lv_goto (tgt := 354) hx hb dX13_onLocal_349 (by decide) ?_
                exact B354 (z_26, 8) ls H_27 locs ⟨lv_sub hl [0, 3] rfl, hP, hD, hS⟩ hf
            refine lv_if_ne (tgt := 334) hx hb dX13_onLocal_327 (by decide) (fun c_36 => ?_) (fun c_36 => ?_)
            · skip
              rw [if_neg c_36] at hf
              refine lv_iconst (v := 0) hx hb dX13_onLocal_334 (by decide) ?_
              exact B335 (z_21, 0) ls H_23 locs ⟨lv_sub hl [0, 1, 2, 3] rfl, hP, hD, hS⟩ hf
            · skip
              rw [if_pos c_36] at hf
              refine lv_iconst (v := 1) hx hb dX13_onLocal_330 (by decide) ?_
              refine lv_goto (tgt := 335) hx hb dX13_onLocal_331 (by decide) ?_
              exact B335 (z_21, 1) ls H_23 locs ⟨lv_sub hl [0, 1, 2, 3] rfl, hP, hD, hS⟩ hf
          refine lv_icmp_ne (tgt := 323) hx hb dX13_onLocal_316 (by decide) (fun c_37 => ?_) (fun c_37 => ?_)
          · skip
            rw [if_neg c_37] at hf
            refine lv_iconst (v := 0) hx hb dX13_onLocal_323 (by decide) ?_
            exact B324 (z_17, 0) ls H_18 locs ⟨lv_sub hl [1, 2, 3, 4] rfl, hP, hD, hS⟩ hf
          · skip
            rw [if_pos c_37] at hf
            refine lv_iconst (v := 1) hx hb dX13_onLocal_319 (by decide) ?_
            refine lv_goto (tgt := 324) hx hb dX13_onLocal_320 (by decide) ?_
            exact B324 (z_17, 1) ls H_18 locs ⟨lv_sub hl [1, 2, 3, 4] rfl, hP, hD, hS⟩ hf
        · skip
          rw [if_pos c_16] at hf
          refine lv_aload_n hx hb dX13_onLocal_229 rfl (lv_at hl 2 rfl) ?_
          refine lv_iload hx hb dX13_onLocal_230 (lv_at hl 0 rfl) ?_
          refine de_cut (h := 249) (fun (x : St × Int32) => [.int x.2, .ref (a h0)]) (fun x ls H locs => lv_has ls 6 [(3, .long v_4), (0, .ref (a h0)), (2, .int x1)] ∧ va_P (dC, dI) vwCl (Wd cy a sh n x.1) H ∧ va_D A (Wd cy a sh n x.1) ∧ va_S A s.heap H locs) (fun x => fn_X13_onLocal_B249 F sh n h0 x1 v_4 x.1 x.2) (z8, r8) ?_ (fun B249 => ?_)
          · intro x ls H locs hI hf
            obtain ⟨z_39, p_38⟩ := x
            obtain ⟨hl2, hP2, hD2, hS2⟩ := hI
            replace hl : lv_has ls 6 [(3, .long v_4), (0, .ref (a h0)), (2, .int x1)] := hl2
            replace hP := hP2
            replace hD := hD2
            replace hS := hS2
            clear hl2 hP2 hD2 hS2
            replace hf := fn_X13_onLocal_B249_s hf
            refine W.eq (g2 := F0 m 249 ls [.int p_38, .ref (a h0)]) rfl ?_
            refine lv_bipush (v := 6) hx hb dX13_onLocal_249 (by decide) ?_
            obtain ⟨z_40, _u, hfc, hf⟩ := cal_some hf
            have hFc := de_free hD hS hA
            refine va_callv (va_runV (As := [.int p_38, .int 6]) (rest := []) ⟨hx, hb, hml, hown, hts⟩ (de_X13_need l dC dI cy a sh n H.size F z_39 h0 p_38 6 hfc) (cwV 2 hts gX13_onLocal_X13_need rfl rfl rfl (by decide +kernel) ⟨Nat.le_of_ble_eq_true rfl, Nat.le_of_ble_eq_true rfl⟩) ⟨fun a U g mk q => by obtain ⟨q0, q1, qP, qK, qD, qN⟩ := q; exact ⟨q0, q1, qP, va_K.moved (u := U) (U := U.calling g mk a) (Vm.Alike.refl U.vm) qK, qD, qN.same rfl⟩, va_recv hK hP (ci := 13) (q0 := h0) rfl (Wd_ob kg_1 sg_1 (by decide)), fun U hU hW => ⟨rfl, by rw [hU], by rw [hU]; exact hP, va_K.moved hW.alike hK, hD.weaken (fun _ _ _ _ => trivial), hN.warm hW⟩⟩ rfl rfl hl.1 rfl (lv_room (Nat.le_of_ble_eq_true rfl)) dX13_onLocal_251 ⟨Nat.le_of_ble_eq_true rfl, Nat.le_of_ble_eq_true rfl⟩) hS (fun q _ h => hFc q h) hFc (fun u t H_41 locs ht hvm hw hB hz1 hk1 hS2 => ?_)
            obtain ⟨hP1, -, hD1⟩ := hB
            rw [ht] at hP1
            replace hD := hD1.weaken (fun _ _ _ h => hFc _ h)
            replace hP := hP1
            replace hS := hS2
            clear hP1 hD1 hS2 hFc hfc hz1 hk1 hvm ht
            refine lv_aload_n hx hb dX13_onLocal_254 rfl (lv_at hl 1 rfl) ?_
            refine lv_lload_n hx hb dX13_onLocal_255 rfl (lv_at hl 0 rfl) ?_
            refine lv_aload_n hx hb dX13_onLocal_256 rfl (lv_at hl 1 rfl) ?_
            obtain ⟨k_42, ek_42, hf⟩ := lnk_some hf
            refine va_get (D := (dC, dI)) (ci := 13) (v := .ref (a k_42)) (C := RX13) (T := TX13) (N := 22) hx hb hts iwd_X13_onLocal_X13 hown hK hP h0 (Wd_ob kg_1 sg_1 (by decide)) rfl 16 (by decide) (hts _ md_X13_onLocal_4) (fun _ h9 => h9) (fl_q rfl ek_42) dX13_onLocal_257 ?_
            refine lv_iload_n hx hb dX13_onLocal_260 rfl (lv_at hl 2 rfl) ?_
            obtain ⟨g_43, hf⟩ := grd_some hf
            obtain ⟨kg_43, sg_43, ig_43⟩ := okA_at g_43
            refine va_lald hx hb hK hP k_42 2 (Wd_al kg_43 sg_43) rfl ig_43 dX13_onLocal_261 ?_
            refine lv_aload_n hx hb dX13_onLocal_262 rfl (lv_at hl 1 rfl) ?_
            obtain ⟨k_44, ek_44, hf⟩ := lnk_some hf
            refine va_get (D := (dC, dI)) (ci := 13) (v := .ref (a k_44)) (C := RX13) (T := TX13) (N := 22) hx hb hts iwd_X13_onLocal_X13 hown hK hP h0 (Wd_ob kg_1 sg_1 (by decide)) rfl 17 (by decide) (hts _ md_X13_onLocal_6) (fun _ h9 => h9) (fl_q rfl ek_44) dX13_onLocal_263 ?_
            refine lv_iload_n hx hb dX13_onLocal_266 rfl (lv_at hl 2 rfl) ?_
            obtain ⟨g_45, hf⟩ := grd_some hf
            obtain ⟨kg_45, sg_45, ig_45⟩ := okA_at g_45
            refine va_zald hx hb hK hP k_44 3 (Wd_az kg_45 sg_45) rfl ig_45 dX13_onLocal_267 ?_
            obtain ⟨z_46, _u, hfc, hf⟩ := cal_some hf
            have hFc := de_free hD hS hA
            refine va_callv (va_runV (As := [.long v_4, .long (z_40.2.1 k_42 x1.toNatClampNeg), .int (z_40.1 k_44 x1.toNatClampNeg)]) (rest := []) ⟨hx, hb, hml, hown, hts⟩ (de_X13_push l dC dI cy a sh n H_41.size F z_40 h0 v_4 (z_40.2.1 k_42 x1.toNatClampNeg) (z_40.1 k_44 x1.toNatClampNeg) hfc) (cwV 3 hts gX13_onLocal_X13_push rfl rfl rfl (by decide +kernel) ⟨Nat.le_of_ble_eq_true rfl, Nat.le_of_ble_eq_true rfl⟩) ⟨fun a U g mk q => by obtain ⟨q0, q1, qP, qK, qD, qN⟩ := q; exact ⟨q0, q1, qP, va_K.moved (u := U) (U := U.calling g mk a) (Vm.Alike.refl U.vm) qK, qD, qN.same rfl⟩, va_recv hK hP (ci := 13) (q0 := h0) rfl (Wd_ob kg_1 sg_1 (by decide)), fun U hU hW => ⟨rfl, by rw [hU], by rw [hU]; exact hP, va_K.moved hW.alike hK, hD.weaken (fun _ _ _ _ => trivial), hN.warm hW⟩⟩ rfl rfl hl.1 rfl (lv_room (Nat.le_of_ble_eq_true rfl)) dX13_onLocal_268 ⟨Nat.le_of_ble_eq_true rfl, Nat.le_of_ble_eq_true rfl⟩) hS (fun q _ h => hFc q h) hFc (fun u t H_47 locs ht hvm hw hB hz1 hk1 hS2 => ?_)
            obtain ⟨hP1, -, hD1⟩ := hB
            rw [ht] at hP1
            replace hD := hD1.weaken (fun _ _ _ h => hFc _ h)
            replace hP := hP1
            replace hS := hS2
            clear hP1 hD1 hS2 hFc hfc hz1 hk1 hvm ht
            refine lv_aload_n hx hb dX13_onLocal_271 rfl (lv_at hl 1 rfl) ?_
            refine va_get (D := (dC, dI)) (ci := 13) (v := .int (z_46.1 h0 18)) (C := RX13) (T := TX13) (N := 22) hx hb hts iwd_X13_onLocal_X13 hown hK hP h0 (Wd_ob kg_1 sg_1 (by decide)) rfl 18 (by decide) (hts _ md_X13_onLocal_3) (fun _ h9 => h9) (fl_at (t := 0) rfl) dX13_onLocal_272 ?_
            refine lv_if_eq (tgt := 279) hx hb dX13_onLocal_275 (by decide) (fun c_48 => ?_) (fun c_48 => ?_)
            · skip
              rw [if_pos c_48] at hf
              refine lv_aload_n hx hb dX13_onLocal_279 rfl (lv_at hl 1 rfl) ?_
              obtain ⟨k_49, ek_49, hf⟩ := lnk_some hf
              refine va_get (D := (dC, dI)) (ci := 13) (v := .ref (a k_49)) (C := RX13) (T := TX13) (N := 22) hx hb hts iwd_X13_onLocal_X13 hown hK hP h0 (Wd_ob kg_1 sg_1 (by decide)) rfl 15 (by decide) (hts _ md_X13_onLocal_2) (fun _ h9 => h9) (fl_q rfl ek_49) dX13_onLocal_280 ?_
              refine lv_iload_n hx hb dX13_onLocal_283 rfl (lv_at hl 2 rfl) ?_
              refine lv_iconst (v := 0) hx hb dX13_onLocal_284 (by decide) ?_
              obtain ⟨g_50, hf⟩ := grd_some hf
              obtain ⟨kg_50, sg_50, ig_50⟩ := okA_at g_50
              refine va_zast hx hb hK hP hD hS k_49 3 (Wd_az kg_50 sg_50) rfl ig_50 dX13_onLocal_285 (fun H_51 locs hP2 hD2 hS2 => ?_)
              rw [Wd_tz sg_50] at hP2 hD2
              obtain ⟨z_52, ez_52⟩ : ∃ w, w = si z_46 k_49 x1.toNatClampNeg (vp_nar .boolean 0) := ⟨_, rfl⟩
              rw [← ez_52] at hP2 hD2
              replace hf := lt_at ez_52 hf
              clear ez_52
              replace hP := hP2
              replace hD := hD2
              replace hS := hS2
              clear hP2 hD2 hS2
              refine lv_aload_n hx hb dX13_onLocal_286 rfl (lv_at hl 1 rfl) ?_
              obtain ⟨k_53, ek_53, hf⟩ := lnk_some hf
              refine va_get (D := (dC, dI)) (ci := 13) (v := .ref (a k_53)) (C := RX13) (T := TX13) (N := 22) hx hb hts iwd_X13_onLocal_X13 hown hK hP h0 (Wd_ob kg_1 sg_1 (by decide)) rfl 16 (by decide) (hts _ md_X13_onLocal_4) (fun _ h9 => h9) (fl_q rfl ek_53) dX13_onLocal_287 ?_
              refine lv_iload_n hx hb dX13_onLocal_290 rfl (lv_at hl 2 rfl) ?_
              refine lv_lconst (v := 0) hx hb dX13_onLocal_291 (by decide) ?_
              obtain ⟨g_54, hf⟩ := grd_some hf
              obtain ⟨kg_54, sg_54, ig_54⟩ := okA_at g_54
              refine va_last hx hb hK hP hD hS k_53 2 (Wd_al kg_54 sg_54) rfl ig_54 dX13_onLocal_292 (fun H_55 locs hP2 hD2 hS2 => ?_)
              rw [Wd_tl sg_54] at hP2 hD2
              obtain ⟨z_56, ez_56⟩ : ∃ w, w = sl z_52 k_53 x1.toNatClampNeg 0 := ⟨_, rfl⟩
              rw [← ez_56] at hP2 hD2
              replace hf := lt_at ez_56 hf
              clear ez_56
              replace hP := hP2
              replace hD := hD2
              replace hS := hS2
              clear hP2 hD2 hS2
              refine lv_aload_n hx hb dX13_onLocal_293 rfl (lv_at hl 1 rfl) ?_
              obtain ⟨k_57, ek_57, hf⟩ := lnk_some hf
              refine va_get (D := (dC, dI)) (ci := 13) (v := .ref (a k_57)) (C := RX13) (T := TX13) (N := 22) hx hb hts iwd_X13_onLocal_X13 hown hK hP h0 (Wd_ob kg_1 sg_1 (by decide)) rfl 17 (by decide) (hts _ md_X13_onLocal_6) (fun _ h9 => h9) (fl_q rfl ek_57) dX13_onLocal_294 ?_
              refine lv_iload_n hx hb dX13_onLocal_297 rfl (lv_at hl 2 rfl) ?_
              refine lv_iconst (v := 0) hx hb dX13_onLocal_298 (by decide) ?_
              obtain ⟨g_58, hf⟩ := grd_some hf
              obtain ⟨kg_58, sg_58, ig_58⟩ := okA_at g_58
              refine va_zast hx hb hK hP hD hS k_57 3 (Wd_az kg_58 sg_58) rfl ig_58 dX13_onLocal_299 (fun H_59 locs hP2 hD2 hS2 => ?_)
              rw [Wd_tz sg_58] at hP2 hD2
              obtain ⟨z_60, ez_60⟩ : ∃ w, w = si z_56 k_57 x1.toNatClampNeg (vp_nar .boolean 0) := ⟨_, rfl⟩
              rw [← ez_60] at hP2 hD2
              replace hf := lt_at ez_60 hf
              clear ez_60
              replace hP := hP2
              replace hD := hD2
              replace hS := hS2
              clear hP2 hD2 hS2
              refine lv_goto (tgt := 365) hx hb dX13_onLocal_300 (by decide) ?_
              obtain ⟨h8, h9⟩ := ret_some hf
              rw [h8]
              exact W.vret hx hb hr (fun t ht hW => ⟨⟨(), rfl, trivial, by rw [ht]; exact hP, va_K.moved hW.alike hK, hD⟩, hS.F ht⟩) hS.2.2 dX13_onLocal_365
            · skip
              rw [if_neg c_48] at hf
              obtain ⟨h8, h9⟩ := ret_some hf
              rw [h8]
              exact W.vret hx hb hr (fun t ht hW => ⟨⟨(), rfl, trivial, by rw [ht]; exact hP, va_K.moved hW.alike hK, hD⟩, hS.F ht⟩) hS.2.2 dX13_onLocal_278
          refine de_cut (h := 244) (fun (x : St) => [.ref (a h0)]) (fun x ls H locs => lv_has ls 6 [(3, .long v_4), (0, .ref (a h0)), (2, .int x1)] ∧ va_P (dC, dI) vwCl (Wd cy a sh n x) H ∧ va_D A (Wd cy a sh n x) ∧ va_S A s.heap H locs) (fun x => fn_X13_onLocal_B244 F sh n h0 x1 v_4 x) (z8, r8) ?_ (fun B244 => ?_)
          · intro x ls H locs hI hf
            obtain ⟨z_61, ez⟩ : ∃ w, w = x := ⟨_, rfl⟩
            subst ez
            obtain ⟨hl2, hP2, hD2, hS2⟩ := hI
            replace hl : lv_has ls 6 [(3, .long v_4), (0, .ref (a h0)), (2, .int x1)] := hl2
            replace hP := hP2
            replace hD := hD2
            replace hS := hS2
            clear hl2 hP2 hD2 hS2
            replace hf := fn_X13_onLocal_B244_s hf
            refine W.eq (g2 := F0 m 244 ls [.ref (a h0)]) rfl ?_
            refine lv_iconst (v := 1) hx hb dX13_onLocal_244 (by decide) ?_
            refine lv_goto (tgt := 249) hx hb dX13_onLocal_245 (by decide) ?_
            exact B249 (z_61, 1) ls H locs ⟨lv_sub hl [0, 1, 2] rfl, hP, hD, hS⟩ hf
          refine lv_if_eq (tgt := 244) hx hb dX13_onLocal_232 (by decide) (fun c_62 => ?_) (fun c_62 => ?_)
          · skip
            rw [if_pos c_62] at hf
            exact B244 (z_13) ls H_14 locs ⟨lv_sub hl [1, 2, 4] rfl, hP, hD, hS⟩ hf
          · skip
            rw [if_neg c_62] at hf
            refine lv_aload_n hx hb dX13_onLocal_235 rfl (lv_at hl 2 rfl) ?_
            refine lv_iload_n hx hb dX13_onLocal_236 rfl (lv_at hl 4 rfl) ?_
            refine lv_iconst (v := 0) hx hb dX13_onLocal_237 (by decide) ?_
            obtain ⟨z_63, r_64, hfc, hf⟩ := cal_some hf
            have hFc := de_free hD hS hA
            refine va_calli (va_runV (As := [.int x1, .int 0]) (rest := [.ref (a h0)]) ⟨hx, hb, hml, hown, hts⟩ (de_X13_isPointed l dC dI cy a sh n H_14.size F z_13 h0 x1 0 hfc) (cwV 2 hts gX13_onLocal_X13_isPointed rfl rfl rfl (by decide +kernel) ⟨Nat.le_of_ble_eq_true rfl, Nat.le_of_ble_eq_true rfl⟩) ⟨fun a U g mk q => by obtain ⟨q0, q1, qP, qK, qD, qN⟩ := q; exact ⟨q0, q1, qP, va_K.moved (u := U) (U := U.calling g mk a) (Vm.Alike.refl U.vm) qK, qD, qN.same rfl⟩, va_recv hK hP (ci := 13) (q0 := h0) rfl (Wd_ob kg_1 sg_1 (by decide)), fun U hU hW => ⟨rfl, by rw [hU], by rw [hU]; exact hP, va_K.moved hW.alike hK, hD.weaken (fun _ _ _ _ => trivial), hN.warm hW⟩⟩ rfl rfl hl.1 rfl (lv_room (Nat.le_of_ble_eq_true rfl)) dX13_onLocal_238 ⟨Nat.le_of_ble_eq_true rfl, Nat.le_of_ble_eq_true rfl⟩) hS (fun q _ h => hFc q h) hFc (fun rr u t H_65 locs ht hvm hw hB hz1 hk1 hS2 => ?_)
            rw [hw]
            clear hw
            obtain ⟨hP1, -, hD1⟩ := hB
            rw [ht] at hP1
            replace hD := hD1.weaken (fun _ _ _ h => hFc _ h)
            replace hP := hP1
            replace hS := hS2
            clear hP1 hD1 hS2 hFc hfc hz1 hk1 hvm ht
            refine lv_if_ne (tgt := 248) hx hb dX13_onLocal_241 (by decide) (fun c_66 => ?_) (fun c_66 => ?_)
            · skip
              rw [if_neg c_66] at hf
              refine lv_iconst (v := 0) hx hb dX13_onLocal_248 (by decide) ?_
              exact B249 (z_63, 0) ls H_65 locs ⟨lv_sub hl [1, 2, 4] rfl, hP, hD, hS⟩ hf
            · skip
              rw [if_pos c_66] at hf
              exact B244 (z_63) ls H_65 locs ⟨lv_sub hl [1, 2, 4] rfl, hP, hD, hS⟩ hf
      · skip
        rw [if_pos c_15] at hf
        refine lv_aload_n hx hb dX13_onLocal_167 rfl (lv_at hl 2 rfl) ?_
        refine lv_aload_n hx hb dX13_onLocal_168 rfl (lv_at hl 2 rfl) ?_
        refine lv_lload_n hx hb dX13_onLocal_169 rfl (lv_at hl 1 rfl) ?_
        refine lv_iconst (v := 1) hx hb dX13_onLocal_170 (by decide) ?_
        obtain ⟨z_67, r_68, hfc, hf⟩ := cal_some hf
        have hFc := de_free hD hS hA
        refine va_calli (va_runV (As := [.long v_4, .int 1]) (rest := [.ref (a h0)]) ⟨hx, hb, hml, hown, hts⟩ (de_X13_has l dC dI cy a sh n H_14.size F z_13 h0 v_4 1 hfc) (cwV 2 hts gX13_onLocal_X13_has rfl rfl rfl (by decide +kernel) ⟨Nat.le_of_ble_eq_true rfl, Nat.le_of_ble_eq_true rfl⟩) ⟨fun a U g mk q => by obtain ⟨q0, q1, qP, qK, qD, qN⟩ := q; exact ⟨q0, q1, qP, va_K.moved (u := U) (U := U.calling g mk a) (Vm.Alike.refl U.vm) qK, qD, qN.same rfl⟩, va_recv hK hP (ci := 13) (q0 := h0) rfl (Wd_ob kg_1 sg_1 (by decide)), fun U hU hW => ⟨rfl, by rw [hU], by rw [hU]; exact hP, va_K.moved hW.alike hK, hD.weaken (fun _ _ _ _ => trivial), hN.warm hW⟩⟩ rfl rfl hl.1 rfl (lv_room (Nat.le_of_ble_eq_true rfl)) dX13_onLocal_171 ⟨Nat.le_of_ble_eq_true rfl, Nat.le_of_ble_eq_true rfl⟩) hS (fun q _ h => hFc q h) hFc (fun rr u t H_69 locs ht hvm hw hB hz1 hk1 hS2 => ?_)
        rw [hw]
        clear hw
        obtain ⟨hP1, -, hD1⟩ := hB
        rw [ht] at hP1
        replace hD := hD1.weaken (fun _ _ _ h => hFc _ h)
        replace hP := hP1
        replace hS := hS2
        clear hP1 hD1 hS2 hFc hfc hz1 hk1 hvm ht
        refine lv_iconst (v := 4) hx hb dX13_onLocal_174 (by decide) ?_
        obtain ⟨z_70, _u, hfc, hf⟩ := cal_some hf
        have hFc := de_free hD hS hA
        refine va_callv (va_runV (As := [.int r_68, .int 4]) (rest := []) ⟨hx, hb, hml, hown, hts⟩ (de_X13_need l dC dI cy a sh n H_69.size F z_67 h0 r_68 4 hfc) (cwV 2 hts gX13_onLocal_X13_need rfl rfl rfl (by decide +kernel) ⟨Nat.le_of_ble_eq_true rfl, Nat.le_of_ble_eq_true rfl⟩) ⟨fun a U g mk q => by obtain ⟨q0, q1, qP, qK, qD, qN⟩ := q; exact ⟨q0, q1, qP, va_K.moved (u := U) (U := U.calling g mk a) (Vm.Alike.refl U.vm) qK, qD, qN.same rfl⟩, va_recv hK hP (ci := 13) (q0 := h0) rfl (Wd_ob kg_1 sg_1 (by decide)), fun U hU hW => ⟨rfl, by rw [hU], by rw [hU]; exact hP, va_K.moved hW.alike hK, hD.weaken (fun _ _ _ _ => trivial), hN.warm hW⟩⟩ rfl rfl hl.1 rfl (lv_room (Nat.le_of_ble_eq_true rfl)) dX13_onLocal_175 ⟨Nat.le_of_ble_eq_true rfl, Nat.le_of_ble_eq_true rfl⟩) hS (fun q _ h => hFc q h) hFc (fun u t H_71 locs ht hvm hw hB hz1 hk1 hS2 => ?_)
        obtain ⟨hP1, -, hD1⟩ := hB
        rw [ht] at hP1
        replace hD := hD1.weaken (fun _ _ _ h => hFc _ h)
        replace hP := hP1
        replace hS := hS2
        clear hP1 hD1 hS2 hFc hfc hz1 hk1 hvm ht
        refine lv_aload_n hx hb dX13_onLocal_178 rfl (lv_at hl 2 rfl) ?_
        refine lv_iload hx hb dX13_onLocal_179 (lv_at hl 0 rfl) ?_
        refine de_cut (h := 198) (fun (x : St × Int32) => [.int x.2, .ref (a h0)]) (fun x ls H locs => lv_has ls 6 [(3, .long v_4), (0, .ref (a h0)), (2, .int x1)] ∧ va_P (dC, dI) vwCl (Wd cy a sh n x.1) H ∧ va_D A (Wd cy a sh n x.1) ∧ va_S A s.heap H locs) (fun x => fn_X13_onLocal_B198 F sh n h0 x1 v_4 x.1 x.2) (z8, r8) ?_ (fun B198 => ?_)
        · intro x ls H locs hI hf
          obtain ⟨z_73, p_72⟩ := x
          obtain ⟨hl2, hP2, hD2, hS2⟩ := hI
          replace hl : lv_has ls 6 [(3, .long v_4), (0, .ref (a h0)), (2, .int x1)] := hl2
          replace hP := hP2
          replace hD := hD2
          replace hS := hS2
          clear hl2 hP2 hD2 hS2
          replace hf := fn_X13_onLocal_B198_s hf
          refine W.eq (g2 := F0 m 198 ls [.int p_72, .ref (a h0)]) rfl ?_
          refine lv_bipush (v := 6) hx hb dX13_onLocal_198 (by decide) ?_
          obtain ⟨z_74, _u, hfc, hf⟩ := cal_some hf
          have hFc := de_free hD hS hA
          refine va_callv (va_runV (As := [.int p_72, .int 6]) (rest := []) ⟨hx, hb, hml, hown, hts⟩ (de_X13_need l dC dI cy a sh n H.size F z_73 h0 p_72 6 hfc) (cwV 2 hts gX13_onLocal_X13_need rfl rfl rfl (by decide +kernel) ⟨Nat.le_of_ble_eq_true rfl, Nat.le_of_ble_eq_true rfl⟩) ⟨fun a U g mk q => by obtain ⟨q0, q1, qP, qK, qD, qN⟩ := q; exact ⟨q0, q1, qP, va_K.moved (u := U) (U := U.calling g mk a) (Vm.Alike.refl U.vm) qK, qD, qN.same rfl⟩, va_recv hK hP (ci := 13) (q0 := h0) rfl (Wd_ob kg_1 sg_1 (by decide)), fun U hU hW => ⟨rfl, by rw [hU], by rw [hU]; exact hP, va_K.moved hW.alike hK, hD.weaken (fun _ _ _ _ => trivial), hN.warm hW⟩⟩ rfl rfl hl.1 rfl (lv_room (Nat.le_of_ble_eq_true rfl)) dX13_onLocal_200 ⟨Nat.le_of_ble_eq_true rfl, Nat.le_of_ble_eq_true rfl⟩) hS (fun q _ h => hFc q h) hFc (fun u t H_75 locs ht hvm hw hB hz1 hk1 hS2 => ?_)
          obtain ⟨hP1, -, hD1⟩ := hB
          rw [ht] at hP1
          replace hD := hD1.weaken (fun _ _ _ h => hFc _ h)
          replace hP := hP1
          replace hS := hS2
          clear hP1 hD1 hS2 hFc hfc hz1 hk1 hvm ht
          refine lv_aload_n hx hb dX13_onLocal_203 rfl (lv_at hl 1 rfl) ?_
          refine lv_lload_n hx hb dX13_onLocal_204 rfl (lv_at hl 0 rfl) ?_
          refine lv_aload_n hx hb dX13_onLocal_205 rfl (lv_at hl 1 rfl) ?_
          obtain ⟨k_76, ek_76, hf⟩ := lnk_some hf
          refine va_get (D := (dC, dI)) (ci := 13) (v := .ref (a k_76)) (C := RX13) (T := TX13) (N := 22) hx hb hts iwd_X13_onLocal_X13 hown hK hP h0 (Wd_ob kg_1 sg_1 (by decide)) rfl 16 (by decide) (hts _ md_X13_onLocal_4) (fun _ h9 => h9) (fl_q rfl ek_76) dX13_onLocal_206 ?_
          refine lv_iload_n hx hb dX13_onLocal_209 rfl (lv_at hl 2 rfl) ?_
          obtain ⟨g_77, hf⟩ := grd_some hf
          obtain ⟨kg_77, sg_77, ig_77⟩ := okA_at g_77
          refine va_lald hx hb hK hP k_76 2 (Wd_al kg_77 sg_77) rfl ig_77 dX13_onLocal_210 ?_
          refine lv_aload_n hx hb dX13_onLocal_211 rfl (lv_at hl 1 rfl) ?_
          obtain ⟨k_78, ek_78, hf⟩ := lnk_some hf
          refine va_get (D := (dC, dI)) (ci := 13) (v := .ref (a k_78)) (C := RX13) (T := TX13) (N := 22) hx hb hts iwd_X13_onLocal_X13 hown hK hP h0 (Wd_ob kg_1 sg_1 (by decide)) rfl 17 (by decide) (hts _ md_X13_onLocal_6) (fun _ h9 => h9) (fl_q rfl ek_78) dX13_onLocal_212 ?_
          refine lv_iload_n hx hb dX13_onLocal_215 rfl (lv_at hl 2 rfl) ?_
          obtain ⟨g_79, hf⟩ := grd_some hf
          obtain ⟨kg_79, sg_79, ig_79⟩ := okA_at g_79
          refine va_zald hx hb hK hP k_78 3 (Wd_az kg_79 sg_79) rfl ig_79 dX13_onLocal_216 ?_
          obtain ⟨z_80, _u, hfc, hf⟩ := cal_some hf
          have hFc := de_free hD hS hA
          refine va_callv (va_runV (As := [.long v_4, .long (z_74.2.1 k_76 x1.toNatClampNeg), .int (z_74.1 k_78 x1.toNatClampNeg)]) (rest := []) ⟨hx, hb, hml, hown, hts⟩ (de_X13_push l dC dI cy a sh n H_75.size F z_74 h0 v_4 (z_74.2.1 k_76 x1.toNatClampNeg) (z_74.1 k_78 x1.toNatClampNeg) hfc) (cwV 3 hts gX13_onLocal_X13_push rfl rfl rfl (by decide +kernel) ⟨Nat.le_of_ble_eq_true rfl, Nat.le_of_ble_eq_true rfl⟩) ⟨fun a U g mk q => by obtain ⟨q0, q1, qP, qK, qD, qN⟩ := q; exact ⟨q0, q1, qP, va_K.moved (u := U) (U := U.calling g mk a) (Vm.Alike.refl U.vm) qK, qD, qN.same rfl⟩, va_recv hK hP (ci := 13) (q0 := h0) rfl (Wd_ob kg_1 sg_1 (by decide)), fun U hU hW => ⟨rfl, by rw [hU], by rw [hU]; exact hP, va_K.moved hW.alike hK, hD.weaken (fun _ _ _ _ => trivial), hN.warm hW⟩⟩ rfl rfl hl.1 rfl (lv_room (Nat.le_of_ble_eq_true rfl)) dX13_onLocal_217 ⟨Nat.le_of_ble_eq_true rfl, Nat.le_of_ble_eq_true rfl⟩) hS (fun q _ h => hFc q h) hFc (fun u t H_81 locs ht hvm hw hB hz1 hk1 hS2 => ?_)
          obtain ⟨hP1, -, hD1⟩ := hB
          rw [ht] at hP1
          replace hD := hD1.weaken (fun _ _ _ h => hFc _ h)
          replace hP := hP1
          replace hS := hS2
          clear hP1 hD1 hS2 hFc hfc hz1 hk1 hvm ht
          refine lv_goto (tgt := 365) hx hb dX13_onLocal_220 (by decide) ?_
          obtain ⟨h8, h9⟩ := ret_some hf
          rw [h8]
          exact W.vret hx hb hr (fun t ht hW => ⟨⟨(), rfl, trivial, by rw [ht]; exact hP, va_K.moved hW.alike hK, hD⟩, hS.F ht⟩) hS.2.2 dX13_onLocal_365
        refine de_cut (h := 193) (fun (x : St) => [.ref (a h0)]) (fun x ls H locs => lv_has ls 6 [(3, .long v_4), (0, .ref (a h0)), (2, .int x1)] ∧ va_P (dC, dI) vwCl (Wd cy a sh n x) H ∧ va_D A (Wd cy a sh n x) ∧ va_S A s.heap H locs) (fun x => fn_X13_onLocal_B193 F sh n h0 x1 v_4 x) (z8, r8) ?_ (fun B193 => ?_)
        · intro x ls H locs hI hf
          obtain ⟨z_82, ez⟩ : ∃ w, w = x := ⟨_, rfl⟩
          subst ez
          obtain ⟨hl2, hP2, hD2, hS2⟩ := hI
          replace hl : lv_has ls 6 [(3, .long v_4), (0, .ref (a h0)), (2, .int x1)] := hl2
          replace hP := hP2
          replace hD := hD2
          replace hS := hS2
          clear hl2 hP2 hD2 hS2
          replace hf := fn_X13_onLocal_B193_s hf
          refine W.eq (g2 := F0 m 193 ls [.ref (a h0)]) rfl ?_
          refine lv_iconst (v := 1) hx hb dX13_onLocal_193 (by decide) ?_
          refine lv_goto (tgt := 198) hx hb dX13_onLocal_194 (by decide) ?_
          exact B198 (z_82, 1) ls H locs ⟨lv_sub hl [0, 1, 2] rfl, hP, hD, hS⟩ hf
        refine lv_if_eq (tgt := 193) hx hb dX13_onLocal_181 (by decide) (fun c_83 => ?_) (fun c_83 => ?_)
        · skip
          rw [if_pos c_83] at hf
          exact B193 (z_70) ls H_71 locs ⟨lv_sub hl [1, 2, 4] rfl, hP, hD, hS⟩ hf
        · skip
          rw [if_neg c_83] at hf
          refine lv_aload_n hx hb dX13_onLocal_184 rfl (lv_at hl 2 rfl) ?_
          refine lv_iload_n hx hb dX13_onLocal_185 rfl (lv_at hl 4 rfl) ?_
          refine lv_iconst (v := 1) hx hb dX13_onLocal_186 (by decide) ?_
          obtain ⟨z_84, r_85, hfc, hf⟩ := cal_some hf
          have hFc := de_free hD hS hA
          refine va_calli (va_runV (As := [.int x1, .int 1]) (rest := [.ref (a h0)]) ⟨hx, hb, hml, hown, hts⟩ (de_X13_isPointed l dC dI cy a sh n H_71.size F z_70 h0 x1 1 hfc) (cwV 2 hts gX13_onLocal_X13_isPointed rfl rfl rfl (by decide +kernel) ⟨Nat.le_of_ble_eq_true rfl, Nat.le_of_ble_eq_true rfl⟩) ⟨fun a U g mk q => by obtain ⟨q0, q1, qP, qK, qD, qN⟩ := q; exact ⟨q0, q1, qP, va_K.moved (u := U) (U := U.calling g mk a) (Vm.Alike.refl U.vm) qK, qD, qN.same rfl⟩, va_recv hK hP (ci := 13) (q0 := h0) rfl (Wd_ob kg_1 sg_1 (by decide)), fun U hU hW => ⟨rfl, by rw [hU], by rw [hU]; exact hP, va_K.moved hW.alike hK, hD.weaken (fun _ _ _ _ => trivial), hN.warm hW⟩⟩ rfl rfl hl.1 rfl (lv_room (Nat.le_of_ble_eq_true rfl)) dX13_onLocal_187 ⟨Nat.le_of_ble_eq_true rfl, Nat.le_of_ble_eq_true rfl⟩) hS (fun q _ h => hFc q h) hFc (fun rr u t H_86 locs ht hvm hw hB hz1 hk1 hS2 => ?_)
          rw [hw]
          clear hw
          obtain ⟨hP1, -, hD1⟩ := hB
          rw [ht] at hP1
          replace hD := hD1.weaken (fun _ _ _ h => hFc _ h)
          replace hP := hP1
          replace hS := hS2
          clear hP1 hD1 hS2 hFc hfc hz1 hk1 hvm ht
          refine lv_if_ne (tgt := 197) hx hb dX13_onLocal_190 (by decide) (fun c_87 => ?_) (fun c_87 => ?_)
          · skip
            rw [if_neg c_87] at hf
            refine lv_iconst (v := 0) hx hb dX13_onLocal_197 (by decide) ?_
            exact B198 (z_84, 0) ls H_86 locs ⟨lv_sub hl [1, 2, 4] rfl, hP, hD, hS⟩ hf
          · skip
            rw [if_pos c_87] at hf
            exact B193 (z_84) ls H_86 locs ⟨lv_sub hl [1, 2, 4] rfl, hP, hD, hS⟩ hf
    · skip
      rw [if_pos c_10] at hf
      refine lv_aload_n hx hb dX13_onLocal_27 rfl (lv_at hl 2 rfl) ?_
      refine lv_lload_n hx hb dX13_onLocal_28 rfl (lv_at hl 1 rfl) ?_
      obtain ⟨z_88, _u, hfc, hf⟩ := cal_some hf
      have hFc := de_free hD hS hA
      refine va_callv (va_runV (As := [.long v_4]) (rest := []) ⟨hx, hb, hml, hown, hts⟩ (de_X13_take_ l dC dI cy a sh n H.size F z_9 h0 v_4 hfc) (cwV 1 hts gX13_onLocal_X13_take_ rfl rfl rfl (by decide +kernel) ⟨Nat.le_of_ble_eq_true rfl, Nat.le_of_ble_eq_true rfl⟩) ⟨fun a U g mk q => by obtain ⟨q0, q1, qP, qK, qD, qN⟩ := q; exact ⟨q0, q1, qP, va_K.moved (u := U) (U := U.calling g mk a) (Vm.Alike.refl U.vm) qK, qD, qN.same rfl⟩, va_recv hK hP (ci := 13) (q0 := h0) rfl (Wd_ob kg_1 sg_1 (by decide)), fun U hU hW => ⟨rfl, by rw [hU], by rw [hU]; exact hP, va_K.moved hW.alike hK, hD.weaken (fun _ _ _ _ => trivial), hN.warm hW⟩⟩ rfl rfl hl.1 rfl (lv_room (Nat.le_of_ble_eq_true rfl)) dX13_onLocal_29 ⟨Nat.le_of_ble_eq_true rfl, Nat.le_of_ble_eq_true rfl⟩) hS (fun q _ h => hFc q h) hFc (fun u t H_89 locs ht hvm hw hB hz1 hk1 hS2 => ?_)
      obtain ⟨hP1, -, hD1⟩ := hB
      rw [ht] at hP1
      replace hD := hD1.weaken (fun _ _ _ h => hFc _ h)
      replace hP := hP1
      replace hS := hS2
      clear hP1 hD1 hS2 hFc hfc hz1 hk1 hvm ht
      refine lv_aload_n hx hb dX13_onLocal_32 rfl (lv_at hl 2 rfl) ?_
      refine lv_aload_n hx hb dX13_onLocal_33 rfl (lv_at hl 2 rfl) ?_
      obtain ⟨k_90, ek_90, hf⟩ := lnk_some hf
      refine va_get (D := (dC, dI)) (ci := 13) (v := .ref (a k_90)) (C := RX13) (T := TX13) (N := 22) hx hb hts iwd_X13_onLocal_X13 hown hK hP h0 (Wd_ob kg_1 sg_1 (by decide)) rfl 15 (by decide) (hts _ md_X13_onLocal_2) (fun _ h9 => h9) (fl_q rfl ek_90) dX13_onLocal_34 ?_
      refine lv_iload_n hx hb dX13_onLocal_37 rfl (lv_at hl 4 rfl) ?_
      obtain ⟨g_91, hf⟩ := grd_some hf
      obtain ⟨kg_91, sg_91, ig_91⟩ := okA_at g_91
      refine va_zald hx hb hK hP k_90 3 (Wd_az kg_91 sg_91) rfl ig_91 dX13_onLocal_38 ?_
      refine de_cut (h := 56) (fun (x : St × Int32) => [.int x.2, .ref (a h0)]) (fun x ls H locs => lv_has ls 6 [(5, .int p_8), (0, .ref (a h0)), (2, .int x1)] ∧ va_P (dC, dI) vwCl (Wd cy a sh n x.1) H ∧ va_D A (Wd cy a sh n x.1) ∧ va_S A s.heap H locs) (fun x => fn_X13_onLocal_B56 F sh n h0 p_8 x1 x.1 x.2) (z8, r8) ?_ (fun B56 => ?_)
      · intro x ls H locs hI hf
        obtain ⟨z_93, p_92⟩ := x
        obtain ⟨hl2, hP2, hD2, hS2⟩ := hI
        replace hl : lv_has ls 6 [(5, .int p_8), (0, .ref (a h0)), (2, .int x1)] := hl2
        replace hP := hP2
        replace hD := hD2
        replace hS := hS2
        clear hl2 hP2 hD2 hS2
        replace hf := fn_X13_onLocal_B56_s hf
        refine W.eq (g2 := F0 m 56 ls [.int p_92, .ref (a h0)]) rfl ?_
        refine lv_iconst (v := 4) hx hb dX13_onLocal_56 (by decide) ?_
        obtain ⟨z_94, _u, hfc, hf⟩ := cal_some hf
        have hFc := de_free hD hS hA
        refine va_callv (va_runV (As := [.int p_92, .int 4]) (rest := []) ⟨hx, hb, hml, hown, hts⟩ (de_X13_need l dC dI cy a sh n H.size F z_93 h0 p_92 4 hfc) (cwV 2 hts gX13_onLocal_X13_need rfl rfl rfl (by decide +kernel) ⟨Nat.le_of_ble_eq_true rfl, Nat.le_of_ble_eq_true rfl⟩) ⟨fun a U g mk q => by obtain ⟨q0, q1, qP, qK, qD, qN⟩ := q; exact ⟨q0, q1, qP, va_K.moved (u := U) (U := U.calling g mk a) (Vm.Alike.refl U.vm) qK, qD, qN.same rfl⟩, va_recv hK hP (ci := 13) (q0 := h0) rfl (Wd_ob kg_1 sg_1 (by decide)), fun U hU hW => ⟨rfl, by rw [hU], by rw [hU]; exact hP, va_K.moved hW.alike hK, hD.weaken (fun _ _ _ _ => trivial), hN.warm hW⟩⟩ rfl rfl hl.1 rfl (lv_room (Nat.le_of_ble_eq_true rfl)) dX13_onLocal_57 ⟨Nat.le_of_ble_eq_true rfl, Nat.le_of_ble_eq_true rfl⟩) hS (fun q _ h => hFc q h) hFc (fun u t H_95 locs ht hvm hw hB hz1 hk1 hS2 => ?_)
        obtain ⟨hP1, -, hD1⟩ := hB
        rw [ht] at hP1
        replace hD := hD1.weaken (fun _ _ _ h => hFc _ h)
        replace hP := hP1
        replace hS := hS2
        clear hP1 hD1 hS2 hFc hfc hz1 hk1 hvm ht
        refine lv_aload_n hx hb dX13_onLocal_60 rfl (lv_at hl 1 rfl) ?_
        refine lv_iload hx hb dX13_onLocal_61 (lv_at hl 0 rfl) ?_
        refine de_cut (h := 87) (fun (x : St × Int32) => [.int x.2, .ref (a h0)]) (fun x ls H locs => lv_has ls 6 [(5, .int p_8), (0, .ref (a h0)), (2, .int x1)] ∧ va_P (dC, dI) vwCl (Wd cy a sh n x.1) H ∧ va_D A (Wd cy a sh n x.1) ∧ va_S A s.heap H locs) (fun x => fn_X13_onLocal_B87 F sh n h0 x1 p_8 x.1 x.2) (z8, r8) ?_ (fun B87 => ?_)
        · intro x ls H locs hI hf
          obtain ⟨z_97, p_96⟩ := x
          obtain ⟨hl2, hP2, hD2, hS2⟩ := hI
          replace hl : lv_has ls 6 [(5, .int p_8), (0, .ref (a h0)), (2, .int x1)] := hl2
          replace hP := hP2
          replace hD := hD2
          replace hS := hS2
          clear hl2 hP2 hD2 hS2
          replace hf := fn_X13_onLocal_B87_s hf
          refine W.eq (g2 := F0 m 87 ls [.int p_96, .ref (a h0)]) rfl ?_
          refine lv_bipush (v := 6) hx hb dX13_onLocal_87 (by decide) ?_
          obtain ⟨z_98, _u, hfc, hf⟩ := cal_some hf
          have hFc := de_free hD hS hA
          refine va_callv (va_runV (As := [.int p_96, .int 6]) (rest := []) ⟨hx, hb, hml, hown, hts⟩ (de_X13_need l dC dI cy a sh n H.size F z_97 h0 p_96 6 hfc) (cwV 2 hts gX13_onLocal_X13_need rfl rfl rfl (by decide +kernel) ⟨Nat.le_of_ble_eq_true rfl, Nat.le_of_ble_eq_true rfl⟩) ⟨fun a U g mk q => by obtain ⟨q0, q1, qP, qK, qD, qN⟩ := q; exact ⟨q0, q1, qP, va_K.moved (u := U) (U := U.calling g mk a) (Vm.Alike.refl U.vm) qK, qD, qN.same rfl⟩, va_recv hK hP (ci := 13) (q0 := h0) rfl (Wd_ob kg_1 sg_1 (by decide)), fun U hU hW => ⟨rfl, by rw [hU], by rw [hU]; exact hP, va_K.moved hW.alike hK, hD.weaken (fun _ _ _ _ => trivial), hN.warm hW⟩⟩ rfl rfl hl.1 rfl (lv_room (Nat.le_of_ble_eq_true rfl)) dX13_onLocal_89 ⟨Nat.le_of_ble_eq_true rfl, Nat.le_of_ble_eq_true rfl⟩) hS (fun q _ h => hFc q h) hFc (fun u t H_99 locs ht hvm hw hB hz1 hk1 hS2 => ?_)
          obtain ⟨hP1, -, hD1⟩ := hB
          rw [ht] at hP1
          replace hD := hD1.weaken (fun _ _ _ h => hFc _ h)
          replace hP := hP1
          replace hS := hS2
          clear hP1 hD1 hS2 hFc hfc hz1 hk1 hvm ht
          refine lv_aload_n hx hb dX13_onLocal_92 rfl (lv_at hl 1 rfl) ?_
          refine va_get (D := (dC, dI)) (ci := 13) (v := .int (z_98.1 h0 18)) (C := RX13) (T := TX13) (N := 22) hx hb hts iwd_X13_onLocal_X13 hown hK hP h0 (Wd_ob kg_1 sg_1 (by decide)) rfl 18 (by decide) (hts _ md_X13_onLocal_3) (fun _ h9 => h9) (fl_at (t := 0) rfl) dX13_onLocal_93 ?_
          refine lv_if_eq (tgt := 100) hx hb dX13_onLocal_96 (by decide) (fun c_100 => ?_) (fun c_100 => ?_)
          · skip
            rw [if_pos c_100] at hf
            refine lv_aload_n hx hb dX13_onLocal_100 rfl (lv_at hl 1 rfl) ?_
            obtain ⟨k_101, ek_101, hf⟩ := lnk_some hf
            refine va_get (D := (dC, dI)) (ci := 13) (v := .ref (a k_101)) (C := RX13) (T := TX13) (N := 22) hx hb hts iwd_X13_onLocal_X13 hown hK hP h0 (Wd_ob kg_1 sg_1 (by decide)) rfl 15 (by decide) (hts _ md_X13_onLocal_2) (fun _ h9 => h9) (fl_q rfl ek_101) dX13_onLocal_101 ?_
            refine lv_iload_n hx hb dX13_onLocal_104 rfl (lv_at hl 2 rfl) ?_
            refine lv_iconst (v := 1) hx hb dX13_onLocal_105 (by decide) ?_
            obtain ⟨g_102, hf⟩ := grd_some hf
            obtain ⟨kg_102, sg_102, ig_102⟩ := okA_at g_102
            refine va_zast hx hb hK hP hD hS k_101 3 (Wd_az kg_102 sg_102) rfl ig_102 dX13_onLocal_106 (fun H_103 locs hP2 hD2 hS2 => ?_)
            rw [Wd_tz sg_102] at hP2 hD2
            obtain ⟨z_104, ez_104⟩ : ∃ w, w = si z_98 k_101 x1.toNatClampNeg (vp_nar .boolean 1) := ⟨_, rfl⟩
            rw [← ez_104] at hP2 hD2
            replace hf := lt_at ez_104 hf
            clear ez_104
            replace hP := hP2
            replace hD := hD2
            replace hS := hS2
            clear hP2 hD2 hS2
            refine lv_aload_n hx hb dX13_onLocal_107 rfl (lv_at hl 1 rfl) ?_
            obtain ⟨k_105, ek_105, hf⟩ := lnk_some hf
            refine va_get (D := (dC, dI)) (ci := 13) (v := .ref (a k_105)) (C := RX13) (T := TX13) (N := 22) hx hb hts iwd_X13_onLocal_X13 hown hK hP h0 (Wd_ob kg_1 sg_1 (by decide)) rfl 16 (by decide) (hts _ md_X13_onLocal_4) (fun _ h9 => h9) (fl_q rfl ek_105) dX13_onLocal_108 ?_
            refine lv_iload_n hx hb dX13_onLocal_111 rfl (lv_at hl 2 rfl) ?_
            refine lv_iload hx hb dX13_onLocal_112 (lv_at hl 0 rfl) ?_
            refine de_cut (h := 125) (fun (x : St × Int64) => [.long x.2, .int x1, .ref (a k_105)]) (fun x ls H locs => lv_has ls 6 [(5, .int p_8), (0, .ref (a h0)), (2, .int x1)] ∧ va_P (dC, dI) vwCl (Wd cy a sh n x.1) H ∧ va_D A (Wd cy a sh n x.1) ∧ va_S A s.heap H locs) (fun x => fn_X13_onLocal_B125 F sh n k_105 x1 h0 p_8 x.1 x.2) (z8, r8) ?_ (fun B125 => ?_)
            · intro x ls H locs hI hf
              obtain ⟨z_107, p_106⟩ := x
              obtain ⟨hl2, hP2, hD2, hS2⟩ := hI
              replace hl : lv_has ls 6 [(5, .int p_8), (0, .ref (a h0)), (2, .int x1)] := hl2
              replace hP := hP2
              replace hD := hD2
              replace hS := hS2
              clear hl2 hP2 hD2 hS2
              replace hf := fn_X13_onLocal_B125_s hf
              refine W.eq (g2 := F0 m 125 ls [.long p_106, .int x1, .ref (a k_105)]) rfl ?_
              obtain ⟨g_108, hf⟩ := grd_some hf
              obtain ⟨kg_108, sg_108, ig_108⟩ := okA_at g_108
              refine va_last hx hb hK hP hD hS k_105 2 (Wd_al kg_108 sg_108) rfl ig_108 dX13_onLocal_125 (fun H_109 locs hP2 hD2 hS2 => ?_)
              rw [Wd_tl sg_108] at hP2 hD2
              obtain ⟨z_110, ez_110⟩ : ∃ w, w = sl z_107 k_105 x1.toNatClampNeg p_106 := ⟨_, rfl⟩
              rw [← ez_110] at hP2 hD2
              replace hf := lt_at ez_110 hf
              clear ez_110
              replace hP := hP2
              replace hD := hD2
              replace hS := hS2
              clear hP2 hD2 hS2
              refine lv_aload_n hx hb dX13_onLocal_126 rfl (lv_at hl 1 rfl) ?_
              obtain ⟨k_111, ek_111, hf⟩ := lnk_some hf
              refine va_get (D := (dC, dI)) (ci := 13) (v := .ref (a k_111)) (C := RX13) (T := TX13) (N := 22) hx hb hts iwd_X13_onLocal_X13 hown hK hP h0 (Wd_ob kg_1 sg_1 (by decide)) rfl 17 (by decide) (hts _ md_X13_onLocal_6) (fun _ h9 => h9) (fl_q rfl ek_111) dX13_onLocal_127 ?_
              refine lv_iload_n hx hb dX13_onLocal_130 rfl (lv_at hl 2 rfl) ?_
              refine lv_iload hx hb dX13_onLocal_131 (lv_at hl 0 rfl) ?_
              refine lv_if_ne (tgt := 147) hx hb dX13_onLocal_133 (by decide) (fun c_112 => ?_) (fun c_112 => ?_)
              · skip
                rw [if_neg c_112] at hf
                refine lv_iconst (v := 0) hx hb dX13_onLocal_147 (by decide) ?_
                obtain ⟨g_113, hf⟩ := grd_some hf
                obtain ⟨kg_113, sg_113, ig_113⟩ := okA_at g_113
                refine va_zast hx hb hK hP hD hS k_111 3 (Wd_az kg_113 sg_113) rfl ig_113 dX13_onLocal_148 (fun H_114 locs hP2 hD2 hS2 => ?_)
                rw [Wd_tz sg_113] at hP2 hD2
                obtain ⟨z_115, ez_115⟩ : ∃ w, w = si z_110 k_111 x1.toNatClampNeg (vp_nar .boolean 0) := ⟨_, rfl⟩
                rw [← ez_115] at hP2 hD2
                replace hf := lt_at ez_115 hf
                clear ez_115
                replace hP := hP2
                replace hD := hD2
                replace hS := hS2
                clear hP2 hD2 hS2
                obtain ⟨h8, h9⟩ := ret_some hf
                rw [h8]
                exact W.vret hx hb hr (fun t ht hW => ⟨⟨(), rfl, trivial, by rw [ht]; exact hP, va_K.moved hW.alike hK, hD⟩, hS.F ht⟩) hS.2.2 dX13_onLocal_149
              · skip
                rw [if_pos c_112] at hf
                refine lv_aload_n hx hb dX13_onLocal_136 rfl (lv_at hl 1 rfl) ?_
                refine va_get (D := (dC, dI)) (ci := 13) (v := .int (z_110.1 h0 21)) (C := RX13) (T := TX13) (N := 22) hx hb hts iwd_X13_onLocal_X13 hown hK hP h0 (Wd_ob kg_1 sg_1 (by decide)) rfl 21 (by decide) (hts _ md_X13_onLocal_7) (fun _ h9 => h9) (fl_at (t := 0) rfl) dX13_onLocal_137 ?_
                refine lv_if_eq (tgt := 147) hx hb dX13_onLocal_140 (by decide) (fun c_116 => ?_) (fun c_116 => ?_)
                · skip
                  rw [if_pos c_116] at hf
                  refine lv_iconst (v := 0) hx hb dX13_onLocal_147 (by decide) ?_
                  obtain ⟨g_117, hf⟩ := grd_some hf
                  obtain ⟨kg_117, sg_117, ig_117⟩ := okA_at g_117
                  refine va_zast hx hb hK hP hD hS k_111 3 (Wd_az kg_117 sg_117) rfl ig_117 dX13_onLocal_148 (fun H_118 locs hP2 hD2 hS2 => ?_)
                  rw [Wd_tz sg_117] at hP2 hD2
                  obtain ⟨z_119, ez_119⟩ : ∃ w, w = si z_110 k_111 x1.toNatClampNeg (vp_nar .boolean 0) := ⟨_, rfl⟩
                  rw [← ez_119] at hP2 hD2
                  replace hf := lt_at ez_119 hf
                  clear ez_119
                  replace hP := hP2
                  replace hD := hD2
                  replace hS := hS2
                  clear hP2 hD2 hS2
                  obtain ⟨h8, h9⟩ := ret_some hf
                  rw [h8]
                  exact W.vret hx hb hr (fun t ht hW => ⟨⟨(), rfl, trivial, by rw [ht]; exact hP, va_K.moved hW.alike hK, hD⟩, hS.F ht⟩) hS.2.2 dX13_onLocal_149
                · skip
                  rw [if_neg c_116] at hf
                  refine lv_iconst (v := 1) hx hb dX13_onLocal_143 (by decide) ?_
                  refine lv_goto (tgt := 148) hx hb dX13_onLocal_144 (by decide) ?_
                  obtain ⟨g_120, hf⟩ := grd_some hf
                  obtain ⟨kg_120, sg_120, ig_120⟩ := okA_at g_120
                  refine va_zast hx hb hK hP hD hS k_111 3 (Wd_az kg_120 sg_120) rfl ig_120 dX13_onLocal_148 (fun H_121 locs hP2 hD2 hS2 => ?_)
                  rw [Wd_tz sg_120] at hP2 hD2
                  obtain ⟨z_122, ez_122⟩ : ∃ w, w = si z_110 k_111 x1.toNatClampNeg (vp_nar .boolean 1) := ⟨_, rfl⟩
                  rw [← ez_122] at hP2 hD2
                  replace hf := lt_at ez_122 hf
                  clear ez_122
                  replace hP := hP2
                  replace hD := hD2
                  replace hS := hS2
                  clear hP2 hD2 hS2
                  obtain ⟨h8, h9⟩ := ret_some hf
                  rw [h8]
                  exact W.vret hx hb hr (fun t ht hW => ⟨⟨(), rfl, trivial, by rw [ht]; exact hP, va_K.moved hW.alike hK, hD⟩, hS.F ht⟩) hS.2.2 dX13_onLocal_149
            refine lv_if_eq (tgt := 121) hx hb dX13_onLocal_114 (by decide) (fun c_123 => ?_) (fun c_123 => ?_)
            · skip
              rw [if_pos c_123] at hf
              refine lv_aload_n hx hb dX13_onLocal_121 rfl (lv_at hl 1 rfl) ?_
              refine va_get (D := (dC, dI)) (ci := 13) (v := .long (z_104.2.1 h0 20)) (C := RX13) (T := TX13) (N := 22) hx hb hts iwd_X13_onLocal_X13 hown hK hP h0 (Wd_ob kg_1 sg_1 (by decide)) rfl 20 (by decide) (hts _ md_X13_onLocal_5) (fun _ h9 => h9) (fl_at (t := 1) rfl) dX13_onLocal_122 ?_
              exact B125 (z_104, (z_104.2.1 h0 20)) ls H_103 locs ⟨lv_sub hl [0, 1, 2] rfl, hP, hD, hS⟩ hf
            · skip
              rw [if_neg c_123] at hf
              refine lv_lconst (v := 0) hx hb dX13_onLocal_117 (by decide) ?_
              refine lv_goto (tgt := 125) hx hb dX13_onLocal_118 (by decide) ?_
              exact B125 (z_104, 0) ls H_103 locs ⟨lv_sub hl [0, 1, 2] rfl, hP, hD, hS⟩ hf
          · skip
            rw [if_neg c_100] at hf
            obtain ⟨h8, h9⟩ := ret_some hf
            rw [h8]
            exact W.vret hx hb hr (fun t ht hW => ⟨⟨(), rfl, trivial, by rw [ht]; exact hP, va_K.moved hW.alike hK, hD⟩, hS.F ht⟩) hS.2.2 dX13_onLocal_99
        refine de_cut (h := 82) (fun (x : St) => [.ref (a h0)]) (fun x ls H locs => lv_has ls 6 [(5, .int p_8), (0, .ref (a h0)), (2, .int x1)] ∧ va_P (dC, dI) vwCl (Wd cy a sh n x) H ∧ va_D A (Wd cy a sh n x) ∧ va_S A s.heap H locs) (fun x => fn_X13_onLocal_B82 F sh n h0 x1 p_8 x) (z8, r8) ?_ (fun B82 => ?_)
        · intro x ls H locs hI hf
          obtain ⟨z_124, ez⟩ : ∃ w, w = x := ⟨_, rfl⟩
          subst ez
          obtain ⟨hl2, hP2, hD2, hS2⟩ := hI
          replace hl : lv_has ls 6 [(5, .int p_8), (0, .ref (a h0)), (2, .int x1)] := hl2
          replace hP := hP2
          replace hD := hD2
          replace hS := hS2
          clear hl2 hP2 hD2 hS2
          replace hf := fn_X13_onLocal_B82_s hf
          refine W.eq (g2 := F0 m 82 ls [.ref (a h0)]) rfl ?_
          refine lv_iconst (v := 1) hx hb dX13_onLocal_82 (by decide) ?_
          refine lv_goto (tgt := 87) hx hb dX13_onLocal_83 (by decide) ?_
          exact B87 (z_124, 1) ls H locs ⟨lv_sub hl [0, 1, 2] rfl, hP, hD, hS⟩ hf
        refine lv_if_eq (tgt := 82) hx hb dX13_onLocal_63 (by decide) (fun c_125 => ?_) (fun c_125 => ?_)
        · skip
          rw [if_pos c_125] at hf
          exact B82 (z_94) ls H_95 locs ⟨lv_sub hl [0, 1, 2] rfl, hP, hD, hS⟩ hf
        · skip
          rw [if_neg c_125] at hf
          refine lv_aload_n hx hb dX13_onLocal_66 rfl (lv_at hl 1 rfl) ?_
          refine va_get (D := (dC, dI)) (ci := 13) (v := .int (z_94.1 h0 18)) (C := RX13) (T := TX13) (N := 22) hx hb hts iwd_X13_onLocal_X13 hown hK hP h0 (Wd_ob kg_1 sg_1 (by decide)) rfl 18 (by decide) (hts _ md_X13_onLocal_3) (fun _ h9 => h9) (fl_at (t := 0) rfl) dX13_onLocal_67 ?_
          refine lv_if_ne (tgt := 82) hx hb dX13_onLocal_70 (by decide) (fun c_126 => ?_) (fun c_126 => ?_)
          · skip
            rw [if_neg c_126] at hf
            exact B82 (z_94) ls H_95 locs ⟨lv_sub hl [0, 1, 2] rfl, hP, hD, hS⟩ hf
          · skip
            rw [if_pos c_126] at hf
            refine lv_aload_n hx hb dX13_onLocal_73 rfl (lv_at hl 1 rfl) ?_
            refine lv_iload_n hx hb dX13_onLocal_74 rfl (lv_at hl 2 rfl) ?_
            refine lv_iconst (v := 0) hx hb dX13_onLocal_75 (by decide) ?_
            obtain ⟨z_127, r_128, hfc, hf⟩ := cal_some hf
            have hFc := de_free hD hS hA
            refine va_calli (va_runV (As := [.int x1, .int 0]) (rest := [.ref (a h0)]) ⟨hx, hb, hml, hown, hts⟩ (de_X13_isPointed l dC dI cy a sh n H_95.size F z_94 h0 x1 0 hfc) (cwV 2 hts gX13_onLocal_X13_isPointed rfl rfl rfl (by decide +kernel) ⟨Nat.le_of_ble_eq_true rfl, Nat.le_of_ble_eq_true rfl⟩) ⟨fun a U g mk q => by obtain ⟨q0, q1, qP, qK, qD, qN⟩ := q; exact ⟨q0, q1, qP, va_K.moved (u := U) (U := U.calling g mk a) (Vm.Alike.refl U.vm) qK, qD, qN.same rfl⟩, va_recv hK hP (ci := 13) (q0 := h0) rfl (Wd_ob kg_1 sg_1 (by decide)), fun U hU hW => ⟨rfl, by rw [hU], by rw [hU]; exact hP, va_K.moved hW.alike hK, hD.weaken (fun _ _ _ _ => trivial), hN.warm hW⟩⟩ rfl rfl hl.1 rfl (lv_room (Nat.le_of_ble_eq_true rfl)) dX13_onLocal_76 ⟨Nat.le_of_ble_eq_true rfl, Nat.le_of_ble_eq_true rfl⟩) hS (fun q _ h => hFc q h) hFc (fun rr u t H_129 locs ht hvm hw hB hz1 hk1 hS2 => ?_)
            rw [hw]
            clear hw
            obtain ⟨hP1, -, hD1⟩ := hB
            rw [ht] at hP1
            replace hD := hD1.weaken (fun _ _ _ h => hFc _ h)
            replace hP := hP1
            replace hS := hS2
            clear hP1 hD1 hS2 hFc hfc hz1 hk1 hvm ht
            refine lv_if_ne (tgt := 86) hx hb dX13_onLocal_79 (by decide) (fun c_130 => ?_) (fun c_130 => ?_)
            · skip
              rw [if_neg c_130] at hf
              refine lv_iconst (v := 0) hx hb dX13_onLocal_86 (by decide) ?_
              exact B87 (z_127, 0) ls H_129 locs ⟨lv_sub hl [0, 1, 2] rfl, hP, hD, hS⟩ hf
            · skip
              rw [if_pos c_130] at hf
              exact B82 (z_127) ls H_129 locs ⟨lv_sub hl [0, 1, 2] rfl, hP, hD, hS⟩ hf
      refine de_cut (h := 51) (fun (x : St) => [.ref (a h0)]) (fun x ls H locs => lv_has ls 6 [(5, .int p_8), (0, .ref (a h0)), (2, .int x1)] ∧ va_P (dC, dI) vwCl (Wd cy a sh n x) H ∧ va_D A (Wd cy a sh n x) ∧ va_S A s.heap H locs) (fun x => fn_X13_onLocal_B51 F sh n h0 p_8 x1 x) (z8, r8) ?_ (fun B51 => ?_)
      · intro x ls H locs hI hf
        obtain ⟨z_131, ez⟩ : ∃ w, w = x := ⟨_, rfl⟩
        subst ez
        obtain ⟨hl2, hP2, hD2, hS2⟩ := hI
        replace hl : lv_has ls 6 [(5, .int p_8), (0, .ref (a h0)), (2, .int x1)] := hl2
        replace hP := hP2
        replace hD := hD2
        replace hS := hS2
        clear hl2 hP2 hD2 hS2
        replace hf := fn_X13_onLocal_B51_s hf
        refine W.eq (g2 := F0 m 51 ls [.ref (a h0)]) rfl ?_
        refine lv_iconst (v := 1) hx hb dX13_onLocal_51 (by decide) ?_
        refine lv_goto (tgt := 56) hx hb dX13_onLocal_52 (by decide) ?_
        exact B56 (z_131, 1) ls H locs ⟨lv_sub hl [0, 1, 2] rfl, hP, hD, hS⟩ hf
      refine lv_if_eq (tgt := 51) hx hb dX13_onLocal_39 (by decide) (fun c_132 => ?_) (fun c_132 => ?_)
      · skip
        rw [if_pos c_132] at hf
        exact B51 (z_88) ls H_89 locs ⟨lv_sub hl [0, 2, 4] rfl, hP, hD, hS⟩ hf
      · skip
        rw [if_neg c_132] at hf
        refine lv_aload_n hx hb dX13_onLocal_42 rfl (lv_at hl 2 rfl) ?_
        refine lv_lload_n hx hb dX13_onLocal_43 rfl (lv_at hl 1 rfl) ?_
        refine lv_iconst (v := 2) hx hb dX13_onLocal_44 (by decide) ?_
        obtain ⟨z_133, r_134, hfc, hf⟩ := cal_some hf
        have hFc := de_free hD hS hA
        refine va_calli (va_runV (As := [.long v_4, .int 2]) (rest := [.ref (a h0)]) ⟨hx, hb, hml, hown, hts⟩ (de_X13_has l dC dI cy a sh n H_89.size F z_88 h0 v_4 2 hfc) (cwV 2 hts gX13_onLocal_X13_has rfl rfl rfl (by decide +kernel) ⟨Nat.le_of_ble_eq_true rfl, Nat.le_of_ble_eq_true rfl⟩) ⟨fun a U g mk q => by obtain ⟨q0, q1, qP, qK, qD, qN⟩ := q; exact ⟨q0, q1, qP, va_K.moved (u := U) (U := U.calling g mk a) (Vm.Alike.refl U.vm) qK, qD, qN.same rfl⟩, va_recv hK hP (ci := 13) (q0 := h0) rfl (Wd_ob kg_1 sg_1 (by decide)), fun U hU hW => ⟨rfl, by rw [hU], by rw [hU]; exact hP, va_K.moved hW.alike hK, hD.weaken (fun _ _ _ _ => trivial), hN.warm hW⟩⟩ rfl rfl hl.1 rfl (lv_room (Nat.le_of_ble_eq_true rfl)) dX13_onLocal_45 ⟨Nat.le_of_ble_eq_true rfl, Nat.le_of_ble_eq_true rfl⟩) hS (fun q _ h => hFc q h) hFc (fun rr u t H_135 locs ht hvm hw hB hz1 hk1 hS2 => ?_)
        rw [hw]
        clear hw
        obtain ⟨hP1, -, hD1⟩ := hB
        rw [ht] at hP1
        replace hD := hD1.weaken (fun _ _ _ h => hFc _ h)
        replace hP := hP1
        replace hS := hS2
        clear hP1 hD1 hS2 hFc hfc hz1 hk1 hvm ht
        refine lv_if_eq (tgt := 55) hx hb dX13_onLocal_48 (by decide) (fun c_136 => ?_) (fun c_136 => ?_)
        · skip
          rw [if_pos c_136] at hf
          refine lv_iconst (v := 0) hx hb dX13_onLocal_55 (by decide) ?_
          exact B56 (z_133, 0) ls H_135 locs ⟨lv_sub hl [0, 2, 4] rfl, hP, hD, hS⟩ hf
        · skip
          rw [if_neg c_136] at hf
          exact B51 (z_133) ls H_135 locs ⟨lv_sub hl [0, 2, 4] rfl, hP, hD, hS⟩ hf
  refine lv_if_ne (tgt := 18) hx hb dX13_onLocal_11 (by decide) (fun c_137 => ?_) (fun c_137 => ?_)
  · skip
    rw [if_neg c_137] at hf
    refine lv_iconst (v := 0) hx hb dX13_onLocal_18 (by decide) ?_
    exact B19 (z_5, 0) ls H_7 locs ⟨lv_sub hl [0, 1, 2, 3] rfl, hP, hD, hS⟩ hf
  · skip
    rw [if_pos c_137] at hf
    refine lv_iconst (v := 1) hx hb dX13_onLocal_14 (by decide) ?_
    refine lv_goto (tgt := 19) hx hb dX13_onLocal_15 (by decide) ?_
    exact B19 (z_5, 1) ls H_7 locs ⟨lv_sub hl [0, 1, 2, 3] rfl, hP, hD, hS⟩ hf

theorem md_X18_reckon_1 : (.fieldLink RX18 40 "ResourceLedgerModel" "trees" "LResourceLedgerModel$Trees;" : Cond) ∈ wsX18_reckon := List.mem_of_getElem? (i := 1) rfl
theorem iwd_X18_reckon_X18 : ∀ w ∈ wsX180, w ∈ wsX18_reckon := fun _ h => List.mem_cons_of_mem _ (List.mem_append_left _ (List.mem_append_left _ (List.mem_append_right _ h)))
theorem iwd_X18_reckon_X15 : ∀ w ∈ wsX150, w ∈ wsX18_reckon := fun _ h => List.mem_cons_of_mem _ (List.mem_append_left _ (List.mem_append_right _ h))
theorem md_X18_reckon_2 : (.fieldLink RX18 373 "ResourceLedgerModel" "wide" "LResourceLedgerModel$Wide;" : Cond) ∈ wsX18_reckon := List.mem_of_getElem? (i := 2) rfl
theorem iwd_X18_reckon_X17 : ∀ w ∈ wsX170, w ∈ wsX18_reckon := fun _ h => List.mem_cons_of_mem _ (List.mem_append_right _ h)
set_option maxHeartbeats 4000000 in
set_option maxRecDepth 100000 in
theorem de_X18_reckon (l : Launch) (dC : Nat → ClassId) (dI : Nat → Nat → Nat) (cy : Nat → ClassId) (a : Nat → Nat) (sh : Nat → Nat × Nat) (n sz : Nat) (F : Nat) (z : St) (h0 : Nat) (x0 : Int32) {z8 : St} {r8 : Unit} (hf : fn_X18_reckon F sh n z h0 x0 = some (z8, r8)) : Met l yX18_reckon wsX18_reckon ({ frames := 49, cells := 0, slots := 0, locals := 1176 }) (va_Pc [.ref (a h0), .int x0] (fun U => U.heap.size = sz ∧ va_P (dC, dI) vwCl (Wd cy a sh n z) U.heap ∧ va_K (dC, dI) vwCl (TYS cy) U ∧ va_D (fun _ => True) (Wd cy a sh n z) ∧ NK U)) (va_Qv (fun u : Unit => True) (fun u t => va_P (dC, dI) vwCl (Wd cy a sh n z8) t.heap ∧ va_K (dC, dI) vwCl (TYS cy) t ∧ va_D (va_A (Wd cy a sh n z) sz) (Wd cy a sh n z8)) (va_A (Wd cy a sh n z) sz)) 0 0 (va_A (Wd cy a sh n z) sz) := by
  refine Met.ofW (cc := cX18_reckon) (maxL := 15) (ret := none) (by decide) rfl ?_
  intro p e s m args below meth c s₁ B hml hv
  obtain ⟨rfl, hsz, hP, hK, hD0, hN⟩ := hv
  have hx := B.exec
  have hb := B.bytes
  have hr := B.returns
  have hts := atoms_spec (ws := wsX18_reckon) B.pre
  have hown : s.vm.findClass RX18 = some m.cls := findClass_of_methodNamed B.named
  have hlocks := B.notSynchronized
  subst hsz
  have hD := hD0.self (sz := s.heap.size)
  clear hD0
  generalize hAe : va_A (Wd cy a sh n z) s.heap.size = A at hD ⊢
  have hA : ∀ q : Nat, s.heap.size ≤ q → A q := fun q h => by rw [← hAe]; exact Or.inr h
  clear hAe
  have hS : va_S A s.heap s.heap [] := va_S.rf
  have hl := lv_entry ([.ref (a h0), .int x0]) (n := 15) (Nat.le_of_ble_eq_true rfl)
  rw [lg_entry_eq]
  generalize (lg_sl ([.ref (a h0), .int x0]) ++ List.replicate (15 - (lg_sl ([.ref (a h0), .int x0])).length) Slot.unset).toArray = ls at hl ⊢
  replace hl : lv_has ls 15 [(0, .ref (a h0)), (1, .int x0)] := hl
  unfold fn_X18_reckon at hf
  refine de_start hS hP (fun H locs hS hP => ?_)
  refine lv_aload_n hx hb dX18_reckon_0 rfl (lv_at hl 0 rfl) ?_
  refine lv_iconst (v := 0) hx hb dX18_reckon_1 (by decide) ?_
  obtain ⟨g_3, hf⟩ := grd_some hf
  obtain ⟨kg_3, sg_3⟩ := okO_at g_3
  obtain ⟨z_1, r_2, hfc, hf⟩ := cal_some hf
  have hFc := de_free hD hS hA
  refine va_calli (va_runV (As := [.int 0]) (rest := []) ⟨hx, hb, hml, hown, hts⟩ (de_X18_takeAny l dC dI cy a sh n H.size F z h0 0 hfc) (cwV 1 hts gX18_reckon_X18_takeAny rfl rfl rfl (by decide +kernel) ⟨Nat.le_of_ble_eq_true rfl, Nat.le_of_ble_eq_true rfl⟩) ⟨fun a U g mk q => by obtain ⟨q0, q1, qP, qK, qD, qN⟩ := q; exact ⟨q0, q1, qP, va_K.moved (u := U) (U := U.calling g mk a) (Vm.Alike.refl U.vm) qK, qD, qN.same rfl⟩, va_recv hK hP (ci := 18) (q0 := h0) rfl (Wd_ob kg_3 sg_3 (by decide)), fun U hU hW => ⟨rfl, by rw [hU], by rw [hU]; exact hP, va_K.moved hW.alike hK, hD.weaken (fun _ _ _ _ => trivial), hN.warm hW⟩⟩ rfl rfl hl.1 rfl (lv_room (Nat.le_of_ble_eq_true rfl)) dX18_reckon_2 ⟨Nat.le_of_ble_eq_true rfl, Nat.le_of_ble_eq_true rfl⟩) hS (fun q _ h => hFc q h) hFc (fun rr u t H_4 locs ht hvm hw hB hz1 hk1 hS2 => ?_)
  rw [hw]
  clear hw
  obtain ⟨hP1, -, hD1⟩ := hB
  rw [ht] at hP1
  replace hD := hD1.weaken (fun _ _ _ h => hFc _ h)
  replace hP := hP1
  replace hS := hS2
  clear hP1 hD1 hS2 hFc hfc hz1 hk1 hvm ht
  refine lv_istore_n (lv' := [(2, .int r_2), (0, .ref (a h0)), (1, .int x0)]) hx hb dX18_reckon_5 rfl hl (by decide) rfl (fun ls hl2 => ?_)
  replace hl := hl2
  clear hl2
  refine lv_aload_n hx hb dX18_reckon_6 rfl (lv_at hl 1 rfl) ?_
  refine lv_iconst (v := 0) hx hb dX18_reckon_7 (by decide) ?_
  obtain ⟨z_5, r_6, hfc, hf⟩ := cal_some hf
  have hFc := de_free hD hS hA
  refine va_calli (va_runV (As := [.int 0]) (rest := []) ⟨hx, hb, hml, hown, hts⟩ (de_X18_takeAny l dC dI cy a sh n H_4.size F z_1 h0 0 hfc) (cwV 1 hts gX18_reckon_X18_takeAny rfl rfl rfl (by decide +kernel) ⟨Nat.le_of_ble_eq_true rfl, Nat.le_of_ble_eq_true rfl⟩) ⟨fun a U g mk q => by obtain ⟨q0, q1, qP, qK, qD, qN⟩ := q; exact ⟨q0, q1, qP, va_K.moved (u := U) (U := U.calling g mk a) (Vm.Alike.refl U.vm) qK, qD, qN.same rfl⟩, va_recv hK hP (ci := 18) (q0 := h0) rfl (Wd_ob kg_3 sg_3 (by decide)), fun U hU hW => ⟨rfl, by rw [hU], by rw [hU]; exact hP, va_K.moved hW.alike hK, hD.weaken (fun _ _ _ _ => trivial), hN.warm hW⟩⟩ rfl rfl hl.1 rfl (lv_room (Nat.le_of_ble_eq_true rfl)) dX18_reckon_8 ⟨Nat.le_of_ble_eq_true rfl, Nat.le_of_ble_eq_true rfl⟩) hS (fun q _ h => hFc q h) hFc (fun rr u t H_7 locs ht hvm hw hB hz1 hk1 hS2 => ?_)
  rw [hw]
  clear hw
  obtain ⟨hP1, -, hD1⟩ := hB
  rw [ht] at hP1
  replace hD := hD1.weaken (fun _ _ _ h => hFc _ h)
  replace hP := hP1
  replace hS := hS2
  clear hP1 hD1 hS2 hFc hfc hz1 hk1 hvm ht
  refine lv_istore_n (lv' := [(3, .int r_6), (2, .int r_2), (0, .ref (a h0)), (1, .int x0)]) hx hb dX18_reckon_11 rfl hl (by decide) rfl (fun ls hl2 => ?_)
  replace hl := hl2
  clear hl2
  refine lv_aload_n hx hb dX18_reckon_12 rfl (lv_at hl 2 rfl) ?_
  obtain ⟨z_8, r_9, hfc, hf⟩ := cal_some hf
  have hFc := de_free hD hS hA
  refine va_calli (va_runV (As := []) (rest := []) ⟨hx, hb, hml, hown, hts⟩ (de_X18_goesOn l dC dI cy a sh n H_7.size F z_5 h0 hfc) (cwV 0 hts gX18_reckon_X18_goesOn rfl rfl rfl (by decide +kernel) ⟨Nat.le_of_ble_eq_true rfl, Nat.le_of_ble_eq_true rfl⟩) ⟨fun a U g mk q => by obtain ⟨q0, q1, qP, qK, qD, qN⟩ := q; exact ⟨q0, q1, qP, va_K.moved (u := U) (U := U.calling g mk a) (Vm.Alike.refl U.vm) qK, qD, qN.same rfl⟩, va_recv hK hP (ci := 18) (q0 := h0) rfl (Wd_ob kg_3 sg_3 (by decide)), fun U hU hW => ⟨rfl, by rw [hU], by rw [hU]; exact hP, va_K.moved hW.alike hK, hD.weaken (fun _ _ _ _ => trivial), hN.warm hW⟩⟩ rfl rfl hl.1 rfl (lv_room (Nat.le_of_ble_eq_true rfl)) dX18_reckon_13 ⟨Nat.le_of_ble_eq_true rfl, Nat.le_of_ble_eq_true rfl⟩) hS (fun q _ h => hFc q h) hFc (fun rr u t H_10 locs ht hvm hw hB hz1 hk1 hS2 => ?_)
  rw [hw]
  clear hw
  obtain ⟨hP1, -, hD1⟩ := hB
  rw [ht] at hP1
  replace hD := hD1.weaken (fun _ _ _ h => hFc _ h)
  replace hP := hP1
  replace hS := hS2
  clear hP1 hD1 hS2 hFc hfc hz1 hk1 hvm ht
  refine de_cut (h := 44) (fun (x : St) => []) (fun x ls H locs => lv_has ls 15 [(3, .int r_6), (2, .int r_2), (0, .ref (a h0)), (1, .int x0)] ∧ va_P (dC, dI) vwCl (Wd cy a sh n x) H ∧ va_D A (Wd cy a sh n x) ∧ va_S A s.heap H locs) (fun x => fn_X18_reckon_B44 F sh n h0 r_6 r_2 x0 x) (z8, r8) ?_ (fun B44 => ?_)
  · intro x ls H locs hI hf
    obtain ⟨z_11, ez⟩ : ∃ w, w = x := ⟨_, rfl⟩
    subst ez
    obtain ⟨hl2, hP2, hD2, hS2⟩ := hI
    replace hl : lv_has ls 15 [(3, .int r_6), (2, .int r_2), (0, .ref (a h0)), (1, .int x0)] := hl2
    replace hP := hP2
    replace hD := hD2
    replace hS := hS2
    clear hl2 hP2 hD2 hS2
    replace hf := fn_X18_reckon_B44_s hf
    refine W.eq (g2 := F0 m 44 ls []) rfl ?_
    refine lv_aload_n hx hb dX18_reckon_44 rfl (lv_at hl 2 rfl) ?_
    obtain ⟨z_12, r_13, hfc, hf⟩ := cal_some hf
    have hFc := de_free hD hS hA
    refine va_calli (va_runV (As := []) (rest := []) ⟨hx, hb, hml, hown, hts⟩ (de_X18_goesOn l dC dI cy a sh n H.size F z_11 h0 hfc) (cwV 0 hts gX18_reckon_X18_goesOn rfl rfl rfl (by decide +kernel) ⟨Nat.le_of_ble_eq_true rfl, Nat.le_of_ble_eq_true rfl⟩) ⟨fun a U g mk q => by obtain ⟨q0, q1, qP, qK, qD, qN⟩ := q; exact ⟨q0, q1, qP, va_K.moved (u := U) (U := U.calling g mk a) (Vm.Alike.refl U.vm) qK, qD, qN.same rfl⟩, va_recv hK hP (ci := 18) (q0 := h0) rfl (Wd_ob kg_3 sg_3 (by decide)), fun U hU hW => ⟨rfl, by rw [hU], by rw [hU]; exact hP, va_K.moved hW.alike hK, hD.weaken (fun _ _ _ _ => trivial), hN.warm hW⟩⟩ rfl rfl hl.1 rfl (lv_room (Nat.le_of_ble_eq_true rfl)) dX18_reckon_45 ⟨Nat.le_of_ble_eq_true rfl, Nat.le_of_ble_eq_true rfl⟩) hS (fun q _ h => hFc q h) hFc (fun rr u t H_14 locs ht hvm hw hB hz1 hk1 hS2 => ?_)
    rw [hw]
    clear hw
    obtain ⟨hP1, -, hD1⟩ := hB
    rw [ht] at hP1
    replace hD := hD1.weaken (fun _ _ _ h => hFc _ h)
    replace hP := hP1
    replace hS := hS2
    clear hP1 hD1 hS2 hFc hfc hz1 hk1 hvm ht
    refine lv_if_ne (tgt := 52) hx hb dX18_reckon_48 (by decide) (fun c_15 => ?_) (fun c_15 => ?_)
    · skip
      rw [if_neg c_15] at hf
      refine lv_aload_n hx hb dX18_reckon_52 rfl (lv_at hl 2 rfl) ?_
      obtain ⟨k_16, ek_16, hf⟩ := lnk_some hf
      refine va_get (D := (dC, dI)) (ci := 18) (v := .ref (a k_16)) (C := RX18) (T := TX18) (N := 78) hx hb hts iwd_X18_reckon_X18 hown hK hP h0 (Wd_ob kg_3 sg_3 (by decide)) rfl 15 (by decide) (hts _ md_X18_reckon_1) (fun _ h9 => h9) (fl_q rfl ek_16) dX18_reckon_53 ?_
      obtain ⟨g_17, hf⟩ := grd_some hf
      obtain ⟨kg_17, sg_17⟩ := okO_at g_17
      obtain ⟨k_18, ek_18, hf⟩ := lnk_some hf
      refine va_getN (D := (dC, dI)) (ci := 15) (v := .ref (a k_18)) (C := RX15) (T := TX15) (N := 6) hx hb hts iwd_X18_reckon_X15 hown hK hP k_16 (Wd_ob kg_17 sg_17 (by decide)) rfl 0 (by decide) (va_Nw.use rfl (NK_f_X18_71 hN)) (fun _ h9 => h9) (fl_q rfl ek_18) dX18_reckon_56 ?_
      refine lv_iload_n hx hb dX18_reckon_59 rfl (lv_at hl 0 rfl) ?_
      obtain ⟨g_19, hf⟩ := grd_some hf
      obtain ⟨kg_19, sg_19, ig_19⟩ := okA_at g_19
      refine va_bald hx hb hK hP k_18 0 (Wd_ab kg_19 sg_19) rfl ig_19 dX18_reckon_60 ?_
      refine lv_topi (fun v_20 ev_20 => ?_)
      replace hf := lt_at ev_20 hf
      clear ev_20
      refine lv_istore (lv' := [(4, .int v_20), (3, .int r_6), (2, .int r_2), (0, .ref (a h0)), (1, .int x0)]) hx hb dX18_reckon_61 hl (by decide) rfl (fun ls hl2 => ?_)
      replace hl := hl2
      clear hl2
      refine lv_aload_n hx hb dX18_reckon_63 rfl (lv_at hl 3 rfl) ?_
      obtain ⟨k_21, ek_21, hf⟩ := lnk_some hf
      refine va_get (D := (dC, dI)) (ci := 18) (v := .ref (a k_21)) (C := RX18) (T := TX18) (N := 78) hx hb hts iwd_X18_reckon_X18 hown hK hP h0 (Wd_ob kg_3 sg_3 (by decide)) rfl 15 (by decide) (hts _ md_X18_reckon_1) (fun _ h9 => h9) (fl_q rfl ek_21) dX18_reckon_64 ?_
      obtain ⟨g_22, hf⟩ := grd_some hf
      obtain ⟨kg_22, sg_22⟩ := okO_at g_22
      obtain ⟨k_23, ek_23, hf⟩ := lnk_some hf
      refine va_getN (D := (dC, dI)) (ci := 15) (v := .ref (a k_23)) (C := RX15) (T := TX15) (N := 6) hx hb hts iwd_X18_reckon_X15 hown hK hP k_21 (Wd_ob kg_22 sg_22 (by decide)) rfl 1 (by decide) (va_Nw.use rfl (NK_f_X18_74 hN)) (fun _ h9 => h9) (fl_q rfl ek_23) dX18_reckon_67 ?_
      refine lv_iload_n hx hb dX18_reckon_70 rfl (lv_at hl 1 rfl) ?_
      obtain ⟨g_24, hf⟩ := grd_some hf
      obtain ⟨kg_24, sg_24, ig_24⟩ := okA_at g_24
      refine va_lald hx hb hK hP k_23 2 (Wd_al kg_24 sg_24) rfl ig_24 dX18_reckon_71 ?_
      refine lv_topl (fun v_25 ev_25 => ?_)
      replace hf := lt_at ev_25 hf
      clear ev_25
      refine lv_lstore (lv' := [(5, .long v_25), (4, .int v_20), (3, .int r_6), (2, .int r_2), (0, .ref (a h0)), (1, .int x0)]) hx hb dX18_reckon_72 hl (by decide) rfl (fun ls hl2 => ?_)
      replace hl := hl2
      clear hl2
      refine lv_aload_n hx hb dX18_reckon_74 rfl (lv_at hl 4 rfl) ?_
      obtain ⟨k_26, ek_26, hf⟩ := lnk_some hf
      refine va_get (D := (dC, dI)) (ci := 18) (v := .ref (a k_26)) (C := RX18) (T := TX18) (N := 78) hx hb hts iwd_X18_reckon_X18 hown hK hP h0 (Wd_ob kg_3 sg_3 (by decide)) rfl 15 (by decide) (hts _ md_X18_reckon_1) (fun _ h9 => h9) (fl_q rfl ek_26) dX18_reckon_75 ?_
      obtain ⟨g_27, hf⟩ := grd_some hf
      obtain ⟨kg_27, sg_27⟩ := okO_at g_27
      obtain ⟨k_28, ek_28, hf⟩ := lnk_some hf
      refine va_getN (D := (dC, dI)) (ci := 15) (v := .ref (a k_28)) (C := RX15) (T := TX15) (N := 6) hx hb hts iwd_X18_reckon_X15 hown hK hP k_26 (Wd_ob kg_27 sg_27 (by decide)) rfl 2 (by decide) (va_Nw.use rfl (NK_f_X18_77 hN)) (fun _ h9 => h9) (fl_q rfl ek_28) dX18_reckon_78 ?_
      refine lv_iload_n hx hb dX18_reckon_81 rfl (lv_at hl 2 rfl) ?_
      obtain ⟨g_29, hf⟩ := grd_some hf
      obtain ⟨kg_29, sg_29, ig_29⟩ := okA_at g_29
      refine va_lald hx hb hK hP k_28 2 (Wd_al kg_29 sg_29) rfl ig_29 dX18_reckon_82 ?_
      refine lv_topl (fun v_30 ev_30 => ?_)
      replace hf := lt_at ev_30 hf
      clear ev_30
      refine lv_lstore (lv' := [(7, .long v_30), (5, .long v_25), (4, .int v_20), (3, .int r_6), (2, .int r_2), (0, .ref (a h0)), (1, .int x0)]) hx hb dX18_reckon_83 hl (by decide) rfl (fun ls hl2 => ?_)
      replace hl := hl2
      clear hl2
      refine lv_aload_n hx hb dX18_reckon_85 rfl (lv_at hl 5 rfl) ?_
      obtain ⟨k_31, ek_31, hf⟩ := lnk_some hf
      refine va_get (D := (dC, dI)) (ci := 18) (v := .ref (a k_31)) (C := RX18) (T := TX18) (N := 78) hx hb hts iwd_X18_reckon_X18 hown hK hP h0 (Wd_ob kg_3 sg_3 (by decide)) rfl 15 (by decide) (hts _ md_X18_reckon_1) (fun _ h9 => h9) (fl_q rfl ek_31) dX18_reckon_86 ?_
      obtain ⟨g_32, hf⟩ := grd_some hf
      obtain ⟨kg_32, sg_32⟩ := okO_at g_32
      obtain ⟨k_33, ek_33, hf⟩ := lnk_some hf
      refine va_getN (D := (dC, dI)) (ci := 15) (v := .ref (a k_33)) (C := RX15) (T := TX15) (N := 6) hx hb hts iwd_X18_reckon_X15 hown hK hP k_31 (Wd_ob kg_32 sg_32 (by decide)) rfl 1 (by decide) (va_Nw.use rfl (NK_f_X18_74 hN)) (fun _ h9 => h9) (fl_q rfl ek_33) dX18_reckon_89 ?_
      refine lv_iload_n hx hb dX18_reckon_92 rfl (lv_at hl 4 rfl) ?_
      obtain ⟨g_34, hf⟩ := grd_some hf
      obtain ⟨kg_34, sg_34, ig_34⟩ := okA_at g_34
      refine va_lald hx hb hK hP k_33 2 (Wd_al kg_34 sg_34) rfl ig_34 dX18_reckon_93 ?_
      refine lv_topl (fun v_35 ev_35 => ?_)
      replace hf := lt_at ev_35 hf
      clear ev_35
      refine lv_lstore (lv' := [(9, .long v_35), (7, .long v_30), (5, .long v_25), (4, .int v_20), (3, .int r_6), (2, .int r_2), (0, .ref (a h0)), (1, .int x0)]) hx hb dX18_reckon_94 hl (by decide) rfl (fun ls hl2 => ?_)
      replace hl := hl2
      clear hl2
      refine lv_aload_n hx hb dX18_reckon_96 rfl (lv_at hl 6 rfl) ?_
      obtain ⟨k_36, ek_36, hf⟩ := lnk_some hf
      refine va_get (D := (dC, dI)) (ci := 18) (v := .ref (a k_36)) (C := RX18) (T := TX18) (N := 78) hx hb hts iwd_X18_reckon_X18 hown hK hP h0 (Wd_ob kg_3 sg_3 (by decide)) rfl 15 (by decide) (hts _ md_X18_reckon_1) (fun _ h9 => h9) (fl_q rfl ek_36) dX18_reckon_97 ?_
      obtain ⟨g_37, hf⟩ := grd_some hf
      obtain ⟨kg_37, sg_37⟩ := okO_at g_37
      obtain ⟨k_38, ek_38, hf⟩ := lnk_some hf
      refine va_getN (D := (dC, dI)) (ci := 15) (v := .ref (a k_38)) (C := RX15) (T := TX15) (N := 6) hx hb hts iwd_X18_reckon_X15 hown hK hP k_36 (Wd_ob kg_37 sg_37 (by decide)) rfl 2 (by decide) (va_Nw.use rfl (NK_f_X18_77 hN)) (fun _ h9 => h9) (fl_q rfl ek_38) dX18_reckon_100 ?_
      refine lv_iload_n hx hb dX18_reckon_103 rfl (lv_at hl 5 rfl) ?_
      obtain ⟨g_39, hf⟩ := grd_some hf
      obtain ⟨kg_39, sg_39, ig_39⟩ := okA_at g_39
      refine va_lald hx hb hK hP k_38 2 (Wd_al kg_39 sg_39) rfl ig_39 dX18_reckon_104 ?_
      refine lv_topl (fun v_40 ev_40 => ?_)
      replace hf := lt_at ev_40 hf
      clear ev_40
      refine lv_lstore (lv' := [(11, .long v_40), (9, .long v_35), (7, .long v_30), (5, .long v_25), (4, .int v_20), (3, .int r_6), (2, .int r_2), (0, .ref (a h0)), (1, .int x0)]) hx hb dX18_reckon_105 hl (by decide) rfl (fun ls hl2 => ?_)
      replace hl := hl2
      clear hl2
      refine lv_iload_n hx hb dX18_reckon_107 rfl (lv_at hl 8 rfl) ?_
      refine lv_bipush (v := 29) hx hb dX18_reckon_108 (by decide) ?_
      refine lv_icmp_ge (tgt := 169) hx hb dX18_reckon_110 (by decide) (fun c_41 => ?_) (fun c_41 => ?_)
      · skip
        rw [if_pos c_41] at hf
        refine lv_iload_n hx hb dX18_reckon_169 rfl (lv_at hl 8 rfl) ?_
        refine lv_bipush (v := 32) hx hb dX18_reckon_170 (by decide) ?_
        refine lv_icmp_ge (tgt := 250) hx hb dX18_reckon_172 (by decide) (fun c_42 => ?_) (fun c_42 => ?_)
        · skip
          rw [if_pos c_42] at hf
          refine lv_iload_n hx hb dX18_reckon_250 rfl (lv_at hl 8 rfl) ?_
          refine lv_bipush (v := 38) hx hb dX18_reckon_251 (by decide) ?_
          refine lv_icmp_ge (tgt := 317) hx hb dX18_reckon_253 (by decide) (fun c_43 => ?_) (fun c_43 => ?_)
          · skip
            rw [if_pos c_43] at hf
            refine lv_lload hx hb dX18_reckon_317 (lv_at hl 3 rfl) ?_
            refine lv_lload hx hb dX18_reckon_319 (lv_at hl 2 rfl) ?_
            refine lv_lload hx hb dX18_reckon_321 (lv_at hl 1 rfl) ?_
            refine lv_lload hx hb dX18_reckon_323 (lv_at hl 0 rfl) ?_
            obtain ⟨z_44, r_45, hfc, hf⟩ := cal_some hf
            have hFc := de_free hD hS hA
            refine va_calli (va_runS (As := [.long v_25, .long v_30, .long v_35, .long v_40]) (rest := []) ⟨hx, hb, hml, hown, hts⟩ (de_X17_compare l dC dI cy a sh n H_14.size F z_12 v_25 v_30 v_35 v_40 hfc) (va_cwS 4 hts gX18_reckon_X17_compare rfl rfl rfl (by decide +kernel) ⟨Nat.le_of_ble_eq_true rfl, Nat.le_of_ble_eq_true rfl⟩) ⟨fun a U g mk q => by obtain ⟨q0, q1, qP, qK, qD, qN⟩ := q; exact ⟨q0, q1, qP, va_K.moved (u := U) (U := U.calling g mk a) (Vm.Alike.refl U.vm) qK, qD, qN.same rfl⟩, fun U hU hW => ⟨rfl, by rw [hU], by rw [hU]; exact hP, va_K.moved hW.alike hK, hD.weaken (fun _ _ _ _ => trivial), hN.warm hW⟩⟩ rfl rfl hl.1 rfl (lv_room (Nat.le_of_ble_eq_true rfl)) dX18_reckon_325 ⟨Nat.le_of_ble_eq_true rfl, Nat.le_of_ble_eq_true rfl⟩) hS (fun q _ h => hFc q h) hFc (fun rr u t H_46 locs ht hvm hw hB hz1 hk1 hS2 => ?_)
            rw [hw]
            clear hw
            obtain ⟨hP1, -, hD1⟩ := hB
            rw [ht] at hP1
            replace hD := hD1.weaken (fun _ _ _ h => hFc _ h)
            replace hP := hP1
            replace hS := hS2
            clear hP1 hD1 hS2 hFc hfc hz1 hk1 hvm ht
            refine lv_istore (lv' := [(13, .int r_45), (11, .long v_40), (9, .long v_35), (7, .long v_30), (5, .long v_25), (4, .int v_20), (3, .int r_6), (2, .int r_2), (0, .ref (a h0)), (1, .int x0)]) hx hb dX18_reckon_328 hl (by decide) rfl (fun ls hl2 => ?_)
            replace hl := hl2
            clear hl2
            refine lv_iload_n hx hb dX18_reckon_330 rfl (lv_at hl 9 rfl) ?_
            refine lv_bipush (v := 38) hx hb dX18_reckon_331 (by decide) ?_
            refine de_cut (h := 397) (fun (x : St × Int32) => [.int x.2]) (fun x ls H locs => lv_has ls 15 [(0, .ref (a h0))] ∧ va_P (dC, dI) vwCl (Wd cy a sh n x.1) H ∧ va_D A (Wd cy a sh n x.1) ∧ va_S A s.heap H locs) (fun x => fn_X18_reckon_B397 F sh n h0 x.1 x.2) (z8, r8) ?_ (fun B397 => ?_)
            · intro x ls H locs hI hf
              obtain ⟨z_48, p_47⟩ := x
              obtain ⟨hl2, hP2, hD2, hS2⟩ := hI
              replace hl : lv_has ls 15 [(0, .ref (a h0))] := hl2
              replace hP := hP2
              replace hD := hD2
              replace hS := hS2
              clear hl2 hP2 hD2 hS2
              replace hf := fn_X18_reckon_B397_s hf
              refine W.eq (g2 := F0 m 397 ls [.int p_47]) rfl ?_
              refine lv_istore (lv' := [(14, .int p_47), (0, .ref (a h0))]) hx hb dX18_reckon_397 hl (by decide) rfl (fun ls hl2 => ?_)
              replace hl := hl2
              clear hl2
              refine lv_aload_n hx hb dX18_reckon_399 rfl (lv_at hl 1 rfl) ?_
              refine lv_iconst (v := 1) hx hb dX18_reckon_400 (by decide) ?_
              refine lv_lconst (v := 0) hx hb dX18_reckon_401 (by decide) ?_
              refine lv_iload hx hb dX18_reckon_402 (lv_at hl 0 rfl) ?_
              refine lv_if_eq (tgt := 411) hx hb dX18_reckon_404 (by decide) (fun c_49 => ?_) (fun c_49 => ?_)
              · skip
                rw [if_pos c_49] at hf
                refine lv_lconst (v := 0) hx hb dX18_reckon_411 (by decide) ?_
                obtain ⟨z_50, _u, hfc, hf⟩ := cal_some hf
                have hFc := de_free hD hS hA
                refine va_callv (va_runV (As := [.int 1, .long 0, .long 0]) (rest := []) ⟨hx, hb, hml, hown, hts⟩ (de_X18_make l dC dI cy a sh n H.size F z_48 h0 1 0 0 hfc) (cwV 3 hts gX18_reckon_X18_make rfl rfl rfl (by decide +kernel) ⟨Nat.le_of_ble_eq_true rfl, Nat.le_of_ble_eq_true rfl⟩) ⟨fun a U g mk q => by obtain ⟨q0, q1, qP, qK, qD, qN⟩ := q; exact ⟨q0, q1, qP, va_K.moved (u := U) (U := U.calling g mk a) (Vm.Alike.refl U.vm) qK, qD, qN.same rfl⟩, va_recv hK hP (ci := 18) (q0 := h0) rfl (Wd_ob kg_3 sg_3 (by decide)), fun U hU hW => ⟨rfl, by rw [hU], by rw [hU]; exact hP, va_K.moved hW.alike hK, hD.weaken (fun _ _ _ _ => trivial), hN.warm hW⟩⟩ rfl rfl hl.1 rfl (lv_room (Nat.le_of_ble_eq_true rfl)) dX18_reckon_412 ⟨Nat.le_of_ble_eq_true rfl, Nat.le_of_ble_eq_true rfl⟩) hS (fun q _ h => hFc q h) hFc (fun u t H_51 locs ht hvm hw hB hz1 hk1 hS2 => ?_)
                obtain ⟨hP1, -, hD1⟩ := hB
                rw [ht] at hP1
                replace hD := hD1.weaken (fun _ _ _ h => hFc _ h)
                replace hP := hP1
                replace hS := hS2
                clear hP1 hD1 hS2 hFc hfc hz1 hk1 hvm ht
                obtain ⟨h8, h9⟩ := ret_some hf
                rw [h8]
                exact W.vret hx hb hr (fun t ht hW => ⟨⟨(), rfl, trivial, by rw [ht]; exact hP, va_K.moved hW.alike hK, hD⟩, hS.F ht⟩) hS.2.2 dX18_reckon_415
              · skip
                rw [if_neg c_49] at hf
                refine lv_lconst (v := 1) hx hb dX18_reckon_407 (by decide) ?_
                refine lv_goto (tgt := 412) hx hb dX18_reckon_408 (by decide) ?_
                obtain ⟨z_52, _u, hfc, hf⟩ := cal_some hf
                have hFc := de_free hD hS hA
                refine va_callv (va_runV (As := [.int 1, .long 0, .long 1]) (rest := []) ⟨hx, hb, hml, hown, hts⟩ (de_X18_make l dC dI cy a sh n H.size F z_48 h0 1 0 1 hfc) (cwV 3 hts gX18_reckon_X18_make rfl rfl rfl (by decide +kernel) ⟨Nat.le_of_ble_eq_true rfl, Nat.le_of_ble_eq_true rfl⟩) ⟨fun a U g mk q => by obtain ⟨q0, q1, qP, qK, qD, qN⟩ := q; exact ⟨q0, q1, qP, va_K.moved (u := U) (U := U.calling g mk a) (Vm.Alike.refl U.vm) qK, qD, qN.same rfl⟩, va_recv hK hP (ci := 18) (q0 := h0) rfl (Wd_ob kg_3 sg_3 (by decide)), fun U hU hW => ⟨rfl, by rw [hU], by rw [hU]; exact hP, va_K.moved hW.alike hK, hD.weaken (fun _ _ _ _ => trivial), hN.warm hW⟩⟩ rfl rfl hl.1 rfl (lv_room (Nat.le_of_ble_eq_true rfl)) dX18_reckon_412 ⟨Nat.le_of_ble_eq_true rfl, Nat.le_of_ble_eq_true rfl⟩) hS (fun q _ h => hFc q h) hFc (fun u t H_53 locs ht hvm hw hB hz1 hk1 hS2 => ?_)
                obtain ⟨hP1, -, hD1⟩ := hB
                rw [ht] at hP1
                replace hD := hD1.weaken (fun _ _ _ h => hFc _ h)
                replace hP := hP1
                replace hS := hS2
                clear hP1 hD1 hS2 hFc hfc hz1 hk1 hvm ht
                obtain ⟨h8, h9⟩ := ret_some hf
                rw [h8]
                exact W.vret hx hb hr (fun t ht hW => ⟨⟨(), rfl, trivial, by rw [ht]; exact hP, va_K.moved hW.alike hK, hD⟩, hS.F ht⟩) hS.2.2 dX18_reckon_415
            refine lv_icmp_ne (tgt := 349) hx hb dX18_reckon_333 (by decide) (fun c_54 => ?_) (fun c_54 => ?_)
            · skip
              rw [if_neg c_54] at hf
              refine lv_iload_n hx hb dX18_reckon_349 rfl (lv_at hl 9 rfl) ?_
              refine lv_bipush (v := 39) hx hb dX18_reckon_350 (by decide) ?_
              refine lv_icmp_ne (tgt := 368) hx hb dX18_reckon_352 (by decide) (fun c_55 => ?_) (fun c_55 => ?_)
              · skip
                rw [if_neg c_55] at hf
                refine lv_iload_n hx hb dX18_reckon_368 rfl (lv_at hl 9 rfl) ?_
                refine lv_bipush (v := 40) hx hb dX18_reckon_369 (by decide) ?_
                refine lv_icmp_ne (tgt := 387) hx hb dX18_reckon_371 (by decide) (fun c_56 => ?_) (fun c_56 => ?_)
                · skip
                  rw [if_neg c_56] at hf
                  refine lv_iload hx hb dX18_reckon_387 (lv_at hl 0 rfl) ?_
                  refine lv_if_lt (tgt := 396) hx hb dX18_reckon_389 (by decide) (fun c_57 => ?_) (fun c_57 => ?_)
                  · skip
                    rw [if_pos c_57] at hf
                    refine lv_iconst (v := 0) hx hb dX18_reckon_396 (by decide) ?_
                    exact B397 (z_44, 0) ls H_46 locs ⟨lv_sub hl [8] rfl, hP, hD, hS⟩ hf
                  · skip
                    rw [if_neg c_57] at hf
                    refine lv_iconst (v := 1) hx hb dX18_reckon_392 (by decide) ?_
                    refine lv_goto (tgt := 397) hx hb dX18_reckon_393 (by decide) ?_
                    exact B397 (z_44, 1) ls H_46 locs ⟨lv_sub hl [8] rfl, hP, hD, hS⟩ hf
                · skip
                  rw [if_pos c_56] at hf
                  refine lv_iload hx hb dX18_reckon_374 (lv_at hl 0 rfl) ?_
                  refine lv_if_le (tgt := 383) hx hb dX18_reckon_376 (by decide) (fun c_58 => ?_) (fun c_58 => ?_)
                  · skip
                    rw [if_pos c_58] at hf
                    refine lv_iconst (v := 0) hx hb dX18_reckon_383 (by decide) ?_
                    refine lv_goto (tgt := 397) hx hb dX18_reckon_384 (by decide) ?_
                    exact B397 (z_44, 0) ls H_46 locs ⟨lv_sub hl [8] rfl, hP, hD, hS⟩ hf
                  · skip
                    rw [if_neg c_58] at hf
                    refine lv_iconst (v := 1) hx hb dX18_reckon_379 (by decide) ?_
                    refine lv_goto (tgt := 397) hx hb dX18_reckon_380 (by decide) ?_
                    exact B397 (z_44, 1) ls H_46 locs ⟨lv_sub hl [8] rfl, hP, hD, hS⟩ hf
              · skip
                rw [if_pos c_55] at hf
                refine lv_iload hx hb dX18_reckon_355 (lv_at hl 0 rfl) ?_
                refine lv_if_gt (tgt := 364) hx hb dX18_reckon_357 (by decide) (fun c_59 => ?_) (fun c_59 => ?_)
                · skip
                  rw [if_pos c_59] at hf
                  refine lv_iconst (v := 0) hx hb dX18_reckon_364 (by decide) ?_
                  refine lv_goto (tgt := 397) hx hb dX18_reckon_365 (by decide) ?_
                  exact B397 (z_44, 0) ls H_46 locs ⟨lv_sub hl [8] rfl, hP, hD, hS⟩ hf
                · skip
                  rw [if_neg c_59] at hf
                  refine lv_iconst (v := 1) hx hb dX18_reckon_360 (by decide) ?_
                  refine lv_goto (tgt := 397) hx hb dX18_reckon_361 (by decide) ?_
                  exact B397 (z_44, 1) ls H_46 locs ⟨lv_sub hl [8] rfl, hP, hD, hS⟩ hf
            · skip
              rw [if_pos c_54] at hf
              refine lv_iload hx hb dX18_reckon_336 (lv_at hl 0 rfl) ?_
              refine lv_if_ge (tgt := 345) hx hb dX18_reckon_338 (by decide) (fun c_60 => ?_) (fun c_60 => ?_)
              · skip
                rw [if_pos c_60] at hf
                refine lv_iconst (v := 0) hx hb dX18_reckon_345 (by decide) ?_
                refine lv_goto (tgt := 397) hx hb dX18_reckon_346 (by decide) ?_
                exact B397 (z_44, 0) ls H_46 locs ⟨lv_sub hl [8] rfl, hP, hD, hS⟩ hf
              · skip
                rw [if_neg c_60] at hf
                refine lv_iconst (v := 1) hx hb dX18_reckon_341 (by decide) ?_
                refine lv_goto (tgt := 397) hx hb dX18_reckon_342 (by decide) ?_
                exact B397 (z_44, 1) ls H_46 locs ⟨lv_sub hl [8] rfl, hP, hD, hS⟩ hf
          · skip
            rw [if_neg c_43] at hf
            refine lv_aload_n hx hb dX18_reckon_256 rfl (lv_at hl 7 rfl) ?_
            refine lv_aload_n hx hb dX18_reckon_257 rfl (lv_at hl 7 rfl) ?_
            obtain ⟨k_61, ek_61, hf⟩ := lnk_some hf
            refine va_get (D := (dC, dI)) (ci := 18) (v := .ref (a k_61)) (C := RX18) (T := TX18) (N := 78) hx hb hts iwd_X18_reckon_X18 hown hK hP h0 (Wd_ob kg_3 sg_3 (by decide)) rfl 15 (by decide) (hts _ md_X18_reckon_1) (fun _ h9 => h9) (fl_q rfl ek_61) dX18_reckon_258 ?_
            refine lv_iload_n hx hb dX18_reckon_261 rfl (lv_at hl 5 rfl) ?_
            obtain ⟨g_64, hf⟩ := grd_some hf
            obtain ⟨kg_64, sg_64⟩ := okO_at g_64
            obtain ⟨z_62, r_63, hfc, hf⟩ := cal_some hf
            have hFc := de_free hD hS hA
            refine va_calli (va_runV (As := [.int r_6]) (rest := [.ref (a h0)]) ⟨hx, hb, hml, hown, hts⟩ (de_X15_sizeOf l dC dI cy a sh n F 48 H_14.size z_12 k_61 r_6 hfc) (cwV 1 hts gX18_reckon_X15_sizeOf rfl rfl rfl (by decide +kernel) ⟨Nat.le_of_ble_eq_true rfl, Nat.le_of_ble_eq_true rfl⟩) ⟨fun a U g mk q => by obtain ⟨q0, q1, qP, qK, qD, qN⟩ := q; exact ⟨q0, q1, qP, va_K.moved (u := U) (U := U.calling g mk a) (Vm.Alike.refl U.vm) qK, qD, qN.same rfl⟩, va_recv hK hP (ci := 15) (q0 := k_61) rfl (Wd_ob kg_64 sg_64 (by decide)), fun U hU hW => ⟨rfl, by rw [hU], by rw [hU]; exact hP, va_K.moved hW.alike hK, hD.weaken (fun _ _ _ _ => trivial), hN.warm hW⟩⟩ rfl rfl hl.1 rfl (lv_room (Nat.le_of_ble_eq_true rfl)) dX18_reckon_262 ⟨Nat.le_of_ble_eq_true rfl, Nat.le_of_ble_eq_true rfl⟩) hS (fun q _ h => hFc q h) hFc (fun rr u t H_65 locs ht hvm hw hB hz1 hk1 hS2 => ?_)
            rw [hw]
            clear hw
            obtain ⟨hP1, -, hD1⟩ := hB
            rw [ht] at hP1
            replace hD := hD1.weaken (fun _ _ _ h => hFc _ h)
            replace hP := hP1
            replace hS := hS2
            clear hP1 hD1 hS2 hFc hfc hz1 hk1 hvm ht
            refine lv_aload_n hx hb dX18_reckon_265 rfl (lv_at hl 7 rfl) ?_
            obtain ⟨k_66, ek_66, hf⟩ := lnk_some hf
            refine va_get (D := (dC, dI)) (ci := 18) (v := .ref (a k_66)) (C := RX18) (T := TX18) (N := 78) hx hb hts iwd_X18_reckon_X18 hown hK hP h0 (Wd_ob kg_3 sg_3 (by decide)) rfl 15 (by decide) (hts _ md_X18_reckon_1) (fun _ h9 => h9) (fl_q rfl ek_66) dX18_reckon_266 ?_
            refine lv_iload_n hx hb dX18_reckon_269 rfl (lv_at hl 6 rfl) ?_
            obtain ⟨g_69, hf⟩ := grd_some hf
            obtain ⟨kg_69, sg_69⟩ := okO_at g_69
            obtain ⟨z_67, r_68, hfc, hf⟩ := cal_some hf
            have hFc := de_free hD hS hA
            refine va_calli (va_runV (As := [.int r_2]) (rest := [.int r_63, .ref (a h0)]) ⟨hx, hb, hml, hown, hts⟩ (de_X15_sizeOf l dC dI cy a sh n F 48 H_65.size z_62 k_66 r_2 hfc) (cwV 1 hts gX18_reckon_X15_sizeOf rfl rfl rfl (by decide +kernel) ⟨Nat.le_of_ble_eq_true rfl, Nat.le_of_ble_eq_true rfl⟩) ⟨fun a U g mk q => by obtain ⟨q0, q1, qP, qK, qD, qN⟩ := q; exact ⟨q0, q1, qP, va_K.moved (u := U) (U := U.calling g mk a) (Vm.Alike.refl U.vm) qK, qD, qN.same rfl⟩, va_recv hK hP (ci := 15) (q0 := k_66) rfl (Wd_ob kg_69 sg_69 (by decide)), fun U hU hW => ⟨rfl, by rw [hU], by rw [hU]; exact hP, va_K.moved hW.alike hK, hD.weaken (fun _ _ _ _ => trivial), hN.warm hW⟩⟩ rfl rfl hl.1 rfl (lv_room (Nat.le_of_ble_eq_true rfl)) dX18_reckon_270 ⟨Nat.le_of_ble_eq_true rfl, Nat.le_of_ble_eq_true rfl⟩) hS (fun q _ h => hFc q h) hFc (fun rr u t H_70 locs ht hvm hw hB hz1 hk1 hS2 => ?_)
            rw [hw]
            clear hw
            obtain ⟨hP1, -, hD1⟩ := hB
            rw [ht] at hP1
            replace hD := hD1.weaken (fun _ _ _ h => hFc _ h)
            replace hP := hP1
            replace hS := hS2
            clear hP1 hD1 hS2 hFc hfc hz1 hk1 hvm ht
            refine lv_iadd hx hb dX18_reckon_273 ?_
            obtain ⟨z_71, r_72, hfc, hf⟩ := cal_some hf
            have hFc := de_free hD hS hA
            refine va_calli (va_runV (As := [.int (r_63 + r_68)]) (rest := []) ⟨hx, hb, hml, hown, hts⟩ (de_X18_spend l dC dI cy a sh n H_70.size F z_67 h0 (r_63 + r_68) hfc) (cwV 1 hts gX18_reckon_X18_spend rfl rfl rfl (by decide +kernel) ⟨Nat.le_of_ble_eq_true rfl, Nat.le_of_ble_eq_true rfl⟩) ⟨fun a U g mk q => by obtain ⟨q0, q1, qP, qK, qD, qN⟩ := q; exact ⟨q0, q1, qP, va_K.moved (u := U) (U := U.calling g mk a) (Vm.Alike.refl U.vm) qK, qD, qN.same rfl⟩, va_recv hK hP (ci := 18) (q0 := h0) rfl (Wd_ob kg_3 sg_3 (by decide)), fun U hU hW => ⟨rfl, by rw [hU], by rw [hU]; exact hP, va_K.moved hW.alike hK, hD.weaken (fun _ _ _ _ => trivial), hN.warm hW⟩⟩ rfl rfl hl.1 rfl (lv_room (Nat.le_of_ble_eq_true rfl)) dX18_reckon_274 ⟨Nat.le_of_ble_eq_true rfl, Nat.le_of_ble_eq_true rfl⟩) hS (fun q _ h => hFc q h) hFc (fun rr u t H_73 locs ht hvm hw hB hz1 hk1 hS2 => ?_)
            rw [hw]
            clear hw
            obtain ⟨hP1, -, hD1⟩ := hB
            rw [ht] at hP1
            replace hD := hD1.weaken (fun _ _ _ h => hFc _ h)
            replace hP := hP1
            replace hS := hS2
            clear hP1 hD1 hS2 hFc hfc hz1 hk1 hvm ht
            refine lv_if_eq (tgt := 415) hx hb dX18_reckon_277 (by decide) (fun c_74 => ?_) (fun c_74 => ?_)
            · skip
              rw [if_pos c_74] at hf
              obtain ⟨h8, h9⟩ := ret_some hf
              rw [h8]
              exact W.vret hx hb hr (fun t ht hW => ⟨⟨(), rfl, trivial, by rw [ht]; exact hP, va_K.moved hW.alike hK, hD⟩, hS.F ht⟩) hS.2.2 dX18_reckon_415
            · skip
              rw [if_neg c_74] at hf
              refine lv_aload_n hx hb dX18_reckon_280 rfl (lv_at hl 7 rfl) ?_
              refine lv_iconst (v := 1) hx hb dX18_reckon_281 (by decide) ?_
              refine lv_lconst (v := 0) hx hb dX18_reckon_282 (by decide) ?_
              refine lv_aload_n hx hb dX18_reckon_283 rfl (lv_at hl 7 rfl) ?_
              obtain ⟨k_75, ek_75, hf⟩ := lnk_some hf
              refine va_get (D := (dC, dI)) (ci := 18) (v := .ref (a k_75)) (C := RX18) (T := TX18) (N := 78) hx hb hts iwd_X18_reckon_X18 hown hK hP h0 (Wd_ob kg_3 sg_3 (by decide)) rfl 15 (by decide) (hts _ md_X18_reckon_1) (fun _ h9 => h9) (fl_q rfl ek_75) dX18_reckon_284 ?_
              refine lv_iload_n hx hb dX18_reckon_287 rfl (lv_at hl 5 rfl) ?_
              refine lv_iload_n hx hb dX18_reckon_288 rfl (lv_at hl 6 rfl) ?_
              obtain ⟨g_78, hf⟩ := grd_some hf
              obtain ⟨kg_78, sg_78⟩ := okO_at g_78
              obtain ⟨z_76, r_77, hfc, hf⟩ := cal_some hf
              have hFc := de_free hD hS hA
              refine va_calli (va_runV (As := [.int r_6, .int r_2]) (rest := [.long 0, .int 1, .ref (a h0)]) ⟨hx, hb, hml, hown, hts⟩ (de_X15_isAlike l dC dI cy a sh n F 48 H_73.size z_71 k_75 r_6 r_2 hfc) (cwV 2 hts gX18_reckon_X15_isAlike rfl rfl rfl (by decide +kernel) ⟨Nat.le_of_ble_eq_true rfl, Nat.le_of_ble_eq_true rfl⟩) ⟨fun a U g mk q => by obtain ⟨q0, q1, qP, qK, qD, qN⟩ := q; exact ⟨q0, q1, qP, va_K.moved (u := U) (U := U.calling g mk a) (Vm.Alike.refl U.vm) qK, qD, qN.same rfl⟩, va_recv hK hP (ci := 15) (q0 := k_75) rfl (Wd_ob kg_78 sg_78 (by decide)), fun U hU hW => ⟨rfl, by rw [hU], by rw [hU]; exact hP, va_K.moved hW.alike hK, hD.weaken (fun _ _ _ _ => trivial), hN.warm hW⟩⟩ rfl rfl hl.1 rfl (lv_room (Nat.le_of_ble_eq_true rfl)) dX18_reckon_289 ⟨Nat.le_of_ble_eq_true rfl, Nat.le_of_ble_eq_true rfl⟩) hS (fun q _ h => hFc q h) hFc (fun rr u t H_79 locs ht hvm hw hB hz1 hk1 hS2 => ?_)
              rw [hw]
              clear hw
              obtain ⟨hP1, -, hD1⟩ := hB
              rw [ht] at hP1
              replace hD := hD1.weaken (fun _ _ _ h => hFc _ h)
              replace hP := hP1
              replace hS := hS2
              clear hP1 hD1 hS2 hFc hfc hz1 hk1 hvm ht
              refine lv_iload_n hx hb dX18_reckon_292 rfl (lv_at hl 8 rfl) ?_
              refine lv_bipush (v := 36) hx hb dX18_reckon_293 (by decide) ?_
              refine de_cut (h := 303) (fun (x : St × Int32) => [.int x.2, .int r_77, .long 0, .int 1, .ref (a h0)]) (fun x ls H locs => lv_has ls 15 [] ∧ va_P (dC, dI) vwCl (Wd cy a sh n x.1) H ∧ va_D A (Wd cy a sh n x.1) ∧ va_S A s.heap H locs) (fun x => fn_X18_reckon_B303 F sh n r_77 h0 x.1 x.2) (z8, r8) ?_ (fun B303 => ?_)
              · intro x ls H locs hI hf
                obtain ⟨z_81, p_80⟩ := x
                obtain ⟨hl2, hP2, hD2, hS2⟩ := hI
                replace hl : lv_has ls 15 [] := hl2
                replace hP := hP2
                replace hD := hD2
                replace hS := hS2
                clear hl2 hP2 hD2 hS2
                replace hf := fn_X18_reckon_B303_s hf
                refine W.eq (g2 := F0 m 303 ls [.int p_80, .int r_77, .long 0, .int 1, .ref (a h0)]) rfl ?_
                refine lv_icmp_ne (tgt := 310) hx hb dX18_reckon_303 (by decide) (fun c_82 => ?_) (fun c_82 => ?_)
                · skip
                  rw [if_neg c_82] at hf
                  refine lv_lconst (v := 0) hx hb dX18_reckon_310 (by decide) ?_
                  obtain ⟨z_83, _u, hfc, hf⟩ := cal_some hf
                  have hFc := de_free hD hS hA
                  refine va_callv (va_runV (As := [.int 1, .long 0, .long 0]) (rest := []) ⟨hx, hb, hml, hown, hts⟩ (de_X18_make l dC dI cy a sh n H.size F z_81 h0 1 0 0 hfc) (cwV 3 hts gX18_reckon_X18_make rfl rfl rfl (by decide +kernel) ⟨Nat.le_of_ble_eq_true rfl, Nat.le_of_ble_eq_true rfl⟩) ⟨fun a U g mk q => by obtain ⟨q0, q1, qP, qK, qD, qN⟩ := q; exact ⟨q0, q1, qP, va_K.moved (u := U) (U := U.calling g mk a) (Vm.Alike.refl U.vm) qK, qD, qN.same rfl⟩, va_recv hK hP (ci := 18) (q0 := h0) rfl (Wd_ob kg_3 sg_3 (by decide)), fun U hU hW => ⟨rfl, by rw [hU], by rw [hU]; exact hP, va_K.moved hW.alike hK, hD.weaken (fun _ _ _ _ => trivial), hN.warm hW⟩⟩ rfl rfl hl.1 rfl (lv_room (Nat.le_of_ble_eq_true rfl)) dX18_reckon_311 ⟨Nat.le_of_ble_eq_true rfl, Nat.le_of_ble_eq_true rfl⟩) hS (fun q _ h => hFc q h) hFc (fun u t H_84 locs ht hvm hw hB hz1 hk1 hS2 => ?_)
                  obtain ⟨hP1, -, hD1⟩ := hB
                  rw [ht] at hP1
                  replace hD := hD1.weaken (fun _ _ _ h => hFc _ h)
                  replace hP := hP1
                  replace hS := hS2
                  clear hP1 hD1 hS2 hFc hfc hz1 hk1 hvm ht
                  refine lv_goto (tgt := 415) hx hb dX18_reckon_314 (by decide) ?_
                  obtain ⟨h8, h9⟩ := ret_some hf
                  rw [h8]
                  exact W.vret hx hb hr (fun t ht hW => ⟨⟨(), rfl, trivial, by rw [ht]; exact hP, va_K.moved hW.alike hK, hD⟩, hS.F ht⟩) hS.2.2 dX18_reckon_415
                · skip
                  rw [if_pos c_82] at hf
                  refine lv_lconst (v := 1) hx hb dX18_reckon_306 (by decide) ?_
                  refine lv_goto (tgt := 311) hx hb dX18_reckon_307 (by decide) ?_
                  obtain ⟨z_85, _u, hfc, hf⟩ := cal_some hf
                  have hFc := de_free hD hS hA
                  refine va_callv (va_runV (As := [.int 1, .long 0, .long 1]) (rest := []) ⟨hx, hb, hml, hown, hts⟩ (de_X18_make l dC dI cy a sh n H.size F z_81 h0 1 0 1 hfc) (cwV 3 hts gX18_reckon_X18_make rfl rfl rfl (by decide +kernel) ⟨Nat.le_of_ble_eq_true rfl, Nat.le_of_ble_eq_true rfl⟩) ⟨fun a U g mk q => by obtain ⟨q0, q1, qP, qK, qD, qN⟩ := q; exact ⟨q0, q1, qP, va_K.moved (u := U) (U := U.calling g mk a) (Vm.Alike.refl U.vm) qK, qD, qN.same rfl⟩, va_recv hK hP (ci := 18) (q0 := h0) rfl (Wd_ob kg_3 sg_3 (by decide)), fun U hU hW => ⟨rfl, by rw [hU], by rw [hU]; exact hP, va_K.moved hW.alike hK, hD.weaken (fun _ _ _ _ => trivial), hN.warm hW⟩⟩ rfl rfl hl.1 rfl (lv_room (Nat.le_of_ble_eq_true rfl)) dX18_reckon_311 ⟨Nat.le_of_ble_eq_true rfl, Nat.le_of_ble_eq_true rfl⟩) hS (fun q _ h => hFc q h) hFc (fun u t H_86 locs ht hvm hw hB hz1 hk1 hS2 => ?_)
                  obtain ⟨hP1, -, hD1⟩ := hB
                  rw [ht] at hP1
                  replace hD := hD1.weaken (fun _ _ _ h => hFc _ h)
                  replace hP := hP1
                  replace hS := hS2
                  clear hP1 hD1 hS2 hFc hfc hz1 hk1 hvm ht
                  refine lv_goto (tgt := 415) hx hb dX18_reckon_314 (by decide) ?_
                  obtain ⟨h8, h9⟩ := ret_some hf
                  rw [h8]
                  exact W.vret hx hb hr (fun t ht hW => ⟨⟨(), rfl, trivial, by rw [ht]; exact hP, va_K.moved hW.alike hK, hD⟩, hS.F ht⟩) hS.2.2 dX18_reckon_415
              refine lv_icmp_ne (tgt := 302) hx hb dX18_reckon_295 (by decide) (fun c_87 => ?_) (fun c_87 => ?_)
              · skip
                rw [if_neg c_87] at hf
                refine lv_iconst (v := 0) hx hb dX18_reckon_302 (by decide) ?_
                exact B303 (z_76, 0) ls H_79 locs ⟨lv_sub hl [] rfl, hP, hD, hS⟩ hf
              · skip
                rw [if_pos c_87] at hf
                refine lv_iconst (v := 1) hx hb dX18_reckon_298 (by decide) ?_
                refine lv_goto (tgt := 303) hx hb dX18_reckon_299 (by decide) ?_
                exact B303 (z_76, 1) ls H_79 locs ⟨lv_sub hl [] rfl, hP, hD, hS⟩ hf
        · skip
          rw [if_neg c_42] at hf
          refine lv_aload_n hx hb dX18_reckon_175 rfl (lv_at hl 7 rfl) ?_
          refine lv_iload hx hb dX18_reckon_176 (lv_at hl 4 rfl) ?_
          refine lv_iload_n hx hb dX18_reckon_178 rfl (lv_at hl 8 rfl) ?_
          refine lv_bipush (v := 29) hx hb dX18_reckon_179 (by decide) ?_
          refine de_cut (h := 211) (fun (x : St × Int64) => [.long x.2, .int v_20, .ref (a h0)]) (fun x ls H locs => lv_has ls 15 [(11, .long v_40), (7, .long v_30), (1, .int x0)] ∧ va_P (dC, dI) vwCl (Wd cy a sh n x.1) H ∧ va_D A (Wd cy a sh n x.1) ∧ va_S A s.heap H locs) (fun x => fn_X18_reckon_B211 F sh n x0 h0 v_20 v_30 v_40 x.1 x.2) (z8, r8) ?_ (fun B211 => ?_)
          · intro x ls H locs hI hf
            obtain ⟨z_89, p_88⟩ := x
            obtain ⟨hl2, hP2, hD2, hS2⟩ := hI
            replace hl : lv_has ls 15 [(11, .long v_40), (7, .long v_30), (1, .int x0)] := hl2
            replace hP := hP2
            replace hD := hD2
            replace hS := hS2
            clear hl2 hP2 hD2 hS2
            replace hf := fn_X18_reckon_B211_s hf
            refine W.eq (g2 := F0 m 211 ls [.long p_88, .int v_20, .ref (a h0)]) rfl ?_
            refine lv_iload_n hx hb dX18_reckon_211 rfl (lv_at hl 2 rfl) ?_
            refine lv_bipush (v := 29) hx hb dX18_reckon_212 (by decide) ?_
            refine lv_icmp_ne (tgt := 225) hx hb dX18_reckon_214 (by decide) (fun c_90 => ?_) (fun c_90 => ?_)
            · skip
              rw [if_neg c_90] at hf
              refine lv_iload_n hx hb dX18_reckon_225 rfl (lv_at hl 2 rfl) ?_
              refine lv_bipush (v := 30) hx hb dX18_reckon_226 (by decide) ?_
              refine lv_icmp_ne (tgt := 239) hx hb dX18_reckon_228 (by decide) (fun c_91 => ?_) (fun c_91 => ?_)
              · skip
                rw [if_neg c_91] at hf
                refine lv_lload hx hb dX18_reckon_239 (lv_at hl 1 rfl) ?_
                refine lv_lload hx hb dX18_reckon_241 (lv_at hl 0 rfl) ?_
                refine lv_lxor hx hb dX18_reckon_243 ?_
                obtain ⟨z_92, _u, hfc, hf⟩ := cal_some hf
                have hFc := de_free hD hS hA
                refine va_callv (va_runV (As := [.int v_20, .long p_88, .long (v_30 ^^^ v_40)]) (rest := []) ⟨hx, hb, hml, hown, hts⟩ (de_X18_make l dC dI cy a sh n H.size F z_89 h0 v_20 p_88 (v_30 ^^^ v_40) hfc) (cwV 3 hts gX18_reckon_X18_make rfl rfl rfl (by decide +kernel) ⟨Nat.le_of_ble_eq_true rfl, Nat.le_of_ble_eq_true rfl⟩) ⟨fun a U g mk q => by obtain ⟨q0, q1, qP, qK, qD, qN⟩ := q; exact ⟨q0, q1, qP, va_K.moved (u := U) (U := U.calling g mk a) (Vm.Alike.refl U.vm) qK, qD, qN.same rfl⟩, va_recv hK hP (ci := 18) (q0 := h0) rfl (Wd_ob kg_3 sg_3 (by decide)), fun U hU hW => ⟨rfl, by rw [hU], by rw [hU]; exact hP, va_K.moved hW.alike hK, hD.weaken (fun _ _ _ _ => trivial), hN.warm hW⟩⟩ rfl rfl hl.1 rfl (lv_room (Nat.le_of_ble_eq_true rfl)) dX18_reckon_244 ⟨Nat.le_of_ble_eq_true rfl, Nat.le_of_ble_eq_true rfl⟩) hS (fun q _ h => hFc q h) hFc (fun u t H_93 locs ht hvm hw hB hz1 hk1 hS2 => ?_)
                obtain ⟨hP1, -, hD1⟩ := hB
                rw [ht] at hP1
                replace hD := hD1.weaken (fun _ _ _ h => hFc _ h)
                replace hP := hP1
                replace hS := hS2
                clear hP1 hD1 hS2 hFc hfc hz1 hk1 hvm ht
                refine lv_goto (tgt := 415) hx hb dX18_reckon_247 (by decide) ?_
                obtain ⟨h8, h9⟩ := ret_some hf
                rw [h8]
                exact W.vret hx hb hr (fun t ht hW => ⟨⟨(), rfl, trivial, by rw [ht]; exact hP, va_K.moved hW.alike hK, hD⟩, hS.F ht⟩) hS.2.2 dX18_reckon_415
              · skip
                rw [if_pos c_91] at hf
                refine lv_lload hx hb dX18_reckon_231 (lv_at hl 1 rfl) ?_
                refine lv_lload hx hb dX18_reckon_233 (lv_at hl 0 rfl) ?_
                refine lv_lor hx hb dX18_reckon_235 ?_
                refine lv_goto (tgt := 244) hx hb dX18_reckon_236 (by decide) ?_
                obtain ⟨z_94, _u, hfc, hf⟩ := cal_some hf
                have hFc := de_free hD hS hA
                refine va_callv (va_runV (As := [.int v_20, .long p_88, .long (v_30 ||| v_40)]) (rest := []) ⟨hx, hb, hml, hown, hts⟩ (de_X18_make l dC dI cy a sh n H.size F z_89 h0 v_20 p_88 (v_30 ||| v_40) hfc) (cwV 3 hts gX18_reckon_X18_make rfl rfl rfl (by decide +kernel) ⟨Nat.le_of_ble_eq_true rfl, Nat.le_of_ble_eq_true rfl⟩) ⟨fun a U g mk q => by obtain ⟨q0, q1, qP, qK, qD, qN⟩ := q; exact ⟨q0, q1, qP, va_K.moved (u := U) (U := U.calling g mk a) (Vm.Alike.refl U.vm) qK, qD, qN.same rfl⟩, va_recv hK hP (ci := 18) (q0 := h0) rfl (Wd_ob kg_3 sg_3 (by decide)), fun U hU hW => ⟨rfl, by rw [hU], by rw [hU]; exact hP, va_K.moved hW.alike hK, hD.weaken (fun _ _ _ _ => trivial), hN.warm hW⟩⟩ rfl rfl hl.1 rfl (lv_room (Nat.le_of_ble_eq_true rfl)) dX18_reckon_244 ⟨Nat.le_of_ble_eq_true rfl, Nat.le_of_ble_eq_true rfl⟩) hS (fun q _ h => hFc q h) hFc (fun u t H_95 locs ht hvm hw hB hz1 hk1 hS2 => ?_)
                obtain ⟨hP1, -, hD1⟩ := hB
                rw [ht] at hP1
                replace hD := hD1.weaken (fun _ _ _ h => hFc _ h)
                replace hP := hP1
                replace hS := hS2
                clear hP1 hD1 hS2 hFc hfc hz1 hk1 hvm ht
                refine lv_goto (tgt := 415) hx hb dX18_reckon_247 (by decide) ?_
                obtain ⟨h8, h9⟩ := ret_some hf
                rw [h8]
                exact W.vret hx hb hr (fun t ht hW => ⟨⟨(), rfl, trivial, by rw [ht]; exact hP, va_K.moved hW.alike hK, hD⟩, hS.F ht⟩) hS.2.2 dX18_reckon_415
            · skip
              rw [if_pos c_90] at hf
              refine lv_lload hx hb dX18_reckon_217 (lv_at hl 1 rfl) ?_
              refine lv_lload hx hb dX18_reckon_219 (lv_at hl 0 rfl) ?_
              refine lv_land hx hb dX18_reckon_221 ?_
              refine lv_goto (tgt := 244) hx hb dX18_reckon_222 (by decide) ?_
              obtain ⟨z_96, _u, hfc, hf⟩ := cal_some hf
              have hFc := de_free hD hS hA
              refine va_callv (va_runV (As := [.int v_20, .long p_88, .long (v_30 &&& v_40)]) (rest := []) ⟨hx, hb, hml, hown, hts⟩ (de_X18_make l dC dI cy a sh n H.size F z_89 h0 v_20 p_88 (v_30 &&& v_40) hfc) (cwV 3 hts gX18_reckon_X18_make rfl rfl rfl (by decide +kernel) ⟨Nat.le_of_ble_eq_true rfl, Nat.le_of_ble_eq_true rfl⟩) ⟨fun a U g mk q => by obtain ⟨q0, q1, qP, qK, qD, qN⟩ := q; exact ⟨q0, q1, qP, va_K.moved (u := U) (U := U.calling g mk a) (Vm.Alike.refl U.vm) qK, qD, qN.same rfl⟩, va_recv hK hP (ci := 18) (q0 := h0) rfl (Wd_ob kg_3 sg_3 (by decide)), fun U hU hW => ⟨rfl, by rw [hU], by rw [hU]; exact hP, va_K.moved hW.alike hK, hD.weaken (fun _ _ _ _ => trivial), hN.warm hW⟩⟩ rfl rfl hl.1 rfl (lv_room (Nat.le_of_ble_eq_true rfl)) dX18_reckon_244 ⟨Nat.le_of_ble_eq_true rfl, Nat.le_of_ble_eq_true rfl⟩) hS (fun q _ h => hFc q h) hFc (fun u t H_97 locs ht hvm hw hB hz1 hk1 hS2 => ?_)
              obtain ⟨hP1, -, hD1⟩ := hB
              rw [ht] at hP1
              replace hD := hD1.weaken (fun _ _ _ h => hFc _ h)
              replace hP := hP1
              replace hS := hS2
              clear hP1 hD1 hS2 hFc hfc hz1 hk1 hvm ht
              refine lv_goto (tgt := 415) hx hb dX18_reckon_247 (by decide) ?_
              obtain ⟨h8, h9⟩ := ret_some hf
              rw [h8]
              exact W.vret hx hb hr (fun t ht hW => ⟨⟨(), rfl, trivial, by rw [ht]; exact hP, va_K.moved hW.alike hK, hD⟩, hS.F ht⟩) hS.2.2 dX18_reckon_415
          refine lv_icmp_ne (tgt := 192) hx hb dX18_reckon_181 (by decide) (fun c_98 => ?_) (fun c_98 => ?_)
          · skip
            rw [if_neg c_98] at hf
            refine lv_iload_n hx hb dX18_reckon_192 rfl (lv_at hl 8 rfl) ?_
            refine lv_bipush (v := 30) hx hb dX18_reckon_193 (by decide) ?_
            refine lv_icmp_ne (tgt := 206) hx hb dX18_reckon_195 (by decide) (fun c_99 => ?_) (fun c_99 => ?_)
            · skip
              rw [if_neg c_99] at hf
              refine lv_lload hx hb dX18_reckon_206 (lv_at hl 3 rfl) ?_
              refine lv_lload hx hb dX18_reckon_208 (lv_at hl 1 rfl) ?_
              refine lv_lxor hx hb dX18_reckon_210 ?_
              exact B211 (z_12, (v_25 ^^^ v_35)) ls H_14 locs ⟨lv_sub hl [0, 2, 8] rfl, hP, hD, hS⟩ hf
            · skip
              rw [if_pos c_99] at hf
              refine lv_lload hx hb dX18_reckon_198 (lv_at hl 3 rfl) ?_
              refine lv_lload hx hb dX18_reckon_200 (lv_at hl 1 rfl) ?_
              refine lv_lor hx hb dX18_reckon_202 ?_
              refine lv_goto (tgt := 211) hx hb dX18_reckon_203 (by decide) ?_
              exact B211 (z_12, (v_25 ||| v_35)) ls H_14 locs ⟨lv_sub hl [0, 2, 8] rfl, hP, hD, hS⟩ hf
          · skip
            rw [if_pos c_98] at hf
            refine lv_lload hx hb dX18_reckon_184 (lv_at hl 3 rfl) ?_
            refine lv_lload hx hb dX18_reckon_186 (lv_at hl 1 rfl) ?_
            refine lv_land hx hb dX18_reckon_188 ?_
            refine lv_goto (tgt := 211) hx hb dX18_reckon_189 (by decide) ?_
            exact B211 (z_12, (v_25 &&& v_35)) ls H_14 locs ⟨lv_sub hl [0, 2, 8] rfl, hP, hD, hS⟩ hf
      · skip
        rw [if_neg c_41] at hf
        refine lv_aload_n hx hb dX18_reckon_113 rfl (lv_at hl 7 rfl) ?_
        obtain ⟨k_100, ek_100, hf⟩ := lnk_some hf
        refine va_get (D := (dC, dI)) (ci := 18) (v := .ref (a k_100)) (C := RX18) (T := TX18) (N := 78) hx hb hts iwd_X18_reckon_X18 hown hK hP h0 (Wd_ob kg_3 sg_3 (by decide)) rfl 17 (by decide) (hts _ md_X18_reckon_2) (fun _ h9 => h9) (fl_q rfl ek_100) dX18_reckon_114 ?_
        refine lv_iload_n hx hb dX18_reckon_117 rfl (lv_at hl 8 rfl) ?_
        refine lv_lload hx hb dX18_reckon_118 (lv_at hl 3 rfl) ?_
        refine lv_lload hx hb dX18_reckon_120 (lv_at hl 2 rfl) ?_
        refine lv_lload hx hb dX18_reckon_122 (lv_at hl 1 rfl) ?_
        refine lv_lload hx hb dX18_reckon_124 (lv_at hl 0 rfl) ?_
        refine lv_iload hx hb dX18_reckon_126 (lv_at hl 4 rfl) ?_
        obtain ⟨z_101, r_102, hfc, hf⟩ := cal_some hf
        have hFc := de_free hD hS hA
        refine va_calli (va_runS16 (As := [.int v_20]) (rest := [.long v_40, .long v_35, .long v_30, .long v_25, .int x0, .ref (a k_100)]) ⟨hx, hb, hml, hown, hts⟩ (de_X18_bitsOf l dC dI cy a sh n H_14.size F z_12 v_20 hfc) (va_cwS 1 hts gX18_reckon_X18_bitsOf rfl rfl rfl (by decide +kernel) ⟨Nat.le_of_ble_eq_true rfl, Nat.le_of_ble_eq_true rfl⟩) (Nat.le_of_ble_eq_true rfl) ⟨fun a U g mk q => by obtain ⟨q0, q1, qP, qK, qD, qN⟩ := q; exact ⟨q0, q1, qP, va_K.moved (u := U) (U := U.calling g mk a) (Vm.Alike.refl U.vm) qK, qD, qN.same rfl⟩, fun U hU hW => ⟨rfl, by rw [hU], by rw [hU]; exact hP, va_K.moved hW.alike hK, hD.weaken (fun _ _ _ _ => trivial), hN.warm hW⟩⟩ rfl rfl hl.1 rfl (lv_room16 (Nat.le_of_ble_eq_true rfl)) dX18_reckon_128 ⟨Nat.le_of_ble_eq_true rfl, Nat.le_of_ble_eq_true rfl⟩) hS (fun q _ h => hFc q h) hFc (fun rr u t H_103 locs ht hvm hw hB hz1 hk1 hS2 => ?_)
        rw [hw]
        clear hw
        obtain ⟨hP1, -, hD1⟩ := hB
        rw [ht] at hP1
        replace hD := hD1.weaken (fun _ _ _ h => hFc _ h)
        replace hP := hP1
        replace hS := hS2
        clear hP1 hD1 hS2 hFc hfc hz1 hk1 hvm ht
        obtain ⟨g_106, hf⟩ := grd_some hf
        obtain ⟨kg_106, sg_106⟩ := okO_at g_106
        obtain ⟨z_104, r_105, hfc, hf⟩ := cal_some hf
        have hFc := de_free hD hS hA
        refine va_calli (va_runV (As := [.int x0, .long v_25, .long v_30, .long v_35, .long v_40, .int r_102]) (rest := []) ⟨hx, hb, hml, hown, hts⟩ (de_X17_reckon l dC dI cy a sh n H_103.size F z_101 k_100 x0 v_25 v_30 v_35 v_40 r_102 hfc) (cwV 6 hts gX18_reckon_X17_reckon rfl rfl rfl (by decide +kernel) ⟨Nat.le_of_ble_eq_true rfl, Nat.le_of_ble_eq_true rfl⟩) ⟨fun a U g mk q => by obtain ⟨q0, q1, qP, qK, qD, qN⟩ := q; exact ⟨q0, q1, qP, va_K.moved (u := U) (U := U.calling g mk a) (Vm.Alike.refl U.vm) qK, qD, qN.same rfl⟩, va_recv hK hP (ci := 17) (q0 := k_100) rfl (Wd_ob kg_106 sg_106 (by decide)), fun U hU hW => ⟨rfl, by rw [hU], by rw [hU]; exact hP, va_K.moved hW.alike hK, hD.weaken (fun _ _ _ _ => trivial), hN.warm hW⟩⟩ rfl rfl hl.1 rfl (lv_room (Nat.le_of_ble_eq_true rfl)) dX18_reckon_131 ⟨Nat.le_of_ble_eq_true rfl, Nat.le_of_ble_eq_true rfl⟩) hS (fun q _ h => hFc q h) hFc (fun rr u t H_107 locs ht hvm hw hB hz1 hk1 hS2 => ?_)
        rw [hw]
        clear hw
        obtain ⟨hP1, -, hD1⟩ := hB
        rw [ht] at hP1
        replace hD := hD1.weaken (fun _ _ _ h => hFc _ h)
        replace hP := hP1
        replace hS := hS2
        clear hP1 hD1 hS2 hFc hfc hz1 hk1 hvm ht
        refine lv_if_eq (tgt := 160) hx hb dX18_reckon_134 (by decide) (fun c_108 => ?_) (fun c_108 => ?_)
        · skip
          rw [if_pos c_108] at hf
          refine lv_aload_n hx hb dX18_reckon_160 rfl (lv_at hl 7 rfl) ?_
          refine lv_iconst (v := 2) hx hb dX18_reckon_161 (by decide) ?_
          refine lv_lconst (v := 1) hx hb dX18_reckon_162 (by decide) ?_
          obtain ⟨z_109, _u, hfc, hf⟩ := cal_some hf
          have hFc := de_free hD hS hA
          refine va_callv (va_runV (As := [.int 2, .long 1]) (rest := []) ⟨hx, hb, hml, hown, hts⟩ (de_X18_end l dC dI cy a sh n H_107.size F z_104 h0 2 1 hfc) (cwV 2 hts gX18_reckon_X18_end rfl rfl rfl (by decide +kernel) ⟨Nat.le_of_ble_eq_true rfl, Nat.le_of_ble_eq_true rfl⟩) ⟨fun a U g mk q => by obtain ⟨q0, q1, qP, qK, qD, qN⟩ := q; exact ⟨q0, q1, qP, va_K.moved (u := U) (U := U.calling g mk a) (Vm.Alike.refl U.vm) qK, qD, qN.same rfl⟩, va_recv hK hP (ci := 18) (q0 := h0) rfl (Wd_ob kg_3 sg_3 (by decide)), fun U hU hW => ⟨rfl, by rw [hU], by rw [hU]; exact hP, va_K.moved hW.alike hK, hD.weaken (fun _ _ _ _ => trivial), hN.warm hW⟩⟩ rfl rfl hl.1 rfl (lv_room (Nat.le_of_ble_eq_true rfl)) dX18_reckon_163 ⟨Nat.le_of_ble_eq_true rfl, Nat.le_of_ble_eq_true rfl⟩) hS (fun q _ h => hFc q h) hFc (fun u t H_110 locs ht hvm hw hB hz1 hk1 hS2 => ?_)
          obtain ⟨hP1, -, hD1⟩ := hB
          rw [ht] at hP1
          replace hD := hD1.weaken (fun _ _ _ h => hFc _ h)
          replace hP := hP1
          replace hS := hS2
          clear hP1 hD1 hS2 hFc hfc hz1 hk1 hvm ht
          refine lv_goto (tgt := 415) hx hb dX18_reckon_166 (by decide) ?_
          obtain ⟨h8, h9⟩ := ret_some hf
          rw [h8]
          exact W.vret hx hb hr (fun t ht hW => ⟨⟨(), rfl, trivial, by rw [ht]; exact hP, va_K.moved hW.alike hK, hD⟩, hS.F ht⟩) hS.2.2 dX18_reckon_415
        · skip
          rw [if_neg c_108] at hf
          refine lv_aload_n hx hb dX18_reckon_137 rfl (lv_at hl 7 rfl) ?_
          refine lv_iload hx hb dX18_reckon_138 (lv_at hl 4 rfl) ?_
          refine lv_aload_n hx hb dX18_reckon_140 rfl (lv_at hl 7 rfl) ?_
          obtain ⟨k_111, ek_111, hf⟩ := lnk_some hf
          refine va_get (D := (dC, dI)) (ci := 18) (v := .ref (a k_111)) (C := RX18) (T := TX18) (N := 78) hx hb hts iwd_X18_reckon_X18 hown hK hP h0 (Wd_ob kg_3 sg_3 (by decide)) rfl 17 (by decide) (hts _ md_X18_reckon_2) (fun _ h9 => h9) (fl_q rfl ek_111) dX18_reckon_141 ?_
          obtain ⟨g_112, hf⟩ := grd_some hf
          obtain ⟨kg_112, sg_112⟩ := okO_at g_112
          refine va_getN (D := (dC, dI)) (ci := 17) (v := .long (z_104.2.1 k_111 3)) (C := RX17) (T := TX17) (N := 5) hx hb hts iwd_X18_reckon_X17 hown hK hP k_111 (Wd_ob kg_112 sg_112 (by decide)) rfl 3 (by decide) (va_Nw.use rfl (NK_f_X18_386 hN)) (fun _ h9 => h9) (fl_at (t := 1) rfl) dX18_reckon_144 ?_
          refine lv_aload_n hx hb dX18_reckon_147 rfl (lv_at hl 7 rfl) ?_
          obtain ⟨k_113, ek_113, hf⟩ := lnk_some hf
          refine va_get (D := (dC, dI)) (ci := 18) (v := .ref (a k_113)) (C := RX18) (T := TX18) (N := 78) hx hb hts iwd_X18_reckon_X18 hown hK hP h0 (Wd_ob kg_3 sg_3 (by decide)) rfl 17 (by decide) (hts _ md_X18_reckon_2) (fun _ h9 => h9) (fl_q rfl ek_113) dX18_reckon_148 ?_
          obtain ⟨g_114, hf⟩ := grd_some hf
          obtain ⟨kg_114, sg_114⟩ := okO_at g_114
          refine va_getN (D := (dC, dI)) (ci := 17) (v := .long (z_104.2.1 k_113 4)) (C := RX17) (T := TX17) (N := 5) hx hb hts iwd_X18_reckon_X17 hown hK hP k_113 (Wd_ob kg_114 sg_114 (by decide)) rfl 4 (by decide) (va_Nw.use rfl (NK_f_X18_389 hN)) (fun _ h9 => h9) (fl_at (t := 1) rfl) dX18_reckon_151 ?_
          obtain ⟨z_115, _u, hfc, hf⟩ := cal_some hf
          have hFc := de_free hD hS hA
          refine va_callv (va_runV (As := [.int v_20, .long (z_104.2.1 k_111 3), .long (z_104.2.1 k_113 4)]) (rest := []) ⟨hx, hb, hml, hown, hts⟩ (de_X18_make l dC dI cy a sh n H_107.size F z_104 h0 v_20 (z_104.2.1 k_111 3) (z_104.2.1 k_113 4) hfc) (cwV 3 hts gX18_reckon_X18_make rfl rfl rfl (by decide +kernel) ⟨Nat.le_of_ble_eq_true rfl, Nat.le_of_ble_eq_true rfl⟩) ⟨fun a U g mk q => by obtain ⟨q0, q1, qP, qK, qD, qN⟩ := q; exact ⟨q0, q1, qP, va_K.moved (u := U) (U := U.calling g mk a) (Vm.Alike.refl U.vm) qK, qD, qN.same rfl⟩, va_recv hK hP (ci := 18) (q0 := h0) rfl (Wd_ob kg_3 sg_3 (by decide)), fun U hU hW => ⟨rfl, by rw [hU], by rw [hU]; exact hP, va_K.moved hW.alike hK, hD.weaken (fun _ _ _ _ => trivial), hN.warm hW⟩⟩ rfl rfl hl.1 rfl (lv_room (Nat.le_of_ble_eq_true rfl)) dX18_reckon_154 ⟨Nat.le_of_ble_eq_true rfl, Nat.le_of_ble_eq_true rfl⟩) hS (fun q _ h => hFc q h) hFc (fun u t H_116 locs ht hvm hw hB hz1 hk1 hS2 => ?_)
          obtain ⟨hP1, -, hD1⟩ := hB
          rw [ht] at hP1
          replace hD := hD1.weaken (fun _ _ _ h => hFc _ h)
          replace hP := hP1
          replace hS := hS2
          clear hP1 hD1 hS2 hFc hfc hz1 hk1 hvm ht
          refine lv_goto (tgt := 415) hx hb dX18_reckon_157 (by decide) ?_
          obtain ⟨h8, h9⟩ := ret_some hf
          rw [h8]
          exact W.vret hx hb hr (fun t ht hW => ⟨⟨(), rfl, trivial, by rw [ht]; exact hP, va_K.moved hW.alike hK, hD⟩, hS.F ht⟩) hS.2.2 dX18_reckon_415
    · skip
      rw [if_pos c_15] at hf
      obtain ⟨h8, h9⟩ := ret_some hf
      rw [h8]
      exact W.vret hx hb hr (fun t ht hW => ⟨⟨(), rfl, trivial, by rw [ht]; exact hP, va_K.moved hW.alike hK, hD⟩, hS.F ht⟩) hS.2.2 dX18_reckon_51
  refine lv_if_eq (tgt := 44) hx hb dX18_reckon_16 (by decide) (fun c_117 => ?_) (fun c_117 => ?_)
  · skip
    rw [if_pos c_117] at hf
    exact B44 (z_8) ls H_10 locs ⟨lv_sub hl [0, 1, 2, 3] rfl, hP, hD, hS⟩ hf
  · skip
    rw [if_neg c_117] at hf
    refine lv_aload_n hx hb dX18_reckon_19 rfl (lv_at hl 2 rfl) ?_
    obtain ⟨k_118, ek_118, hf⟩ := lnk_some hf
    refine va_get (D := (dC, dI)) (ci := 18) (v := .ref (a k_118)) (C := RX18) (T := TX18) (N := 78) hx hb hts iwd_X18_reckon_X18 hown hK hP h0 (Wd_ob kg_3 sg_3 (by decide)) rfl 15 (by decide) (hts _ md_X18_reckon_1) (fun _ h9 => h9) (fl_q rfl ek_118) dX18_reckon_20 ?_
    obtain ⟨g_119, hf⟩ := grd_some hf
    obtain ⟨kg_119, sg_119⟩ := okO_at g_119
    obtain ⟨k_120, ek_120, hf⟩ := lnk_some hf
    refine va_getN (D := (dC, dI)) (ci := 15) (v := .ref (a k_120)) (C := RX15) (T := TX15) (N := 6) hx hb hts iwd_X18_reckon_X15 hown hK hP k_118 (Wd_ob kg_119 sg_119 (by decide)) rfl 0 (by decide) (va_Nw.use rfl (NK_f_X18_71 hN)) (fun _ h9 => h9) (fl_q rfl ek_120) dX18_reckon_23 ?_
    refine lv_iload_n hx hb dX18_reckon_26 rfl (lv_at hl 0 rfl) ?_
    obtain ⟨g_121, hf⟩ := grd_some hf
    obtain ⟨kg_121, sg_121, ig_121⟩ := okA_at g_121
    refine va_bald hx hb hK hP k_120 0 (Wd_ab kg_121 sg_121) rfl ig_121 dX18_reckon_27 ?_
    refine lv_aload_n hx hb dX18_reckon_28 rfl (lv_at hl 2 rfl) ?_
    obtain ⟨k_122, ek_122, hf⟩ := lnk_some hf
    refine va_get (D := (dC, dI)) (ci := 18) (v := .ref (a k_122)) (C := RX18) (T := TX18) (N := 78) hx hb hts iwd_X18_reckon_X18 hown hK hP h0 (Wd_ob kg_3 sg_3 (by decide)) rfl 15 (by decide) (hts _ md_X18_reckon_1) (fun _ h9 => h9) (fl_q rfl ek_122) dX18_reckon_29 ?_
    obtain ⟨g_123, hf⟩ := grd_some hf
    obtain ⟨kg_123, sg_123⟩ := okO_at g_123
    obtain ⟨k_124, ek_124, hf⟩ := lnk_some hf
    refine va_getN (D := (dC, dI)) (ci := 15) (v := .ref (a k_124)) (C := RX15) (T := TX15) (N := 6) hx hb hts iwd_X18_reckon_X15 hown hK hP k_122 (Wd_ob kg_123 sg_123 (by decide)) rfl 0 (by decide) (va_Nw.use rfl (NK_f_X18_71 hN)) (fun _ h9 => h9) (fl_q rfl ek_124) dX18_reckon_32 ?_
    refine lv_iload_n hx hb dX18_reckon_35 rfl (lv_at hl 1 rfl) ?_
    obtain ⟨g_125, hf⟩ := grd_some hf
    obtain ⟨kg_125, sg_125, ig_125⟩ := okA_at g_125
    refine va_bald hx hb hK hP k_124 0 (Wd_ab kg_125 sg_125) rfl ig_125 dX18_reckon_36 ?_
    refine lv_icmp_eq (tgt := 44) hx hb dX18_reckon_37 (by decide) (fun c_126 => ?_) (fun c_126 => ?_)
    · skip
      rw [if_pos c_126] at hf
      exact B44 (z_8) ls H_10 locs ⟨lv_sub hl [0, 1, 2, 3] rfl, hP, hD, hS⟩ hf
    · skip
      rw [if_neg c_126] at hf
      refine lv_aload_n hx hb dX18_reckon_40 rfl (lv_at hl 2 rfl) ?_
      obtain ⟨z_127, _u, hfc, hf⟩ := cal_some hf
      have hFc := de_free hD hS hA
      refine va_callv (va_runV (As := []) (rest := []) ⟨hx, hb, hml, hown, hts⟩ (de_X18_slip l dC dI cy a sh n H_10.size F z_8 h0 hfc) (cwV 0 hts gX18_reckon_X18_slip rfl rfl rfl (by decide +kernel) ⟨Nat.le_of_ble_eq_true rfl, Nat.le_of_ble_eq_true rfl⟩) ⟨fun a U g mk q => by obtain ⟨q0, q1, qP, qK, qD, qN⟩ := q; exact ⟨q0, q1, qP, va_K.moved (u := U) (U := U.calling g mk a) (Vm.Alike.refl U.vm) qK, qD, qN.same rfl⟩, va_recv hK hP (ci := 18) (q0 := h0) rfl (Wd_ob kg_3 sg_3 (by decide)), fun U hU hW => ⟨rfl, by rw [hU], by rw [hU]; exact hP, va_K.moved hW.alike hK, hD.weaken (fun _ _ _ _ => trivial), hN.warm hW⟩⟩ rfl rfl hl.1 rfl (lv_room (Nat.le_of_ble_eq_true rfl)) dX18_reckon_41 ⟨Nat.le_of_ble_eq_true rfl, Nat.le_of_ble_eq_true rfl⟩) hS (fun q _ h => hFc q h) hFc (fun u t H_128 locs ht hvm hw hB hz1 hk1 hS2 => ?_)
      obtain ⟨hP1, -, hD1⟩ := hB
      rw [ht] at hP1
      replace hD := hD1.weaken (fun _ _ _ h => hFc _ h)
      replace hP := hP1
      replace hS := hS2
      clear hP1 hD1 hS2 hFc hfc hz1 hk1 hvm ht
      exact B44 (z_127) ls H_128 locs ⟨lv_sub hl [0, 1, 2, 3] rfl, hP, hD, hS⟩ hf

theorem md_X16_many_1 : (.fieldLink RX16 104 "ResourceLedgerModel$Unit" "functions" "I" : Cond) ∈ wsX16_many := List.mem_of_getElem? (i := 1) rfl
theorem iwd_X16_many_X16 : ∀ w ∈ wsX160, w ∈ wsX16_many := fun _ h => List.mem_cons_of_mem _ (List.mem_append_right _ h)
set_option maxHeartbeats 4000000 in
set_option maxRecDepth 100000 in
theorem de_X16_many (l : Launch) (dC : Nat → ClassId) (dI : Nat → Nat → Nat) (cy : Nat → ClassId) (a : Nat → Nat) (sh : Nat → Nat × Nat) (n sz : Nat) (F : Nat) (z : St) (h0 : Nat) (x0 : Int32) (x1 : Int32) {z8 : St} {r8 : Int32} (hf : fn_X16_many F sh n z h0 x0 x1 = some (z8, r8)) : Met l yX16_many wsX16_many ({ frames := 5, cells := 0, slots := 0, locals := 114 }) (va_Pc [.ref (a h0), .int x0, .int x1] (fun U => U.heap.size = sz ∧ va_P (dC, dI) vwCl (Wd cy a sh n z) U.heap ∧ va_K (dC, dI) vwCl (TYS cy) U ∧ va_D (fun _ => True) (Wd cy a sh n z) ∧ NK U)) (va_Qi (fun (r9 : Int32) (u : Unit) => r9 = r8) (fun u t => va_P (dC, dI) vwCl (Wd cy a sh n z8) t.heap ∧ va_K (dC, dI) vwCl (TYS cy) t ∧ va_D (va_A (Wd cy a sh n z) sz) (Wd cy a sh n z8)) (va_A (Wd cy a sh n z) sz)) 0 0 (va_A (Wd cy a sh n z) sz) := by
  refine Met.ofW (cc := cX16_many) (maxL := 3) (ret := (some .int)) (by decide) rfl ?_
  intro p e s m args below meth c s₁ B hml hv
  obtain ⟨rfl, hsz, hP, hK, hD0, hN⟩ := hv
  have hx := B.exec
  have hb := B.bytes
  have hr := B.returns
  have hts := atoms_spec (ws := wsX16_many) B.pre
  have hown : s.vm.findClass RX16 = some m.cls := findClass_of_methodNamed B.named
  have hlocks := B.notSynchronized
  subst hsz
  have hD := hD0.self (sz := s.heap.size)
  clear hD0
  generalize hAe : va_A (Wd cy a sh n z) s.heap.size = A at hD ⊢
  have hA : ∀ q : Nat, s.heap.size ≤ q → A q := fun q h => by rw [← hAe]; exact Or.inr h
  clear hAe
  have hS : va_S A s.heap s.heap [] := va_S.rf
  have hl := lv_entry ([.ref (a h0), .int x0, .int x1]) (n := 3) (Nat.le_of_ble_eq_true rfl)
  rw [lg_entry_eq]
  generalize (lg_sl ([.ref (a h0), .int x0, .int x1]) ++ List.replicate (3 - (lg_sl ([.ref (a h0), .int x0, .int x1])).length) Slot.unset).toArray = ls at hl ⊢
  replace hl : lv_has ls 3 [(0, .ref (a h0)), (1, .int x0), (2, .int x1)] := hl
  unfold fn_X16_many at hf
  refine de_start hS hP (fun H locs hS hP => ?_)
  refine lv_iload_n hx hb dX16_many_0 rfl (lv_at hl 1 rfl) ?_
  refine lv_aload_n hx hb dX16_many_1 rfl (lv_at hl 0 rfl) ?_
  obtain ⟨g_1, hf⟩ := grd_some hf
  obtain ⟨kg_1, sg_1⟩ := okO_at g_1
  refine va_get (D := (dC, dI)) (ci := 16) (v := .int (z.1 h0 9)) (C := RX16) (T := TX16) (N := 18) hx hb hts iwd_X16_many_X16 hown hK hP h0 (Wd_ob kg_1 sg_1 (by decide)) rfl 9 (by decide) (hts _ md_X16_many_1) (fun _ h9 => h9) (fl_at (t := 0) rfl) dX16_many_2 ?_
  refine lv_icmp_lt (tgt := 17) hx hb dX16_many_5 (by decide) (fun c_2 => ?_) (fun c_2 => ?_)
  · skip
    rw [if_pos c_2] at hf
    refine lv_aload_n hx hb dX16_many_17 rfl (lv_at hl 0 rfl) ?_
    refine lv_aload_n hx hb dX16_many_18 rfl (lv_at hl 0 rfl) ?_
    refine lv_iload_n hx hb dX16_many_19 rfl (lv_at hl 1 rfl) ?_
    refine lv_iload_n hx hb dX16_many_20 rfl (lv_at hl 2 rfl) ?_
    obtain ⟨z_3, r_4, hfc, hf⟩ := cal_some hf
    have hFc := de_free hD hS hA
    refine va_calli (va_runV (As := [.int x0, .int x1]) (rest := [.ref (a h0)]) ⟨hx, hb, hml, hown, hts⟩ (de_X16_listOf l dC dI cy a sh n H.size F z h0 x0 x1 hfc) (cwV 2 hts gX16_many_X16_listOf rfl rfl rfl (by decide +kernel) ⟨Nat.le_of_ble_eq_true rfl, Nat.le_of_ble_eq_true rfl⟩) ⟨fun a U g mk q => by obtain ⟨q0, q1, qP, qK, qD, qN⟩ := q; exact ⟨q0, q1, qP, va_K.moved (u := U) (U := U.calling g mk a) (Vm.Alike.refl U.vm) qK, qD, qN.same rfl⟩, va_recv hK hP (ci := 16) (q0 := h0) rfl (Wd_ob kg_1 sg_1 (by decide)), fun U hU hW => ⟨rfl, by rw [hU], by rw [hU]; exact hP, va_K.moved hW.alike hK, hD.weaken (fun _ _ _ _ => trivial), hN.warm hW⟩⟩ rfl rfl hl.1 rfl (lv_room (Nat.le_of_ble_eq_true rfl)) dX16_many_21 ⟨Nat.le_of_ble_eq_true rfl, Nat.le_of_ble_eq_true rfl⟩) hS (fun q _ h => hFc q h) hFc (fun rr u t H_5 locs ht hvm hw hB hz1 hk1 hS2 => ?_)
    rw [hw]
    clear hw
    obtain ⟨hP1, -, hD1⟩ := hB
    rw [ht] at hP1
    replace hD := hD1.weaken (fun _ _ _ h => hFc _ h)
    replace hP := hP1
    replace hS := hS2
    clear hP1 hD1 hS2 hFc hfc hz1 hk1 hvm ht
    obtain ⟨z_6, r_7, hfc, hf⟩ := cal_some hf
    have hFc := de_free hD hS hA
    refine va_calli (va_runV (As := [.int r_4]) (rest := []) ⟨hx, hb, hml, hown, hts⟩ (de_X16_byteAt l dC dI cy a sh n H_5.size F z_3 h0 r_4 hfc) (cwV 1 hts gX16_many_X16_byteAt rfl rfl rfl (by decide +kernel) ⟨Nat.le_of_ble_eq_true rfl, Nat.le_of_ble_eq_true rfl⟩) ⟨fun a U g mk q => by obtain ⟨q0, q1, qP, qK, qD, qN⟩ := q; exact ⟨q0, q1, qP, va_K.moved (u := U) (U := U.calling g mk a) (Vm.Alike.refl U.vm) qK, qD, qN.same rfl⟩, va_recv hK hP (ci := 16) (q0 := h0) rfl (Wd_ob kg_1 sg_1 (by decide)), fun U hU hW => ⟨rfl, by rw [hU], by rw [hU]; exact hP, va_K.moved hW.alike hK, hD.weaken (fun _ _ _ _ => trivial), hN.warm hW⟩⟩ rfl rfl hl.1 rfl (lv_room (Nat.le_of_ble_eq_true rfl)) dX16_many_24 ⟨Nat.le_of_ble_eq_true rfl, Nat.le_of_ble_eq_true rfl⟩) hS (fun q _ h => hFc q h) hFc (fun rr u t H_8 locs ht hvm hw hB hz1 hk1 hS2 => ?_)
    rw [hw]
    clear hw
    obtain ⟨hP1, -, hD1⟩ := hB
    rw [ht] at hP1
    replace hD := hD1.weaken (fun _ _ _ h => hFc _ h)
    replace hP := hP1
    replace hS := hS2
    clear hP1 hD1 hS2 hFc hfc hz1 hk1 hvm ht
    obtain ⟨h8, h9⟩ := ret_some hf
    rw [h8, h9]
    exact W.iret (v := r_7) hx hb hr (fun t ht hW => ⟨⟨r_7, (), rfl, rfl, by rw [ht]; exact hP, va_K.moved hW.alike hK, hD⟩, hS.F ht⟩) hS.2.2 dX16_many_27
  · skip
    rw [if_neg c_2] at hf
    refine lv_iload_n hx hb dX16_many_8 rfl (lv_at hl 2 rfl) ?_
    refine lv_iconst (v := 2) hx hb dX16_many_9 (by decide) ?_
    refine lv_icmp_ne (tgt := 17) hx hb dX16_many_10 (by decide) (fun c_9 => ?_) (fun c_9 => ?_)
    · skip
      rw [if_neg c_9] at hf
      refine lv_aload_n hx hb dX16_many_17 rfl (lv_at hl 0 rfl) ?_
      refine lv_aload_n hx hb dX16_many_18 rfl (lv_at hl 0 rfl) ?_
      refine lv_iload_n hx hb dX16_many_19 rfl (lv_at hl 1 rfl) ?_
      refine lv_iload_n hx hb dX16_many_20 rfl (lv_at hl 2 rfl) ?_
      obtain ⟨z_10, r_11, hfc, hf⟩ := cal_some hf
      have hFc := de_free hD hS hA
      refine va_calli (va_runV (As := [.int x0, .int x1]) (rest := [.ref (a h0)]) ⟨hx, hb, hml, hown, hts⟩ (de_X16_listOf l dC dI cy a sh n H.size F z h0 x0 x1 hfc) (cwV 2 hts gX16_many_X16_listOf rfl rfl rfl (by decide +kernel) ⟨Nat.le_of_ble_eq_true rfl, Nat.le_of_ble_eq_true rfl⟩) ⟨fun a U g mk q => by obtain ⟨q0, q1, qP, qK, qD, qN⟩ := q; exact ⟨q0, q1, qP, va_K.moved (u := U) (U := U.calling g mk a) (Vm.Alike.refl U.vm) qK, qD, qN.same rfl⟩, va_recv hK hP (ci := 16) (q0 := h0) rfl (Wd_ob kg_1 sg_1 (by decide)), fun U hU hW => ⟨rfl, by rw [hU], by rw [hU]; exact hP, va_K.moved hW.alike hK, hD.weaken (fun _ _ _ _ => trivial), hN.warm hW⟩⟩ rfl rfl hl.1 rfl (lv_room (Nat.le_of_ble_eq_true rfl)) dX16_many_21 ⟨Nat.le_of_ble_eq_true rfl, Nat.le_of_ble_eq_true rfl⟩) hS (fun q _ h => hFc q h) hFc (fun rr u t H_12 locs ht hvm hw hB hz1 hk1 hS2 => ?_)
      rw [hw]
      clear hw
      obtain ⟨hP1, -, hD1⟩ := hB
      rw [ht] at hP1
      replace hD := hD1.weaken (fun _ _ _ h => hFc _ h)
      replace hP := hP1
      replace hS := hS2
      clear hP1 hD1 hS2 hFc hfc hz1 hk1 hvm ht
      obtain ⟨z_13, r_14, hfc, hf⟩ := cal_some hf
      have hFc := de_free hD hS hA
      refine va_calli (va_runV (As := [.int r_11]) (rest := []) ⟨hx, hb, hml, hown, hts⟩ (de_X16_byteAt l dC dI cy a sh n H_12.size F z_10 h0 r_11 hfc) (cwV 1 hts gX16_many_X16_byteAt rfl rfl rfl (by decide +kernel) ⟨Nat.le_of_ble_eq_true rfl, Nat.le_of_ble_eq_true rfl⟩) ⟨fun a U g mk q => by obtain ⟨q0, q1, qP, qK, qD, qN⟩ := q; exact ⟨q0, q1, qP, va_K.moved (u := U) (U := U.calling g mk a) (Vm.Alike.refl U.vm) qK, qD, qN.same rfl⟩, va_recv hK hP (ci := 16) (q0 := h0) rfl (Wd_ob kg_1 sg_1 (by decide)), fun U hU hW => ⟨rfl, by rw [hU], by rw [hU]; exact hP, va_K.moved hW.alike hK, hD.weaken (fun _ _ _ _ => trivial), hN.warm hW⟩⟩ rfl rfl hl.1 rfl (lv_room (Nat.le_of_ble_eq_true rfl)) dX16_many_24 ⟨Nat.le_of_ble_eq_true rfl, Nat.le_of_ble_eq_true rfl⟩) hS (fun q _ h => hFc q h) hFc (fun rr u t H_15 locs ht hvm hw hB hz1 hk1 hS2 => ?_)
      rw [hw]
      clear hw
      obtain ⟨hP1, -, hD1⟩ := hB
      rw [ht] at hP1
      replace hD := hD1.weaken (fun _ _ _ h => hFc _ h)
      replace hP := hP1
      replace hS := hS2
      clear hP1 hD1 hS2 hFc hfc hz1 hk1 hvm ht
      obtain ⟨h8, h9⟩ := ret_some hf
      rw [h8, h9]
      exact W.iret (v := r_14) hx hb hr (fun t ht hW => ⟨⟨r_14, (), rfl, rfl, by rw [ht]; exact hP, va_K.moved hW.alike hK, hD⟩, hS.F ht⟩) hS.2.2 dX16_many_27
    · skip
      rw [if_pos c_9] at hf
      refine lv_iconst (v := 0) hx hb dX16_many_13 (by decide) ?_
      refine lv_goto (tgt := 27) hx hb dX16_many_14 (by decide) ?_
      obtain ⟨h8, h9⟩ := ret_some hf
      rw [h8, h9]
      exact W.iret (v := 0) hx hb hr (fun t ht hW => ⟨⟨0, (), rfl, rfl, by rw [ht]; exact hP, va_K.moved hW.alike hK, hD⟩, hS.F ht⟩) hS.2.2 dX16_many_27

set_option maxHeartbeats 4000000 in
set_option maxRecDepth 100000 in
theorem de_X16_listed (l : Launch) (dC : Nat → ClassId) (dI : Nat → Nat → Nat) (cy : Nat → ClassId) (a : Nat → Nat) (sh : Nat → Nat × Nat) (n sz : Nat) (F : Nat) (z : St) (h0 : Nat) (x0 : Int32) (x1 : Int32) (x2 : Int32) {z8 : St} {r8 : Int64} (hf : fn_X16_listed F sh n z h0 x0 x1 x2 = some (z8, r8)) : Met l yX16_listed wsX16_listed ({ frames := 5, cells := 0, slots := 0, locals := 114 }) (va_Pc [.ref (a h0), .int x0, .int x1, .int x2] (fun U => U.heap.size = sz ∧ va_P (dC, dI) vwCl (Wd cy a sh n z) U.heap ∧ va_K (dC, dI) vwCl (TYS cy) U ∧ va_D (fun _ => True) (Wd cy a sh n z) ∧ NK U)) (va_Ql (fun (r9 : Int64) (u : Unit) => r9 = r8) (fun u t => va_P (dC, dI) vwCl (Wd cy a sh n z8) t.heap ∧ va_K (dC, dI) vwCl (TYS cy) t ∧ va_D (va_A (Wd cy a sh n z) sz) (Wd cy a sh n z8)) (va_A (Wd cy a sh n z) sz)) 0 0 (va_A (Wd cy a sh n z) sz) := by
  refine Met.ofW (cc := cX16_listed) (maxL := 6) (ret := (some .long)) (by decide) rfl ?_
  intro p e s m args below meth c s₁ B hml hv
  obtain ⟨rfl, hsz, hP, hK, hD0, hN⟩ := hv
  have hx := B.exec
  have hb := B.bytes
  have hr := B.returns
  have hts := atoms_spec (ws := wsX16_listed) B.pre
  have hown : s.vm.findClass RX16 = some m.cls := findClass_of_methodNamed B.named
  have hlocks := B.notSynchronized
  subst hsz
  have hD := hD0.self (sz := s.heap.size)
  clear hD0
  generalize hAe : va_A (Wd cy a sh n z) s.heap.size = A at hD ⊢
  have hA : ∀ q : Nat, s.heap.size ≤ q → A q := fun q h => by rw [← hAe]; exact Or.inr h
  clear hAe
  have hS : va_S A s.heap s.heap [] := va_S.rf
  have hl := lv_entry ([.ref (a h0), .int x0, .int x1, .int x2]) (n := 6) (Nat.le_of_ble_eq_true rfl)
  rw [lg_entry_eq]
  generalize (lg_sl ([.ref (a h0), .int x0, .int x1, .int x2]) ++ List.replicate (6 - (lg_sl ([.ref (a h0), .int x0, .int x1, .int x2])).length) Slot.unset).toArray = ls at hl ⊢
  replace hl : lv_has ls 6 [(0, .ref (a h0)), (1, .int x0), (2, .int x1), (3, .int x2)] := hl
  unfold fn_X16_listed at hf
  refine de_start hS hP (fun H locs hS hP => ?_)
  refine lv_aload_n hx hb dX16_listed_0 rfl (lv_at hl 0 rfl) ?_
  refine lv_iload_n hx hb dX16_listed_1 rfl (lv_at hl 1 rfl) ?_
  refine lv_iload_n hx hb dX16_listed_2 rfl (lv_at hl 2 rfl) ?_
  obtain ⟨g_3, hf⟩ := grd_some hf
  obtain ⟨kg_3, sg_3⟩ := okO_at g_3
  obtain ⟨z_1, r_2, hfc, hf⟩ := cal_some hf
  have hFc := de_free hD hS hA
  refine va_calli (va_runV (As := [.int x0, .int x1]) (rest := []) ⟨hx, hb, hml, hown, hts⟩ (de_X16_listOf l dC dI cy a sh n H.size F z h0 x0 x1 hfc) (cwV 2 hts gX16_listed_X16_listOf rfl rfl rfl (by decide +kernel) ⟨Nat.le_of_ble_eq_true rfl, Nat.le_of_ble_eq_true rfl⟩) ⟨fun a U g mk q => by obtain ⟨q0, q1, qP, qK, qD, qN⟩ := q; exact ⟨q0, q1, qP, va_K.moved (u := U) (U := U.calling g mk a) (Vm.Alike.refl U.vm) qK, qD, qN.same rfl⟩, va_recv hK hP (ci := 16) (q0 := h0) rfl (Wd_ob kg_3 sg_3 (by decide)), fun U hU hW => ⟨rfl, by rw [hU], by rw [hU]; exact hP, va_K.moved hW.alike hK, hD.weaken (fun _ _ _ _ => trivial), hN.warm hW⟩⟩ rfl rfl hl.1 rfl (lv_room (Nat.le_of_ble_eq_true rfl)) dX16_listed_3 ⟨Nat.le_of_ble_eq_true rfl, Nat.le_of_ble_eq_true rfl⟩) hS (fun q _ h => hFc q h) hFc (fun rr u t H_4 locs ht hvm hw hB hz1 hk1 hS2 => ?_)
  rw [hw]
  clear hw
  obtain ⟨hP1, -, hD1⟩ := hB
  rw [ht] at hP1
  replace hD := hD1.weaken (fun _ _ _ h => hFc _ h)
  replace hP := hP1
  replace hS := hS2
  clear hP1 hD1 hS2 hFc hfc hz1 hk1 hvm ht
  refine lv_iconst (v := 1) hx hb dX16_listed_6 (by decide) ?_
  refine lv_iadd hx hb dX16_listed_7 ?_
  refine lv_topi (fun v_5 ev_5 => ?_)
  replace hf := lt_at ev_5 hf
  clear ev_5
  refine lv_istore (lv' := [(4, .int v_5), (0, .ref (a h0)), (1, .int x0), (2, .int x1), (3, .int x2)]) hx hb dX16_listed_8 hl (by decide) rfl (fun ls hl2 => ?_)
  replace hl := hl2
  clear hl2
  refine lv_iconst (v := 0) hx hb dX16_listed_10 (by decide) ?_
  refine lv_istore (lv' := [(5, .int 0), (4, .int v_5), (0, .ref (a h0)), (1, .int x0), (2, .int x1), (3, .int x2)]) hx hb dX16_listed_11 hl (by decide) rfl (fun ls hl2 => ?_)
  replace hl := hl2
  clear hl2
  have hl0 : lv_has ls 6 [(5, .int 0), (4, .int v_5), (0, .ref (a h0)), (3, .int x2)] := lv_sub hl [0, 1, 2, 5] rfl
  refine de_loop (h := 13) (fun (x : St × Int32 × Int32) ls H locs => lv_has ls 6 [(5, .int x.2.2), (4, .int x.2.1), (0, .ref (a h0)), (3, .int x2)] ∧ va_P (dC, dI) vwCl (Wd cy a sh n x.1) H ∧ va_D A (Wd cy a sh n x.1) ∧ va_S A s.heap H locs) (fun f x => fn_X16_listed_L13 F sh n x2 h0 f x.1 x.2.1 x.2.2) (z8, r8) ?_ (fun _ => rfl) F (z_1, v_5, 0) ls H_4 locs ⟨hl0, hP, hD, hS⟩ hf
  intro f_9 x ls H locs ih13 hI hf
  obtain ⟨z_8, p_6, p_7⟩ := x
  obtain ⟨hl2, hP2, hD2, hS2⟩ := hI
  replace hl : lv_has ls 6 [(5, .int p_7), (4, .int p_6), (0, .ref (a h0)), (3, .int x2)] := hl2
  replace hP := hP2
  replace hD := hD2
  replace hS := hS2
  clear hl2 hP2 hD2 hS2 hl0
  replace hf := fn_X16_listed_L13_s hf
  refine lv_iload hx hb dX16_listed_13 (lv_at hl 0 rfl) ?_
  refine lv_iload_n hx hb dX16_listed_15 rfl (lv_at hl 3 rfl) ?_
  refine lv_icmp_ge (tgt := 33) hx hb dX16_listed_16 (by decide) (fun c_10 => ?_) (fun c_10 => ?_)
  · skip
    rw [if_pos c_10] at hf
    refine lv_aload_n hx hb dX16_listed_33 rfl (lv_at hl 2 rfl) ?_
    refine lv_iload hx hb dX16_listed_34 (lv_at hl 1 rfl) ?_
    obtain ⟨z_11, r_12, hfc, hf⟩ := cal_some hf
    have hFc := de_free hD hS hA
    refine va_calll (va_runV (As := [.int p_6]) (rest := []) ⟨hx, hb, hml, hown, hts⟩ (de_X16_typeAt l dC dI cy a sh n H.size F z_8 h0 p_6 hfc) (cwV 1 hts gX16_listed_X16_typeAt rfl rfl rfl (by decide +kernel) ⟨Nat.le_of_ble_eq_true rfl, Nat.le_of_ble_eq_true rfl⟩) ⟨fun a U g mk q => by obtain ⟨q0, q1, qP, qK, qD, qN⟩ := q; exact ⟨q0, q1, qP, va_K.moved (u := U) (U := U.calling g mk a) (Vm.Alike.refl U.vm) qK, qD, qN.same rfl⟩, va_recv hK hP (ci := 16) (q0 := h0) rfl (Wd_ob kg_3 sg_3 (by decide)), fun U hU hW => ⟨rfl, by rw [hU], by rw [hU]; exact hP, va_K.moved hW.alike hK, hD.weaken (fun _ _ _ _ => trivial), hN.warm hW⟩⟩ rfl rfl hl.1 rfl (lv_room (Nat.le_of_ble_eq_true rfl)) dX16_listed_36 ⟨Nat.le_of_ble_eq_true rfl, Nat.le_of_ble_eq_true rfl⟩) hS (fun q _ h => hFc q h) hFc (fun rr u t H_13 locs ht hvm hw hB hz1 hk1 hS2 => ?_)
    rw [hw]
    clear hw
    obtain ⟨hP1, -, hD1⟩ := hB
    rw [ht] at hP1
    replace hD := hD1.weaken (fun _ _ _ h => hFc _ h)
    replace hP := hP1
    replace hS := hS2
    clear hP1 hD1 hS2 hFc hfc hz1 hk1 hvm ht
    obtain ⟨h8, h9⟩ := ret_some hf
    rw [h8, h9]
    exact W.lret (v := r_12) hx hb hr (fun t ht hW => ⟨⟨r_12, (), rfl, rfl, by rw [ht]; exact hP, va_K.moved hW.alike hK, hD⟩, hS.F ht⟩) hS.2.2 dX16_listed_39
  · skip
    rw [if_neg c_10] at hf
    refine lv_aload_n hx hb dX16_listed_19 rfl (lv_at hl 2 rfl) ?_
    refine lv_iload hx hb dX16_listed_20 (lv_at hl 1 rfl) ?_
    obtain ⟨z_14, r_15, hfc, hf⟩ := cal_some hf
    have hFc := de_free hD hS hA
    refine va_calli (va_runV (As := [.int p_6]) (rest := []) ⟨hx, hb, hml, hown, hts⟩ (de_X16_typeEnd l dC dI cy a sh n H.size F z_8 h0 p_6 hfc) (cwV 1 hts gX16_listed_X16_typeEnd rfl rfl rfl (by decide +kernel) ⟨Nat.le_of_ble_eq_true rfl, Nat.le_of_ble_eq_true rfl⟩) ⟨fun a U g mk q => by obtain ⟨q0, q1, qP, qK, qD, qN⟩ := q; exact ⟨q0, q1, qP, va_K.moved (u := U) (U := U.calling g mk a) (Vm.Alike.refl U.vm) qK, qD, qN.same rfl⟩, va_recv hK hP (ci := 16) (q0 := h0) rfl (Wd_ob kg_3 sg_3 (by decide)), fun U hU hW => ⟨rfl, by rw [hU], by rw [hU]; exact hP, va_K.moved hW.alike hK, hD.weaken (fun _ _ _ _ => trivial), hN.warm hW⟩⟩ rfl rfl hl.1 rfl (lv_room (Nat.le_of_ble_eq_true rfl)) dX16_listed_22 ⟨Nat.le_of_ble_eq_true rfl, Nat.le_of_ble_eq_true rfl⟩) hS (fun q _ h => hFc q h) hFc (fun rr u t H_16 locs ht hvm hw hB hz1 hk1 hS2 => ?_)
    rw [hw]
    clear hw
    obtain ⟨hP1, -, hD1⟩ := hB
    rw [ht] at hP1
    replace hD := hD1.weaken (fun _ _ _ h => hFc _ h)
    replace hP := hP1
    replace hS := hS2
    clear hP1 hD1 hS2 hFc hfc hz1 hk1 hvm ht
    refine lv_istore (lv' := [(4, .int r_15), (5, .int p_7), (0, .ref (a h0)), (3, .int x2)]) hx hb dX16_listed_25 hl (by decide) rfl (fun ls hl2 => ?_)
    replace hl := hl2
    clear hl2
    refine lv_iinc (v := (p_7 + 1)) (lv' := [(5, .int (p_7 + 1)), (4, .int r_15), (0, .ref (a h0)), (3, .int x2)]) hx hb dX16_listed_27 hl (k := 1) rfl rfl (by decide) rfl (fun ls hl2 => ?_)
    replace hl := hl2
    clear hl2
    refine lv_goto (tgt := 13) hx hb dX16_listed_30 (by decide) ?_
    exact ih13 (z_14, r_15, (p_7 + 1)) ls H_16 locs ⟨lv_sub hl [0, 1, 2, 3] rfl, hP, hD, hS⟩ hf

theorem md_X18_isSame_1 : (.constantLong RX18 146 (255) : Cond) ∈ wsX18_isSame := List.mem_of_getElem? (i := 1) rfl
set_option maxHeartbeats 4000000 in
set_option maxRecDepth 100000 in
theorem de_X18_isSame (l : Launch) (dC : Nat → ClassId) (dI : Nat → Nat → Nat) (cy : Nat → ClassId) (a : Nat → Nat) (sh : Nat → Nat × Nat) (n sz : Nat) (F : Nat) (z : St) (h0 : Nat) (x0 : Nat) (x1 : Int64) (x2 : Int32) (x3 : Int64) {z8 : St} {r8 : Int32} (hf : fn_X18_isSame F sh n z h0 x0 x1 x2 x3 = some (z8, r8)) : Met l yX18_isSame wsX18_isSame ({ frames := 5, cells := 0, slots := 0, locals := 106 }) (va_Pc [.ref (a h0), .ref (a x0), .long x1, .int x2, .long x3] (fun U => U.heap.size = sz ∧ va_P (dC, dI) vwCl (Wd cy a sh n z) U.heap ∧ va_K (dC, dI) vwCl (TYS cy) U ∧ va_D (fun _ => True) (Wd cy a sh n z) ∧ NK U)) (va_Qi (fun (r9 : Int32) (u : Unit) => r9 = r8) (fun u t => va_P (dC, dI) vwCl (Wd cy a sh n z8) t.heap ∧ va_K (dC, dI) vwCl (TYS cy) t ∧ va_D (va_A (Wd cy a sh n z) sz) (Wd cy a sh n z8)) (va_A (Wd cy a sh n z) sz)) 0 0 (va_A (Wd cy a sh n z) sz) := by
  refine Met.ofW (cc := cX18_isSame) (maxL := 7) (ret := (some .boolean)) (by decide) rfl ?_
  intro p e s m args below meth c s₁ B hml hv
  obtain ⟨rfl, hsz, hP, hK, hD0, hN⟩ := hv
  have hx := B.exec
  have hb := B.bytes
  have hr := B.returns
  have hts := atoms_spec (ws := wsX18_isSame) B.pre
  have hown : s.vm.findClass RX18 = some m.cls := findClass_of_methodNamed B.named
  have hlocks := B.notSynchronized
  subst hsz
  have hD := hD0.self (sz := s.heap.size)
  clear hD0
  generalize hAe : va_A (Wd cy a sh n z) s.heap.size = A at hD ⊢
  have hA : ∀ q : Nat, s.heap.size ≤ q → A q := fun q h => by rw [← hAe]; exact Or.inr h
  clear hAe
  have hS : va_S A s.heap s.heap [] := va_S.rf
  have hl := lv_entry ([.ref (a h0), .ref (a x0), .long x1, .int x2, .long x3]) (n := 7) (Nat.le_of_ble_eq_true rfl)
  rw [lg_entry_eq]
  generalize (lg_sl ([.ref (a h0), .ref (a x0), .long x1, .int x2, .long x3]) ++ List.replicate (7 - (lg_sl ([.ref (a h0), .ref (a x0), .long x1, .int x2, .long x3])).length) Slot.unset).toArray = ls at hl ⊢
  replace hl : lv_has ls 7 [(0, .ref (a h0)), (1, .ref (a x0)), (2, .long x1), (4, .int x2), (5, .long x3)] := hl
  unfold fn_X18_isSame at hf
  refine de_start hS hP (fun H locs hS hP => ?_)
  refine lv_lload_n hx hb dX18_isSame_0 rfl (lv_at hl 2 rfl) ?_
  obtain ⟨z_1, r_2, hfc, hf⟩ := cal_some hf
  have hFc := de_free hD hS hA
  refine va_calli (va_runS (As := [.long x1]) (rest := []) ⟨hx, hb, hml, hown, hts⟩ (de_X18_endsInStructure l dC dI cy a sh n H.size F z x1 hfc) (va_cwS 1 hts gX18_isSame_X18_endsInStructure rfl rfl rfl (by decide +kernel) ⟨Nat.le_of_ble_eq_true rfl, Nat.le_of_ble_eq_true rfl⟩) ⟨fun a U g mk q => by obtain ⟨q0, q1, qP, qK, qD, qN⟩ := q; exact ⟨q0, q1, qP, va_K.moved (u := U) (U := U.calling g mk a) (Vm.Alike.refl U.vm) qK, qD, qN.same rfl⟩, fun U hU hW => ⟨rfl, by rw [hU], by rw [hU]; exact hP, va_K.moved hW.alike hK, hD.weaken (fun _ _ _ _ => trivial), hN.warm hW⟩⟩ rfl rfl hl.1 rfl (lv_room (Nat.le_of_ble_eq_true rfl)) dX18_isSame_1 ⟨Nat.le_of_ble_eq_true rfl, Nat.le_of_ble_eq_true rfl⟩) hS (fun q _ h => hFc q h) hFc (fun rr u t H_3 locs ht hvm hw hB hz1 hk1 hS2 => ?_)
  rw [hw]
  clear hw
  obtain ⟨hP1, -, hD1⟩ := hB
  rw [ht] at hP1
  replace hD := hD1.weaken (fun _ _ _ h => hFc _ h)
  replace hP := hP1
  replace hS := hS2
  clear hP1 hD1 hS2 hFc hfc hz1 hk1 hvm ht
  refine lv_lload hx hb dX18_isSame_4 (lv_at hl 4 rfl) ?_
  obtain ⟨z_4, r_5, hfc, hf⟩ := cal_some hf
  have hFc := de_free hD hS hA
  refine va_calli (va_runS (As := [.long x3]) (rest := [.int r_2]) ⟨hx, hb, hml, hown, hts⟩ (de_X18_endsInStructure l dC dI cy a sh n H_3.size F z_1 x3 hfc) (va_cwS 1 hts gX18_isSame_X18_endsInStructure rfl rfl rfl (by decide +kernel) ⟨Nat.le_of_ble_eq_true rfl, Nat.le_of_ble_eq_true rfl⟩) ⟨fun a U g mk q => by obtain ⟨q0, q1, qP, qK, qD, qN⟩ := q; exact ⟨q0, q1, qP, va_K.moved (u := U) (U := U.calling g mk a) (Vm.Alike.refl U.vm) qK, qD, qN.same rfl⟩, fun U hU hW => ⟨rfl, by rw [hU], by rw [hU]; exact hP, va_K.moved hW.alike hK, hD.weaken (fun _ _ _ _ => trivial), hN.warm hW⟩⟩ rfl rfl hl.1 rfl (lv_room (Nat.le_of_ble_eq_true rfl)) dX18_isSame_6 ⟨Nat.le_of_ble_eq_true rfl, Nat.le_of_ble_eq_true rfl⟩) hS (fun q _ h => hFc q h) hFc (fun rr u t H_6 locs ht hvm hw hB hz1 hk1 hS2 => ?_)
  rw [hw]
  clear hw
  obtain ⟨hP1, -, hD1⟩ := hB
  rw [ht] at hP1
  replace hD := hD1.weaken (fun _ _ _ h => hFc _ h)
  replace hP := hP1
  replace hS := hS2
  clear hP1 hD1 hS2 hFc hfc hz1 hk1 hvm ht
  refine lv_icmp_eq (tgt := 14) hx hb dX18_isSame_9 (by decide) (fun c_7 => ?_) (fun c_7 => ?_)
  · skip
    rw [if_pos c_7] at hf
    refine lv_lload_n hx hb dX18_isSame_14 rfl (lv_at hl 2 rfl) ?_
    obtain ⟨z_8, r_9, hfc, hf⟩ := cal_some hf
    have hFc := de_free hD hS hA
    refine va_calli (va_runS (As := [.long x1]) (rest := []) ⟨hx, hb, hml, hown, hts⟩ (de_X18_endsInStructure l dC dI cy a sh n H_6.size F z_4 x1 hfc) (va_cwS 1 hts gX18_isSame_X18_endsInStructure rfl rfl rfl (by decide +kernel) ⟨Nat.le_of_ble_eq_true rfl, Nat.le_of_ble_eq_true rfl⟩) ⟨fun a U g mk q => by obtain ⟨q0, q1, qP, qK, qD, qN⟩ := q; exact ⟨q0, q1, qP, va_K.moved (u := U) (U := U.calling g mk a) (Vm.Alike.refl U.vm) qK, qD, qN.same rfl⟩, fun U hU hW => ⟨rfl, by rw [hU], by rw [hU]; exact hP, va_K.moved hW.alike hK, hD.weaken (fun _ _ _ _ => trivial), hN.warm hW⟩⟩ rfl rfl hl.1 rfl (lv_room (Nat.le_of_ble_eq_true rfl)) dX18_isSame_15 ⟨Nat.le_of_ble_eq_true rfl, Nat.le_of_ble_eq_true rfl⟩) hS (fun q _ h => hFc q h) hFc (fun rr u t H_10 locs ht hvm hw hB hz1 hk1 hS2 => ?_)
    rw [hw]
    clear hw
    obtain ⟨hP1, -, hD1⟩ := hB
    rw [ht] at hP1
    replace hD := hD1.weaken (fun _ _ _ h => hFc _ h)
    replace hP := hP1
    replace hS := hS2
    clear hP1 hD1 hS2 hFc hfc hz1 hk1 hvm ht
    refine lv_if_ne (tgt := 34) hx hb dX18_isSame_18 (by decide) (fun c_11 => ?_) (fun c_11 => ?_)
    · skip
      rw [if_neg c_11] at hf
      refine lv_lload_n hx hb dX18_isSame_34 rfl (lv_at hl 2 rfl) ?_
      refine lv_bipush (v := 8) hx hb dX18_isSame_35 (by decide) ?_
      refine lv_lshr (v := (x1 >>> ((8 : Int32).toInt64 &&& 63))) hx hb dX18_isSame_37 rfl ?_
      refine lv_lload hx hb dX18_isSame_38 (lv_at hl 4 rfl) ?_
      refine lv_bipush (v := 8) hx hb dX18_isSame_40 (by decide) ?_
      refine lv_lshr (v := (x3 >>> ((8 : Int32).toInt64 &&& 63))) hx hb dX18_isSame_42 rfl ?_
      refine W.lcmp hx hb dX18_isSame_43 ?_
      refine lv_if_ne (tgt := 77) hx hb dX18_isSame_44 (by decide) (fun c_12 => ?_) (fun c_12 => ?_)
      · skip
        rw [lg_cmp_eq] at c_12
        rw [if_neg c_12] at hf
        refine lv_iconst (v := 0) hx hb dX18_isSame_77 (by decide) ?_
        obtain ⟨h8, h9⟩ := ret_some hf
        rw [h8, h9]
        exact W.zret (v := 0) hx hb hr rfl (fun t ht hW => ⟨⟨0, (), rfl, rfl, by rw [ht]; exact hP, va_K.moved hW.alike hK, hD⟩, hS.F ht⟩) hS.2.2 dX18_isSame_78
      · skip
        rw [lg_cmp_eq] at c_12
        rw [if_pos c_12] at hf
        refine lv_aload_n hx hb dX18_isSame_47 rfl (lv_at hl 1 rfl) ?_
        refine lv_lload_n hx hb dX18_isSame_48 rfl (lv_at hl 2 rfl) ?_
        refine lv_ldc2 hx hb hown (hts _ md_X18_isSame_1) dX18_isSame_49 ?_
        refine lv_land hx hb dX18_isSame_52 ?_
        refine lv_l2i (v := ((x1 &&& 255) : Int64).toInt32) hx hb dX18_isSame_53 rfl ?_
        obtain ⟨g_15, hf⟩ := grd_some hf
        obtain ⟨kg_15, sg_15⟩ := okO_at g_15
        obtain ⟨z_13, r_14, hfc, hf⟩ := cal_some hf
        have hFc := de_free hD hS hA
        refine va_calli (va_runV (As := [.int (((x1 &&& 255) : Int64).toInt32)]) (rest := []) ⟨hx, hb, hml, hown, hts⟩ (de_X16_identity l dC dI cy a sh n H_10.size F z_8 x0 (((x1 &&& 255) : Int64).toInt32) hfc) (cwV 1 hts gX18_isSame_X16_identity rfl rfl rfl (by decide +kernel) ⟨Nat.le_of_ble_eq_true rfl, Nat.le_of_ble_eq_true rfl⟩) ⟨fun a U g mk q => by obtain ⟨q0, q1, qP, qK, qD, qN⟩ := q; exact ⟨q0, q1, qP, va_K.moved (u := U) (U := U.calling g mk a) (Vm.Alike.refl U.vm) qK, qD, qN.same rfl⟩, va_recv hK hP (ci := 16) (q0 := x0) rfl (Wd_ob kg_15 sg_15 (by decide)), fun U hU hW => ⟨rfl, by rw [hU], by rw [hU]; exact hP, va_K.moved hW.alike hK, hD.weaken (fun _ _ _ _ => trivial), hN.warm hW⟩⟩ rfl rfl hl.1 rfl (lv_room (Nat.le_of_ble_eq_true rfl)) dX18_isSame_54 ⟨Nat.le_of_ble_eq_true rfl, Nat.le_of_ble_eq_true rfl⟩) hS (fun q _ h => hFc q h) hFc (fun rr u t H_16 locs ht hvm hw hB hz1 hk1 hS2 => ?_)
        rw [hw]
        clear hw
        obtain ⟨hP1, -, hD1⟩ := hB
        rw [ht] at hP1
        replace hD := hD1.weaken (fun _ _ _ h => hFc _ h)
        replace hP := hP1
        replace hS := hS2
        clear hP1 hD1 hS2 hFc hfc hz1 hk1 hvm ht
        refine lv_aload_n hx hb dX18_isSame_57 rfl (lv_at hl 0 rfl) ?_
        refine lv_iload hx hb dX18_isSame_58 (lv_at hl 3 rfl) ?_
        refine lv_lload hx hb dX18_isSame_60 (lv_at hl 4 rfl) ?_
        refine lv_ldc2 hx hb hown (hts _ md_X18_isSame_1) dX18_isSame_62 ?_
        refine lv_land hx hb dX18_isSame_65 ?_
        refine lv_l2i (v := ((x3 &&& 255) : Int64).toInt32) hx hb dX18_isSame_66 rfl ?_
        obtain ⟨g_19, hf⟩ := grd_some hf
        obtain ⟨kg_19, sg_19⟩ := okO_at g_19
        obtain ⟨z_17, r_18, hfc, hf⟩ := cal_some hf
        have hFc := de_free hD hS hA
        refine va_calli (va_runV (As := [.int x2, .int (((x3 &&& 255) : Int64).toInt32)]) (rest := [.int r_14]) ⟨hx, hb, hml, hown, hts⟩ (de_X18_identityThere l dC dI cy a sh n H_16.size F z_13 h0 x2 (((x3 &&& 255) : Int64).toInt32) hfc) (cwV 2 hts gX18_isSame_X18_identityThere rfl rfl rfl (by decide +kernel) ⟨Nat.le_of_ble_eq_true rfl, Nat.le_of_ble_eq_true rfl⟩) ⟨fun a U g mk q => by obtain ⟨q0, q1, qP, qK, qD, qN⟩ := q; exact ⟨q0, q1, qP, va_K.moved (u := U) (U := U.calling g mk a) (Vm.Alike.refl U.vm) qK, qD, qN.same rfl⟩, va_recv hK hP (ci := 18) (q0 := h0) rfl (Wd_ob kg_19 sg_19 (by decide)), fun U hU hW => ⟨rfl, by rw [hU], by rw [hU]; exact hP, va_K.moved hW.alike hK, hD.weaken (fun _ _ _ _ => trivial), hN.warm hW⟩⟩ rfl rfl hl.1 rfl (lv_room (Nat.le_of_ble_eq_true rfl)) dX18_isSame_67 ⟨Nat.le_of_ble_eq_true rfl, Nat.le_of_ble_eq_true rfl⟩) hS (fun q _ h => hFc q h) hFc (fun rr u t H_20 locs ht hvm hw hB hz1 hk1 hS2 => ?_)
        rw [hw]
        clear hw
        obtain ⟨hP1, -, hD1⟩ := hB
        rw [ht] at hP1
        replace hD := hD1.weaken (fun _ _ _ h => hFc _ h)
        replace hP := hP1
        replace hS := hS2
        clear hP1 hD1 hS2 hFc hfc hz1 hk1 hvm ht
        refine lv_icmp_ne (tgt := 77) hx hb dX18_isSame_70 (by decide) (fun c_21 => ?_) (fun c_21 => ?_)
        · skip
          rw [if_neg c_21] at hf
          refine lv_iconst (v := 0) hx hb dX18_isSame_77 (by decide) ?_
          obtain ⟨h8, h9⟩ := ret_some hf
          rw [h8, h9]
          exact W.zret (v := 0) hx hb hr rfl (fun t ht hW => ⟨⟨0, (), rfl, rfl, by rw [ht]; exact hP, va_K.moved hW.alike hK, hD⟩, hS.F ht⟩) hS.2.2 dX18_isSame_78
        · skip
          rw [if_pos c_21] at hf
          refine lv_iconst (v := 1) hx hb dX18_isSame_73 (by decide) ?_
          refine lv_goto (tgt := 78) hx hb dX18_isSame_74 (by decide) ?_
          obtain ⟨h8, h9⟩ := ret_some hf
          rw [h8, h9]
          exact W.zret (v := 1) hx hb hr rfl (fun t ht hW => ⟨⟨1, (), rfl, rfl, by rw [ht]; exact hP, va_K.moved hW.alike hK, hD⟩, hS.F ht⟩) hS.2.2 dX18_isSame_78
    · skip
      rw [if_pos c_11] at hf
      refine lv_lload_n hx hb dX18_isSame_21 rfl (lv_at hl 2 rfl) ?_
      refine lv_lload hx hb dX18_isSame_22 (lv_at hl 4 rfl) ?_
      refine W.lcmp hx hb dX18_isSame_24 ?_
      refine lv_if_ne (tgt := 32) hx hb dX18_isSame_25 (by decide) (fun c_22 => ?_) (fun c_22 => ?_)
      · skip
        rw [lg_cmp_eq] at c_22
        rw [if_neg c_22] at hf
        refine lv_iconst (v := 0) hx hb dX18_isSame_32 (by decide) ?_
        obtain ⟨h8, h9⟩ := ret_some hf
        rw [h8, h9]
        exact W.zret (v := 0) hx hb hr rfl (fun t ht hW => ⟨⟨0, (), rfl, rfl, by rw [ht]; exact hP, va_K.moved hW.alike hK, hD⟩, hS.F ht⟩) hS.2.2 dX18_isSame_33
      · skip
        rw [lg_cmp_eq] at c_22
        rw [if_pos c_22] at hf
        refine lv_iconst (v := 1) hx hb dX18_isSame_28 (by decide) ?_
        refine lv_goto (tgt := 33) hx hb dX18_isSame_29 (by decide) ?_
        obtain ⟨h8, h9⟩ := ret_some hf
        rw [h8, h9]
        exact W.zret (v := 1) hx hb hr rfl (fun t ht hW => ⟨⟨1, (), rfl, rfl, by rw [ht]; exact hP, va_K.moved hW.alike hK, hD⟩, hS.F ht⟩) hS.2.2 dX18_isSame_33
  · skip
    rw [if_neg c_7] at hf
    refine lv_iconst (v := 0) hx hb dX18_isSame_12 (by decide) ?_
    obtain ⟨h8, h9⟩ := ret_some hf
    rw [h8, h9]
    exact W.zret (v := 0) hx hb hr rfl (fun t ht hW => ⟨⟨0, (), rfl, rfl, by rw [ht]; exact hP, va_K.moved hW.alike hK, hD⟩, hS.F ht⟩) hS.2.2 dX18_isSame_13

theorem md_X9_gatherAccounts_1 : (.fieldLink RX9 76 "ResourceLedger$State" "accountCount" "I" : Cond) ∈ wsX9_gatherAccounts := List.mem_of_getElem? (i := 1) rfl
theorem iwd_X9_gatherAccounts_X7 : ∀ w ∈ wsX70, w ∈ wsX9_gatherAccounts := fun _ h => List.mem_cons_of_mem _ (List.mem_append_left _ (List.mem_append_left _ (List.mem_append_right _ h)))
theorem md_X9_gatherAccounts_2 : (.fieldLink RX9 18 "ResourceLedger$Tree" "digest" "LResourceLedger$Digest;" : Cond) ∈ wsX9_gatherAccounts := List.mem_of_getElem? (i := 2) rfl
theorem iwd_X9_gatherAccounts_X9 : ∀ w ∈ wsX90, w ∈ wsX9_gatherAccounts := fun _ h => List.mem_cons_of_mem _ (List.mem_append_left _ (List.mem_append_right _ h))
theorem md_X9_gatherAccounts_3 : (.fieldLink RX9 84 "ResourceLedger$State" "balance" "[J" : Cond) ∈ wsX9_gatherAccounts := List.mem_of_getElem? (i := 3) rfl
theorem md_X9_gatherAccounts_4 : (.fieldLink RX9 91 "ResourceLedger$State" "sequence" "[J" : Cond) ∈ wsX9_gatherAccounts := List.mem_of_getElem? (i := 4) rfl
theorem md_X9_gatherAccounts_5 : (.fieldLink RX9 102 "ResourceLedger$State" "accountAddress" "[J" : Cond) ∈ wsX9_gatherAccounts := List.mem_of_getElem? (i := 5) rfl
set_option maxHeartbeats 4000000 in
set_option maxRecDepth 100000 in
theorem de_X9_gatherAccounts (l : Launch) (dC : Nat → ClassId) (dI : Nat → Nat → Nat) (cy : Nat → ClassId) (a : Nat → Nat) (sh : Nat → Nat × Nat) (n sz : Nat) (F : Nat) (sk : Nat → Nat) (z : St) (h0 : Nat) (x0 : Nat) {z8 : St} {r8 : Unit} (hf : fn_X9_gatherAccounts F sh n z h0 x0 = some (z8, r8)) : Met l yX9_gatherAccounts wsX9_gatherAccounts ({ frames := 5, cells := 0, slots := 0, locals := 126 }) (va_Pc [.ref (a h0), .ref (a x0)] (fun U => U.heap.size = sz ∧ va_P (dC, dI) vwCl (Wd cy a sh n z) U.heap ∧ va_K (dC, dI) vwCl (TYS cy) U ∧ va_D (fun _ => True) (Wd cy a sh n z) ∧ NK U ∧ SKs sk (a CBK) (va_A (Wd cy a sh n z) sz) U U.heap)) (va_Qv (fun u : Unit => True) (fun u t => va_P (dC, dI) vwCl (Wd cy a sh n z8) t.heap ∧ va_K (dC, dI) vwCl (TYS cy) t ∧ va_D (va_A (Wd cy a sh n z) sz) (Wd cy a sh n z8)) (va_A (Wd cy a sh n z) sz)) 0 0 (va_A (Wd cy a sh n z) sz) := by
  refine Met.ofW (cc := cX9_gatherAccounts) (maxL := 3) (ret := none) (by decide) rfl ?_
  intro p e s m args below meth c s₁ B hml hv
  obtain ⟨rfl, hsz, hP, hK, hD0, hN, hSK⟩ := hv
  have hx := B.exec
  have hb := B.bytes
  have hr := B.returns
  have hts := atoms_spec (ws := wsX9_gatherAccounts) B.pre
  have hown : s.vm.findClass RX9 = some m.cls := findClass_of_methodNamed B.named
  have hlocks := B.notSynchronized
  subst hsz
  have hD := hD0.self (sz := s.heap.size)
  clear hD0
  generalize hAe : va_A (Wd cy a sh n z) s.heap.size = A at hD hSK ⊢
  have hA : ∀ q : Nat, s.heap.size ≤ q → A q := fun q h => by rw [← hAe]; exact Or.inr h
  clear hAe
  have hS : va_S A s.heap s.heap [] := va_S.rf
  have hl := lv_entry ([.ref (a h0), .ref (a x0)]) (n := 3) (Nat.le_of_ble_eq_true rfl)
  rw [lg_entry_eq]
  generalize (lg_sl ([.ref (a h0), .ref (a x0)]) ++ List.replicate (3 - (lg_sl ([.ref (a h0), .ref (a x0)])).length) Slot.unset).toArray = ls at hl ⊢
  replace hl : lv_has ls 3 [(0, .ref (a h0)), (1, .ref (a x0))] := hl
  unfold fn_X9_gatherAccounts at hf
  refine de_start hS hP (fun H locs hS hP => ?_)
  refine lv_iconst (v := 0) hx hb dX9_gatherAccounts_0 (by decide) ?_
  refine lv_istore_n (lv' := [(2, .int 0), (0, .ref (a h0)), (1, .ref (a x0))]) hx hb dX9_gatherAccounts_1 rfl hl (by decide) rfl (fun ls hl2 => ?_)
  replace hl := hl2
  clear hl2
  have hl0 : lv_has ls 3 [(2, .int 0), (0, .ref (a h0)), (1, .ref (a x0))] := lv_sub hl [0, 1, 2] rfl
  refine de_loop (h := 2) (fun (x : St × Int32) ls H locs => lv_has ls 3 [(2, .int x.2), (0, .ref (a h0)), (1, .ref (a x0))] ∧ va_P (dC, dI) vwCl (Wd cy a sh n x.1) H ∧ va_D A (Wd cy a sh n x.1) ∧ va_S A s.heap H locs) (fun f x => fn_X9_gatherAccounts_L2 F sh n x0 h0 f x.1 x.2) (z8, r8) ?_ (fun _ => rfl) F (z, 0) ls H locs ⟨hl0, hP, hD, hS⟩ hf
  intro f_3 x ls H locs ih2 hI hf
  obtain ⟨z_2, p_1⟩ := x
  obtain ⟨hl2, hP2, hD2, hS2⟩ := hI
  replace hl : lv_has ls 3 [(2, .int p_1), (0, .ref (a h0)), (1, .ref (a x0))] := hl2
  replace hP := hP2
  replace hD := hD2
  replace hS := hS2
  clear hl2 hP2 hD2 hS2 hl0
  replace hf := fn_X9_gatherAccounts_L2_s hf
  refine lv_iload_n hx hb dX9_gatherAccounts_2 rfl (lv_at hl 0 rfl) ?_
  refine lv_aload_n hx hb dX9_gatherAccounts_3 rfl (lv_at hl 2 rfl) ?_
  obtain ⟨g_4, hf⟩ := grd_some hf
  obtain ⟨kg_4, sg_4⟩ := okO_at g_4
  refine va_get (D := (dC, dI)) (ci := 7) (v := .int (z_2.1 x0 3)) (C := RX7) (T := TX7) (N := 16) hx hb hts iwd_X9_gatherAccounts_X7 hown hK hP x0 (Wd_ob kg_4 sg_4 (by decide)) rfl 3 (by decide) (hts _ md_X9_gatherAccounts_1) (fun _ h9 => h9) (fl_at (t := 0) rfl) dX9_gatherAccounts_4 ?_
  refine lv_icmp_ge (tgt := 94) hx hb dX9_gatherAccounts_7 (by decide) (fun c_5 => ?_) (fun c_5 => ?_)
  · skip
    rw [if_pos c_5] at hf
    obtain ⟨h8, h9⟩ := ret_some hf
    rw [h8]
    exact W.vret hx hb hr (fun t ht hW => ⟨⟨(), rfl, trivial, by rw [ht]; exact hP, va_K.moved hW.alike hK, hD⟩, hS.F ht⟩) hS.2.2 dX9_gatherAccounts_94
  · skip
    rw [if_neg c_5] at hf
    refine lv_aload_n hx hb dX9_gatherAccounts_10 rfl (lv_at hl 1 rfl) ?_
    obtain ⟨g_6, hf⟩ := grd_some hf
    obtain ⟨kg_6, sg_6⟩ := okO_at g_6
    obtain ⟨k_7, ek_7, hf⟩ := lnk_some hf
    refine va_get (D := (dC, dI)) (ci := 9) (v := .ref (a k_7)) (C := RX9) (T := TX9) (N := 13) hx hb hts iwd_X9_gatherAccounts_X9 hown hK hP h0 (Wd_ob kg_6 sg_6 (by decide)) rfl 2 (by decide) (hts _ md_X9_gatherAccounts_2) (fun _ h9 => h9) (fl_q rfl ek_7) dX9_gatherAccounts_11 ?_
    obtain ⟨g_9, hf⟩ := grd_some hf
    obtain ⟨kg_9, sg_9⟩ := okO_at g_9
    obtain ⟨z_8, _u, hfc, hf⟩ := cal_some hf
    have hFc := de_free hD hS hA
    refine va_callv (va_runV (As := []) (rest := []) ⟨hx, hb, hml, hown, hts⟩ (de_X0_start l dC dI cy a sh n H.size F sk z_2 k_7 hfc) (cwV 0 hts gX9_gatherAccounts_X0_start rfl rfl rfl (by decide +kernel) ⟨Nat.le_of_ble_eq_true rfl, Nat.le_of_ble_eq_true rfl⟩) ⟨fun a U g mk q => by obtain ⟨q0, q1, qP, qK, qD, qN, qS⟩ := q; exact ⟨q0, q1, qP, va_K.moved (u := U) (U := U.calling g mk a) (Vm.Alike.refl U.vm) qK, qD, qN.same rfl, SKs.moved (u := U) (U := U.calling g mk a) (Vm.Alike.refl U.vm) qS⟩, va_recv hK hP (ci := 0) (q0 := k_7) rfl (Wd_ob kg_9 sg_9 (by decide)), fun U hU hW => ⟨rfl, by rw [hU], by rw [hU]; exact hP, va_K.moved hW.alike hK, hD.weaken (fun _ _ _ _ => trivial), hN.warm hW, by rw [hU]; exact ((hSK.kept hS.2.1).narrow hFc).moved hW.alike⟩⟩ rfl rfl hl.1 rfl (lv_room (Nat.le_of_ble_eq_true rfl)) dX9_gatherAccounts_14 ⟨Nat.le_of_ble_eq_true rfl, Nat.le_of_ble_eq_true rfl⟩) hS (fun q _ h => hFc q h) hFc (fun u t H_10 locs ht hvm hw hB hz1 hk1 hS2 => ?_)
    obtain ⟨hP1, -, hD1⟩ := hB
    rw [ht] at hP1
    replace hD := hD1.weaken (fun _ _ _ h => hFc _ h)
    replace hP := hP1
    replace hS := hS2
    clear hP1 hD1 hS2 hFc hfc hz1 hk1 hvm ht
    refine lv_aload_n hx hb dX9_gatherAccounts_17 rfl (lv_at hl 1 rfl) ?_
    obtain ⟨k_11, ek_11, hf⟩ := lnk_some hf
    refine va_get (D := (dC, dI)) (ci := 9) (v := .ref (a k_11)) (C := RX9) (T := TX9) (N := 13) hx hb hts iwd_X9_gatherAccounts_X9 hown hK hP h0 (Wd_ob kg_6 sg_6 (by decide)) rfl 2 (by decide) (hts _ md_X9_gatherAccounts_2) (fun _ h9 => h9) (fl_q rfl ek_11) dX9_gatherAccounts_18 ?_
    refine lv_aload_n hx hb dX9_gatherAccounts_21 rfl (lv_at hl 2 rfl) ?_
    obtain ⟨k_12, ek_12, hf⟩ := lnk_some hf
    refine va_get (D := (dC, dI)) (ci := 7) (v := .ref (a k_12)) (C := RX7) (T := TX7) (N := 16) hx hb hts iwd_X9_gatherAccounts_X7 hown hK hP x0 (Wd_ob kg_4 sg_4 (by decide)) rfl 1 (by decide) (hts _ md_X9_gatherAccounts_3) (fun _ h9 => h9) (fl_q rfl ek_12) dX9_gatherAccounts_22 ?_
    refine lv_iload_n hx hb dX9_gatherAccounts_25 rfl (lv_at hl 0 rfl) ?_
    obtain ⟨g_13, hf⟩ := grd_some hf
    obtain ⟨kg_13, sg_13, ig_13⟩ := okA_at g_13
    refine va_lald hx hb hK hP k_12 2 (Wd_al kg_13 sg_13) rfl ig_13 dX9_gatherAccounts_26 ?_
    obtain ⟨g_15, hf⟩ := grd_some hf
    obtain ⟨kg_15, sg_15⟩ := okO_at g_15
    obtain ⟨z_14, _u, hfc, hf⟩ := cal_some hf
    have hFc := de_free hD hS hA
    refine va_callv (va_runV (As := [.long (z_8.2.1 k_12 p_1.toNatClampNeg)]) (rest := []) ⟨hx, hb, hml, hown, hts⟩ (de_X0_putLong l dC dI cy a sh n H_10.size F sk z_8 k_11 (z_8.2.1 k_12 p_1.toNatClampNeg) hfc) (cwV 1 hts gX9_gatherAccounts_X0_putLong rfl rfl rfl (by decide +kernel) ⟨Nat.le_of_ble_eq_true rfl, Nat.le_of_ble_eq_true rfl⟩) ⟨fun a U g mk q => by obtain ⟨q0, q1, qP, qK, qD, qN, qS⟩ := q; exact ⟨q0, q1, qP, va_K.moved (u := U) (U := U.calling g mk a) (Vm.Alike.refl U.vm) qK, qD, qN.same rfl, SKs.moved (u := U) (U := U.calling g mk a) (Vm.Alike.refl U.vm) qS⟩, va_recv hK hP (ci := 0) (q0 := k_11) rfl (Wd_ob kg_15 sg_15 (by decide)), fun U hU hW => ⟨rfl, by rw [hU], by rw [hU]; exact hP, va_K.moved hW.alike hK, hD.weaken (fun _ _ _ _ => trivial), hN.warm hW, by rw [hU]; exact ((hSK.kept hS.2.1).narrow hFc).moved hW.alike⟩⟩ rfl rfl hl.1 rfl (lv_room (Nat.le_of_ble_eq_true rfl)) dX9_gatherAccounts_27 ⟨Nat.le_of_ble_eq_true rfl, Nat.le_of_ble_eq_true rfl⟩) hS (fun q _ h => hFc q h) hFc (fun u t H_16 locs ht hvm hw hB hz1 hk1 hS2 => ?_)
    obtain ⟨hP1, -, hD1⟩ := hB
    rw [ht] at hP1
    replace hD := hD1.weaken (fun _ _ _ h => hFc _ h)
    replace hP := hP1
    replace hS := hS2
    clear hP1 hD1 hS2 hFc hfc hz1 hk1 hvm ht
    refine lv_aload_n hx hb dX9_gatherAccounts_30 rfl (lv_at hl 1 rfl) ?_
    obtain ⟨k_17, ek_17, hf⟩ := lnk_some hf
    refine va_get (D := (dC, dI)) (ci := 9) (v := .ref (a k_17)) (C := RX9) (T := TX9) (N := 13) hx hb hts iwd_X9_gatherAccounts_X9 hown hK hP h0 (Wd_ob kg_6 sg_6 (by decide)) rfl 2 (by decide) (hts _ md_X9_gatherAccounts_2) (fun _ h9 => h9) (fl_q rfl ek_17) dX9_gatherAccounts_31 ?_
    refine lv_aload_n hx hb dX9_gatherAccounts_34 rfl (lv_at hl 2 rfl) ?_
    obtain ⟨k_18, ek_18, hf⟩ := lnk_some hf
    refine va_get (D := (dC, dI)) (ci := 7) (v := .ref (a k_18)) (C := RX7) (T := TX7) (N := 16) hx hb hts iwd_X9_gatherAccounts_X7 hown hK hP x0 (Wd_ob kg_4 sg_4 (by decide)) rfl 2 (by decide) (hts _ md_X9_gatherAccounts_4) (fun _ h9 => h9) (fl_q rfl ek_18) dX9_gatherAccounts_35 ?_
    refine lv_iload_n hx hb dX9_gatherAccounts_38 rfl (lv_at hl 0 rfl) ?_
    obtain ⟨g_19, hf⟩ := grd_some hf
    obtain ⟨kg_19, sg_19, ig_19⟩ := okA_at g_19
    refine va_lald hx hb hK hP k_18 2 (Wd_al kg_19 sg_19) rfl ig_19 dX9_gatherAccounts_39 ?_
    obtain ⟨g_21, hf⟩ := grd_some hf
    obtain ⟨kg_21, sg_21⟩ := okO_at g_21
    obtain ⟨z_20, _u, hfc, hf⟩ := cal_some hf
    have hFc := de_free hD hS hA
    refine va_callv (va_runV (As := [.long (z_14.2.1 k_18 p_1.toNatClampNeg)]) (rest := []) ⟨hx, hb, hml, hown, hts⟩ (de_X0_putLong l dC dI cy a sh n H_16.size F sk z_14 k_17 (z_14.2.1 k_18 p_1.toNatClampNeg) hfc) (cwV 1 hts gX9_gatherAccounts_X0_putLong rfl rfl rfl (by decide +kernel) ⟨Nat.le_of_ble_eq_true rfl, Nat.le_of_ble_eq_true rfl⟩) ⟨fun a U g mk q => by obtain ⟨q0, q1, qP, qK, qD, qN, qS⟩ := q; exact ⟨q0, q1, qP, va_K.moved (u := U) (U := U.calling g mk a) (Vm.Alike.refl U.vm) qK, qD, qN.same rfl, SKs.moved (u := U) (U := U.calling g mk a) (Vm.Alike.refl U.vm) qS⟩, va_recv hK hP (ci := 0) (q0 := k_17) rfl (Wd_ob kg_21 sg_21 (by decide)), fun U hU hW => ⟨rfl, by rw [hU], by rw [hU]; exact hP, va_K.moved hW.alike hK, hD.weaken (fun _ _ _ _ => trivial), hN.warm hW, by rw [hU]; exact ((hSK.kept hS.2.1).narrow hFc).moved hW.alike⟩⟩ rfl rfl hl.1 rfl (lv_room (Nat.le_of_ble_eq_true rfl)) dX9_gatherAccounts_40 ⟨Nat.le_of_ble_eq_true rfl, Nat.le_of_ble_eq_true rfl⟩) hS (fun q _ h => hFc q h) hFc (fun u t H_22 locs ht hvm hw hB hz1 hk1 hS2 => ?_)
    obtain ⟨hP1, -, hD1⟩ := hB
    rw [ht] at hP1
    replace hD := hD1.weaken (fun _ _ _ h => hFc _ h)
    replace hP := hP1
    replace hS := hS2
    clear hP1 hD1 hS2 hFc hfc hz1 hk1 hvm ht
    refine lv_aload_n hx hb dX9_gatherAccounts_43 rfl (lv_at hl 1 rfl) ?_
    obtain ⟨z_23, _u, hfc, hf⟩ := cal_some hf
    have hFc := de_free hD hS hA
    refine va_callv (va_runV (As := []) (rest := []) ⟨hx, hb, hml, hown, hts⟩ (de_X9_keepValue l dC dI cy a sh n H_22.size F sk z_20 h0 hfc) (cwV 0 hts gX9_gatherAccounts_X9_keepValue rfl rfl rfl (by decide +kernel) ⟨Nat.le_of_ble_eq_true rfl, Nat.le_of_ble_eq_true rfl⟩) ⟨fun a U g mk q => by obtain ⟨q0, q1, qP, qK, qD, qN, qS⟩ := q; exact ⟨q0, q1, qP, va_K.moved (u := U) (U := U.calling g mk a) (Vm.Alike.refl U.vm) qK, qD, qN.same rfl, SKs.moved (u := U) (U := U.calling g mk a) (Vm.Alike.refl U.vm) qS⟩, va_recv hK hP (ci := 9) (q0 := h0) rfl (Wd_ob kg_6 sg_6 (by decide)), fun U hU hW => ⟨rfl, by rw [hU], by rw [hU]; exact hP, va_K.moved hW.alike hK, hD.weaken (fun _ _ _ _ => trivial), hN.warm hW, by rw [hU]; exact ((hSK.kept hS.2.1).narrow hFc).moved hW.alike⟩⟩ rfl rfl hl.1 rfl (lv_room (Nat.le_of_ble_eq_true rfl)) dX9_gatherAccounts_44 ⟨Nat.le_of_ble_eq_true rfl, Nat.le_of_ble_eq_true rfl⟩) hS (fun q _ h => hFc q h) hFc (fun u t H_24 locs ht hvm hw hB hz1 hk1 hS2 => ?_)
    obtain ⟨hP1, -, hD1⟩ := hB
    rw [ht] at hP1
    replace hD := hD1.weaken (fun _ _ _ h => hFc _ h)
    replace hP := hP1
    replace hS := hS2
    clear hP1 hD1 hS2 hFc hfc hz1 hk1 hvm ht
    refine lv_aload_n hx hb dX9_gatherAccounts_47 rfl (lv_at hl 1 rfl) ?_
    obtain ⟨k_25, ek_25, hf⟩ := lnk_some hf
    refine va_get (D := (dC, dI)) (ci := 9) (v := .ref (a k_25)) (C := RX9) (T := TX9) (N := 13) hx hb hts iwd_X9_gatherAccounts_X9 hown hK hP h0 (Wd_ob kg_6 sg_6 (by decide)) rfl 2 (by decide) (hts _ md_X9_gatherAccounts_2) (fun _ h9 => h9) (fl_q rfl ek_25) dX9_gatherAccounts_48 ?_
    obtain ⟨g_27, hf⟩ := grd_some hf
    obtain ⟨kg_27, sg_27⟩ := okO_at g_27
    obtain ⟨z_26, _u, hfc, hf⟩ := cal_some hf
    have hFc := de_free hD hS hA
    refine va_callv (va_runV (As := []) (rest := []) ⟨hx, hb, hml, hown, hts⟩ (de_X0_start l dC dI cy a sh n H_24.size F sk z_23 k_25 hfc) (cwV 0 hts gX9_gatherAccounts_X0_start rfl rfl rfl (by decide +kernel) ⟨Nat.le_of_ble_eq_true rfl, Nat.le_of_ble_eq_true rfl⟩) ⟨fun a U g mk q => by obtain ⟨q0, q1, qP, qK, qD, qN, qS⟩ := q; exact ⟨q0, q1, qP, va_K.moved (u := U) (U := U.calling g mk a) (Vm.Alike.refl U.vm) qK, qD, qN.same rfl, SKs.moved (u := U) (U := U.calling g mk a) (Vm.Alike.refl U.vm) qS⟩, va_recv hK hP (ci := 0) (q0 := k_25) rfl (Wd_ob kg_27 sg_27 (by decide)), fun U hU hW => ⟨rfl, by rw [hU], by rw [hU]; exact hP, va_K.moved hW.alike hK, hD.weaken (fun _ _ _ _ => trivial), hN.warm hW, by rw [hU]; exact ((hSK.kept hS.2.1).narrow hFc).moved hW.alike⟩⟩ rfl rfl hl.1 rfl (lv_room (Nat.le_of_ble_eq_true rfl)) dX9_gatherAccounts_51 ⟨Nat.le_of_ble_eq_true rfl, Nat.le_of_ble_eq_true rfl⟩) hS (fun q _ h => hFc q h) hFc (fun u t H_28 locs ht hvm hw hB hz1 hk1 hS2 => ?_)
    obtain ⟨hP1, -, hD1⟩ := hB
    rw [ht] at hP1
    replace hD := hD1.weaken (fun _ _ _ h => hFc _ h)
    replace hP := hP1
    replace hS := hS2
    clear hP1 hD1 hS2 hFc hfc hz1 hk1 hvm ht
    refine lv_aload_n hx hb dX9_gatherAccounts_54 rfl (lv_at hl 1 rfl) ?_
    obtain ⟨k_29, ek_29, hf⟩ := lnk_some hf
    refine va_get (D := (dC, dI)) (ci := 9) (v := .ref (a k_29)) (C := RX9) (T := TX9) (N := 13) hx hb hts iwd_X9_gatherAccounts_X9 hown hK hP h0 (Wd_ob kg_6 sg_6 (by decide)) rfl 2 (by decide) (hts _ md_X9_gatherAccounts_2) (fun _ h9 => h9) (fl_q rfl ek_29) dX9_gatherAccounts_55 ?_
    refine lv_iconst (v := 1) hx hb dX9_gatherAccounts_58 (by decide) ?_
    obtain ⟨g_31, hf⟩ := grd_some hf
    obtain ⟨kg_31, sg_31⟩ := okO_at g_31
    obtain ⟨z_30, _u, hfc, hf⟩ := cal_some hf
    have hFc := de_free hD hS hA
    refine va_callv (va_runV (As := [.int 1]) (rest := []) ⟨hx, hb, hml, hown, hts⟩ (de_X0_put l dC dI cy a sh n H_28.size F sk z_26 k_29 1 hfc) (cwV 1 hts gX9_gatherAccounts_X0_put rfl rfl rfl (by decide +kernel) ⟨Nat.le_of_ble_eq_true rfl, Nat.le_of_ble_eq_true rfl⟩) ⟨fun a U g mk q => by obtain ⟨q0, q1, qP, qK, qD, qN, qS⟩ := q; exact ⟨q0, q1, qP, va_K.moved (u := U) (U := U.calling g mk a) (Vm.Alike.refl U.vm) qK, qD, qN.same rfl, SKs.moved (u := U) (U := U.calling g mk a) (Vm.Alike.refl U.vm) qS⟩, va_recv hK hP (ci := 0) (q0 := k_29) rfl (Wd_ob kg_31 sg_31 (by decide)), fun U hU hW => ⟨rfl, by rw [hU], by rw [hU]; exact hP, va_K.moved hW.alike hK, hD.weaken (fun _ _ _ _ => trivial), hN.warm hW, by rw [hU]; exact ((hSK.kept hS.2.1).narrow hFc).moved hW.alike⟩⟩ rfl rfl hl.1 rfl (lv_room (Nat.le_of_ble_eq_true rfl)) dX9_gatherAccounts_59 ⟨Nat.le_of_ble_eq_true rfl, Nat.le_of_ble_eq_true rfl⟩) hS (fun q _ h => hFc q h) hFc (fun u t H_32 locs ht hvm hw hB hz1 hk1 hS2 => ?_)
    obtain ⟨hP1, -, hD1⟩ := hB
    rw [ht] at hP1
    replace hD := hD1.weaken (fun _ _ _ h => hFc _ h)
    replace hP := hP1
    replace hS := hS2
    clear hP1 hD1 hS2 hFc hfc hz1 hk1 hvm ht
    refine lv_aload_n hx hb dX9_gatherAccounts_62 rfl (lv_at hl 1 rfl) ?_
    obtain ⟨k_33, ek_33, hf⟩ := lnk_some hf
    refine va_get (D := (dC, dI)) (ci := 9) (v := .ref (a k_33)) (C := RX9) (T := TX9) (N := 13) hx hb hts iwd_X9_gatherAccounts_X9 hown hK hP h0 (Wd_ob kg_6 sg_6 (by decide)) rfl 2 (by decide) (hts _ md_X9_gatherAccounts_2) (fun _ h9 => h9) (fl_q rfl ek_33) dX9_gatherAccounts_63 ?_
    refine lv_aload_n hx hb dX9_gatherAccounts_66 rfl (lv_at hl 2 rfl) ?_
    obtain ⟨k_34, ek_34, hf⟩ := lnk_some hf
    refine va_get (D := (dC, dI)) (ci := 7) (v := .ref (a k_34)) (C := RX7) (T := TX7) (N := 16) hx hb hts iwd_X9_gatherAccounts_X7 hown hK hP x0 (Wd_ob kg_4 sg_4 (by decide)) rfl 0 (by decide) (hts _ md_X9_gatherAccounts_5) (fun _ h9 => h9) (fl_q rfl ek_34) dX9_gatherAccounts_67 ?_
    refine lv_iload_n hx hb dX9_gatherAccounts_70 rfl (lv_at hl 0 rfl) ?_
    obtain ⟨g_35, hf⟩ := grd_some hf
    obtain ⟨kg_35, sg_35, ig_35⟩ := okA_at g_35
    refine va_lald hx hb hK hP k_34 2 (Wd_al kg_35 sg_35) rfl ig_35 dX9_gatherAccounts_71 ?_
    obtain ⟨g_37, hf⟩ := grd_some hf
    obtain ⟨kg_37, sg_37⟩ := okO_at g_37
    obtain ⟨z_36, _u, hfc, hf⟩ := cal_some hf
    have hFc := de_free hD hS hA
    refine va_callv (va_runV (As := [.long (z_30.2.1 k_34 p_1.toNatClampNeg)]) (rest := []) ⟨hx, hb, hml, hown, hts⟩ (de_X0_putLong l dC dI cy a sh n H_32.size F sk z_30 k_33 (z_30.2.1 k_34 p_1.toNatClampNeg) hfc) (cwV 1 hts gX9_gatherAccounts_X0_putLong rfl rfl rfl (by decide +kernel) ⟨Nat.le_of_ble_eq_true rfl, Nat.le_of_ble_eq_true rfl⟩) ⟨fun a U g mk q => by obtain ⟨q0, q1, qP, qK, qD, qN, qS⟩ := q; exact ⟨q0, q1, qP, va_K.moved (u := U) (U := U.calling g mk a) (Vm.Alike.refl U.vm) qK, qD, qN.same rfl, SKs.moved (u := U) (U := U.calling g mk a) (Vm.Alike.refl U.vm) qS⟩, va_recv hK hP (ci := 0) (q0 := k_33) rfl (Wd_ob kg_37 sg_37 (by decide)), fun U hU hW => ⟨rfl, by rw [hU], by rw [hU]; exact hP, va_K.moved hW.alike hK, hD.weaken (fun _ _ _ _ => trivial), hN.warm hW, by rw [hU]; exact ((hSK.kept hS.2.1).narrow hFc).moved hW.alike⟩⟩ rfl rfl hl.1 rfl (lv_room (Nat.le_of_ble_eq_true rfl)) dX9_gatherAccounts_72 ⟨Nat.le_of_ble_eq_true rfl, Nat.le_of_ble_eq_true rfl⟩) hS (fun q _ h => hFc q h) hFc (fun u t H_38 locs ht hvm hw hB hz1 hk1 hS2 => ?_)
    obtain ⟨hP1, -, hD1⟩ := hB
    rw [ht] at hP1
    replace hD := hD1.weaken (fun _ _ _ h => hFc _ h)
    replace hP := hP1
    replace hS := hS2
    clear hP1 hD1 hS2 hFc hfc hz1 hk1 hvm ht
    refine lv_aload_n hx hb dX9_gatherAccounts_75 rfl (lv_at hl 1 rfl) ?_
    refine lv_iconst (v := 1) hx hb dX9_gatherAccounts_76 (by decide) ?_
    refine lv_aload_n hx hb dX9_gatherAccounts_77 rfl (lv_at hl 2 rfl) ?_
    obtain ⟨k_39, ek_39, hf⟩ := lnk_some hf
    refine va_get (D := (dC, dI)) (ci := 7) (v := .ref (a k_39)) (C := RX7) (T := TX7) (N := 16) hx hb hts iwd_X9_gatherAccounts_X7 hown hK hP x0 (Wd_ob kg_4 sg_4 (by decide)) rfl 0 (by decide) (hts _ md_X9_gatherAccounts_5) (fun _ h9 => h9) (fl_q rfl ek_39) dX9_gatherAccounts_78 ?_
    refine lv_iload_n hx hb dX9_gatherAccounts_81 rfl (lv_at hl 0 rfl) ?_
    obtain ⟨g_40, hf⟩ := grd_some hf
    obtain ⟨kg_40, sg_40, ig_40⟩ := okA_at g_40
    refine va_lald hx hb hK hP k_39 2 (Wd_al kg_40 sg_40) rfl ig_40 dX9_gatherAccounts_82 ?_
    refine lv_iconst (v := 0) hx hb dX9_gatherAccounts_83 (by decide) ?_
    refine lv_iconst (v := 0) hx hb dX9_gatherAccounts_84 (by decide) ?_
    obtain ⟨z_41, _u, hfc, hf⟩ := cal_some hf
    have hFc := de_free hD hS hA
    refine va_callv (va_runV (As := [.int 1, .long (z_36.2.1 k_39 p_1.toNatClampNeg), .int 0, .int 0]) (rest := []) ⟨hx, hb, hml, hown, hts⟩ (de_X9_addPlace l dC dI cy a sh n H_38.size F sk z_36 h0 1 (z_36.2.1 k_39 p_1.toNatClampNeg) 0 0 hfc) (cwV 4 hts gX9_gatherAccounts_X9_addPlace rfl rfl rfl (by decide +kernel) ⟨Nat.le_of_ble_eq_true rfl, Nat.le_of_ble_eq_true rfl⟩) ⟨fun a U g mk q => by obtain ⟨q0, q1, qP, qK, qD, qN, qS⟩ := q; exact ⟨q0, q1, qP, va_K.moved (u := U) (U := U.calling g mk a) (Vm.Alike.refl U.vm) qK, qD, qN.same rfl, SKs.moved (u := U) (U := U.calling g mk a) (Vm.Alike.refl U.vm) qS⟩, va_recv hK hP (ci := 9) (q0 := h0) rfl (Wd_ob kg_6 sg_6 (by decide)), fun U hU hW => ⟨rfl, by rw [hU], by rw [hU]; exact hP, va_K.moved hW.alike hK, hD.weaken (fun _ _ _ _ => trivial), hN.warm hW, by rw [hU]; exact ((hSK.kept hS.2.1).narrow hFc).moved hW.alike⟩⟩ rfl rfl hl.1 rfl (lv_room (Nat.le_of_ble_eq_true rfl)) dX9_gatherAccounts_85 ⟨Nat.le_of_ble_eq_true rfl, Nat.le_of_ble_eq_true rfl⟩) hS (fun q _ h => hFc q h) hFc (fun u t H_42 locs ht hvm hw hB hz1 hk1 hS2 => ?_)
    obtain ⟨hP1, -, hD1⟩ := hB
    rw [ht] at hP1
    replace hD := hD1.weaken (fun _ _ _ h => hFc _ h)
    replace hP := hP1
    replace hS := hS2
    clear hP1 hD1 hS2 hFc hfc hz1 hk1 hvm ht
    refine lv_iinc (v := (p_1 + 1)) (lv' := [(2, .int (p_1 + 1)), (0, .ref (a h0)), (1, .ref (a x0))]) hx hb dX9_gatherAccounts_88 hl (k := 0) rfl rfl (by decide) rfl (fun ls hl2 => ?_)
    replace hl := hl2
    clear hl2
    refine lv_goto (tgt := 2) hx hb dX9_gatherAccounts_91 (by decide) ?_
    exact ih2 (z_41, (p_1 + 1)) ls H_42 locs ⟨lv_sub hl [0, 1, 2] rfl, hP, hD, hS⟩ hf

theorem md_X9_gatherModules_1 : (.fieldLink RX9 109 "ResourceLedger$State" "moduleCount" "I" : Cond) ∈ wsX9_gatherModules := List.mem_of_getElem? (i := 1) rfl
theorem iwd_X9_gatherModules_X7 : ∀ w ∈ wsX70, w ∈ wsX9_gatherModules := fun _ h => List.mem_cons_of_mem _ (List.mem_append_left _ (List.mem_append_left _ (List.mem_append_left _ (List.mem_append_right _ h))))
theorem md_X9_gatherModules_2 : (.fieldLink RX9 112 "ResourceLedger$State" "programs" "[LResourceLedger$Program;" : Cond) ∈ wsX9_gatherModules := List.mem_of_getElem? (i := 2) rfl
theorem md_X9_gatherModules_3 : (.fieldLink RX9 18 "ResourceLedger$Tree" "digest" "LResourceLedger$Digest;" : Cond) ∈ wsX9_gatherModules := List.mem_of_getElem? (i := 3) rfl
theorem iwd_X9_gatherModules_X9 : ∀ w ∈ wsX90, w ∈ wsX9_gatherModules := fun _ h => List.mem_cons_of_mem _ (List.mem_append_left _ (List.mem_append_left _ (List.mem_append_right _ h)))
theorem md_X9_gatherModules_4 : (.fieldLink RX9 116 "ResourceLedger$Program" "length" "I" : Cond) ∈ wsX9_gatherModules := List.mem_of_getElem? (i := 4) rfl
theorem iwd_X9_gatherModules_X5 : ∀ w ∈ wsX50, w ∈ wsX9_gatherModules := fun _ h => List.mem_cons_of_mem _ (List.mem_append_left _ (List.mem_append_right _ h))
theorem md_X9_gatherModules_5 : (.fieldLink RX9 125 "ResourceLedger$Program" "number" "I" : Cond) ∈ wsX9_gatherModules := List.mem_of_getElem? (i := 5) rfl
set_option maxHeartbeats 4000000 in
set_option maxRecDepth 100000 in
theorem de_X9_gatherModules (l : Launch) (dC : Nat → ClassId) (dI : Nat → Nat → Nat) (cy : Nat → ClassId) (a : Nat → Nat) (sh : Nat → Nat × Nat) (n sz : Nat) (F : Nat) (sk : Nat → Nat) (z : St) (h0 : Nat) (x0 : Nat) {z8 : St} {r8 : Unit} (hf : fn_X9_gatherModules F sh n z h0 x0 = some (z8, r8)) : Met l yX9_gatherModules wsX9_gatherModules ({ frames := 5, cells := 0, slots := 0, locals := 126 }) (va_Pc [.ref (a h0), .ref (a x0)] (fun U => U.heap.size = sz ∧ va_P (dC, dI) vwCl (Wd cy a sh n z) U.heap ∧ va_K (dC, dI) vwCl (TYS cy) U ∧ va_D (fun _ => True) (Wd cy a sh n z) ∧ NK U ∧ SKs sk (a CBK) (va_A (Wd cy a sh n z) sz) U U.heap)) (va_Qv (fun u : Unit => True) (fun u t => va_P (dC, dI) vwCl (Wd cy a sh n z8) t.heap ∧ va_K (dC, dI) vwCl (TYS cy) t ∧ va_D (va_A (Wd cy a sh n z) sz) (Wd cy a sh n z8)) (va_A (Wd cy a sh n z) sz)) 0 0 (va_A (Wd cy a sh n z) sz) := by
  refine Met.ofW (cc := cX9_gatherModules) (maxL := 5) (ret := none) (by decide) rfl ?_
  intro p e s m args below meth c s₁ B hml hv
  obtain ⟨rfl, hsz, hP, hK, hD0, hN, hSK⟩ := hv
  have hx := B.exec
  have hb := B.bytes
  have hr := B.returns
  have hts := atoms_spec (ws := wsX9_gatherModules) B.pre
  have hown : s.vm.findClass RX9 = some m.cls := findClass_of_methodNamed B.named
  have hlocks := B.notSynchronized
  subst hsz
  have hD := hD0.self (sz := s.heap.size)
  clear hD0
  generalize hAe : va_A (Wd cy a sh n z) s.heap.size = A at hD hSK ⊢
  have hA : ∀ q : Nat, s.heap.size ≤ q → A q := fun q h => by rw [← hAe]; exact Or.inr h
  clear hAe
  have hS : va_S A s.heap s.heap [] := va_S.rf
  have hl := lv_entry ([.ref (a h0), .ref (a x0)]) (n := 5) (Nat.le_of_ble_eq_true rfl)
  rw [lg_entry_eq]
  generalize (lg_sl ([.ref (a h0), .ref (a x0)]) ++ List.replicate (5 - (lg_sl ([.ref (a h0), .ref (a x0)])).length) Slot.unset).toArray = ls at hl ⊢
  replace hl : lv_has ls 5 [(0, .ref (a h0)), (1, .ref (a x0))] := hl
  unfold fn_X9_gatherModules at hf
  refine de_start hS hP (fun H locs hS hP => ?_)
  refine lv_iconst (v := 1) hx hb dX9_gatherModules_0 (by decide) ?_
  refine lv_istore_n (lv' := [(2, .int 1), (0, .ref (a h0)), (1, .ref (a x0))]) hx hb dX9_gatherModules_1 rfl hl (by decide) rfl (fun ls hl2 => ?_)
  replace hl := hl2
  clear hl2
  have hl0 : lv_has ls 5 [(2, .int 1), (0, .ref (a h0)), (1, .ref (a x0))] := lv_sub hl [0, 1, 2] rfl
  refine de_loop (h := 2) (fun (x : St × Int32) ls H locs => lv_has ls 5 [(2, .int x.2), (0, .ref (a h0)), (1, .ref (a x0))] ∧ va_P (dC, dI) vwCl (Wd cy a sh n x.1) H ∧ va_D A (Wd cy a sh n x.1) ∧ va_S A s.heap H locs) (fun f x => fn_X9_gatherModules_L2 F sh n x0 h0 f x.1 x.2) (z8, r8) ?_ (fun _ => rfl) F (z, 1) ls H locs ⟨hl0, hP, hD, hS⟩ hf
  intro f_3 x ls H locs ih2 hI hf
  obtain ⟨z_2, p_1⟩ := x
  obtain ⟨hl2, hP2, hD2, hS2⟩ := hI
  replace hl : lv_has ls 5 [(2, .int p_1), (0, .ref (a h0)), (1, .ref (a x0))] := hl2
  replace hP := hP2
  replace hD := hD2
  replace hS := hS2
  clear hl2 hP2 hD2 hS2 hl0
  replace hf := fn_X9_gatherModules_L2_s hf
  refine lv_iload_n hx hb dX9_gatherModules_2 rfl (lv_at hl 0 rfl) ?_
  refine lv_aload_n hx hb dX9_gatherModules_3 rfl (lv_at hl 2 rfl) ?_
  obtain ⟨g_4, hf⟩ := grd_some hf
  obtain ⟨kg_4, sg_4⟩ := okO_at g_4
  refine va_get (D := (dC, dI)) (ci := 7) (v := .int (z_2.1 x0 5)) (C := RX7) (T := TX7) (N := 16) hx hb hts iwd_X9_gatherModules_X7 hown hK hP x0 (Wd_ob kg_4 sg_4 (by decide)) rfl 5 (by decide) (hts _ md_X9_gatherModules_1) (fun _ h9 => h9) (fl_at (t := 0) rfl) dX9_gatherModules_4 ?_
  refine lv_icmp_gt (tgt := 116) hx hb dX9_gatherModules_7 (by decide) (fun c_5 => ?_) (fun c_5 => ?_)
  · skip
    rw [if_pos c_5] at hf
    obtain ⟨h8, h9⟩ := ret_some hf
    rw [h8]
    exact W.vret hx hb hr (fun t ht hW => ⟨⟨(), rfl, trivial, by rw [ht]; exact hP, va_K.moved hW.alike hK, hD⟩, hS.F ht⟩) hS.2.2 dX9_gatherModules_116
  · skip
    rw [if_neg c_5] at hf
    refine lv_aload_n hx hb dX9_gatherModules_10 rfl (lv_at hl 2 rfl) ?_
    obtain ⟨k_6, ek_6, hf⟩ := lnk_some hf
    refine va_get (D := (dC, dI)) (ci := 7) (v := .ref (a k_6)) (C := RX7) (T := TX7) (N := 16) hx hb hts iwd_X9_gatherModules_X7 hown hK hP x0 (Wd_ob kg_4 sg_4 (by decide)) rfl 4 (by decide) (hts _ md_X9_gatherModules_2) (fun _ h9 => h9) (fl_q rfl ek_6) dX9_gatherModules_11 ?_
    refine lv_iload_n hx hb dX9_gatherModules_14 rfl (lv_at hl 0 rfl) ?_
    obtain ⟨g_7, hf⟩ := grd_some hf
    obtain ⟨kg_7, sg_7, ig_7⟩ := okA_at g_7
    obtain ⟨k_8, ek_8, hf⟩ := lnk_some hf
    refine va_aldq (C := RX5) hx hb hK hP k_6 4 (Wd_aq kg_7 sg_7 (by decide)) rfl ig_7 dX9_gatherModules_15 ?_
    refine W.eq (g2 := F0 m 16 ls [.ref (a k_8)]) (by rw [ek_8]; rfl) ?_
    refine lv_astore_n (lv' := [(3, .ref (a k_8)), (2, .int p_1), (0, .ref (a h0)), (1, .ref (a x0))]) hx hb dX9_gatherModules_16 rfl hl (by decide) rfl (fun ls hl2 => ?_)
    replace hl := hl2
    clear hl2
    refine lv_aload_n hx hb dX9_gatherModules_17 rfl (lv_at hl 2 rfl) ?_
    obtain ⟨g_9, hf⟩ := grd_some hf
    obtain ⟨kg_9, sg_9⟩ := okO_at g_9
    obtain ⟨k_10, ek_10, hf⟩ := lnk_some hf
    refine va_get (D := (dC, dI)) (ci := 9) (v := .ref (a k_10)) (C := RX9) (T := TX9) (N := 13) hx hb hts iwd_X9_gatherModules_X9 hown hK hP h0 (Wd_ob kg_9 sg_9 (by decide)) rfl 2 (by decide) (hts _ md_X9_gatherModules_3) (fun _ h9 => h9) (fl_q rfl ek_10) dX9_gatherModules_18 ?_
    obtain ⟨g_12, hf⟩ := grd_some hf
    obtain ⟨kg_12, sg_12⟩ := okO_at g_12
    obtain ⟨z_11, _u, hfc, hf⟩ := cal_some hf
    have hFc := de_free hD hS hA
    refine va_callv (va_runV (As := []) (rest := []) ⟨hx, hb, hml, hown, hts⟩ (de_X0_start l dC dI cy a sh n H.size F sk z_2 k_10 hfc) (cwV 0 hts gX9_gatherModules_X0_start rfl rfl rfl (by decide +kernel) ⟨Nat.le_of_ble_eq_true rfl, Nat.le_of_ble_eq_true rfl⟩) ⟨fun a U g mk q => by obtain ⟨q0, q1, qP, qK, qD, qN, qS⟩ := q; exact ⟨q0, q1, qP, va_K.moved (u := U) (U := U.calling g mk a) (Vm.Alike.refl U.vm) qK, qD, qN.same rfl, SKs.moved (u := U) (U := U.calling g mk a) (Vm.Alike.refl U.vm) qS⟩, va_recv hK hP (ci := 0) (q0 := k_10) rfl (Wd_ob kg_12 sg_12 (by decide)), fun U hU hW => ⟨rfl, by rw [hU], by rw [hU]; exact hP, va_K.moved hW.alike hK, hD.weaken (fun _ _ _ _ => trivial), hN.warm hW, by rw [hU]; exact ((hSK.kept hS.2.1).narrow hFc).moved hW.alike⟩⟩ rfl rfl hl.1 rfl (lv_room (Nat.le_of_ble_eq_true rfl)) dX9_gatherModules_21 ⟨Nat.le_of_ble_eq_true rfl, Nat.le_of_ble_eq_true rfl⟩) hS (fun q _ h => hFc q h) hFc (fun u t H_13 locs ht hvm hw hB hz1 hk1 hS2 => ?_)
    obtain ⟨hP1, -, hD1⟩ := hB
    rw [ht] at hP1
    replace hD := hD1.weaken (fun _ _ _ h => hFc _ h)
    replace hP := hP1
    replace hS := hS2
    clear hP1 hD1 hS2 hFc hfc hz1 hk1 hvm ht
    refine lv_iconst (v := 0) hx hb dX9_gatherModules_24 (by decide) ?_
    refine lv_istore (lv' := [(4, .int 0), (3, .ref (a k_8)), (2, .int p_1), (0, .ref (a h0)), (1, .ref (a x0))]) hx hb dX9_gatherModules_25 hl (by decide) rfl (fun ls hl2 => ?_)
    replace hl := hl2
    clear hl2
    have hl0 : lv_has ls 5 [(4, .int 0), (3, .ref (a k_8)), (2, .int p_1), (0, .ref (a h0)), (1, .ref (a x0))] := lv_sub hl [0, 1, 2, 3, 4] rfl
    refine de_loop (h := 27) (fun (x : St × Int32) ls H locs => lv_has ls 5 [(4, .int x.2), (3, .ref (a k_8)), (2, .int p_1), (0, .ref (a h0)), (1, .ref (a x0))] ∧ va_P (dC, dI) vwCl (Wd cy a sh n x.1) H ∧ va_D A (Wd cy a sh n x.1) ∧ va_S A s.heap H locs) (fun f x => fn_X9_gatherModules_L27 F sh n k_8 h0 p_1 (fun z9 q2 => fn_X9_gatherModules_L2 F sh n x0 h0 f_3 z9 q2) f x.1 x.2) (z8, r8) ?_ (fun _ => rfl) F (z_11, 0) ls H_13 locs ⟨hl0, hP, hD, hS⟩ hf
    intro f_16 x ls H locs ih27 hI hf
    obtain ⟨z_15, p_14⟩ := x
    obtain ⟨hl2, hP2, hD2, hS2⟩ := hI
    replace hl : lv_has ls 5 [(4, .int p_14), (3, .ref (a k_8)), (2, .int p_1), (0, .ref (a h0)), (1, .ref (a x0))] := hl2
    replace hP := hP2
    replace hD := hD2
    replace hS := hS2
    clear hl2 hP2 hD2 hS2 hl0
    replace hf := fn_X9_gatherModules_L27_s hf
    refine lv_iload hx hb dX9_gatherModules_27 (lv_at hl 0 rfl) ?_
    refine lv_aload_n hx hb dX9_gatherModules_29 rfl (lv_at hl 1 rfl) ?_
    obtain ⟨g_17, hf⟩ := grd_some hf
    obtain ⟨kg_17, sg_17⟩ := okO_at g_17
    refine va_get (D := (dC, dI)) (ci := 5) (v := .int (z_15.1 k_8 1)) (C := RX5) (T := TX5) (N := 15) hx hb hts iwd_X9_gatherModules_X5 hown hK hP k_8 (Wd_ob kg_17 sg_17 (by decide)) rfl 1 (by decide) (hts _ md_X9_gatherModules_4) (fun _ h9 => h9) (fl_at (t := 0) rfl) dX9_gatherModules_30 ?_
    refine lv_icmp_ge (tgt := 55) hx hb dX9_gatherModules_33 (by decide) (fun c_18 => ?_) (fun c_18 => ?_)
    · skip
      rw [if_pos c_18] at hf
      refine lv_aload_n hx hb dX9_gatherModules_55 rfl (lv_at hl 3 rfl) ?_
      obtain ⟨z_19, _u, hfc, hf⟩ := cal_some hf
      have hFc := de_free hD hS hA
      refine va_callv (va_runV (As := []) (rest := []) ⟨hx, hb, hml, hown, hts⟩ (de_X9_keepValue l dC dI cy a sh n H.size F sk z_15 h0 hfc) (cwV 0 hts gX9_gatherModules_X9_keepValue rfl rfl rfl (by decide +kernel) ⟨Nat.le_of_ble_eq_true rfl, Nat.le_of_ble_eq_true rfl⟩) ⟨fun a U g mk q => by obtain ⟨q0, q1, qP, qK, qD, qN, qS⟩ := q; exact ⟨q0, q1, qP, va_K.moved (u := U) (U := U.calling g mk a) (Vm.Alike.refl U.vm) qK, qD, qN.same rfl, SKs.moved (u := U) (U := U.calling g mk a) (Vm.Alike.refl U.vm) qS⟩, va_recv hK hP (ci := 9) (q0 := h0) rfl (Wd_ob kg_9 sg_9 (by decide)), fun U hU hW => ⟨rfl, by rw [hU], by rw [hU]; exact hP, va_K.moved hW.alike hK, hD.weaken (fun _ _ _ _ => trivial), hN.warm hW, by rw [hU]; exact ((hSK.kept hS.2.1).narrow hFc).moved hW.alike⟩⟩ rfl rfl hl.1 rfl (lv_room (Nat.le_of_ble_eq_true rfl)) dX9_gatherModules_56 ⟨Nat.le_of_ble_eq_true rfl, Nat.le_of_ble_eq_true rfl⟩) hS (fun q _ h => hFc q h) hFc (fun u t H_20 locs ht hvm hw hB hz1 hk1 hS2 => ?_)
      obtain ⟨hP1, -, hD1⟩ := hB
      rw [ht] at hP1
      replace hD := hD1.weaken (fun _ _ _ h => hFc _ h)
      replace hP := hP1
      replace hS := hS2
      clear hP1 hD1 hS2 hFc hfc hz1 hk1 hvm ht
      refine lv_aload_n hx hb dX9_gatherModules_59 rfl (lv_at hl 3 rfl) ?_
      obtain ⟨k_21, ek_21, hf⟩ := lnk_some hf
      refine va_get (D := (dC, dI)) (ci := 9) (v := .ref (a k_21)) (C := RX9) (T := TX9) (N := 13) hx hb hts iwd_X9_gatherModules_X9 hown hK hP h0 (Wd_ob kg_9 sg_9 (by decide)) rfl 2 (by decide) (hts _ md_X9_gatherModules_3) (fun _ h9 => h9) (fl_q rfl ek_21) dX9_gatherModules_60 ?_
      obtain ⟨g_23, hf⟩ := grd_some hf
      obtain ⟨kg_23, sg_23⟩ := okO_at g_23
      obtain ⟨z_22, _u, hfc, hf⟩ := cal_some hf
      have hFc := de_free hD hS hA
      refine va_callv (va_runV (As := []) (rest := []) ⟨hx, hb, hml, hown, hts⟩ (de_X0_start l dC dI cy a sh n H_20.size F sk z_19 k_21 hfc) (cwV 0 hts gX9_gatherModules_X0_start rfl rfl rfl (by decide +kernel) ⟨Nat.le_of_ble_eq_true rfl, Nat.le_of_ble_eq_true rfl⟩) ⟨fun a U g mk q => by obtain ⟨q0, q1, qP, qK, qD, qN, qS⟩ := q; exact ⟨q0, q1, qP, va_K.moved (u := U) (U := U.calling g mk a) (Vm.Alike.refl U.vm) qK, qD, qN.same rfl, SKs.moved (u := U) (U := U.calling g mk a) (Vm.Alike.refl U.vm) qS⟩, va_recv hK hP (ci := 0) (q0 := k_21) rfl (Wd_ob kg_23 sg_23 (by decide)), fun U hU hW => ⟨rfl, by rw [hU], by rw [hU]; exact hP, va_K.moved hW.alike hK, hD.weaken (fun _ _ _ _ => trivial), hN.warm hW, by rw [hU]; exact ((hSK.kept hS.2.1).narrow hFc).moved hW.alike⟩⟩ rfl rfl hl.1 rfl (lv_room (Nat.le_of_ble_eq_true rfl)) dX9_gatherModules_63 ⟨Nat.le_of_ble_eq_true rfl, Nat.le_of_ble_eq_true rfl⟩) hS (fun q _ h => hFc q h) hFc (fun u t H_24 locs ht hvm hw hB hz1 hk1 hS2 => ?_)
      obtain ⟨hP1, -, hD1⟩ := hB
      rw [ht] at hP1
      replace hD := hD1.weaken (fun _ _ _ h => hFc _ h)
      replace hP := hP1
      replace hS := hS2
      clear hP1 hD1 hS2 hFc hfc hz1 hk1 hvm ht
      refine lv_aload_n hx hb dX9_gatherModules_66 rfl (lv_at hl 3 rfl) ?_
      obtain ⟨k_25, ek_25, hf⟩ := lnk_some hf
      refine va_get (D := (dC, dI)) (ci := 9) (v := .ref (a k_25)) (C := RX9) (T := TX9) (N := 13) hx hb hts iwd_X9_gatherModules_X9 hown hK hP h0 (Wd_ob kg_9 sg_9 (by decide)) rfl 2 (by decide) (hts _ md_X9_gatherModules_3) (fun _ h9 => h9) (fl_q rfl ek_25) dX9_gatherModules_67 ?_
      refine lv_iconst (v := 2) hx hb dX9_gatherModules_70 (by decide) ?_
      obtain ⟨g_27, hf⟩ := grd_some hf
      obtain ⟨kg_27, sg_27⟩ := okO_at g_27
      obtain ⟨z_26, _u, hfc, hf⟩ := cal_some hf
      have hFc := de_free hD hS hA
      refine va_callv (va_runV (As := [.int 2]) (rest := []) ⟨hx, hb, hml, hown, hts⟩ (de_X0_put l dC dI cy a sh n H_24.size F sk z_22 k_25 2 hfc) (cwV 1 hts gX9_gatherModules_X0_put rfl rfl rfl (by decide +kernel) ⟨Nat.le_of_ble_eq_true rfl, Nat.le_of_ble_eq_true rfl⟩) ⟨fun a U g mk q => by obtain ⟨q0, q1, qP, qK, qD, qN, qS⟩ := q; exact ⟨q0, q1, qP, va_K.moved (u := U) (U := U.calling g mk a) (Vm.Alike.refl U.vm) qK, qD, qN.same rfl, SKs.moved (u := U) (U := U.calling g mk a) (Vm.Alike.refl U.vm) qS⟩, va_recv hK hP (ci := 0) (q0 := k_25) rfl (Wd_ob kg_27 sg_27 (by decide)), fun U hU hW => ⟨rfl, by rw [hU], by rw [hU]; exact hP, va_K.moved hW.alike hK, hD.weaken (fun _ _ _ _ => trivial), hN.warm hW, by rw [hU]; exact ((hSK.kept hS.2.1).narrow hFc).moved hW.alike⟩⟩ rfl rfl hl.1 rfl (lv_room (Nat.le_of_ble_eq_true rfl)) dX9_gatherModules_71 ⟨Nat.le_of_ble_eq_true rfl, Nat.le_of_ble_eq_true rfl⟩) hS (fun q _ h => hFc q h) hFc (fun u t H_28 locs ht hvm hw hB hz1 hk1 hS2 => ?_)
      obtain ⟨hP1, -, hD1⟩ := hB
      rw [ht] at hP1
      replace hD := hD1.weaken (fun _ _ _ h => hFc _ h)
      replace hP := hP1
      replace hS := hS2
      clear hP1 hD1 hS2 hFc hfc hz1 hk1 hvm ht
      refine lv_aload_n hx hb dX9_gatherModules_74 rfl (lv_at hl 3 rfl) ?_
      obtain ⟨k_29, ek_29, hf⟩ := lnk_some hf
      refine va_get (D := (dC, dI)) (ci := 9) (v := .ref (a k_29)) (C := RX9) (T := TX9) (N := 13) hx hb hts iwd_X9_gatherModules_X9 hown hK hP h0 (Wd_ob kg_9 sg_9 (by decide)) rfl 2 (by decide) (hts _ md_X9_gatherModules_3) (fun _ h9 => h9) (fl_q rfl ek_29) dX9_gatherModules_75 ?_
      refine lv_aload_n hx hb dX9_gatherModules_78 rfl (lv_at hl 1 rfl) ?_
      refine va_get (D := (dC, dI)) (ci := 5) (v := .int (z_26.1 k_8 2)) (C := RX5) (T := TX5) (N := 15) hx hb hts iwd_X9_gatherModules_X5 hown hK hP k_8 (Wd_ob kg_17 sg_17 (by decide)) rfl 2 (by decide) (hts _ md_X9_gatherModules_5) (fun _ h9 => h9) (fl_at (t := 0) rfl) dX9_gatherModules_79 ?_
      refine lv_bipush (v := 8) hx hb dX9_gatherModules_82 (by decide) ?_
      refine lv_iushr (v := (((z_26.1 k_8 2) : Int32).toUInt32 >>> ((8 : Int32).toUInt32 &&& Int32.toUInt32 31)).toInt32) hx hb dX9_gatherModules_84 rfl ?_
      obtain ⟨g_31, hf⟩ := grd_some hf
      obtain ⟨kg_31, sg_31⟩ := okO_at g_31
      obtain ⟨z_30, _u, hfc, hf⟩ := cal_some hf
      have hFc := de_free hD hS hA
      refine va_callv (va_runV (As := [.int ((((z_26.1 k_8 2) : Int32).toUInt32 >>> ((8 : Int32).toUInt32 &&& Int32.toUInt32 31)).toInt32)]) (rest := []) ⟨hx, hb, hml, hown, hts⟩ (de_X0_put l dC dI cy a sh n H_28.size F sk z_26 k_29 ((((z_26.1 k_8 2) : Int32).toUInt32 >>> ((8 : Int32).toUInt32 &&& Int32.toUInt32 31)).toInt32) hfc) (cwV 1 hts gX9_gatherModules_X0_put rfl rfl rfl (by decide +kernel) ⟨Nat.le_of_ble_eq_true rfl, Nat.le_of_ble_eq_true rfl⟩) ⟨fun a U g mk q => by obtain ⟨q0, q1, qP, qK, qD, qN, qS⟩ := q; exact ⟨q0, q1, qP, va_K.moved (u := U) (U := U.calling g mk a) (Vm.Alike.refl U.vm) qK, qD, qN.same rfl, SKs.moved (u := U) (U := U.calling g mk a) (Vm.Alike.refl U.vm) qS⟩, va_recv hK hP (ci := 0) (q0 := k_29) rfl (Wd_ob kg_31 sg_31 (by decide)), fun U hU hW => ⟨rfl, by rw [hU], by rw [hU]; exact hP, va_K.moved hW.alike hK, hD.weaken (fun _ _ _ _ => trivial), hN.warm hW, by rw [hU]; exact ((hSK.kept hS.2.1).narrow hFc).moved hW.alike⟩⟩ rfl rfl hl.1 rfl (lv_room (Nat.le_of_ble_eq_true rfl)) dX9_gatherModules_85 ⟨Nat.le_of_ble_eq_true rfl, Nat.le_of_ble_eq_true rfl⟩) hS (fun q _ h => hFc q h) hFc (fun u t H_32 locs ht hvm hw hB hz1 hk1 hS2 => ?_)
      obtain ⟨hP1, -, hD1⟩ := hB
      rw [ht] at hP1
      replace hD := hD1.weaken (fun _ _ _ h => hFc _ h)
      replace hP := hP1
      replace hS := hS2
      clear hP1 hD1 hS2 hFc hfc hz1 hk1 hvm ht
      refine lv_aload_n hx hb dX9_gatherModules_88 rfl (lv_at hl 3 rfl) ?_
      obtain ⟨k_33, ek_33, hf⟩ := lnk_some hf
      refine va_get (D := (dC, dI)) (ci := 9) (v := .ref (a k_33)) (C := RX9) (T := TX9) (N := 13) hx hb hts iwd_X9_gatherModules_X9 hown hK hP h0 (Wd_ob kg_9 sg_9 (by decide)) rfl 2 (by decide) (hts _ md_X9_gatherModules_3) (fun _ h9 => h9) (fl_q rfl ek_33) dX9_gatherModules_89 ?_
      refine lv_aload_n hx hb dX9_gatherModules_92 rfl (lv_at hl 1 rfl) ?_
      refine va_get (D := (dC, dI)) (ci := 5) (v := .int (z_30.1 k_8 2)) (C := RX5) (T := TX5) (N := 15) hx hb hts iwd_X9_gatherModules_X5 hown hK hP k_8 (Wd_ob kg_17 sg_17 (by decide)) rfl 2 (by decide) (hts _ md_X9_gatherModules_5) (fun _ h9 => h9) (fl_at (t := 0) rfl) dX9_gatherModules_93 ?_
      obtain ⟨g_35, hf⟩ := grd_some hf
      obtain ⟨kg_35, sg_35⟩ := okO_at g_35
      obtain ⟨z_34, _u, hfc, hf⟩ := cal_some hf
      have hFc := de_free hD hS hA
      refine va_callv (va_runV (As := [.int (z_30.1 k_8 2)]) (rest := []) ⟨hx, hb, hml, hown, hts⟩ (de_X0_put l dC dI cy a sh n H_32.size F sk z_30 k_33 (z_30.1 k_8 2) hfc) (cwV 1 hts gX9_gatherModules_X0_put rfl rfl rfl (by decide +kernel) ⟨Nat.le_of_ble_eq_true rfl, Nat.le_of_ble_eq_true rfl⟩) ⟨fun a U g mk q => by obtain ⟨q0, q1, qP, qK, qD, qN, qS⟩ := q; exact ⟨q0, q1, qP, va_K.moved (u := U) (U := U.calling g mk a) (Vm.Alike.refl U.vm) qK, qD, qN.same rfl, SKs.moved (u := U) (U := U.calling g mk a) (Vm.Alike.refl U.vm) qS⟩, va_recv hK hP (ci := 0) (q0 := k_33) rfl (Wd_ob kg_35 sg_35 (by decide)), fun U hU hW => ⟨rfl, by rw [hU], by rw [hU]; exact hP, va_K.moved hW.alike hK, hD.weaken (fun _ _ _ _ => trivial), hN.warm hW, by rw [hU]; exact ((hSK.kept hS.2.1).narrow hFc).moved hW.alike⟩⟩ rfl rfl hl.1 rfl (lv_room (Nat.le_of_ble_eq_true rfl)) dX9_gatherModules_96 ⟨Nat.le_of_ble_eq_true rfl, Nat.le_of_ble_eq_true rfl⟩) hS (fun q _ h => hFc q h) hFc (fun u t H_36 locs ht hvm hw hB hz1 hk1 hS2 => ?_)
      obtain ⟨hP1, -, hD1⟩ := hB
      rw [ht] at hP1
      replace hD := hD1.weaken (fun _ _ _ h => hFc _ h)
      replace hP := hP1
      replace hS := hS2
      clear hP1 hD1 hS2 hFc hfc hz1 hk1 hvm ht
      refine lv_aload_n hx hb dX9_gatherModules_99 rfl (lv_at hl 3 rfl) ?_
      refine lv_iconst (v := 2) hx hb dX9_gatherModules_100 (by decide) ?_
      refine lv_lconst (v := 0) hx hb dX9_gatherModules_101 (by decide) ?_
      refine lv_aload_n hx hb dX9_gatherModules_102 rfl (lv_at hl 1 rfl) ?_
      refine va_get (D := (dC, dI)) (ci := 5) (v := .int (z_34.1 k_8 2)) (C := RX5) (T := TX5) (N := 15) hx hb hts iwd_X9_gatherModules_X5 hown hK hP k_8 (Wd_ob kg_17 sg_17 (by decide)) rfl 2 (by decide) (hts _ md_X9_gatherModules_5) (fun _ h9 => h9) (fl_at (t := 0) rfl) dX9_gatherModules_103 ?_
      refine lv_iconst (v := 0) hx hb dX9_gatherModules_106 (by decide) ?_
      obtain ⟨z_37, _u, hfc, hf⟩ := cal_some hf
      have hFc := de_free hD hS hA
      refine va_callv (va_runV (As := [.int 2, .long 0, .int (z_34.1 k_8 2), .int 0]) (rest := []) ⟨hx, hb, hml, hown, hts⟩ (de_X9_addPlace l dC dI cy a sh n H_36.size F sk z_34 h0 2 0 (z_34.1 k_8 2) 0 hfc) (cwV 4 hts gX9_gatherModules_X9_addPlace rfl rfl rfl (by decide +kernel) ⟨Nat.le_of_ble_eq_true rfl, Nat.le_of_ble_eq_true rfl⟩) ⟨fun a U g mk q => by obtain ⟨q0, q1, qP, qK, qD, qN, qS⟩ := q; exact ⟨q0, q1, qP, va_K.moved (u := U) (U := U.calling g mk a) (Vm.Alike.refl U.vm) qK, qD, qN.same rfl, SKs.moved (u := U) (U := U.calling g mk a) (Vm.Alike.refl U.vm) qS⟩, va_recv hK hP (ci := 9) (q0 := h0) rfl (Wd_ob kg_9 sg_9 (by decide)), fun U hU hW => ⟨rfl, by rw [hU], by rw [hU]; exact hP, va_K.moved hW.alike hK, hD.weaken (fun _ _ _ _ => trivial), hN.warm hW, by rw [hU]; exact ((hSK.kept hS.2.1).narrow hFc).moved hW.alike⟩⟩ rfl rfl hl.1 rfl (lv_room (Nat.le_of_ble_eq_true rfl)) dX9_gatherModules_107 ⟨Nat.le_of_ble_eq_true rfl, Nat.le_of_ble_eq_true rfl⟩) hS (fun q _ h => hFc q h) hFc (fun u t H_38 locs ht hvm hw hB hz1 hk1 hS2 => ?_)
      obtain ⟨hP1, -, hD1⟩ := hB
      rw [ht] at hP1
      replace hD := hD1.weaken (fun _ _ _ h => hFc _ h)
      replace hP := hP1
      replace hS := hS2
      clear hP1 hD1 hS2 hFc hfc hz1 hk1 hvm ht
      refine lv_iinc (v := (p_1 + 1)) (lv' := [(2, .int (p_1 + 1)), (4, .int p_14), (3, .ref (a k_8)), (0, .ref (a h0)), (1, .ref (a x0))]) hx hb dX9_gatherModules_110 hl (k := 2) rfl rfl (by decide) rfl (fun ls hl2 => ?_)
      replace hl := hl2
      clear hl2
      refine lv_goto (tgt := 2) hx hb dX9_gatherModules_113 (by decide) ?_
      exact ih2 (z_37, (p_1 + 1)) ls H_38 locs ⟨lv_sub hl [0, 3, 4] rfl, hP, hD, hS⟩ hf
    · skip
      rw [if_neg c_18] at hf
      refine lv_aload_n hx hb dX9_gatherModules_36 rfl (lv_at hl 3 rfl) ?_
      obtain ⟨k_39, ek_39, hf⟩ := lnk_some hf
      refine va_get (D := (dC, dI)) (ci := 9) (v := .ref (a k_39)) (C := RX9) (T := TX9) (N := 13) hx hb hts iwd_X9_gatherModules_X9 hown hK hP h0 (Wd_ob kg_9 sg_9 (by decide)) rfl 2 (by decide) (hts _ md_X9_gatherModules_3) (fun _ h9 => h9) (fl_q rfl ek_39) dX9_gatherModules_37 ?_
      refine lv_aload_n hx hb dX9_gatherModules_40 rfl (lv_at hl 1 rfl) ?_
      refine lv_iload hx hb dX9_gatherModules_41 (lv_at hl 0 rfl) ?_
      obtain ⟨z_40, r_41, hfc, hf⟩ := cal_some hf
      have hFc := de_free hD hS hA
      refine va_calli (va_runV (As := [.int p_14]) (rest := [.ref (a k_39)]) ⟨hx, hb, hml, hown, hts⟩ (de_X5_at l dC dI cy a sh n H.size F sk z_15 k_8 p_14 hfc) (cwV 1 hts gX9_gatherModules_X5_at rfl rfl rfl (by decide +kernel) ⟨Nat.le_of_ble_eq_true rfl, Nat.le_of_ble_eq_true rfl⟩) ⟨fun a U g mk q => by obtain ⟨q0, q1, qP, qK, qD, qN, qS⟩ := q; exact ⟨q0, q1, qP, va_K.moved (u := U) (U := U.calling g mk a) (Vm.Alike.refl U.vm) qK, qD, qN.same rfl, SKs.moved (u := U) (U := U.calling g mk a) (Vm.Alike.refl U.vm) qS⟩, va_recv hK hP (ci := 5) (q0 := k_8) rfl (Wd_ob kg_17 sg_17 (by decide)), fun U hU hW => ⟨rfl, by rw [hU], by rw [hU]; exact hP, va_K.moved hW.alike hK, hD.weaken (fun _ _ _ _ => trivial), hN.warm hW, by rw [hU]; exact ((hSK.kept hS.2.1).narrow hFc).moved hW.alike⟩⟩ rfl rfl hl.1 rfl (lv_room (Nat.le_of_ble_eq_true rfl)) dX9_gatherModules_43 ⟨Nat.le_of_ble_eq_true rfl, Nat.le_of_ble_eq_true rfl⟩) hS (fun q _ h => hFc q h) hFc (fun rr u t H_42 locs ht hvm hw hB hz1 hk1 hS2 => ?_)
      rw [hw]
      clear hw
      obtain ⟨hP1, -, hD1⟩ := hB
      rw [ht] at hP1
      replace hD := hD1.weaken (fun _ _ _ h => hFc _ h)
      replace hP := hP1
      replace hS := hS2
      clear hP1 hD1 hS2 hFc hfc hz1 hk1 hvm ht
      obtain ⟨g_44, hf⟩ := grd_some hf
      obtain ⟨kg_44, sg_44⟩ := okO_at g_44
      obtain ⟨z_43, _u, hfc, hf⟩ := cal_some hf
      have hFc := de_free hD hS hA
      refine va_callv (va_runV (As := [.int r_41]) (rest := []) ⟨hx, hb, hml, hown, hts⟩ (de_X0_put l dC dI cy a sh n H_42.size F sk z_40 k_39 r_41 hfc) (cwV 1 hts gX9_gatherModules_X0_put rfl rfl rfl (by decide +kernel) ⟨Nat.le_of_ble_eq_true rfl, Nat.le_of_ble_eq_true rfl⟩) ⟨fun a U g mk q => by obtain ⟨q0, q1, qP, qK, qD, qN, qS⟩ := q; exact ⟨q0, q1, qP, va_K.moved (u := U) (U := U.calling g mk a) (Vm.Alike.refl U.vm) qK, qD, qN.same rfl, SKs.moved (u := U) (U := U.calling g mk a) (Vm.Alike.refl U.vm) qS⟩, va_recv hK hP (ci := 0) (q0 := k_39) rfl (Wd_ob kg_44 sg_44 (by decide)), fun U hU hW => ⟨rfl, by rw [hU], by rw [hU]; exact hP, va_K.moved hW.alike hK, hD.weaken (fun _ _ _ _ => trivial), hN.warm hW, by rw [hU]; exact ((hSK.kept hS.2.1).narrow hFc).moved hW.alike⟩⟩ rfl rfl hl.1 rfl (lv_room (Nat.le_of_ble_eq_true rfl)) dX9_gatherModules_46 ⟨Nat.le_of_ble_eq_true rfl, Nat.le_of_ble_eq_true rfl⟩) hS (fun q _ h => hFc q h) hFc (fun u t H_45 locs ht hvm hw hB hz1 hk1 hS2 => ?_)
      obtain ⟨hP1, -, hD1⟩ := hB
      rw [ht] at hP1
      replace hD := hD1.weaken (fun _ _ _ h => hFc _ h)
      replace hP := hP1
      replace hS := hS2
      clear hP1 hD1 hS2 hFc hfc hz1 hk1 hvm ht
      refine lv_iinc (v := (p_14 + 1)) (lv' := [(4, .int (p_14 + 1)), (3, .ref (a k_8)), (2, .int p_1), (0, .ref (a h0)), (1, .ref (a x0))]) hx hb dX9_gatherModules_49 hl (k := 0) rfl rfl (by decide) rfl (fun ls hl2 => ?_)
      replace hl := hl2
      clear hl2
      refine lv_goto (tgt := 27) hx hb dX9_gatherModules_52 (by decide) ?_
      exact ih27 (z_43, (p_14 + 1)) ls H_45 locs ⟨lv_sub hl [0, 1, 2, 3, 4] rfl, hP, hD, hS⟩ hf

theorem md_X3_look_1 : (.fieldLink RX3 44 "ResourceLedger$Looker" "p" "LResourceLedger$Program;" : Cond) ∈ wsX3_look := List.mem_of_getElem? (i := 1) rfl
theorem iwd_X3_look_X3 : ∀ w ∈ wsX30, w ∈ wsX3_look := fun _ h => List.mem_cons_of_mem _ (List.mem_append_left _ (List.mem_append_right _ h))
theorem md_X3_look_2 : (.fieldLink RX3 48 "ResourceLedger$Looker" "fault" "I" : Cond) ∈ wsX3_look := List.mem_of_getElem? (i := 2) rfl
theorem md_X3_look_3 : (.fieldLink RX3 52 "ResourceLedger$Looker" "place" "I" : Cond) ∈ wsX3_look := List.mem_of_getElem? (i := 3) rfl
theorem md_X3_look_4 : (.fieldLink RX3 55 "ResourceLedger$Program" "ownFunctions" "I" : Cond) ∈ wsX3_look := List.mem_of_getElem? (i := 4) rfl
theorem iwd_X3_look_X5 : ∀ w ∈ wsX50, w ∈ wsX3_look := fun _ h => List.mem_cons_of_mem _ (List.mem_append_right _ h)
theorem md_X3_look_5 : (.fieldLink RX3 64 "ResourceLedger$Looker" "at" "I" : Cond) ∈ wsX3_look := List.mem_of_getElem? (i := 5) rfl
set_option maxHeartbeats 4000000 in
set_option maxRecDepth 100000 in
theorem de_X3_look (l : Launch) (dC : Nat → ClassId) (dI : Nat → Nat → Nat) (cy : Nat → ClassId) (a : Nat → Nat) (sh : Nat → Nat × Nat) (n sz : Nat) (F : Nat) (sk : Nat → Nat) (z : St) (h0 : Nat) (x0 : Nat) {z8 : St} {r8 : Int32} (hf : fn_X3_look F sh n z h0 x0 = some (z8, r8)) : Met l yX3_look wsX3_look ({ frames := 5, cells := 0, slots := 0, locals := 131 }) (va_Pc [.ref (a h0), .ref (a x0)] (fun U => U.heap.size = sz ∧ va_P (dC, dI) vwCl (Wd cy a sh n z) U.heap ∧ va_K (dC, dI) vwCl (TYS cy) U ∧ va_D (fun _ => True) (Wd cy a sh n z) ∧ NK U ∧ SKs sk (a CBK) (va_A (Wd cy a sh n z) sz) U U.heap)) (va_Qi (fun (r9 : Int32) (u : Unit) => r9 = r8) (fun u t => va_P (dC, dI) vwCl (Wd cy a sh n z8) t.heap ∧ va_K (dC, dI) vwCl (TYS cy) t ∧ va_D (va_A (Wd cy a sh n z) sz) (Wd cy a sh n z8)) (va_A (Wd cy a sh n z) sz)) 0 0 (va_A (Wd cy a sh n z) sz) := by
  refine Met.ofW (cc := cX3_look) (maxL := 3) (ret := (some .int)) (by decide) rfl ?_
  intro p e s m args below meth c s₁ B hml hv
  obtain ⟨rfl, hsz, hP, hK, hD0, hN, hSK⟩ := hv
  have hx := B.exec
  have hb := B.bytes
  have hr := B.returns
  have hts := atoms_spec (ws := wsX3_look) B.pre
  have hown : s.vm.findClass RX3 = some m.cls := findClass_of_methodNamed B.named
  have hlocks := B.notSynchronized
  subst hsz
  have hD := hD0.self (sz := s.heap.size)
  clear hD0
  generalize hAe : va_A (Wd cy a sh n z) s.heap.size = A at hD hSK ⊢
  have hA : ∀ q : Nat, s.heap.size ≤ q → A q := fun q h => by rw [← hAe]; exact Or.inr h
  clear hAe
  have hS : va_S A s.heap s.heap [] := va_S.rf
  have hl := lv_entry ([.ref (a h0), .ref (a x0)]) (n := 3) (Nat.le_of_ble_eq_true rfl)
  rw [lg_entry_eq]
  generalize (lg_sl ([.ref (a h0), .ref (a x0)]) ++ List.replicate (3 - (lg_sl ([.ref (a h0), .ref (a x0)])).length) Slot.unset).toArray = ls at hl ⊢
  replace hl : lv_has ls 3 [(0, .ref (a h0)), (1, .ref (a x0))] := hl
  unfold fn_X3_look at hf
  refine de_start hS hP (fun H locs hS hP => ?_)
  refine lv_aload_n hx hb dX3_look_0 rfl (lv_at hl 0 rfl) ?_
  refine lv_aload_n hx hb dX3_look_1 rfl (lv_at hl 1 rfl) ?_
  obtain ⟨g_1, hf⟩ := grd_some hf
  obtain ⟨kg_1, sg_1⟩ := okO_at g_1
  refine va_put (D := (dC, dI)) (ci := 3) (v := .ref (a x0)) (ty := .object "ResourceLedger$Program") (C := RX3) (T := TX3) (N := 22) hx hb hts iwd_X3_look_X3 tyX3 tyX3_ok nmX3 hown hK hP hD hS h0 (Wd_ob kg_1 sg_1 (by decide)) rfl 2 (by decide) (hts _ md_X3_look_1) (fun _ h9 => h9) rfl (by decide +kernel) rfl rfl (by rw [fl_len]; decide) dX3_look_2 (fun H_2 locs hP2 hD2 hS2 => ?_)
  rw [Wd_sq1 sg_1 (by decide) rfl] at hP2 hD2
  obtain ⟨z_3, ez_3⟩ : ∃ w, w = sq z h0 2 (some x0) := ⟨_, rfl⟩
  rw [← ez_3] at hP2 hD2
  replace hf := lt_at ez_3 hf
  clear ez_3
  replace hP := hP2
  replace hD := hD2
  replace hS := hS2
  clear hP2 hD2 hS2
  refine lv_aload_n hx hb dX3_look_5 rfl (lv_at hl 0 rfl) ?_
  refine lv_iconst (v := 0) hx hb dX3_look_6 (by decide) ?_
  refine va_put (D := (dC, dI)) (ci := 3) (v := .int 0) (ty := .int) (C := RX3) (T := TX3) (N := 22) hx hb hts iwd_X3_look_X3 tyX3 tyX3_ok nmX3 hown hK hP hD hS h0 (Wd_ob kg_1 sg_1 (by decide)) rfl 1 (by decide) (hts _ md_X3_look_2) (fun _ h9 => h9) rfl (by decide +kernel) rfl rfl (by rw [fl_len]; decide) dX3_look_7 (fun H_4 locs hP2 hD2 hS2 => ?_)
  rw [Wd_si sg_1 (by decide) rfl] at hP2 hD2
  obtain ⟨z_5, ez_5⟩ : ∃ w, w = si z_3 h0 1 0 := ⟨_, rfl⟩
  rw [← ez_5] at hP2 hD2
  replace hf := lt_at ez_5 hf
  clear ez_5
  replace hP := hP2
  replace hD := hD2
  replace hS := hS2
  clear hP2 hD2 hS2
  refine lv_aload_n hx hb dX3_look_10 rfl (lv_at hl 0 rfl) ?_
  refine lv_iconst (v := 0) hx hb dX3_look_11 (by decide) ?_
  refine va_put (D := (dC, dI)) (ci := 3) (v := .int 0) (ty := .int) (C := RX3) (T := TX3) (N := 22) hx hb hts iwd_X3_look_X3 tyX3 tyX3_ok nmX3 hown hK hP hD hS h0 (Wd_ob kg_1 sg_1 (by decide)) rfl 0 (by decide) (hts _ md_X3_look_3) (fun _ h9 => h9) rfl (by decide +kernel) rfl rfl (by rw [fl_len]; decide) dX3_look_12 (fun H_6 locs hP2 hD2 hS2 => ?_)
  rw [Wd_si sg_1 (by decide) rfl] at hP2 hD2
  obtain ⟨z_7, ez_7⟩ : ∃ w, w = si z_5 h0 0 0 := ⟨_, rfl⟩
  rw [← ez_7] at hP2 hD2
  replace hf := lt_at ez_7 hf
  clear ez_7
  replace hP := hP2
  replace hD := hD2
  replace hS := hS2
  clear hP2 hD2 hS2
  refine lv_iconst (v := 0) hx hb dX3_look_15 (by decide) ?_
  refine lv_istore_n (lv' := [(2, .int 0), (0, .ref (a h0)), (1, .ref (a x0))]) hx hb dX3_look_16 rfl hl (by decide) rfl (fun ls hl2 => ?_)
  replace hl := hl2
  clear hl2
  have hl0 : lv_has ls 3 [(2, .int 0), (0, .ref (a h0))] := lv_sub hl [0, 1] rfl
  refine de_loop (h := 17) (fun (x : St × Int32) ls H locs => lv_has ls 3 [(2, .int x.2), (0, .ref (a h0))] ∧ va_P (dC, dI) vwCl (Wd cy a sh n x.1) H ∧ va_D A (Wd cy a sh n x.1) ∧ va_S A s.heap H locs) (fun f x => fn_X3_look_L17 F sh n h0 f x.1 x.2) (z8, r8) ?_ (fun _ => rfl) F (z_7, 0) ls H_6 locs ⟨hl0, hP, hD, hS⟩ hf
  intro f_10 x ls H locs ih17 hI hf
  obtain ⟨z_9, p_8⟩ := x
  obtain ⟨hl2, hP2, hD2, hS2⟩ := hI
  replace hl : lv_has ls 3 [(2, .int p_8), (0, .ref (a h0))] := hl2
  replace hP := hP2
  replace hD := hD2
  replace hS := hS2
  clear hl2 hP2 hD2 hS2 hl0
  replace hf := fn_X3_look_L17_s hf
  refine lv_iload_n hx hb dX3_look_17 rfl (lv_at hl 0 rfl) ?_
  refine lv_aload_n hx hb dX3_look_18 rfl (lv_at hl 1 rfl) ?_
  obtain ⟨k_11, ek_11, hf⟩ := lnk_some hf
  refine va_get (D := (dC, dI)) (ci := 3) (v := .ref (a k_11)) (C := RX3) (T := TX3) (N := 22) hx hb hts iwd_X3_look_X3 hown hK hP h0 (Wd_ob kg_1 sg_1 (by decide)) rfl 2 (by decide) (hts _ md_X3_look_1) (fun _ h9 => h9) (fl_q rfl ek_11) dX3_look_19 ?_
  obtain ⟨g_12, hf⟩ := grd_some hf
  obtain ⟨kg_12, sg_12⟩ := okO_at g_12
  refine va_get (D := (dC, dI)) (ci := 5) (v := .int (z_9.1 k_11 11)) (C := RX5) (T := TX5) (N := 15) hx hb hts iwd_X3_look_X5 hown hK hP k_11 (Wd_ob kg_12 sg_12 (by decide)) rfl 11 (by decide) (hts _ md_X3_look_4) (fun _ h9 => h9) (fl_at (t := 0) rfl) dX3_look_22 ?_
  refine lv_icmp_ge (tgt := 116) hx hb dX3_look_25 (by decide) (fun c_13 => ?_) (fun c_13 => ?_)
  · skip
    rw [if_pos c_13] at hf
    refine lv_iconst (v := 0) hx hb dX3_look_116 (by decide) ?_
    obtain ⟨h8, h9⟩ := ret_some hf
    rw [h8, h9]
    exact W.iret (v := 0) hx hb hr (fun t ht hW => ⟨⟨0, (), rfl, rfl, by rw [ht]; exact hP, va_K.moved hW.alike hK, hD⟩, hS.F ht⟩) hS.2.2 dX3_look_117
  · skip
    rw [if_neg c_13] at hf
    refine lv_aload_n hx hb dX3_look_28 rfl (lv_at hl 1 rfl) ?_
    refine lv_iload_n hx hb dX3_look_29 rfl (lv_at hl 0 rfl) ?_
    obtain ⟨z_14, _u, hfc, hf⟩ := cal_some hf
    have hFc := de_free hD hS hA
    refine va_callv (va_runV (As := [.int p_8]) (rest := []) ⟨hx, hb, hml, hown, hts⟩ (de_X3_prepare l dC dI cy a sh n H.size F sk z_9 h0 p_8 hfc) (cwV 1 hts gX3_look_X3_prepare rfl rfl rfl (by decide +kernel) ⟨Nat.le_of_ble_eq_true rfl, Nat.le_of_ble_eq_true rfl⟩) ⟨fun a U g mk q => by obtain ⟨q0, q1, qP, qK, qD, qN, qS⟩ := q; exact ⟨q0, q1, qP, va_K.moved (u := U) (U := U.calling g mk a) (Vm.Alike.refl U.vm) qK, qD, qN.same rfl, SKs.moved (u := U) (U := U.calling g mk a) (Vm.Alike.refl U.vm) qS⟩, va_recv hK hP (ci := 3) (q0 := h0) rfl (Wd_ob kg_1 sg_1 (by decide)), fun U hU hW => ⟨rfl, by rw [hU], by rw [hU]; exact hP, va_K.moved hW.alike hK, hD.weaken (fun _ _ _ _ => trivial), hN.warm hW, by rw [hU]; exact ((hSK.kept hS.2.1).narrow hFc).moved hW.alike⟩⟩ rfl rfl hl.1 rfl (lv_room (Nat.le_of_ble_eq_true rfl)) dX3_look_30 ⟨Nat.le_of_ble_eq_true rfl, Nat.le_of_ble_eq_true rfl⟩) hS (fun q _ h => hFc q h) hFc (fun u t H_15 locs ht hvm hw hB hz1 hk1 hS2 => ?_)
    obtain ⟨hP1, -, hD1⟩ := hB
    rw [ht] at hP1
    replace hD := hD1.weaken (fun _ _ _ h => hFc _ h)
    replace hP := hP1
    replace hS := hS2
    clear hP1 hD1 hS2 hFc hfc hz1 hk1 hvm ht
    refine lv_aload_n hx hb dX3_look_33 rfl (lv_at hl 1 rfl) ?_
    refine lv_iconst (v := 0) hx hb dX3_look_34 (by decide) ?_
    refine va_put (D := (dC, dI)) (ci := 3) (v := .int 0) (ty := .int) (C := RX3) (T := TX3) (N := 22) hx hb hts iwd_X3_look_X3 tyX3 tyX3_ok nmX3 hown hK hP hD hS h0 (Wd_ob kg_1 sg_1 (by decide)) rfl 4 (by decide) (hts _ md_X3_look_5) (fun _ h9 => h9) rfl (by decide +kernel) rfl rfl (by rw [fl_len]; decide) dX3_look_35 (fun H_16 locs hP2 hD2 hS2 => ?_)
    rw [Wd_si sg_1 (by decide) rfl] at hP2 hD2
    obtain ⟨z_17, ez_17⟩ : ∃ w, w = si z_14 h0 4 0 := ⟨_, rfl⟩
    rw [← ez_17] at hP2 hD2
    replace hf := lt_at ez_17 hf
    clear ez_17
    replace hP := hP2
    replace hD := hD2
    replace hS := hS2
    clear hP2 hD2 hS2
    have hl0 : lv_has ls 3 [(2, .int p_8), (0, .ref (a h0))] := lv_sub hl [0, 1] rfl
    refine de_loop (h := 38) (fun (x : St) ls H locs => lv_has ls 3 [(2, .int p_8), (0, .ref (a h0))] ∧ va_P (dC, dI) vwCl (Wd cy a sh n x) H ∧ va_D A (Wd cy a sh n x) ∧ va_S A s.heap H locs) (fun f x => fn_X3_look_L38 F sh n h0 p_8 (fun z9 q2 => fn_X3_look_L17 F sh n h0 f_10 z9 q2) f x) (z8, r8) ?_ (fun _ => rfl) F (z_17) ls H_16 locs ⟨hl0, hP, hD, hS⟩ hf
    intro f_19 x ls H locs ih38 hI hf
    obtain ⟨z_18, ez⟩ : ∃ w, w = x := ⟨_, rfl⟩
    subst ez
    obtain ⟨hl2, hP2, hD2, hS2⟩ := hI
    replace hl : lv_has ls 3 [(2, .int p_8), (0, .ref (a h0))] := hl2
    replace hP := hP2
    replace hD := hD2
    replace hS := hS2
    clear hl2 hP2 hD2 hS2 hl0
    replace hf := fn_X3_look_L38_s hf
    refine lv_aload_n hx hb dX3_look_38 rfl (lv_at hl 1 rfl) ?_
    refine va_get (D := (dC, dI)) (ci := 3) (v := .int (z_18.1 h0 4)) (C := RX3) (T := TX3) (N := 22) hx hb hts iwd_X3_look_X3 hown hK hP h0 (Wd_ob kg_1 sg_1 (by decide)) rfl 4 (by decide) (hts _ md_X3_look_5) (fun _ h9 => h9) (fl_at (t := 0) rfl) dX3_look_39 ?_
    refine lv_aload_n hx hb dX3_look_42 rfl (lv_at hl 1 rfl) ?_
    obtain ⟨k_20, ek_20, hf⟩ := lnk_some hf
    refine va_get (D := (dC, dI)) (ci := 3) (v := .ref (a k_20)) (C := RX3) (T := TX3) (N := 22) hx hb hts iwd_X3_look_X3 hown hK hP h0 (Wd_ob kg_1 sg_1 (by decide)) rfl 2 (by decide) (hts _ md_X3_look_1) (fun _ h9 => h9) (fl_q rfl ek_20) dX3_look_43 ?_
    refine lv_iload_n hx hb dX3_look_46 rfl (lv_at hl 0 rfl) ?_
    obtain ⟨g_23, hf⟩ := grd_some hf
    obtain ⟨kg_23, sg_23⟩ := okO_at g_23
    obtain ⟨z_21, r_22, hfc, hf⟩ := cal_some hf
    have hFc := de_free hD hS hA
    refine va_calli (va_runV (As := [.int p_8]) (rest := [.int (z_18.1 h0 4)]) ⟨hx, hb, hml, hown, hts⟩ (de_X5_instructions l dC dI cy a sh n H.size F z_18 k_20 p_8 hfc) (cwV 1 hts gX3_look_X5_instructions rfl rfl rfl (by decide +kernel) ⟨Nat.le_of_ble_eq_true rfl, Nat.le_of_ble_eq_true rfl⟩) ⟨fun a U g mk q => by obtain ⟨q0, q1, qP, qK, qD, qN⟩ := q; exact ⟨q0, q1, qP, va_K.moved (u := U) (U := U.calling g mk a) (Vm.Alike.refl U.vm) qK, qD, qN.same rfl⟩, va_recv hK hP (ci := 5) (q0 := k_20) rfl (Wd_ob kg_23 sg_23 (by decide)), fun U hU hW => ⟨rfl, by rw [hU], by rw [hU]; exact hP, va_K.moved hW.alike hK, hD.weaken (fun _ _ _ _ => trivial), hN.warm hW⟩⟩ rfl rfl hl.1 rfl (lv_room (Nat.le_of_ble_eq_true rfl)) dX3_look_47 ⟨Nat.le_of_ble_eq_true rfl, Nat.le_of_ble_eq_true rfl⟩) hS (fun q _ h => hFc q h) hFc (fun rr u t H_24 locs ht hvm hw hB hz1 hk1 hS2 => ?_)
    rw [hw]
    clear hw
    obtain ⟨hP1, -, hD1⟩ := hB
    rw [ht] at hP1
    replace hD := hD1.weaken (fun _ _ _ h => hFc _ h)
    replace hP := hP1
    replace hS := hS2
    clear hP1 hD1 hS2 hFc hfc hz1 hk1 hvm ht
    refine lv_icmp_ge (tgt := 110) hx hb dX3_look_50 (by decide) (fun c_25 => ?_) (fun c_25 => ?_)
    · skip
      rw [if_pos c_25] at hf
      refine lv_iinc (v := (p_8 + 1)) (lv' := [(2, .int (p_8 + 1)), (0, .ref (a h0))]) hx hb dX3_look_110 hl (k := 0) rfl rfl (by decide) rfl (fun ls hl2 => ?_)
      replace hl := hl2
      clear hl2
      refine lv_goto (tgt := 17) hx hb dX3_look_113 (by decide) ?_
      exact ih17 (z_21, (p_8 + 1)) ls H_24 locs ⟨lv_sub hl [0, 1] rfl, hP, hD, hS⟩ hf
    · skip
      rw [if_neg c_25] at hf
      refine lv_aload_n hx hb dX3_look_53 rfl (lv_at hl 1 rfl) ?_
      obtain ⟨z_26, _u, hfc, hf⟩ := cal_some hf
      have hFc := de_free hD hS hA
      refine va_callv (va_runV (As := []) (rest := []) ⟨hx, hb, hml, hown, hts⟩ (de_X3_arrive l dC dI cy a sh n H_24.size F z_21 h0 hfc) (cwV 0 hts gX3_look_X3_arrive rfl rfl rfl (by decide +kernel) ⟨Nat.le_of_ble_eq_true rfl, Nat.le_of_ble_eq_true rfl⟩) ⟨fun a U g mk q => by obtain ⟨q0, q1, qP, qK, qD, qN⟩ := q; exact ⟨q0, q1, qP, va_K.moved (u := U) (U := U.calling g mk a) (Vm.Alike.refl U.vm) qK, qD, qN.same rfl⟩, va_recv hK hP (ci := 3) (q0 := h0) rfl (Wd_ob kg_1 sg_1 (by decide)), fun U hU hW => ⟨rfl, by rw [hU], by rw [hU]; exact hP, va_K.moved hW.alike hK, hD.weaken (fun _ _ _ _ => trivial), hN.warm hW⟩⟩ rfl rfl hl.1 rfl (lv_room (Nat.le_of_ble_eq_true rfl)) dX3_look_54 ⟨Nat.le_of_ble_eq_true rfl, Nat.le_of_ble_eq_true rfl⟩) hS (fun q _ h => hFc q h) hFc (fun u t H_27 locs ht hvm hw hB hz1 hk1 hS2 => ?_)
      obtain ⟨hP1, -, hD1⟩ := hB
      rw [ht] at hP1
      replace hD := hD1.weaken (fun _ _ _ h => hFc _ h)
      replace hP := hP1
      replace hS := hS2
      clear hP1 hD1 hS2 hFc hfc hz1 hk1 hvm ht
      refine lv_aload_n hx hb dX3_look_57 rfl (lv_at hl 1 rfl) ?_
      refine va_get (D := (dC, dI)) (ci := 3) (v := .int (z_26.1 h0 1)) (C := RX3) (T := TX3) (N := 22) hx hb hts iwd_X3_look_X3 hown hK hP h0 (Wd_ob kg_1 sg_1 (by decide)) rfl 1 (by decide) (hts _ md_X3_look_2) (fun _ h9 => h9) (fl_at (t := 0) rfl) dX3_look_58 ?_
      refine de_cut (h := 68) (fun (x : St) => []) (fun x ls H locs => lv_has ls 3 [(2, .int p_8), (0, .ref (a h0))] ∧ va_P (dC, dI) vwCl (Wd cy a sh n x) H ∧ va_D A (Wd cy a sh n x) ∧ va_S A s.heap H locs) (fun x => fn_X3_look_B68 F sh n h0 p_8 (fun z9 => fn_X3_look_L38 F sh n h0 p_8 (fun z9 q2 => fn_X3_look_L17 F sh n h0 f_10 z9 q2) f_19 z9 ) x) (z8, r8) ?_ (fun B68 => ?_)
      · intro x ls H locs hI hf
        obtain ⟨z_28, ez⟩ : ∃ w, w = x := ⟨_, rfl⟩
        subst ez
        obtain ⟨hl2, hP2, hD2, hS2⟩ := hI
        replace hl : lv_has ls 3 [(2, .int p_8), (0, .ref (a h0))] := hl2
        replace hP := hP2
        replace hD := hD2
        replace hS := hS2
        clear hl2 hP2 hD2 hS2
        replace hf := fn_X3_look_B68_s hf
        refine W.eq (g2 := F0 m 68 ls []) rfl ?_
        refine lv_aload_n hx hb dX3_look_68 rfl (lv_at hl 1 rfl) ?_
        refine va_get (D := (dC, dI)) (ci := 3) (v := .int (z_28.1 h0 1)) (C := RX3) (T := TX3) (N := 22) hx hb hts iwd_X3_look_X3 hown hK hP h0 (Wd_ob kg_1 sg_1 (by decide)) rfl 1 (by decide) (hts _ md_X3_look_2) (fun _ h9 => h9) (fl_at (t := 0) rfl) dX3_look_69 ?_
        refine lv_if_eq (tgt := 97) hx hb dX3_look_72 (by decide) (fun c_29 => ?_) (fun c_29 => ?_)
        · skip
          rw [if_pos c_29] at hf
          refine lv_aload_n hx hb dX3_look_97 rfl (lv_at hl 1 rfl) ?_
          refine lv_dup hx hb dX3_look_98 rfl ?_
          refine va_get (D := (dC, dI)) (ci := 3) (v := .int (z_28.1 h0 4)) (C := RX3) (T := TX3) (N := 22) hx hb hts iwd_X3_look_X3 hown hK hP h0 (Wd_ob kg_1 sg_1 (by decide)) rfl 4 (by decide) (hts _ md_X3_look_5) (fun _ h9 => h9) (fl_at (t := 0) rfl) dX3_look_99 ?_
          refine lv_iconst (v := 1) hx hb dX3_look_102 (by decide) ?_
          refine lv_iadd hx hb dX3_look_103 ?_
          refine va_put (D := (dC, dI)) (ci := 3) (v := .int ((z_28.1 h0 4) + 1)) (ty := .int) (C := RX3) (T := TX3) (N := 22) hx hb hts iwd_X3_look_X3 tyX3 tyX3_ok nmX3 hown hK hP hD hS h0 (Wd_ob kg_1 sg_1 (by decide)) rfl 4 (by decide) (hts _ md_X3_look_5) (fun _ h9 => h9) rfl (by decide +kernel) rfl rfl (by rw [fl_len]; decide) dX3_look_104 (fun H_30 locs hP2 hD2 hS2 => ?_)
          rw [Wd_si sg_1 (by decide) rfl] at hP2 hD2
          obtain ⟨z_31, ez_31⟩ : ∃ w, w = si z_28 h0 4 ((z_28.1 h0 4) + 1) := ⟨_, rfl⟩
          rw [← ez_31] at hP2 hD2
          replace hf := lt_at ez_31 hf
          clear ez_31
          replace hP := hP2
          replace hD := hD2
          replace hS := hS2
          clear hP2 hD2 hS2
          refine lv_goto (tgt := 38) hx hb dX3_look_107 (by decide) ?_
          exact ih38 (z_31) ls H_30 locs ⟨lv_sub hl [0, 1] rfl, hP, hD, hS⟩ hf
        · skip
          rw [if_neg c_29] at hf
          refine lv_aload_n hx hb dX3_look_75 rfl (lv_at hl 1 rfl) ?_
          refine lv_sipush (v := 1024) hx hb dX3_look_76 (by decide) ?_
          refine lv_iload_n hx hb dX3_look_79 rfl (lv_at hl 0 rfl) ?_
          refine lv_imul hx hb dX3_look_80 ?_
          refine lv_aload_n hx hb dX3_look_81 rfl (lv_at hl 1 rfl) ?_
          refine va_get (D := (dC, dI)) (ci := 3) (v := .int (z_28.1 h0 4)) (C := RX3) (T := TX3) (N := 22) hx hb hts iwd_X3_look_X3 hown hK hP h0 (Wd_ob kg_1 sg_1 (by decide)) rfl 4 (by decide) (hts _ md_X3_look_5) (fun _ h9 => h9) (fl_at (t := 0) rfl) dX3_look_82 ?_
          refine lv_iadd hx hb dX3_look_85 ?_
          refine va_put (D := (dC, dI)) (ci := 3) (v := .int ((1024 * p_8) + (z_28.1 h0 4))) (ty := .int) (C := RX3) (T := TX3) (N := 22) hx hb hts iwd_X3_look_X3 tyX3 tyX3_ok nmX3 hown hK hP hD hS h0 (Wd_ob kg_1 sg_1 (by decide)) rfl 0 (by decide) (hts _ md_X3_look_3) (fun _ h9 => h9) rfl (by decide +kernel) rfl rfl (by rw [fl_len]; decide) dX3_look_86 (fun H_32 locs hP2 hD2 hS2 => ?_)
          rw [Wd_si sg_1 (by decide) rfl] at hP2 hD2
          obtain ⟨z_33, ez_33⟩ : ∃ w, w = si z_28 h0 0 ((1024 * p_8) + (z_28.1 h0 4)) := ⟨_, rfl⟩
          rw [← ez_33] at hP2 hD2
          replace hf := lt_at ez_33 hf
          clear ez_33
          replace hP := hP2
          replace hD := hD2
          replace hS := hS2
          clear hP2 hD2 hS2
          refine lv_bipush (v := 30) hx hb dX3_look_89 (by decide) ?_
          refine lv_aload_n hx hb dX3_look_91 rfl (lv_at hl 1 rfl) ?_
          refine va_get (D := (dC, dI)) (ci := 3) (v := .int (z_33.1 h0 1)) (C := RX3) (T := TX3) (N := 22) hx hb hts iwd_X3_look_X3 hown hK hP h0 (Wd_ob kg_1 sg_1 (by decide)) rfl 1 (by decide) (hts _ md_X3_look_2) (fun _ h9 => h9) (fl_at (t := 0) rfl) dX3_look_92 ?_
          refine lv_iadd hx hb dX3_look_95 ?_
          obtain ⟨h8, h9⟩ := ret_some hf
          rw [h8, h9]
          exact W.iret (v := (30 + (z_33.1 h0 1))) hx hb hr (fun t ht hW => ⟨⟨(30 + (z_33.1 h0 1)), (), rfl, rfl, by rw [ht]; exact hP, va_K.moved hW.alike hK, hD⟩, hS.F ht⟩) hS.2.2 dX3_look_96
      refine lv_if_ne (tgt := 68) hx hb dX3_look_61 (by decide) (fun c_34 => ?_) (fun c_34 => ?_)
      · skip
        rw [if_neg c_34] at hf
        exact B68 (z_26) ls H_27 locs ⟨lv_sub hl [0, 1] rfl, hP, hD, hS⟩ hf
      · skip
        rw [if_pos c_34] at hf
        refine lv_aload_n hx hb dX3_look_64 rfl (lv_at hl 1 rfl) ?_
        obtain ⟨z_35, _u, hfc, hf⟩ := cal_some hf
        have hFc := de_free hD hS hA
        refine va_callv (va_runV (As := []) (rest := []) ⟨hx, hb, hml, hown, hts⟩ (de_X3_operate l dC dI cy a sh n H_27.size F sk z_26 h0 hfc) (cwV 0 hts gX3_look_X3_operate rfl rfl rfl (by decide +kernel) ⟨Nat.le_of_ble_eq_true rfl, Nat.le_of_ble_eq_true rfl⟩) ⟨fun a U g mk q => by obtain ⟨q0, q1, qP, qK, qD, qN, qS⟩ := q; exact ⟨q0, q1, qP, va_K.moved (u := U) (U := U.calling g mk a) (Vm.Alike.refl U.vm) qK, qD, qN.same rfl, SKs.moved (u := U) (U := U.calling g mk a) (Vm.Alike.refl U.vm) qS⟩, va_recv hK hP (ci := 3) (q0 := h0) rfl (Wd_ob kg_1 sg_1 (by decide)), fun U hU hW => ⟨rfl, by rw [hU], by rw [hU]; exact hP, va_K.moved hW.alike hK, hD.weaken (fun _ _ _ _ => trivial), hN.warm hW, by rw [hU]; exact ((hSK.kept hS.2.1).narrow hFc).moved hW.alike⟩⟩ rfl rfl hl.1 rfl (lv_room (Nat.le_of_ble_eq_true rfl)) dX3_look_65 ⟨Nat.le_of_ble_eq_true rfl, Nat.le_of_ble_eq_true rfl⟩) hS (fun q _ h => hFc q h) hFc (fun u t H_36 locs ht hvm hw hB hz1 hk1 hS2 => ?_)
        obtain ⟨hP1, -, hD1⟩ := hB
        rw [ht] at hP1
        replace hD := hD1.weaken (fun _ _ _ h => hFc _ h)
        replace hP := hP1
        replace hS := hS2
        clear hP1 hD1 hS2 hFc hfc hz1 hk1 hvm ht
        exact B68 (z_35) ls H_36 locs ⟨lv_sub hl [0, 1] rfl, hP, hD, hS⟩ hf

theorem md_X16_overFunction_1 : (.fieldLink RX16 23 "ResourceLedgerModel$Unit" "functionAt" "[I" : Cond) ∈ wsX16_overFunction := List.mem_of_getElem? (i := 1) rfl
theorem iwd_X16_overFunction_X16 : ∀ w ∈ wsX160, w ∈ wsX16_overFunction := fun _ h => List.mem_cons_of_mem _ (List.mem_append_right _ h)
theorem md_X16_overFunction_2 : (.fieldLink RX16 50 "ResourceLedgerModel$Unit" "at" "I" : Cond) ∈ wsX16_overFunction := List.mem_of_getElem? (i := 2) rfl
theorem md_X16_overFunction_3 : (.fieldLink RX16 26 "ResourceLedgerModel$Unit" "firsts" "[I" : Cond) ∈ wsX16_overFunction := List.mem_of_getElem? (i := 3) rfl
theorem md_X16_overFunction_4 : (.fieldLink RX16 72 "ResourceLedgerModel$Unit" "all" "I" : Cond) ∈ wsX16_overFunction := List.mem_of_getElem? (i := 4) rfl
set_option maxHeartbeats 4000000 in
set_option maxRecDepth 100000 in
theorem de_X16_overFunction (l : Launch) (dC : Nat → ClassId) (dI : Nat → Nat → Nat) (cy : Nat → ClassId) (a : Nat → Nat) (sh : Nat → Nat × Nat) (n sz : Nat) (F : Nat) (z : St) (h0 : Nat) (x0 : Int32) {z8 : St} {r8 : Unit} (hf : fn_X16_overFunction F sh n z h0 x0 = some (z8, r8)) : Met l yX16_overFunction wsX16_overFunction ({ frames := 5, cells := 0, slots := 0, locals := 113 }) (va_Pc [.ref (a h0), .int x0] (fun U => U.heap.size = sz ∧ va_P (dC, dI) vwCl (Wd cy a sh n z) U.heap ∧ va_K (dC, dI) vwCl (TYS cy) U ∧ va_D (fun _ => True) (Wd cy a sh n z) ∧ NK U)) (va_Qv (fun u : Unit => True) (fun u t => va_P (dC, dI) vwCl (Wd cy a sh n z8) t.heap ∧ va_K (dC, dI) vwCl (TYS cy) t ∧ va_D (va_A (Wd cy a sh n z) sz) (Wd cy a sh n z8)) (va_A (Wd cy a sh n z) sz)) 0 0 (va_A (Wd cy a sh n z) sz) := by
  refine Met.ofW (cc := cX16_overFunction) (maxL := 5) (ret := none) (by decide) rfl ?_
  intro p e s m args below meth c s₁ B hml hv
  obtain ⟨rfl, hsz, hP, hK, hD0, hN⟩ := hv
  have hx := B.exec
  have hb := B.bytes
  have hr := B.returns
  have hts := atoms_spec (ws := wsX16_overFunction) B.pre
  have hown : s.vm.findClass RX16 = some m.cls := findClass_of_methodNamed B.named
  have hlocks := B.notSynchronized
  subst hsz
  have hD := hD0.self (sz := s.heap.size)
  clear hD0
  generalize hAe : va_A (Wd cy a sh n z) s.heap.size = A at hD ⊢
  have hA : ∀ q : Nat, s.heap.size ≤ q → A q := fun q h => by rw [← hAe]; exact Or.inr h
  clear hAe
  have hS : va_S A s.heap s.heap [] := va_S.rf
  have hl := lv_entry ([.ref (a h0), .int x0]) (n := 5) (Nat.le_of_ble_eq_true rfl)
  rw [lg_entry_eq]
  generalize (lg_sl ([.ref (a h0), .int x0]) ++ List.replicate (5 - (lg_sl ([.ref (a h0), .int x0])).length) Slot.unset).toArray = ls at hl ⊢
  replace hl : lv_has ls 5 [(0, .ref (a h0)), (1, .int x0)] := hl
  unfold fn_X16_overFunction at hf
  refine de_start hS hP (fun H locs hS hP => ?_)
  refine lv_aload_n hx hb dX16_overFunction_0 rfl (lv_at hl 0 rfl) ?_
  obtain ⟨g_1, hf⟩ := grd_some hf
  obtain ⟨kg_1, sg_1⟩ := okO_at g_1
  obtain ⟨k_2, ek_2, hf⟩ := lnk_some hf
  refine va_get (D := (dC, dI)) (ci := 16) (v := .ref (a k_2)) (C := RX16) (T := TX16) (N := 18) hx hb hts iwd_X16_overFunction_X16 hown hK hP h0 (Wd_ob kg_1 sg_1 (by decide)) rfl 14 (by decide) (hts _ md_X16_overFunction_1) (fun _ h9 => h9) (fl_q rfl ek_2) dX16_overFunction_1 ?_
  refine lv_iload_n hx hb dX16_overFunction_4 rfl (lv_at hl 1 rfl) ?_
  refine lv_aload_n hx hb dX16_overFunction_5 rfl (lv_at hl 0 rfl) ?_
  refine va_get (D := (dC, dI)) (ci := 16) (v := .int (z.1 h0 2)) (C := RX16) (T := TX16) (N := 18) hx hb hts iwd_X16_overFunction_X16 hown hK hP h0 (Wd_ob kg_1 sg_1 (by decide)) rfl 2 (by decide) (hts _ md_X16_overFunction_2) (fun _ h9 => h9) (fl_at (t := 0) rfl) dX16_overFunction_6 ?_
  obtain ⟨g_3, hf⟩ := grd_some hf
  obtain ⟨kg_3, sg_3, ig_3⟩ := okA_at g_3
  refine va_iast hx hb hK hP hD hS k_2 1 (Wd_ai kg_3 sg_3) rfl ig_3 dX16_overFunction_9 (fun H_4 locs hP2 hD2 hS2 => ?_)
  rw [Wd_ti sg_3] at hP2 hD2
  obtain ⟨z_5, ez_5⟩ : ∃ w, w = si z k_2 x0.toNatClampNeg (z.1 h0 2) := ⟨_, rfl⟩
  rw [← ez_5] at hP2 hD2
  replace hf := lt_at ez_5 hf
  clear ez_5
  replace hP := hP2
  replace hD := hD2
  replace hS := hS2
  clear hP2 hD2 hS2
  refine lv_aload_n hx hb dX16_overFunction_10 rfl (lv_at hl 0 rfl) ?_
  obtain ⟨k_6, ek_6, hf⟩ := lnk_some hf
  refine va_get (D := (dC, dI)) (ci := 16) (v := .ref (a k_6)) (C := RX16) (T := TX16) (N := 18) hx hb hts iwd_X16_overFunction_X16 hown hK hP h0 (Wd_ob kg_1 sg_1 (by decide)) rfl 15 (by decide) (hts _ md_X16_overFunction_3) (fun _ h9 => h9) (fl_q rfl ek_6) dX16_overFunction_11 ?_
  refine lv_iload_n hx hb dX16_overFunction_14 rfl (lv_at hl 1 rfl) ?_
  refine lv_aload_n hx hb dX16_overFunction_15 rfl (lv_at hl 0 rfl) ?_
  refine va_get (D := (dC, dI)) (ci := 16) (v := .int (z_5.1 h0 10)) (C := RX16) (T := TX16) (N := 18) hx hb hts iwd_X16_overFunction_X16 hown hK hP h0 (Wd_ob kg_1 sg_1 (by decide)) rfl 10 (by decide) (hts _ md_X16_overFunction_4) (fun _ h9 => h9) (fl_at (t := 0) rfl) dX16_overFunction_16 ?_
  obtain ⟨g_7, hf⟩ := grd_some hf
  obtain ⟨kg_7, sg_7, ig_7⟩ := okA_at g_7
  refine va_iast hx hb hK hP hD hS k_6 1 (Wd_ai kg_7 sg_7) rfl ig_7 dX16_overFunction_19 (fun H_8 locs hP2 hD2 hS2 => ?_)
  rw [Wd_ti sg_7] at hP2 hD2
  obtain ⟨z_9, ez_9⟩ : ∃ w, w = si z_5 k_6 x0.toNatClampNeg (z_5.1 h0 10) := ⟨_, rfl⟩
  rw [← ez_9] at hP2 hD2
  replace hf := lt_at ez_9 hf
  clear ez_9
  replace hP := hP2
  replace hD := hD2
  replace hS := hS2
  clear hP2 hD2 hS2
  refine lv_aload_n hx hb dX16_overFunction_20 rfl (lv_at hl 0 rfl) ?_
  refine lv_iconst (v := 0) hx hb dX16_overFunction_21 (by decide) ?_
  refine lv_bipush (v := 7) hx hb dX16_overFunction_22 (by decide) ?_
  obtain ⟨z_10, r_11, hfc, hf⟩ := cal_some hf
  have hFc := de_free hD hS hA
  refine va_calli (va_runV (As := [.int 0, .int 7]) (rest := []) ⟨hx, hb, hml, hown, hts⟩ (de_X16_count l dC dI cy a sh n H_8.size F z_9 h0 0 7 hfc) (cwV 2 hts gX16_overFunction_X16_count rfl rfl rfl (by decide +kernel) ⟨Nat.le_of_ble_eq_true rfl, Nat.le_of_ble_eq_true rfl⟩) ⟨fun a U g mk q => by obtain ⟨q0, q1, qP, qK, qD, qN⟩ := q; exact ⟨q0, q1, qP, va_K.moved (u := U) (U := U.calling g mk a) (Vm.Alike.refl U.vm) qK, qD, qN.same rfl⟩, va_recv hK hP (ci := 16) (q0 := h0) rfl (Wd_ob kg_1 sg_1 (by decide)), fun U hU hW => ⟨rfl, by rw [hU], by rw [hU]; exact hP, va_K.moved hW.alike hK, hD.weaken (fun _ _ _ _ => trivial), hN.warm hW⟩⟩ rfl rfl hl.1 rfl (lv_room (Nat.le_of_ble_eq_true rfl)) dX16_overFunction_24 ⟨Nat.le_of_ble_eq_true rfl, Nat.le_of_ble_eq_true rfl⟩) hS (fun q _ h => hFc q h) hFc (fun rr u t H_12 locs ht hvm hw hB hz1 hk1 hS2 => ?_)
  rw [hw]
  clear hw
  obtain ⟨hP1, -, hD1⟩ := hB
  rw [ht] at hP1
  replace hD := hD1.weaken (fun _ _ _ h => hFc _ h)
  replace hP := hP1
  replace hS := hS2
  clear hP1 hD1 hS2 hFc hfc hz1 hk1 hvm ht
  refine lv_pop hx hb dX16_overFunction_27 rfl ?_
  refine lv_aload_n hx hb dX16_overFunction_28 rfl (lv_at hl 0 rfl) ?_
  refine lv_bipush (v := 8) hx hb dX16_overFunction_29 (by decide) ?_
  obtain ⟨z_13, _u, hfc, hf⟩ := cal_some hf
  have hFc := de_free hD hS hA
  refine va_callv (va_runV (As := [.int 8]) (rest := []) ⟨hx, hb, hml, hown, hts⟩ (de_X16_overLists l dC dI cy a sh n H_12.size F z_10 h0 8 hfc) (cwV 1 hts gX16_overFunction_X16_overLists rfl rfl rfl (by decide +kernel) ⟨Nat.le_of_ble_eq_true rfl, Nat.le_of_ble_eq_true rfl⟩) ⟨fun a U g mk q => by obtain ⟨q0, q1, qP, qK, qD, qN⟩ := q; exact ⟨q0, q1, qP, va_K.moved (u := U) (U := U.calling g mk a) (Vm.Alike.refl U.vm) qK, qD, qN.same rfl⟩, va_recv hK hP (ci := 16) (q0 := h0) rfl (Wd_ob kg_1 sg_1 (by decide)), fun U hU hW => ⟨rfl, by rw [hU], by rw [hU]; exact hP, va_K.moved hW.alike hK, hD.weaken (fun _ _ _ _ => trivial), hN.warm hW⟩⟩ rfl rfl hl.1 rfl (lv_room (Nat.le_of_ble_eq_true rfl)) dX16_overFunction_31 ⟨Nat.le_of_ble_eq_true rfl, Nat.le_of_ble_eq_true rfl⟩) hS (fun q _ h => hFc q h) hFc (fun u t H_14 locs ht hvm hw hB hz1 hk1 hS2 => ?_)
  obtain ⟨hP1, -, hD1⟩ := hB
  rw [ht] at hP1
  replace hD := hD1.weaken (fun _ _ _ h => hFc _ h)
  replace hP := hP1
  replace hS := hS2
  clear hP1 hD1 hS2 hFc hfc hz1 hk1 hvm ht
  refine lv_aload_n hx hb dX16_overFunction_34 rfl (lv_at hl 0 rfl) ?_
  obtain ⟨z_15, r_16, hfc, hf⟩ := cal_some hf
  have hFc := de_free hD hS hA
  refine va_calli (va_runV (As := []) (rest := []) ⟨hx, hb, hml, hown, hts⟩ (de_X16_isGood l dC dI cy a sh n H_14.size F z_13 h0 hfc) (cwV 0 hts gX16_overFunction_X16_isGood rfl rfl rfl (by decide +kernel) ⟨Nat.le_of_ble_eq_true rfl, Nat.le_of_ble_eq_true rfl⟩) ⟨fun a U g mk q => by obtain ⟨q0, q1, qP, qK, qD, qN⟩ := q; exact ⟨q0, q1, qP, va_K.moved (u := U) (U := U.calling g mk a) (Vm.Alike.refl U.vm) qK, qD, qN.same rfl⟩, va_recv hK hP (ci := 16) (q0 := h0) rfl (Wd_ob kg_1 sg_1 (by decide)), fun U hU hW => ⟨rfl, by rw [hU], by rw [hU]; exact hP, va_K.moved hW.alike hK, hD.weaken (fun _ _ _ _ => trivial), hN.warm hW⟩⟩ rfl rfl hl.1 rfl (lv_room (Nat.le_of_ble_eq_true rfl)) dX16_overFunction_35 ⟨Nat.le_of_ble_eq_true rfl, Nat.le_of_ble_eq_true rfl⟩) hS (fun q _ h => hFc q h) hFc (fun rr u t H_17 locs ht hvm hw hB hz1 hk1 hS2 => ?_)
  rw [hw]
  clear hw
  obtain ⟨hP1, -, hD1⟩ := hB
  rw [ht] at hP1
  replace hD := hD1.weaken (fun _ _ _ h => hFc _ h)
  replace hP := hP1
  replace hS := hS2
  clear hP1 hD1 hS2 hFc hfc hz1 hk1 hvm ht
  refine lv_if_ne (tgt := 42) hx hb dX16_overFunction_38 (by decide) (fun c_18 => ?_) (fun c_18 => ?_)
  · skip
    rw [if_neg c_18] at hf
    refine lv_aload_n hx hb dX16_overFunction_42 rfl (lv_at hl 0 rfl) ?_
    refine lv_iconst (v := 2) hx hb dX16_overFunction_43 (by decide) ?_
    obtain ⟨z_19, r_20, hfc, hf⟩ := cal_some hf
    have hFc := de_free hD hS hA
    refine va_calli (va_runV (As := [.int 2]) (rest := []) ⟨hx, hb, hml, hown, hts⟩ (de_X16_over l dC dI cy a sh n H_17.size F z_15 h0 2 hfc) (cwV 1 hts gX16_overFunction_X16_over rfl rfl rfl (by decide +kernel) ⟨Nat.le_of_ble_eq_true rfl, Nat.le_of_ble_eq_true rfl⟩) ⟨fun a U g mk q => by obtain ⟨q0, q1, qP, qK, qD, qN⟩ := q; exact ⟨q0, q1, qP, va_K.moved (u := U) (U := U.calling g mk a) (Vm.Alike.refl U.vm) qK, qD, qN.same rfl⟩, va_recv hK hP (ci := 16) (q0 := h0) rfl (Wd_ob kg_1 sg_1 (by decide)), fun U hU hW => ⟨rfl, by rw [hU], by rw [hU]; exact hP, va_K.moved hW.alike hK, hD.weaken (fun _ _ _ _ => trivial), hN.warm hW⟩⟩ rfl rfl hl.1 rfl (lv_room (Nat.le_of_ble_eq_true rfl)) dX16_overFunction_44 ⟨Nat.le_of_ble_eq_true rfl, Nat.le_of_ble_eq_true rfl⟩) hS (fun q _ h => hFc q h) hFc (fun rr u t H_21 locs ht hvm hw hB hz1 hk1 hS2 => ?_)
    rw [hw]
    clear hw
    obtain ⟨hP1, -, hD1⟩ := hB
    rw [ht] at hP1
    replace hD := hD1.weaken (fun _ _ _ h => hFc _ h)
    replace hP := hP1
    replace hS := hS2
    clear hP1 hD1 hS2 hFc hfc hz1 hk1 hvm ht
    refine lv_istore_n (lv' := [(2, .int r_20), (0, .ref (a h0)), (1, .int x0)]) hx hb dX16_overFunction_47 rfl hl (by decide) rfl (fun ls hl2 => ?_)
    replace hl := hl2
    clear hl2
    refine lv_aload_n hx hb dX16_overFunction_48 rfl (lv_at hl 1 rfl) ?_
    obtain ⟨z_22, r_23, hfc, hf⟩ := cal_some hf
    have hFc := de_free hD hS hA
    refine va_calli (va_runV (As := []) (rest := []) ⟨hx, hb, hml, hown, hts⟩ (de_X16_isGood l dC dI cy a sh n H_21.size F z_19 h0 hfc) (cwV 0 hts gX16_overFunction_X16_isGood rfl rfl rfl (by decide +kernel) ⟨Nat.le_of_ble_eq_true rfl, Nat.le_of_ble_eq_true rfl⟩) ⟨fun a U g mk q => by obtain ⟨q0, q1, qP, qK, qD, qN⟩ := q; exact ⟨q0, q1, qP, va_K.moved (u := U) (U := U.calling g mk a) (Vm.Alike.refl U.vm) qK, qD, qN.same rfl⟩, va_recv hK hP (ci := 16) (q0 := h0) rfl (Wd_ob kg_1 sg_1 (by decide)), fun U hU hW => ⟨rfl, by rw [hU], by rw [hU]; exact hP, va_K.moved hW.alike hK, hD.weaken (fun _ _ _ _ => trivial), hN.warm hW⟩⟩ rfl rfl hl.1 rfl (lv_room (Nat.le_of_ble_eq_true rfl)) dX16_overFunction_49 ⟨Nat.le_of_ble_eq_true rfl, Nat.le_of_ble_eq_true rfl⟩) hS (fun q _ h => hFc q h) hFc (fun rr u t H_24 locs ht hvm hw hB hz1 hk1 hS2 => ?_)
    rw [hw]
    clear hw
    obtain ⟨hP1, -, hD1⟩ := hB
    rw [ht] at hP1
    replace hD := hD1.weaken (fun _ _ _ h => hFc _ h)
    replace hP := hP1
    replace hS := hS2
    clear hP1 hD1 hS2 hFc hfc hz1 hk1 hvm ht
    refine lv_if_ne (tgt := 56) hx hb dX16_overFunction_52 (by decide) (fun c_25 => ?_) (fun c_25 => ?_)
    · skip
      rw [if_neg c_25] at hf
      refine lv_aload_n hx hb dX16_overFunction_56 rfl (lv_at hl 1 rfl) ?_
      refine lv_iload_n hx hb dX16_overFunction_57 rfl (lv_at hl 0 rfl) ?_
      obtain ⟨z_26, r_27, hfc, hf⟩ := cal_some hf
      have hFc := de_free hD hS hA
      refine va_calli (va_runV (As := [.int r_20]) (rest := []) ⟨hx, hb, hml, hown, hts⟩ (de_X16_shortAt l dC dI cy a sh n H_24.size F z_22 h0 r_20 hfc) (cwV 1 hts gX16_overFunction_X16_shortAt rfl rfl rfl (by decide +kernel) ⟨Nat.le_of_ble_eq_true rfl, Nat.le_of_ble_eq_true rfl⟩) ⟨fun a U g mk q => by obtain ⟨q0, q1, qP, qK, qD, qN⟩ := q; exact ⟨q0, q1, qP, va_K.moved (u := U) (U := U.calling g mk a) (Vm.Alike.refl U.vm) qK, qD, qN.same rfl⟩, va_recv hK hP (ci := 16) (q0 := h0) rfl (Wd_ob kg_1 sg_1 (by decide)), fun U hU hW => ⟨rfl, by rw [hU], by rw [hU]; exact hP, va_K.moved hW.alike hK, hD.weaken (fun _ _ _ _ => trivial), hN.warm hW⟩⟩ rfl rfl hl.1 rfl (lv_room (Nat.le_of_ble_eq_true rfl)) dX16_overFunction_58 ⟨Nat.le_of_ble_eq_true rfl, Nat.le_of_ble_eq_true rfl⟩) hS (fun q _ h => hFc q h) hFc (fun rr u t H_28 locs ht hvm hw hB hz1 hk1 hS2 => ?_)
      rw [hw]
      clear hw
      obtain ⟨hP1, -, hD1⟩ := hB
      rw [ht] at hP1
      replace hD := hD1.weaken (fun _ _ _ h => hFc _ h)
      replace hP := hP1
      replace hS := hS2
      clear hP1 hD1 hS2 hFc hfc hz1 hk1 hvm ht
      refine lv_istore_n (lv' := [(3, .int r_27), (2, .int r_20), (0, .ref (a h0)), (1, .int x0)]) hx hb dX16_overFunction_61 rfl hl (by decide) rfl (fun ls hl2 => ?_)
      replace hl := hl2
      clear hl2
      refine lv_iload_n hx hb dX16_overFunction_62 rfl (lv_at hl 0 rfl) ?_
      refine lv_iconst (v := 1) hx hb dX16_overFunction_63 (by decide) ?_
      refine de_cut (h := 92) (fun (x : St) => []) (fun x ls H locs => lv_has ls 5 [(3, .int r_27), (0, .ref (a h0)), (1, .int x0)] ∧ va_P (dC, dI) vwCl (Wd cy a sh n x) H ∧ va_D A (Wd cy a sh n x) ∧ va_S A s.heap H locs) (fun x => fn_X16_overFunction_B92 F sh n r_27 h0 x0 x) (z8, r8) ?_ (fun B92 => ?_)
      · intro x ls H locs hI hf
        obtain ⟨z_29, ez⟩ : ∃ w, w = x := ⟨_, rfl⟩
        subst ez
        obtain ⟨hl2, hP2, hD2, hS2⟩ := hI
        replace hl : lv_has ls 5 [(3, .int r_27), (0, .ref (a h0)), (1, .int x0)] := hl2
        replace hP := hP2
        replace hD := hD2
        replace hS := hS2
        clear hl2 hP2 hD2 hS2
        replace hf := fn_X16_overFunction_B92_s hf
        refine W.eq (g2 := F0 m 92 ls []) rfl ?_
        refine lv_iconst (v := 0) hx hb dX16_overFunction_92 (by decide) ?_
        refine lv_istore (lv' := [(4, .int 0), (3, .int r_27), (0, .ref (a h0)), (1, .int x0)]) hx hb dX16_overFunction_93 hl (by decide) rfl (fun ls hl2 => ?_)
        replace hl := hl2
        clear hl2
        have hl0 : lv_has ls 5 [(4, .int 0), (3, .int r_27), (0, .ref (a h0)), (1, .int x0)] := lv_sub hl [0, 1, 2, 3] rfl
        refine de_loop (h := 95) (fun (x : St × Int32) ls H locs => lv_has ls 5 [(4, .int x.2), (3, .int r_27), (0, .ref (a h0)), (1, .int x0)] ∧ va_P (dC, dI) vwCl (Wd cy a sh n x.1) H ∧ va_D A (Wd cy a sh n x.1) ∧ va_S A s.heap H locs) (fun f x => fn_X16_overFunction_L95 F sh n r_27 h0 x0 f x.1 x.2) (z8, r8) ?_ (fun _ => rfl) F (z_29, 0) ls H locs ⟨hl0, hP, hD, hS⟩ hf
        intro f_32 x ls H locs ih95 hI hf
        obtain ⟨z_31, p_30⟩ := x
        obtain ⟨hl2, hP2, hD2, hS2⟩ := hI
        replace hl : lv_has ls 5 [(4, .int p_30), (3, .int r_27), (0, .ref (a h0)), (1, .int x0)] := hl2
        replace hP := hP2
        replace hD := hD2
        replace hS := hS2
        clear hl2 hP2 hD2 hS2 hl0
        replace hf := fn_X16_overFunction_L95_s hf
        refine lv_iload hx hb dX16_overFunction_95 (lv_at hl 0 rfl) ?_
        refine lv_iload_n hx hb dX16_overFunction_97 rfl (lv_at hl 1 rfl) ?_
        refine de_cut (h := 118) (fun (x : St) => []) (fun x ls H locs => lv_has ls 5 [(0, .ref (a h0)), (1, .int x0)] ∧ va_P (dC, dI) vwCl (Wd cy a sh n x) H ∧ va_D A (Wd cy a sh n x) ∧ va_S A s.heap H locs) (fun x => fn_X16_overFunction_B118 F sh n h0 x0 x) (z8, r8) ?_ (fun B118 => ?_)
        · intro x ls H locs hI hf
          obtain ⟨z_33, ez⟩ : ∃ w, w = x := ⟨_, rfl⟩
          subst ez
          obtain ⟨hl2, hP2, hD2, hS2⟩ := hI
          replace hl : lv_has ls 5 [(0, .ref (a h0)), (1, .int x0)] := hl2
          replace hP := hP2
          replace hD := hD2
          replace hS := hS2
          clear hl2 hP2 hD2 hS2
          replace hf := fn_X16_overFunction_B118_s hf
          refine W.eq (g2 := F0 m 118 ls []) rfl ?_
          refine lv_aload_n hx hb dX16_overFunction_118 rfl (lv_at hl 0 rfl) ?_
          obtain ⟨k_34, ek_34, hf⟩ := lnk_some hf
          refine va_get (D := (dC, dI)) (ci := 16) (v := .ref (a k_34)) (C := RX16) (T := TX16) (N := 18) hx hb hts iwd_X16_overFunction_X16 hown hK hP h0 (Wd_ob kg_1 sg_1 (by decide)) rfl 15 (by decide) (hts _ md_X16_overFunction_3) (fun _ h9 => h9) (fl_q rfl ek_34) dX16_overFunction_119 ?_
          refine lv_iload_n hx hb dX16_overFunction_122 rfl (lv_at hl 1 rfl) ?_
          refine lv_iconst (v := 1) hx hb dX16_overFunction_123 (by decide) ?_
          refine lv_iadd hx hb dX16_overFunction_124 ?_
          refine lv_aload_n hx hb dX16_overFunction_125 rfl (lv_at hl 0 rfl) ?_
          refine va_get (D := (dC, dI)) (ci := 16) (v := .int (z_33.1 h0 10)) (C := RX16) (T := TX16) (N := 18) hx hb hts iwd_X16_overFunction_X16 hown hK hP h0 (Wd_ob kg_1 sg_1 (by decide)) rfl 10 (by decide) (hts _ md_X16_overFunction_4) (fun _ h9 => h9) (fl_at (t := 0) rfl) dX16_overFunction_126 ?_
          obtain ⟨g_35, hf⟩ := grd_some hf
          obtain ⟨kg_35, sg_35, ig_35⟩ := okA_at g_35
          refine va_iast hx hb hK hP hD hS k_34 1 (Wd_ai kg_35 sg_35) rfl ig_35 dX16_overFunction_129 (fun H_36 locs hP2 hD2 hS2 => ?_)
          rw [Wd_ti sg_35] at hP2 hD2
          obtain ⟨z_37, ez_37⟩ : ∃ w, w = si z_33 k_34 (x0 + 1).toNatClampNeg (z_33.1 h0 10) := ⟨_, rfl⟩
          rw [← ez_37] at hP2 hD2
          replace hf := lt_at ez_37 hf
          clear ez_37
          replace hP := hP2
          replace hD := hD2
          replace hS := hS2
          clear hP2 hD2 hS2
          obtain ⟨h8, h9⟩ := ret_some hf
          rw [h8]
          exact W.vret hx hb hr (fun t ht hW => ⟨⟨(), rfl, trivial, by rw [ht]; exact hP, va_K.moved hW.alike hK, hD⟩, hS.F ht⟩) hS.2.2 dX16_overFunction_130
        refine lv_icmp_ge (tgt := 118) hx hb dX16_overFunction_98 (by decide) (fun c_38 => ?_) (fun c_38 => ?_)
        · skip
          rw [if_pos c_38] at hf
          exact B118 (z_31) ls H locs ⟨lv_sub hl [2, 3] rfl, hP, hD, hS⟩ hf
        · skip
          rw [if_neg c_38] at hf
          refine lv_aload_n hx hb dX16_overFunction_101 rfl (lv_at hl 2 rfl) ?_
          obtain ⟨z_39, r_40, hfc, hf⟩ := cal_some hf
          have hFc := de_free hD hS hA
          refine va_calli (va_runV (As := []) (rest := []) ⟨hx, hb, hml, hown, hts⟩ (de_X16_isGood l dC dI cy a sh n H.size F z_31 h0 hfc) (cwV 0 hts gX16_overFunction_X16_isGood rfl rfl rfl (by decide +kernel) ⟨Nat.le_of_ble_eq_true rfl, Nat.le_of_ble_eq_true rfl⟩) ⟨fun a U g mk q => by obtain ⟨q0, q1, qP, qK, qD, qN⟩ := q; exact ⟨q0, q1, qP, va_K.moved (u := U) (U := U.calling g mk a) (Vm.Alike.refl U.vm) qK, qD, qN.same rfl⟩, va_recv hK hP (ci := 16) (q0 := h0) rfl (Wd_ob kg_1 sg_1 (by decide)), fun U hU hW => ⟨rfl, by rw [hU], by rw [hU]; exact hP, va_K.moved hW.alike hK, hD.weaken (fun _ _ _ _ => trivial), hN.warm hW⟩⟩ rfl rfl hl.1 rfl (lv_room (Nat.le_of_ble_eq_true rfl)) dX16_overFunction_102 ⟨Nat.le_of_ble_eq_true rfl, Nat.le_of_ble_eq_true rfl⟩) hS (fun q _ h => hFc q h) hFc (fun rr u t H_41 locs ht hvm hw hB hz1 hk1 hS2 => ?_)
          rw [hw]
          clear hw
          obtain ⟨hP1, -, hD1⟩ := hB
          rw [ht] at hP1
          replace hD := hD1.weaken (fun _ _ _ h => hFc _ h)
          replace hP := hP1
          replace hS := hS2
          clear hP1 hD1 hS2 hFc hfc hz1 hk1 hvm ht
          refine lv_if_eq (tgt := 118) hx hb dX16_overFunction_105 (by decide) (fun c_42 => ?_) (fun c_42 => ?_)
          · skip
            rw [if_pos c_42] at hf
            exact B118 (z_39) ls H_41 locs ⟨lv_sub hl [2, 3] rfl, hP, hD, hS⟩ hf
          · skip
            rw [if_neg c_42] at hf
            refine lv_aload_n hx hb dX16_overFunction_108 rfl (lv_at hl 2 rfl) ?_
            obtain ⟨z_43, _u, hfc, hf⟩ := cal_some hf
            have hFc := de_free hD hS hA
            refine va_callv (va_runV (As := []) (rest := []) ⟨hx, hb, hml, hown, hts⟩ (de_X16_overInstruction l dC dI cy a sh n H_41.size F z_39 h0 hfc) (cwV 0 hts gX16_overFunction_X16_overInstruction rfl rfl rfl (by decide +kernel) ⟨Nat.le_of_ble_eq_true rfl, Nat.le_of_ble_eq_true rfl⟩) ⟨fun a U g mk q => by obtain ⟨q0, q1, qP, qK, qD, qN⟩ := q; exact ⟨q0, q1, qP, va_K.moved (u := U) (U := U.calling g mk a) (Vm.Alike.refl U.vm) qK, qD, qN.same rfl⟩, va_recv hK hP (ci := 16) (q0 := h0) rfl (Wd_ob kg_1 sg_1 (by decide)), fun U hU hW => ⟨rfl, by rw [hU], by rw [hU]; exact hP, va_K.moved hW.alike hK, hD.weaken (fun _ _ _ _ => trivial), hN.warm hW⟩⟩ rfl rfl hl.1 rfl (lv_room (Nat.le_of_ble_eq_true rfl)) dX16_overFunction_109 ⟨Nat.le_of_ble_eq_true rfl, Nat.le_of_ble_eq_true rfl⟩) hS (fun q _ h => hFc q h) hFc (fun u t H_44 locs ht hvm hw hB hz1 hk1 hS2 => ?_)
            obtain ⟨hP1, -, hD1⟩ := hB
            rw [ht] at hP1
            replace hD := hD1.weaken (fun _ _ _ h => hFc _ h)
            replace hP := hP1
            replace hS := hS2
            clear hP1 hD1 hS2 hFc hfc hz1 hk1 hvm ht
            refine lv_iinc (v := (p_30 + 1)) (lv' := [(4, .int (p_30 + 1)), (3, .int r_27), (0, .ref (a h0)), (1, .int x0)]) hx hb dX16_overFunction_112 hl (k := 0) rfl rfl (by decide) rfl (fun ls hl2 => ?_)
            replace hl := hl2
            clear hl2
            refine lv_goto (tgt := 95) hx hb dX16_overFunction_115 (by decide) ?_
            exact ih95 (z_43, (p_30 + 1)) ls H_44 locs ⟨lv_sub hl [0, 1, 2, 3] rfl, hP, hD, hS⟩ hf
      refine de_cut (h := 86) (fun (x : St) => []) (fun x ls H locs => lv_has ls 5 [(3, .int r_27), (2, .int r_20), (0, .ref (a h0)), (1, .int x0)] ∧ va_P (dC, dI) vwCl (Wd cy a sh n x) H ∧ va_D A (Wd cy a sh n x) ∧ va_S A s.heap H locs) (fun x => fn_X16_overFunction_B86 F sh n h0 r_20 r_27 x0 x) (z8, r8) ?_ (fun B86 => ?_)
      · intro x ls H locs hI hf
        obtain ⟨z_45, ez⟩ : ∃ w, w = x := ⟨_, rfl⟩
        subst ez
        obtain ⟨hl2, hP2, hD2, hS2⟩ := hI
        replace hl : lv_has ls 5 [(3, .int r_27), (2, .int r_20), (0, .ref (a h0)), (1, .int x0)] := hl2
        replace hP := hP2
        replace hD := hD2
        replace hS := hS2
        clear hl2 hP2 hD2 hS2
        replace hf := fn_X16_overFunction_B86_s hf
        refine W.eq (g2 := F0 m 86 ls []) rfl ?_
        refine lv_aload_n hx hb dX16_overFunction_86 rfl (lv_at hl 2 rfl) ?_
        refine lv_iconst (v := 3) hx hb dX16_overFunction_87 (by decide) ?_
        refine lv_iload_n hx hb dX16_overFunction_88 rfl (lv_at hl 1 rfl) ?_
        obtain ⟨z_46, _u, hfc, hf⟩ := cal_some hf
        have hFc := de_free hD hS hA
        refine va_callv (va_runV (As := [.int 3, .int r_20]) (rest := []) ⟨hx, hb, hml, hown, hts⟩ (de_X16_fail l dC dI cy a sh n H.size F z_45 h0 3 r_20 hfc) (cwV 2 hts gX16_overFunction_X16_fail rfl rfl rfl (by decide +kernel) ⟨Nat.le_of_ble_eq_true rfl, Nat.le_of_ble_eq_true rfl⟩) ⟨fun a U g mk q => by obtain ⟨q0, q1, qP, qK, qD, qN⟩ := q; exact ⟨q0, q1, qP, va_K.moved (u := U) (U := U.calling g mk a) (Vm.Alike.refl U.vm) qK, qD, qN.same rfl⟩, va_recv hK hP (ci := 16) (q0 := h0) rfl (Wd_ob kg_1 sg_1 (by decide)), fun U hU hW => ⟨rfl, by rw [hU], by rw [hU]; exact hP, va_K.moved hW.alike hK, hD.weaken (fun _ _ _ _ => trivial), hN.warm hW⟩⟩ rfl rfl hl.1 rfl (lv_room (Nat.le_of_ble_eq_true rfl)) dX16_overFunction_89 ⟨Nat.le_of_ble_eq_true rfl, Nat.le_of_ble_eq_true rfl⟩) hS (fun q _ h => hFc q h) hFc (fun u t H_47 locs ht hvm hw hB hz1 hk1 hS2 => ?_)
        obtain ⟨hP1, -, hD1⟩ := hB
        rw [ht] at hP1
        replace hD := hD1.weaken (fun _ _ _ h => hFc _ h)
        replace hP := hP1
        replace hS := hS2
        clear hP1 hD1 hS2 hFc hfc hz1 hk1 hvm ht
        exact B92 (z_46) ls H_47 locs ⟨lv_sub hl [0, 2, 3] rfl, hP, hD, hS⟩ hf
      refine lv_icmp_lt (tgt := 86) hx hb dX16_overFunction_64 (by decide) (fun c_48 => ?_) (fun c_48 => ?_)
      · skip
        rw [if_pos c_48] at hf
        exact B86 (z_26) ls H_28 locs ⟨lv_sub hl [0, 1, 2, 3] rfl, hP, hD, hS⟩ hf
      · skip
        rw [if_neg c_48] at hf
        refine lv_iload_n hx hb dX16_overFunction_67 rfl (lv_at hl 0 rfl) ?_
        refine lv_sipush (v := 1024) hx hb dX16_overFunction_68 (by decide) ?_
        refine lv_icmp_gt (tgt := 86) hx hb dX16_overFunction_71 (by decide) (fun c_49 => ?_) (fun c_49 => ?_)
        · skip
          rw [if_pos c_49] at hf
          exact B86 (z_26) ls H_28 locs ⟨lv_sub hl [0, 1, 2, 3] rfl, hP, hD, hS⟩ hf
        · skip
          rw [if_neg c_49] at hf
          refine lv_aload_n hx hb dX16_overFunction_74 rfl (lv_at hl 2 rfl) ?_
          refine va_get (D := (dC, dI)) (ci := 16) (v := .int (z_26.1 h0 10)) (C := RX16) (T := TX16) (N := 18) hx hb hts iwd_X16_overFunction_X16 hown hK hP h0 (Wd_ob kg_1 sg_1 (by decide)) rfl 10 (by decide) (hts _ md_X16_overFunction_4) (fun _ h9 => h9) (fl_at (t := 0) rfl) dX16_overFunction_75 ?_
          refine lv_iload_n hx hb dX16_overFunction_78 rfl (lv_at hl 0 rfl) ?_
          refine lv_iadd hx hb dX16_overFunction_79 ?_
          refine lv_sipush (v := 8192) hx hb dX16_overFunction_80 (by decide) ?_
          refine lv_icmp_le (tgt := 92) hx hb dX16_overFunction_83 (by decide) (fun c_50 => ?_) (fun c_50 => ?_)
          · skip
            rw [if_pos c_50] at hf
            exact B92 (z_26) ls H_28 locs ⟨lv_sub hl [0, 2, 3] rfl, hP, hD, hS⟩ hf
          · skip
            rw [if_neg c_50] at hf
            exact B86 (z_26) ls H_28 locs ⟨lv_sub hl [0, 1, 2, 3] rfl, hP, hD, hS⟩ hf
    · skip
      rw [if_pos c_25] at hf
      obtain ⟨h8, h9⟩ := ret_some hf
      rw [h8]
      exact W.vret hx hb hr (fun t ht hW => ⟨⟨(), rfl, trivial, by rw [ht]; exact hP, va_K.moved hW.alike hK, hD⟩, hS.F ht⟩) hS.2.2 dX16_overFunction_55
  · skip
    rw [if_pos c_18] at hf
    obtain ⟨h8, h9⟩ := ret_some hf
    rw [h8]
    exact W.vret hx hb hr (fun t ht hW => ⟨⟨(), rfl, trivial, by rw [ht]; exact hP, va_K.moved hW.alike hK, hD⟩, hS.F ht⟩) hS.2.2 dX16_overFunction_41

theorem md_X14_all_1 : (.fieldLink RX14 39 "ResourceLedgerModel$Roots" "count" "I" : Cond) ∈ wsX14_all := List.mem_of_getElem? (i := 1) rfl
theorem iwd_X14_all_X14 : ∀ w ∈ wsX140, w ∈ wsX14_all := fun _ h => List.mem_cons_of_mem _ (List.mem_append_left _ (List.mem_append_right _ h))
theorem md_X14_all_2 : (.fieldLink RX14 79 "ResourceLedgerModel$Roots" "nodes" "I" : Cond) ∈ wsX14_all := List.mem_of_getElem? (i := 2) rfl
theorem md_X14_all_8 : (.methodLink RX14 99 Lib.Math.max.name : Cond) ∈ wsX14_all := List.mem_of_getElem? (i := 8) rfl
theorem md_X14_all_9 : (.static Lib.Math.max.name : Cond) ∈ wsX14_all := List.mem_of_getElem? (i := 9) rfl
theorem md_X14_all_10 : (.initialized "java/lang/Math" : Cond) ∈ wsX14_all := List.mem_of_getElem? (i := 10) rfl
theorem md_X14_all_11 : (.code Lib.Math.max.name Lib.Math.max.code 2 (some .int) : Cond) ∈ wsX14_all := List.mem_of_getElem? (i := 11) rfl
theorem md_X14_all_3 : (.fieldLink RX14 29 "ResourceLedgerModel$Roots" "begins" "[I" : Cond) ∈ wsX14_all := List.mem_of_getElem? (i := 3) rfl
theorem md_X14_all_4 : (.fieldLink RX14 32 "ResourceLedgerModel$Roots" "sizes" "[I" : Cond) ∈ wsX14_all := List.mem_of_getElem? (i := 4) rfl
theorem md_X14_all_5 : (.fieldLink RX14 35 "ResourceLedgerModel$Roots" "digester" "LResourceLedgerModel$Digester;" : Cond) ∈ wsX14_all := List.mem_of_getElem? (i := 5) rfl
theorem md_X14_all_6 : (.fieldLink RX14 7 "ResourceLedgerModel$Roots" "keys" "[J" : Cond) ∈ wsX14_all := List.mem_of_getElem? (i := 6) rfl
theorem md_X14_all_7 : (.fieldLink RX14 13 "ResourceLedgerModel$Roots" "values" "[J" : Cond) ∈ wsX14_all := List.mem_of_getElem? (i := 7) rfl
set_option maxHeartbeats 4000000 in
set_option maxRecDepth 100000 in
theorem de_X14_all (l : Launch) (dC : Nat → ClassId) (dI : Nat → Nat → Nat) (cy : Nat → ClassId) (a : Nat → Nat) (sh : Nat → Nat × Nat) (n sz : Nat) (F : Nat) (sk : Nat → Nat) (z : St) (h0 : Nat) {z8 : St} {r8 : Unit} (hf : fn_X14_all F sh n z h0 = some (z8, r8)) : Met l yX14_all wsX14_all ({ frames := 5, cells := 0, slots := 0, locals := 135 }) (va_Pc [.ref (a h0)] (fun U => U.heap.size = sz ∧ va_P (dC, dI) vwCl (Wd cy a sh n z) U.heap ∧ va_K (dC, dI) vwCl (TYS cy) U ∧ va_D (fun _ => True) (Wd cy a sh n z) ∧ NK U ∧ SKs sk (a CBK) (va_A (Wd cy a sh n z) sz) U U.heap)) (va_Qv (fun u : Unit => True) (fun u t => va_P (dC, dI) vwCl (Wd cy a sh n z8) t.heap ∧ va_K (dC, dI) vwCl (TYS cy) t ∧ va_D (va_A (Wd cy a sh n z) sz) (Wd cy a sh n z8)) (va_A (Wd cy a sh n z) sz)) 0 0 (va_A (Wd cy a sh n z) sz) := by
  refine Met.ofW (cc := cX14_all) (maxL := 3) (ret := none) (by decide) rfl ?_
  intro p e s m args below meth c s₁ B hml hv
  obtain ⟨rfl, hsz, hP, hK, hD0, hN, hSK⟩ := hv
  have hx := B.exec
  have hb := B.bytes
  have hr := B.returns
  have hts := atoms_spec (ws := wsX14_all) B.pre
  have hown : s.vm.findClass RX14 = some m.cls := findClass_of_methodNamed B.named
  have hlocks := B.notSynchronized
  subst hsz
  have hD := hD0.self (sz := s.heap.size)
  clear hD0
  generalize hAe : va_A (Wd cy a sh n z) s.heap.size = A at hD hSK ⊢
  have hA : ∀ q : Nat, s.heap.size ≤ q → A q := fun q h => by rw [← hAe]; exact Or.inr h
  clear hAe
  have hS : va_S A s.heap s.heap [] := va_S.rf
  have hl := lv_entry ([.ref (a h0)]) (n := 3) (Nat.le_of_ble_eq_true rfl)
  rw [lg_entry_eq]
  generalize (lg_sl ([.ref (a h0)]) ++ List.replicate (3 - (lg_sl ([.ref (a h0)])).length) Slot.unset).toArray = ls at hl ⊢
  replace hl : lv_has ls 3 [(0, .ref (a h0))] := hl
  unfold fn_X14_all at hf
  refine de_start hS hP (fun H locs hS hP => ?_)
  refine lv_aload_n hx hb dX14_all_0 rfl (lv_at hl 0 rfl) ?_
  refine lv_aload_n hx hb dX14_all_1 rfl (lv_at hl 0 rfl) ?_
  obtain ⟨g_1, hf⟩ := grd_some hf
  obtain ⟨kg_1, sg_1⟩ := okO_at g_1
  refine va_get (D := (dC, dI)) (ci := 14) (v := .int (z.1 h0 5)) (C := RX14) (T := TX14) (N := 11) hx hb hts iwd_X14_all_X14 hown hK hP h0 (Wd_ob kg_1 sg_1 (by decide)) rfl 5 (by decide) (hts _ md_X14_all_1) (fun _ h9 => h9) (fl_at (t := 0) rfl) dX14_all_2 ?_
  refine va_put (D := (dC, dI)) (ci := 14) (v := .int (z.1 h0 5)) (ty := .int) (C := RX14) (T := TX14) (N := 11) hx hb hts iwd_X14_all_X14 tyX14 tyX14_ok nmX14 hown hK hP hD hS h0 (Wd_ob kg_1 sg_1 (by decide)) rfl 9 (by decide) (hts _ md_X14_all_2) (fun _ h9 => h9) rfl (by decide +kernel) rfl rfl (by rw [fl_len]; decide) dX14_all_5 (fun H_2 locs hP2 hD2 hS2 => ?_)
  rw [Wd_si sg_1 (by decide) rfl] at hP2 hD2
  obtain ⟨z_3, ez_3⟩ : ∃ w, w = si z h0 9 (z.1 h0 5) := ⟨_, rfl⟩
  rw [← ez_3] at hP2 hD2
  replace hf := lt_at ez_3 hf
  clear ez_3
  replace hP := hP2
  replace hD := hD2
  replace hS := hS2
  clear hP2 hD2 hS2
  refine lv_iconst (v := 0) hx hb dX14_all_8 (by decide) ?_
  refine lv_istore_n (lv' := [(1, .int 0), (0, .ref (a h0))]) hx hb dX14_all_9 rfl hl (by decide) rfl (fun ls hl2 => ?_)
  replace hl := hl2
  clear hl2
  have hl0 : lv_has ls 3 [(1, .int 0), (0, .ref (a h0))] := lv_sub hl [0, 1] rfl
  refine de_loop (h := 10) (fun (x : St × Int32) ls H locs => lv_has ls 3 [(1, .int x.2), (0, .ref (a h0))] ∧ va_P (dC, dI) vwCl (Wd cy a sh n x.1) H ∧ va_D A (Wd cy a sh n x.1) ∧ va_S A s.heap H locs) (fun f x => fn_X14_all_L10 F sh n h0 f x.1 x.2) (z8, r8) ?_ (fun _ => rfl) F (z_3, 0) ls H_2 locs ⟨hl0, hP, hD, hS⟩ hf
  intro f_6 x ls H locs ih10 hI hf
  obtain ⟨z_5, p_4⟩ := x
  obtain ⟨hl2, hP2, hD2, hS2⟩ := hI
  replace hl : lv_has ls 3 [(1, .int p_4), (0, .ref (a h0))] := hl2
  replace hP := hP2
  replace hD := hD2
  replace hS := hS2
  clear hl2 hP2 hD2 hS2 hl0
  replace hf := fn_X14_all_L10_s hf
  refine lv_iload_n hx hb dX14_all_10 rfl (lv_at hl 0 rfl) ?_
  refine lv_aload_n hx hb dX14_all_11 rfl (lv_at hl 1 rfl) ?_
  refine va_get (D := (dC, dI)) (ci := 14) (v := .int (z_5.1 h0 9)) (C := RX14) (T := TX14) (N := 11) hx hb hts iwd_X14_all_X14 hown hK hP h0 (Wd_ob kg_1 sg_1 (by decide)) rfl 9 (by decide) (hts _ md_X14_all_2) (fun _ h9 => h9) (fl_at (t := 0) rfl) dX14_all_12 ?_
  refine lv_icmp_ge (tgt := 82) hx hb dX14_all_15 (by decide) (fun c_7 => ?_) (fun c_7 => ?_)
  · skip
    rw [if_pos c_7] at hf
    refine lv_iconst (v := (-1)) hx hb dX14_all_82 (by decide) ?_
    refine lv_istore_n (lv' := [(1, .int (-1)), (0, .ref (a h0))]) hx hb dX14_all_83 rfl hl (by decide) rfl (fun ls hl2 => ?_)
    replace hl := hl2
    clear hl2
    refine lv_iconst (v := 0) hx hb dX14_all_84 (by decide) ?_
    refine lv_istore_n (lv' := [(2, .int 0), (1, .int (-1)), (0, .ref (a h0))]) hx hb dX14_all_85 rfl hl (by decide) rfl (fun ls hl2 => ?_)
    replace hl := hl2
    clear hl2
    have hl0 : lv_has ls 3 [(2, .int 0), (1, .int (-1)), (0, .ref (a h0))] := lv_sub hl [0, 1, 2] rfl
    refine de_loop (h := 86) (fun (x : St × Int32 × Int32) ls H locs => lv_has ls 3 [(2, .int x.2.2), (1, .int x.2.1), (0, .ref (a h0))] ∧ va_P (dC, dI) vwCl (Wd cy a sh n x.1) H ∧ va_D A (Wd cy a sh n x.1) ∧ va_S A s.heap H locs) (fun f x => fn_X14_all_L86 F sh n h0 f x.1 x.2.1 x.2.2) (z8, r8) ?_ (fun _ => rfl) F (z_5, (-1), 0) ls H locs ⟨hl0, hP, hD, hS⟩ hf
    intro f_11 x ls H locs ih86 hI hf
    obtain ⟨z_10, p_8, p_9⟩ := x
    obtain ⟨hl2, hP2, hD2, hS2⟩ := hI
    replace hl : lv_has ls 3 [(2, .int p_9), (1, .int p_8), (0, .ref (a h0))] := hl2
    replace hP := hP2
    replace hD := hD2
    replace hS := hS2
    clear hl2 hP2 hD2 hS2 hl0
    replace hf := fn_X14_all_L86_s hf
    refine lv_iload_n hx hb dX14_all_86 rfl (lv_at hl 0 rfl) ?_
    refine lv_iconst (v := 1) hx hb dX14_all_87 (by decide) ?_
    refine lv_iadd hx hb dX14_all_88 ?_
    refine lv_aload_n hx hb dX14_all_89 rfl (lv_at hl 2 rfl) ?_
    refine va_get (D := (dC, dI)) (ci := 14) (v := .int (z_10.1 h0 5)) (C := RX14) (T := TX14) (N := 11) hx hb hts iwd_X14_all_X14 hown hK hP h0 (Wd_ob kg_1 sg_1 (by decide)) rfl 5 (by decide) (hts _ md_X14_all_1) (fun _ h9 => h9) (fl_at (t := 0) rfl) dX14_all_90 ?_
    refine lv_icmp_ge (tgt := 112) hx hb dX14_all_93 (by decide) (fun c_12 => ?_) (fun c_12 => ?_)
    · skip
      rw [if_pos c_12] at hf
      refine lv_iload_n hx hb dX14_all_112 rfl (lv_at hl 1 rfl) ?_
      refine lv_istore_n (lv' := [(2, .int p_8), (1, .int p_8), (0, .ref (a h0))]) hx hb dX14_all_113 rfl hl (by decide) rfl (fun ls hl2 => ?_)
      replace hl := hl2
      clear hl2
      have hl0 : lv_has ls 3 [(2, .int p_8), (0, .ref (a h0))] := lv_sub hl [0, 2] rfl
      refine de_loop (h := 114) (fun (x : St × Int32) ls H locs => lv_has ls 3 [(2, .int x.2), (0, .ref (a h0))] ∧ va_P (dC, dI) vwCl (Wd cy a sh n x.1) H ∧ va_D A (Wd cy a sh n x.1) ∧ va_S A s.heap H locs) (fun f x => fn_X14_all_L114 F sh n h0 f x.1 x.2) (z8, r8) ?_ (fun _ => rfl) F (z_10, p_8) ls H locs ⟨hl0, hP, hD, hS⟩ hf
      intro f_15 x ls H locs ih114 hI hf
      obtain ⟨z_14, p_13⟩ := x
      obtain ⟨hl2, hP2, hD2, hS2⟩ := hI
      replace hl : lv_has ls 3 [(2, .int p_13), (0, .ref (a h0))] := hl2
      replace hP := hP2
      replace hD := hD2
      replace hS := hS2
      clear hl2 hP2 hD2 hS2 hl0
      replace hf := fn_X14_all_L114_s hf
      refine lv_iload_n hx hb dX14_all_114 rfl (lv_at hl 0 rfl) ?_
      refine lv_if_lt (tgt := 129) hx hb dX14_all_115 (by decide) (fun c_16 => ?_) (fun c_16 => ?_)
      · skip
        rw [if_pos c_16] at hf
        obtain ⟨h8, h9⟩ := ret_some hf
        rw [h8]
        exact W.vret hx hb hr (fun t ht hW => ⟨⟨(), rfl, trivial, by rw [ht]; exact hP, va_K.moved hW.alike hK, hD⟩, hS.F ht⟩) hS.2.2 dX14_all_129
      · skip
        rw [if_neg c_16] at hf
        refine lv_aload_n hx hb dX14_all_118 rfl (lv_at hl 1 rfl) ?_
        refine lv_iload_n hx hb dX14_all_119 rfl (lv_at hl 0 rfl) ?_
        obtain ⟨z_17, _u, hfc, hf⟩ := cal_some hf
        have hFc := de_free hD hS hA
        refine va_callv (va_runV (As := [.int p_13]) (rest := []) ⟨hx, hb, hml, hown, hts⟩ (de_X14_level l dC dI cy a sh n H.size F sk z_14 h0 p_13 hfc) (cwV 1 hts gX14_all_X14_level rfl rfl rfl (by decide +kernel) ⟨Nat.le_of_ble_eq_true rfl, Nat.le_of_ble_eq_true rfl⟩) ⟨fun a U g mk q => by obtain ⟨q0, q1, qP, qK, qD, qN, qS⟩ := q; exact ⟨q0, q1, qP, va_K.moved (u := U) (U := U.calling g mk a) (Vm.Alike.refl U.vm) qK, qD, qN.same rfl, SKs.moved (u := U) (U := U.calling g mk a) (Vm.Alike.refl U.vm) qS⟩, va_recv hK hP (ci := 14) (q0 := h0) rfl (Wd_ob kg_1 sg_1 (by decide)), fun U hU hW => ⟨rfl, by rw [hU], by rw [hU]; exact hP, va_K.moved hW.alike hK, hD.weaken (fun _ _ _ _ => trivial), hN.warm hW, by rw [hU]; exact ((hSK.kept hS.2.1).narrow hFc).moved hW.alike⟩⟩ rfl rfl hl.1 rfl (lv_room (Nat.le_of_ble_eq_true rfl)) dX14_all_120 ⟨Nat.le_of_ble_eq_true rfl, Nat.le_of_ble_eq_true rfl⟩) hS (fun q _ h => hFc q h) hFc (fun u t H_18 locs ht hvm hw hB hz1 hk1 hS2 => ?_)
        obtain ⟨hP1, -, hD1⟩ := hB
        rw [ht] at hP1
        replace hD := hD1.weaken (fun _ _ _ h => hFc _ h)
        replace hP := hP1
        replace hS := hS2
        clear hP1 hD1 hS2 hFc hfc hz1 hk1 hvm ht
        refine lv_iinc (v := (p_13 + (-1))) (lv' := [(2, .int (p_13 + (-1))), (0, .ref (a h0))]) hx hb dX14_all_123 hl (k := 0) rfl rfl (by decide) rfl (fun ls hl2 => ?_)
        replace hl := hl2
        clear hl2
        refine lv_goto (tgt := 114) hx hb dX14_all_126 (by decide) ?_
        exact ih114 (z_17, (p_13 + (-1))) ls H_18 locs ⟨lv_sub hl [0, 1] rfl, hP, hD, hS⟩ hf
    · skip
      rw [if_neg c_12] at hf
      refine lv_iload_n hx hb dX14_all_96 rfl (lv_at hl 1 rfl) ?_
      refine lv_aload_n hx hb dX14_all_97 rfl (lv_at hl 2 rfl) ?_
      refine lv_iload_n hx hb dX14_all_98 rfl (lv_at hl 0 rfl) ?_
      obtain ⟨z_19, r_20, hfc, hf⟩ := cal_some hf
      have hFc := de_free hD hS hA
      refine va_calli (va_runV (As := [.int p_9]) (rest := [.int p_8]) ⟨hx, hb, hml, hown, hts⟩ (de_X14_parting l dC dI cy a sh n H.size F z_10 h0 p_9 hfc) (cwV 1 hts gX14_all_X14_parting rfl rfl rfl (by decide +kernel) ⟨Nat.le_of_ble_eq_true rfl, Nat.le_of_ble_eq_true rfl⟩) ⟨fun a U g mk q => by obtain ⟨q0, q1, qP, qK, qD, qN⟩ := q; exact ⟨q0, q1, qP, va_K.moved (u := U) (U := U.calling g mk a) (Vm.Alike.refl U.vm) qK, qD, qN.same rfl⟩, va_recv hK hP (ci := 14) (q0 := h0) rfl (Wd_ob kg_1 sg_1 (by decide)), fun U hU hW => ⟨rfl, by rw [hU], by rw [hU]; exact hP, va_K.moved hW.alike hK, hD.weaken (fun _ _ _ _ => trivial), hN.warm hW⟩⟩ rfl rfl hl.1 rfl (lv_room (Nat.le_of_ble_eq_true rfl)) dX14_all_99 ⟨Nat.le_of_ble_eq_true rfl, Nat.le_of_ble_eq_true rfl⟩) hS (fun q _ h => hFc q h) hFc (fun rr u t H_21 locs ht hvm hw hB hz1 hk1 hS2 => ?_)
      rw [hw]
      clear hw
      obtain ⟨hP1, -, hD1⟩ := hB
      rw [ht] at hP1
      replace hD := hD1.weaken (fun _ _ _ h => hFc _ h)
      replace hP := hP1
      replace hS := hS2
      clear hP1 hD1 hS2 hFc hfc hz1 hk1 hvm ht
      refine va_mmax hx hb (hml.trans hl.1.symm) hown (hts _ md_X14_all_8) (hts _ md_X14_all_9) (hts _ md_X14_all_10) (hts _ md_X14_all_11) (Nat.le_of_ble_eq_true rfl) (Nat.le_of_ble_eq_true rfl) (Nat.le_of_ble_eq_true rfl) (Nat.le_of_ble_eq_true rfl) dX14_all_102 ?_
      refine lv_topi (fun v_22 ev_22 => ?_)
      replace hf := lt_at ev_22 hf
      clear ev_22
      refine lv_istore_n (lv' := [(1, .int v_22), (2, .int p_9), (0, .ref (a h0))]) hx hb dX14_all_105 rfl hl (by decide) rfl (fun ls hl2 => ?_)
      replace hl := hl2
      clear hl2
      refine lv_iinc (v := (p_9 + 1)) (lv' := [(2, .int (p_9 + 1)), (1, .int v_22), (0, .ref (a h0))]) hx hb dX14_all_106 hl (k := 1) rfl rfl (by decide) rfl (fun ls hl2 => ?_)
      replace hl := hl2
      clear hl2
      refine lv_goto (tgt := 86) hx hb dX14_all_109 (by decide) ?_
      exact ih86 (z_19, v_22, (p_9 + 1)) ls H_21 locs ⟨lv_sub hl [0, 1, 2] rfl, hP, hD, hS⟩ hf
  · skip
    rw [if_neg c_7] at hf
    refine lv_aload_n hx hb dX14_all_18 rfl (lv_at hl 1 rfl) ?_
    obtain ⟨k_23, ek_23, hf⟩ := lnk_some hf
    refine va_get (D := (dC, dI)) (ci := 14) (v := .ref (a k_23)) (C := RX14) (T := TX14) (N := 11) hx hb hts iwd_X14_all_X14 hown hK hP h0 (Wd_ob kg_1 sg_1 (by decide)) rfl 7 (by decide) (hts _ md_X14_all_3) (fun _ h9 => h9) (fl_q rfl ek_23) dX14_all_19 ?_
    refine lv_iload_n hx hb dX14_all_22 rfl (lv_at hl 0 rfl) ?_
    refine lv_iload_n hx hb dX14_all_23 rfl (lv_at hl 0 rfl) ?_
    obtain ⟨g_24, hf⟩ := grd_some hf
    obtain ⟨kg_24, sg_24, ig_24⟩ := okA_at g_24
    refine va_iast hx hb hK hP hD hS k_23 1 (Wd_ai kg_24 sg_24) rfl ig_24 dX14_all_24 (fun H_25 locs hP2 hD2 hS2 => ?_)
    rw [Wd_ti sg_24] at hP2 hD2
    obtain ⟨z_26, ez_26⟩ : ∃ w, w = si z_5 k_23 p_4.toNatClampNeg p_4 := ⟨_, rfl⟩
    rw [← ez_26] at hP2 hD2
    replace hf := lt_at ez_26 hf
    clear ez_26
    replace hP := hP2
    replace hD := hD2
    replace hS := hS2
    clear hP2 hD2 hS2
    refine lv_aload_n hx hb dX14_all_25 rfl (lv_at hl 1 rfl) ?_
    obtain ⟨k_27, ek_27, hf⟩ := lnk_some hf
    refine va_get (D := (dC, dI)) (ci := 14) (v := .ref (a k_27)) (C := RX14) (T := TX14) (N := 11) hx hb hts iwd_X14_all_X14 hown hK hP h0 (Wd_ob kg_1 sg_1 (by decide)) rfl 8 (by decide) (hts _ md_X14_all_4) (fun _ h9 => h9) (fl_q rfl ek_27) dX14_all_26 ?_
    refine lv_iload_n hx hb dX14_all_29 rfl (lv_at hl 0 rfl) ?_
    refine lv_iconst (v := 1) hx hb dX14_all_30 (by decide) ?_
    obtain ⟨g_28, hf⟩ := grd_some hf
    obtain ⟨kg_28, sg_28, ig_28⟩ := okA_at g_28
    refine va_iast hx hb hK hP hD hS k_27 1 (Wd_ai kg_28 sg_28) rfl ig_28 dX14_all_31 (fun H_29 locs hP2 hD2 hS2 => ?_)
    rw [Wd_ti sg_28] at hP2 hD2
    obtain ⟨z_30, ez_30⟩ : ∃ w, w = si z_26 k_27 p_4.toNatClampNeg 1 := ⟨_, rfl⟩
    rw [← ez_30] at hP2 hD2
    replace hf := lt_at ez_30 hf
    clear ez_30
    replace hP := hP2
    replace hD := hD2
    replace hS := hS2
    clear hP2 hD2 hS2
    refine lv_aload_n hx hb dX14_all_32 rfl (lv_at hl 1 rfl) ?_
    obtain ⟨k_31, ek_31, hf⟩ := lnk_some hf
    refine va_get (D := (dC, dI)) (ci := 14) (v := .ref (a k_31)) (C := RX14) (T := TX14) (N := 11) hx hb hts iwd_X14_all_X14 hown hK hP h0 (Wd_ob kg_1 sg_1 (by decide)) rfl 10 (by decide) (hts _ md_X14_all_5) (fun _ h9 => h9) (fl_q rfl ek_31) dX14_all_33 ?_
    obtain ⟨g_33, hf⟩ := grd_some hf
    obtain ⟨kg_33, sg_33⟩ := okO_at g_33
    obtain ⟨z_32, _u, hfc, hf⟩ := cal_some hf
    have hFc := de_free hD hS hA
    refine va_callv (va_runV (As := []) (rest := []) ⟨hx, hb, hml, hown, hts⟩ (de_X12_begin l dC dI cy a sh n H_29.size F z_30 k_31 hfc) (cwV 0 hts gX14_all_X12_begin rfl rfl rfl (by decide +kernel) ⟨Nat.le_of_ble_eq_true rfl, Nat.le_of_ble_eq_true rfl⟩) ⟨fun a U g mk q => by obtain ⟨q0, q1, qP, qK, qD, qN⟩ := q; exact ⟨q0, q1, qP, va_K.moved (u := U) (U := U.calling g mk a) (Vm.Alike.refl U.vm) qK, qD, qN.same rfl⟩, va_recv hK hP (ci := 12) (q0 := k_31) rfl (Wd_ob kg_33 sg_33 (by decide)), fun U hU hW => ⟨rfl, by rw [hU], by rw [hU]; exact hP, va_K.moved hW.alike hK, hD.weaken (fun _ _ _ _ => trivial), hN.warm hW⟩⟩ rfl rfl hl.1 rfl (lv_room (Nat.le_of_ble_eq_true rfl)) dX14_all_36 ⟨Nat.le_of_ble_eq_true rfl, Nat.le_of_ble_eq_true rfl⟩) hS (fun q _ h => hFc q h) hFc (fun u t H_34 locs ht hvm hw hB hz1 hk1 hS2 => ?_)
    obtain ⟨hP1, -, hD1⟩ := hB
    rw [ht] at hP1
    replace hD := hD1.weaken (fun _ _ _ h => hFc _ h)
    replace hP := hP1
    replace hS := hS2
    clear hP1 hD1 hS2 hFc hfc hz1 hk1 hvm ht
    refine lv_aload_n hx hb dX14_all_39 rfl (lv_at hl 1 rfl) ?_
    obtain ⟨k_35, ek_35, hf⟩ := lnk_some hf
    refine va_get (D := (dC, dI)) (ci := 14) (v := .ref (a k_35)) (C := RX14) (T := TX14) (N := 11) hx hb hts iwd_X14_all_X14 hown hK hP h0 (Wd_ob kg_1 sg_1 (by decide)) rfl 10 (by decide) (hts _ md_X14_all_5) (fun _ h9 => h9) (fl_q rfl ek_35) dX14_all_40 ?_
    refine lv_iconst (v := 0) hx hb dX14_all_43 (by decide) ?_
    obtain ⟨g_37, hf⟩ := grd_some hf
    obtain ⟨kg_37, sg_37⟩ := okO_at g_37
    obtain ⟨z_36, _u, hfc, hf⟩ := cal_some hf
    have hFc := de_free hD hS hA
    refine va_callv (va_runV (As := [.int 0]) (rest := []) ⟨hx, hb, hml, hown, hts⟩ (de_X12_add l dC dI cy a sh n H_34.size F z_32 k_35 0 hfc) (cwV 1 hts gX14_all_X12_add rfl rfl rfl (by decide +kernel) ⟨Nat.le_of_ble_eq_true rfl, Nat.le_of_ble_eq_true rfl⟩) ⟨fun a U g mk q => by obtain ⟨q0, q1, qP, qK, qD, qN⟩ := q; exact ⟨q0, q1, qP, va_K.moved (u := U) (U := U.calling g mk a) (Vm.Alike.refl U.vm) qK, qD, qN.same rfl⟩, va_recv hK hP (ci := 12) (q0 := k_35) rfl (Wd_ob kg_37 sg_37 (by decide)), fun U hU hW => ⟨rfl, by rw [hU], by rw [hU]; exact hP, va_K.moved hW.alike hK, hD.weaken (fun _ _ _ _ => trivial), hN.warm hW⟩⟩ rfl rfl hl.1 rfl (lv_room (Nat.le_of_ble_eq_true rfl)) dX14_all_44 ⟨Nat.le_of_ble_eq_true rfl, Nat.le_of_ble_eq_true rfl⟩) hS (fun q _ h => hFc q h) hFc (fun u t H_38 locs ht hvm hw hB hz1 hk1 hS2 => ?_)
    obtain ⟨hP1, -, hD1⟩ := hB
    rw [ht] at hP1
    replace hD := hD1.weaken (fun _ _ _ h => hFc _ h)
    replace hP := hP1
    replace hS := hS2
    clear hP1 hD1 hS2 hFc hfc hz1 hk1 hvm ht
    refine lv_aload_n hx hb dX14_all_47 rfl (lv_at hl 1 rfl) ?_
    refine lv_aload_n hx hb dX14_all_48 rfl (lv_at hl 1 rfl) ?_
    obtain ⟨k_39, ek_39, hf⟩ := lnk_some hf
    refine va_get (D := (dC, dI)) (ci := 14) (v := .ref (a k_39)) (C := RX14) (T := TX14) (N := 11) hx hb hts iwd_X14_all_X14 hown hK hP h0 (Wd_ob kg_1 sg_1 (by decide)) rfl 0 (by decide) (hts _ md_X14_all_6) (fun _ h9 => h9) (fl_q rfl ek_39) dX14_all_49 ?_
    refine lv_iconst (v := 4) hx hb dX14_all_52 (by decide) ?_
    refine lv_iload_n hx hb dX14_all_53 rfl (lv_at hl 0 rfl) ?_
    refine lv_imul hx hb dX14_all_54 ?_
    refine lv_iconst (v := 1) hx hb dX14_all_55 (by decide) ?_
    obtain ⟨z_40, _u, hfc, hf⟩ := cal_some hf
    have hFc := de_free hD hS hA
    refine va_callv (va_runV (As := [.ref (a k_39), .int (4 * p_4), .int 1]) (rest := []) ⟨hx, hb, hml, hown, hts⟩ (de_X14_add l dC dI cy a sh n H_38.size F z_36 h0 k_39 (4 * p_4) 1 hfc) (cwV 3 hts gX14_all_X14_add rfl rfl rfl (by decide +kernel) ⟨Nat.le_of_ble_eq_true rfl, Nat.le_of_ble_eq_true rfl⟩) ⟨fun a U g mk q => by obtain ⟨q0, q1, qP, qK, qD, qN⟩ := q; exact ⟨q0, q1, qP, va_K.moved (u := U) (U := U.calling g mk a) (Vm.Alike.refl U.vm) qK, qD, qN.same rfl⟩, va_recv hK hP (ci := 14) (q0 := h0) rfl (Wd_ob kg_1 sg_1 (by decide)), fun U hU hW => ⟨rfl, by rw [hU], by rw [hU]; exact hP, va_K.moved hW.alike hK, hD.weaken (fun _ _ _ _ => trivial), hN.warm hW⟩⟩ rfl rfl hl.1 rfl (lv_room (Nat.le_of_ble_eq_true rfl)) dX14_all_56 ⟨Nat.le_of_ble_eq_true rfl, Nat.le_of_ble_eq_true rfl⟩) hS (fun q _ h => hFc q h) hFc (fun u t H_41 locs ht hvm hw hB hz1 hk1 hS2 => ?_)
    obtain ⟨hP1, -, hD1⟩ := hB
    rw [ht] at hP1
    replace hD := hD1.weaken (fun _ _ _ h => hFc _ h)
    replace hP := hP1
    replace hS := hS2
    clear hP1 hD1 hS2 hFc hfc hz1 hk1 hvm ht
    refine lv_aload_n hx hb dX14_all_59 rfl (lv_at hl 1 rfl) ?_
    refine lv_aload_n hx hb dX14_all_60 rfl (lv_at hl 1 rfl) ?_
    obtain ⟨k_42, ek_42, hf⟩ := lnk_some hf
    refine va_get (D := (dC, dI)) (ci := 14) (v := .ref (a k_42)) (C := RX14) (T := TX14) (N := 11) hx hb hts iwd_X14_all_X14 hown hK hP h0 (Wd_ob kg_1 sg_1 (by decide)) rfl 1 (by decide) (hts _ md_X14_all_7) (fun _ h9 => h9) (fl_q rfl ek_42) dX14_all_61 ?_
    refine lv_iconst (v := 4) hx hb dX14_all_64 (by decide) ?_
    refine lv_iload_n hx hb dX14_all_65 rfl (lv_at hl 0 rfl) ?_
    refine lv_imul hx hb dX14_all_66 ?_
    refine lv_iconst (v := 1) hx hb dX14_all_67 (by decide) ?_
    obtain ⟨z_43, _u, hfc, hf⟩ := cal_some hf
    have hFc := de_free hD hS hA
    refine va_callv (va_runV (As := [.ref (a k_42), .int (4 * p_4), .int 1]) (rest := []) ⟨hx, hb, hml, hown, hts⟩ (de_X14_add l dC dI cy a sh n H_41.size F z_40 h0 k_42 (4 * p_4) 1 hfc) (cwV 3 hts gX14_all_X14_add rfl rfl rfl (by decide +kernel) ⟨Nat.le_of_ble_eq_true rfl, Nat.le_of_ble_eq_true rfl⟩) ⟨fun a U g mk q => by obtain ⟨q0, q1, qP, qK, qD, qN⟩ := q; exact ⟨q0, q1, qP, va_K.moved (u := U) (U := U.calling g mk a) (Vm.Alike.refl U.vm) qK, qD, qN.same rfl⟩, va_recv hK hP (ci := 14) (q0 := h0) rfl (Wd_ob kg_1 sg_1 (by decide)), fun U hU hW => ⟨rfl, by rw [hU], by rw [hU]; exact hP, va_K.moved hW.alike hK, hD.weaken (fun _ _ _ _ => trivial), hN.warm hW⟩⟩ rfl rfl hl.1 rfl (lv_room (Nat.le_of_ble_eq_true rfl)) dX14_all_68 ⟨Nat.le_of_ble_eq_true rfl, Nat.le_of_ble_eq_true rfl⟩) hS (fun q _ h => hFc q h) hFc (fun u t H_44 locs ht hvm hw hB hz1 hk1 hS2 => ?_)
    obtain ⟨hP1, -, hD1⟩ := hB
    rw [ht] at hP1
    replace hD := hD1.weaken (fun _ _ _ h => hFc _ h)
    replace hP := hP1
    replace hS := hS2
    clear hP1 hD1 hS2 hFc hfc hz1 hk1 hvm ht
    refine lv_aload_n hx hb dX14_all_71 rfl (lv_at hl 1 rfl) ?_
    refine lv_iload_n hx hb dX14_all_72 rfl (lv_at hl 0 rfl) ?_
    obtain ⟨z_45, _u, hfc, hf⟩ := cal_some hf
    have hFc := de_free hD hS hA
    refine va_callv (va_runV (As := [.int p_4]) (rest := []) ⟨hx, hb, hml, hown, hts⟩ (de_X14_keepHash l dC dI cy a sh n H_44.size F sk z_43 h0 p_4 hfc) (cwV 1 hts gX14_all_X14_keepHash rfl rfl rfl (by decide +kernel) ⟨Nat.le_of_ble_eq_true rfl, Nat.le_of_ble_eq_true rfl⟩) ⟨fun a U g mk q => by obtain ⟨q0, q1, qP, qK, qD, qN, qS⟩ := q; exact ⟨q0, q1, qP, va_K.moved (u := U) (U := U.calling g mk a) (Vm.Alike.refl U.vm) qK, qD, qN.same rfl, SKs.moved (u := U) (U := U.calling g mk a) (Vm.Alike.refl U.vm) qS⟩, va_recv hK hP (ci := 14) (q0 := h0) rfl (Wd_ob kg_1 sg_1 (by decide)), fun U hU hW => ⟨rfl, by rw [hU], by rw [hU]; exact hP, va_K.moved hW.alike hK, hD.weaken (fun _ _ _ _ => trivial), hN.warm hW, by rw [hU]; exact ((hSK.kept hS.2.1).narrow hFc).moved hW.alike⟩⟩ rfl rfl hl.1 rfl (lv_room (Nat.le_of_ble_eq_true rfl)) dX14_all_73 ⟨Nat.le_of_ble_eq_true rfl, Nat.le_of_ble_eq_true rfl⟩) hS (fun q _ h => hFc q h) hFc (fun u t H_46 locs ht hvm hw hB hz1 hk1 hS2 => ?_)
    obtain ⟨hP1, -, hD1⟩ := hB
    rw [ht] at hP1
    replace hD := hD1.weaken (fun _ _ _ h => hFc _ h)
    replace hP := hP1
    replace hS := hS2
    clear hP1 hD1 hS2 hFc hfc hz1 hk1 hvm ht
    refine lv_iinc (v := (p_4 + 1)) (lv' := [(1, .int (p_4 + 1)), (0, .ref (a h0))]) hx hb dX14_all_76 hl (k := 0) rfl rfl (by decide) rfl (fun ls hl2 => ?_)
    replace hl := hl2
    clear hl2
    refine lv_goto (tgt := 10) hx hb dX14_all_79 (by decide) ?_
    exact ih10 (z_45, (p_4 + 1)) ls H_46 locs ⟨lv_sub hl [0, 1] rfl, hP, hD, hS⟩ hf

