set_option maxHeartbeats 4000000 in
set_option maxRecDepth 100000 in
theorem cc_166_X6_readByte (l : Launch) (dC : Nat → ClassId) (dI : Nat → Nat → Nat) (cy : Nat → ClassId) (sz : Nat) (cb : Nat) (a0 : Nat) (a1 : Nat) (a2 : Nat) (a3 : Nat) (a4 : Nat) (a5 : Nat) (a6 : Nat)  : Met l yX6_readByte wsX6_readByte ({ frames := 0, cells := 0, slots := 0, locals := 0 }) (va_Pc [.ref a0] (fun U => U.heap.size = sz ∧ va_P (dC, dI) vwCl [(a0, .inr (6, [.int 0, .int 0, .ref a1, .int 50, .int 0, .int 3, .int 1, .int 1, .ref a2])), (a1, .inr (5, [.ref cb, .int 81, .int 0, .ref a3, .int 8, .ref a4, .int 3, .ref a5, .int 1, .int 1, .ref a6, .int 6, .int 0, .int 1, .int 0]))] U.heap ∧ va_K (dC, dI) vwCl (TYS cy) U ∧ va_D (fun _ => True) [(a0, .inr (6, [.int 0, .int 0, .ref a1, .int 50, .int 0, .int 3, .int 1, .int 1, .ref a2])), (a1, .inr (5, [.ref cb, .int 81, .int 0, .ref a3, .int 8, .ref a4, .int 3, .ref a5, .int 1, .int 1, .ref a6, .int 6, .int 0, .int 1, .int 0]))] ∧ NK U ∧ SK cb (va_A [(a0, .inr (6, [.int 0, .int 0, .ref a1, .int 50, .int 0, .int 3, .int 1, .int 1, .ref a2])), (a1, .inr (5, [.ref cb, .int 81, .int 0, .ref a3, .int 8, .ref a4, .int 3, .ref a5, .int 1, .int 1, .ref a6, .int 6, .int 0, .int 1, .int 0]))] sz) U U.heap)) (va_Qi (fun (r : Int32) (u : Unit) => r = 0) (fun u t => va_P (dC, dI) vwCl [(a0, .inr (6, [.int 0, .int 0, .ref a1, .int 51, .int 0, .int 3, .int 1, .int 1, .ref a2])), (a1, .inr (5, [.ref cb, .int 81, .int 0, .ref a3, .int 8, .ref a4, .int 3, .ref a5, .int 1, .int 1, .ref a6, .int 6, .int 0, .int 1, .int 0]))] t.heap ∧ va_K (dC, dI) vwCl (TYS cy) t ∧ va_D (va_A [(a0, .inr (6, [.int 0, .int 0, .ref a1, .int 50, .int 0, .int 3, .int 1, .int 1, .ref a2])), (a1, .inr (5, [.ref cb, .int 81, .int 0, .ref a3, .int 8, .ref a4, .int 3, .ref a5, .int 1, .int 1, .ref a6, .int 6, .int 0, .int 1, .int 0]))] sz) [(a0, .inr (6, [.int 0, .int 0, .ref a1, .int 51, .int 0, .int 3, .int 1, .int 1, .ref a2])), (a1, .inr (5, [.ref cb, .int 81, .int 0, .ref a3, .int 8, .ref a4, .int 3, .ref a5, .int 1, .int 1, .ref a6, .int 6, .int 0, .int 1, .int 0]))]) (va_A [(a0, .inr (6, [.int 0, .int 0, .ref a1, .int 50, .int 0, .int 3, .int 1, .int 1, .ref a2])), (a1, .inr (5, [.ref cb, .int 81, .int 0, .ref a3, .int 8, .ref a4, .int 3, .ref a5, .int 1, .int 1, .ref a6, .int 6, .int 0, .int 1, .int 0]))] sz)) 0 0 (va_A [(a0, .inr (6, [.int 0, .int 0, .ref a1, .int 50, .int 0, .int 3, .int 1, .int 1, .ref a2])), (a1, .inr (5, [.ref cb, .int 81, .int 0, .ref a3, .int 8, .ref a4, .int 3, .ref a5, .int 1, .int 1, .ref a6, .int 6, .int 0, .int 1, .int 0]))] sz) := by
  refine Met.ofW (cc := cX6_readByte) (maxL := 1) (ret := (some .int)) (by decide) rfl ?_
  intro p e s m args below meth c s₁ B hml hv
  obtain ⟨rfl, hsz, hP, hK, hD0, hN, hSK⟩ := hv
  have hx := B.exec
  have hb := B.bytes
  have hr := B.returns
  have hts := atoms_spec (ws := wsX6_readByte) B.pre
  have hown : s.vm.findClass RX6 = some m.cls := findClass_of_methodNamed B.named
  have hlocks := B.notSynchronized
  subst hsz
  have hD := hD0.self (sz := s.heap.size)
  generalize hAe : va_A [(a0, .inr (6, [.int 0, .int 0, .ref a1, .int 50, .int 0, .int 3, .int 1, .int 1, .ref a2])), (a1, .inr (5, [.ref cb, .int 81, .int 0, .ref a3, .int 8, .ref a4, .int 3, .ref a5, .int 1, .int 1, .ref a6, .int 6, .int 0, .int 1, .int 0]))] s.heap.size = A at hD hSK ⊢
  have hA : ∀ q : Nat, s.heap.size ≤ q → A q := fun q h => by rw [← hAe]; exact Or.inr h
  have hS : va_S A s.heap s.heap [] := va_S.rf
  have hP : va_P (dC, dI) vwCl [(a0, .inr (6, [.int 0, .int 0, .ref a1, .int 50, .int 0, .int 3, .int 1, .int 1, .ref a2])), (a1, .inr (5, [.ref cb, .int 81, .int 0, .ref a3, .int 8, .ref a4, .int 3, .ref a5, .int 1, .int 1, .ref a6, .int 6, .int 0, .int 1, .int 0]))] s.heap := hP
  have hl := lv_entry ([.ref a0]) (n := 1) (Nat.le_of_ble_eq_true rfl)
  rw [lg_entry_eq]
  generalize (lg_sl ([.ref a0]) ++ List.replicate (1 - (lg_sl ([.ref a0])).length) Slot.unset).toArray = ls at hl ⊢
  replace hl : lv_has ls 1 [(0, .ref a0)] := hl
  refine lv_aload_n hx hb dX6_readByte_0 rfl (lv_at hl 0 rfl) ?_
  refine va_get (D := (dC, dI)) (ci := 6) (v := .int 0) (C := RX6) (T := TX6) (N := 9) hx hb hts iw_X6_readByte_X6 hown hK hP 0 rfl rfl 1 (by decide) (hts _ m_X6_readByte_1) (fun _ h9 => h9) rfl dX6_readByte_1 ?_
  refine lv_if_eq (tgt := 9) hx hb dX6_readByte_4 (by decide) (fun _ => ?_) (fun h => absurd (by decide) h)
  refine lv_aload_n hx hb dX6_readByte_9 rfl (lv_at hl 0 rfl) ?_
  refine va_get (D := (dC, dI)) (ci := 6) (v := .int 50) (C := RX6) (T := TX6) (N := 9) hx hb hts iw_X6_readByte_X6 hown hK hP 0 rfl rfl 3 (by decide) (hts _ m_X6_readByte_2) (fun _ h9 => h9) rfl dX6_readByte_10 ?_
  refine lv_aload_n hx hb dX6_readByte_13 rfl (lv_at hl 0 rfl) ?_
  refine va_get (D := (dC, dI)) (ci := 6) (v := .ref a1) (C := RX6) (T := TX6) (N := 9) hx hb hts iw_X6_readByte_X6 hown hK hP 0 rfl rfl 2 (by decide) (hts _ m_X6_readByte_3) (fun _ h9 => h9) rfl dX6_readByte_14 ?_
  refine va_get (D := (dC, dI)) (ci := 5) (v := .int 81) (C := RX5) (T := TX5) (N := 15) hx hb hts iw_X6_readByte_X5 hown hK hP 1 rfl rfl 1 (by decide) (hts _ m_X6_readByte_4) (fun _ h9 => h9) rfl dX6_readByte_17 ?_
  refine lv_icmp_lt (tgt := 41) hx hb dX6_readByte_20 (by decide) (fun _ => ?_) (fun h => absurd (by decide) h)
  refine lv_aload_n hx hb dX6_readByte_41 rfl (lv_at hl 0 rfl) ?_
  refine va_get (D := (dC, dI)) (ci := 6) (v := .ref a1) (C := RX6) (T := TX6) (N := 9) hx hb hts iw_X6_readByte_X6 hown hK hP 0 rfl rfl 2 (by decide) (hts _ m_X6_readByte_3) (fun _ h9 => h9) rfl dX6_readByte_42 ?_
  refine va_get (D := (dC, dI)) (ci := 5) (v := .ref cb) (C := RX5) (T := TX5) (N := 15) hx hb hts iw_X6_readByte_X5 hown hK hP 1 rfl rfl 0 (by decide) (hts _ m_X6_readByte_6) (fun _ h9 => h9) rfl dX6_readByte_45 ?_
  refine lv_aload_n hx hb dX6_readByte_48 rfl (lv_at hl 0 rfl) ?_
  refine lv_dup hx hb dX6_readByte_49 rfl ?_
  refine va_get (D := (dC, dI)) (ci := 6) (v := .int 50) (C := RX6) (T := TX6) (N := 9) hx hb hts iw_X6_readByte_X6 hown hK hP 0 rfl rfl 3 (by decide) (hts _ m_X6_readByte_2) (fun _ h9 => h9) rfl dX6_readByte_50 ?_
  refine lv_dup_x1 hx hb dX6_readByte_53 rfl rfl ?_
  refine lv_iconst (v := 1) hx hb dX6_readByte_54 (by decide) ?_
  refine lv_iadd hx hb dX6_readByte_55 ?_
  refine lv_topi (fun z_1 ez_1 => ?_)
  obtain rfl : z_1 = 51 := ez_1.trans (by decide)
  clear ez_1
  refine va_put (D := (dC, dI)) (ci := 6) (v := .int 51) (ty := .int) (C := RX6) (T := TX6) (N := 9) hx hb hts iw_X6_readByte_X6 tyX6 tyX6_ok nmX6 hown hK hP hD hS 0 rfl rfl 3 (by decide) (hts _ m_X6_readByte_2) (fun _ h9 => h9) rfl (by decide +kernel) rfl rfl (Nat.le_of_ble_eq_true rfl) dX6_readByte_56 (fun H_2 locs hP2 hD2 hS2 => ?_)
  replace hP : va_P (dC, dI) vwCl [(a0, .inr (6, [.int 0, .int 0, .ref a1, .int 51, .int 0, .int 3, .int 1, .int 1, .ref a2])), (a1, .inr (5, [.ref cb, .int 81, .int 0, .ref a3, .int 8, .ref a4, .int 3, .ref a5, .int 1, .int 1, .ref a6, .int 6, .int 0, .int 1, .int 0]))] H_2 := hP2
  replace hD : va_D A [(a0, .inr (6, [.int 0, .int 0, .ref a1, .int 51, .int 0, .int 3, .int 1, .int 1, .ref a2])), (a1, .inr (5, [.ref cb, .int 81, .int 0, .ref a3, .int 8, .ref a4, .int 3, .ref a5, .int 1, .int 1, .ref a6, .int 6, .int 0, .int 1, .int 0]))] := hD2
  replace hS := hS2
  clear hP2 hD2 hS2
  refine va_tb (v := .int 0) hx hb hSK.2 hS (by unfold vp_in; decide) rfl dX6_readByte_59 ?_
  refine lv_sipush (v := 255) hx hb dX6_readByte_60 (by decide) ?_
  refine lv_iand hx hb dX6_readByte_63 ?_
  refine lv_topi (fun z_3 ez_3 => ?_)
  obtain rfl : z_3 = 0 := ez_3.trans (by decide)
  clear ez_3
  exact W.iret hx hb hr (fun t ht hW => ⟨⟨0, (), rfl, rfl, by rw [ht]; exact hP, va_K.moved hW.alike hK, hD⟩, hS.F ht⟩) hS.2.2 dX6_readByte_64

set_option maxHeartbeats 4000000 in
set_option maxRecDepth 100000 in
theorem cc_164_X6_readOneType (l : Launch) (dC : Nat → ClassId) (dI : Nat → Nat → Nat) (cy : Nat → ClassId) (sz : Nat) (cb : Nat) (a0 : Nat) (a1 : Nat) (a2 : Nat) (a3 : Nat) (a4 : Nat) (a5 : Nat) (a6 : Nat)  : Met l yX6_readOneType wsX6_readOneType ({ frames := 1, cells := 0, slots := 0, locals := 20 }) (va_Pc [.ref a0, .int 1] (fun U => U.heap.size = sz ∧ va_P (dC, dI) vwCl [(a0, .inr (6, [.int 0, .int 0, .ref a1, .int 49, .int 0, .int 3, .int 1, .int 1, .ref a2])), (a1, .inr (5, [.ref cb, .int 81, .int 0, .ref a3, .int 8, .ref a4, .int 3, .ref a5, .int 1, .int 1, .ref a6, .int 6, .int 0, .int 1, .int 0]))] U.heap ∧ va_K (dC, dI) vwCl (TYS cy) U ∧ va_D (fun _ => True) [(a0, .inr (6, [.int 0, .int 0, .ref a1, .int 49, .int 0, .int 3, .int 1, .int 1, .ref a2])), (a1, .inr (5, [.ref cb, .int 81, .int 0, .ref a3, .int 8, .ref a4, .int 3, .ref a5, .int 1, .int 1, .ref a6, .int 6, .int 0, .int 1, .int 0]))] ∧ NK U ∧ SK cb (va_A [(a0, .inr (6, [.int 0, .int 0, .ref a1, .int 49, .int 0, .int 3, .int 1, .int 1, .ref a2])), (a1, .inr (5, [.ref cb, .int 81, .int 0, .ref a3, .int 8, .ref a4, .int 3, .ref a5, .int 1, .int 1, .ref a6, .int 6, .int 0, .int 1, .int 0]))] sz) U U.heap)) (va_Ql (fun (r : Int64) (u : Unit) => r = 1536) (fun u t => va_P (dC, dI) vwCl [(a0, .inr (6, [.int 0, .int 0, .ref a1, .int 51, .int 0, .int 3, .int 1, .int 1, .ref a2])), (a1, .inr (5, [.ref cb, .int 81, .int 0, .ref a3, .int 8, .ref a4, .int 3, .ref a5, .int 1, .int 1, .ref a6, .int 6, .int 0, .int 1, .int 0]))] t.heap ∧ va_K (dC, dI) vwCl (TYS cy) t ∧ va_D (va_A [(a0, .inr (6, [.int 0, .int 0, .ref a1, .int 49, .int 0, .int 3, .int 1, .int 1, .ref a2])), (a1, .inr (5, [.ref cb, .int 81, .int 0, .ref a3, .int 8, .ref a4, .int 3, .ref a5, .int 1, .int 1, .ref a6, .int 6, .int 0, .int 1, .int 0]))] sz) [(a0, .inr (6, [.int 0, .int 0, .ref a1, .int 51, .int 0, .int 3, .int 1, .int 1, .ref a2])), (a1, .inr (5, [.ref cb, .int 81, .int 0, .ref a3, .int 8, .ref a4, .int 3, .ref a5, .int 1, .int 1, .ref a6, .int 6, .int 0, .int 1, .int 0]))]) (va_A [(a0, .inr (6, [.int 0, .int 0, .ref a1, .int 49, .int 0, .int 3, .int 1, .int 1, .ref a2])), (a1, .inr (5, [.ref cb, .int 81, .int 0, .ref a3, .int 8, .ref a4, .int 3, .ref a5, .int 1, .int 1, .ref a6, .int 6, .int 0, .int 1, .int 0]))] sz)) 0 0 (va_A [(a0, .inr (6, [.int 0, .int 0, .ref a1, .int 49, .int 0, .int 3, .int 1, .int 1, .ref a2])), (a1, .inr (5, [.ref cb, .int 81, .int 0, .ref a3, .int 8, .ref a4, .int 3, .ref a5, .int 1, .int 1, .ref a6, .int 6, .int 0, .int 1, .int 0]))] sz) := by
  refine Met.ofW (cc := cX6_readOneType) (maxL := 7) (ret := (some .long)) (by decide) rfl ?_
  intro p e s m args below meth c s₁ B hml hv
  obtain ⟨rfl, hsz, hP, hK, hD0, hN, hSK⟩ := hv
  have hx := B.exec
  have hb := B.bytes
  have hr := B.returns
  have hts := atoms_spec (ws := wsX6_readOneType) B.pre
  have hown : s.vm.findClass RX6 = some m.cls := findClass_of_methodNamed B.named
  have hlocks := B.notSynchronized
  subst hsz
  have hD := hD0.self (sz := s.heap.size)
  generalize hAe : va_A [(a0, .inr (6, [.int 0, .int 0, .ref a1, .int 49, .int 0, .int 3, .int 1, .int 1, .ref a2])), (a1, .inr (5, [.ref cb, .int 81, .int 0, .ref a3, .int 8, .ref a4, .int 3, .ref a5, .int 1, .int 1, .ref a6, .int 6, .int 0, .int 1, .int 0]))] s.heap.size = A at hD hSK ⊢
  have hA : ∀ q : Nat, s.heap.size ≤ q → A q := fun q h => by rw [← hAe]; exact Or.inr h
  have hS : va_S A s.heap s.heap [] := va_S.rf
  have hP : va_P (dC, dI) vwCl [(a0, .inr (6, [.int 0, .int 0, .ref a1, .int 49, .int 0, .int 3, .int 1, .int 1, .ref a2])), (a1, .inr (5, [.ref cb, .int 81, .int 0, .ref a3, .int 8, .ref a4, .int 3, .ref a5, .int 1, .int 1, .ref a6, .int 6, .int 0, .int 1, .int 0]))] s.heap := hP
  have hl := lv_entry ([.ref a0, .int 1]) (n := 7) (Nat.le_of_ble_eq_true rfl)
  rw [lg_entry_eq]
  generalize (lg_sl ([.ref a0, .int 1]) ++ List.replicate (7 - (lg_sl ([.ref a0, .int 1])).length) Slot.unset).toArray = ls at hl ⊢
  replace hl : lv_has ls 7 [(0, .ref a0), (1, .int 1)] := hl
  refine lv_lconst (v := 0) hx hb dX6_readOneType_0 (by decide) ?_
  refine lv_lstore_n (lv' := [(2, .long 0), (0, .ref a0), (1, .int 1)]) hx hb dX6_readOneType_1 rfl hl (by decide) rfl (fun ls hl2 => ?_)
  replace hl := hl2
  clear hl2
  refine lv_aload_n hx hb dX6_readOneType_2 rfl (lv_at hl 1 rfl) ?_
  refine va_get (D := (dC, dI)) (ci := 6) (v := .int 49) (C := RX6) (T := TX6) (N := 9) hx hb hts iw_X6_readOneType_X6 hown hK hP 0 rfl rfl 3 (by decide) (hts _ m_X6_readOneType_1) (fun _ h9 => h9) rfl dX6_readOneType_3 ?_
  refine lv_istore (lv' := [(4, .int 49), (2, .long 0), (0, .ref a0), (1, .int 1)]) hx hb dX6_readOneType_6 hl (by decide) rfl (fun ls hl2 => ?_)
  replace hl := hl2
  clear hl2
  refine lv_aload_n hx hb dX6_readOneType_8 rfl (lv_at hl 2 rfl) ?_
  have hPc := hP.sub (ws' := [(a0, .inr (6, [.int 0, .int 0, .ref a1, .int 49, .int 0, .int 3, .int 1, .int 1, .ref a2])), (a1, .inr (5, [.ref cb, .int 81, .int 0, .ref a3, .int 8, .ref a4, .int 3, .ref a5, .int 1, .int 1, .ref a6, .int 6, .int 0, .int 1, .int 0]))]) [0, 1] rfl
  have hDc := hD.sub (ws' := [(a0, .inr (6, [.int 0, .int 0, .ref a1, .int 49, .int 0, .int 3, .int 1, .int 1, .ref a2])), (a1, .inr (5, [.ref cb, .int 81, .int 0, .ref a3, .int 8, .ref a4, .int 3, .ref a5, .int 1, .int 1, .ref a6, .int 6, .int 0, .int 1, .int 0]))]) [0, 1] (by decide) rfl
  have hFc := va_free (wc := [(a0, .inr (6, [.int 0, .int 0, .ref a1, .int 49, .int 0, .int 3, .int 1, .int 1, .ref a2])), (a1, .inr (5, [.ref cb, .int 81, .int 0, .ref a3, .int 8, .ref a4, .int 3, .ref a5, .int 1, .int 1, .ref a6, .int 6, .int 0, .int 1, .int 0]))]) hD hS hA [0, 1] rfl
  refine va_calli (va_runV (As := []) (rest := []) ⟨hx, hb, hml, hown, hts⟩ (cc_165_X6_readByte l dC dI cy s.heap.size cb a0 a1 a2 a3 a4 a5 a6) (cwV 0 hts gX6_readOneType_X6_readByte rfl rfl rfl (by decide +kernel) ⟨Nat.le_of_ble_eq_true rfl, Nat.le_of_ble_eq_true rfl⟩) ⟨fun a U g mk q => by obtain ⟨q0, q1, qP, qK, qD, qN, qS⟩ := q; exact ⟨q0, q1, qP, va_K.moved (u := U) (U := U.calling g mk a) (Vm.Alike.refl U.vm) qK, qD, qN.same rfl, SK.moved (u := U) (U := U.calling g mk a) (Vm.Alike.refl U.vm) qS⟩, va_recv hK hPc (ci := 6) (q0 := 0) rfl rfl, fun U hU hW => ⟨rfl, by rw [hU], by rw [hU]; exact hPc, va_K.moved hW.alike hK, hDc.weaken (fun _ _ _ _ => trivial), hN.warm hW, by rw [hU]; exact ((hSK.kept hS.2.1).narrow hFc).moved hW.alike⟩⟩ rfl rfl hl.1 rfl (lv_room (Nat.le_of_ble_eq_true rfl)) dX6_readOneType_9 ⟨Nat.le_of_ble_eq_true rfl, Nat.le_of_ble_eq_true rfl⟩) hS (fun q _ h => hFc q h) hFc (fun r_1 u t H_2 locs ht hvm hw hB hz1 hk1 hS2 => ?_)
  obtain ⟨hP1, hK1, hD1⟩ := hB
  rw [ht] at hP1
  obtain rfl := hw
  obtain ⟨hP2, hD2⟩ := va_join (wr := []) (w1 := [(a0, .inr (6, [.int 0, .int 0, .ref a1, .int 50, .int 0, .int 3, .int 1, .int 1, .ref a2])), (a1, .inr (5, [.ref cb, .int 81, .int 0, .ref a3, .int 8, .ref a4, .int 3, .ref a5, .int 1, .int 1, .ref a6, .int 6, .int 0, .int 1, .int 0]))]) hP hD [0, 1] [] rfl rfl (by decide) (by decide) hk1 hFc hP1 hD1
  replace hP : va_P (dC, dI) vwCl [(a0, .inr (6, [.int 0, .int 0, .ref a1, .int 50, .int 0, .int 3, .int 1, .int 1, .ref a2])), (a1, .inr (5, [.ref cb, .int 81, .int 0, .ref a3, .int 8, .ref a4, .int 3, .ref a5, .int 1, .int 1, .ref a6, .int 6, .int 0, .int 1, .int 0]))] H_2 := hP2
  replace hD : va_D A [(a0, .inr (6, [.int 0, .int 0, .ref a1, .int 50, .int 0, .int 3, .int 1, .int 1, .ref a2])), (a1, .inr (5, [.ref cb, .int 81, .int 0, .ref a3, .int 8, .ref a4, .int 3, .ref a5, .int 1, .int 1, .ref a6, .int 6, .int 0, .int 1, .int 0]))] := hD2
  replace hS := hS2
  clear hP2 hD2 hS2
  clear hPc hDc hFc hP1 hD1 hK1 hk1 hz1 hvm ht
  refine W.widen (k := 0) (n := 0) (Nat.le_of_ble_eq_true rfl) (Nat.le_of_ble_eq_true rfl) ?_
  refine lv_istore (lv' := [(5, .int 6), (4, .int 49), (2, .long 0), (0, .ref a0), (1, .int 1)]) hx hb dX6_readOneType_12 hl (by decide) rfl (fun ls hl2 => ?_)
  replace hl := hl2
  clear hl2
  refine lv_iload_n hx hb dX6_readOneType_14 rfl (lv_at hl 4 rfl) ?_
  refine lv_if_eq (tgt := 48) hx hb dX6_readOneType_15 (by decide) (fun h => absurd h (by decide)) (fun _ => ?_)
  refine lv_iload hx hb dX6_readOneType_18 (lv_at hl 0 rfl) ?_
  refine lv_bipush (v := 8) hx hb dX6_readOneType_20 (by decide) ?_
  refine lv_icmp_eq (tgt := 32) hx hb dX6_readOneType_22 (by decide) (fun h => absurd h (by decide)) (fun _ => ?_)
  refine lv_iload hx hb dX6_readOneType_25 (lv_at hl 0 rfl) ?_
  refine lv_bipush (v := 9) hx hb dX6_readOneType_27 (by decide) ?_
  refine lv_icmp_ne (tgt := 48) hx hb dX6_readOneType_29 (by decide) (fun _ => ?_) (fun h => absurd h (by decide))
  refine lv_iconst (v := 0) hx hb dX6_readOneType_48 (by decide) ?_
  refine lv_istore (lv' := [(6, .int 0), (5, .int 6), (4, .int 49), (2, .long 0), (0, .ref a0), (1, .int 1)]) hx hb dX6_readOneType_49 hl (by decide) rfl (fun ls hl2 => ?_)
  replace hl := hl2
  clear hl2
  refine lv_iload hx hb dX6_readOneType_51 (lv_at hl 0 rfl) ?_
  refine lv_iconst (v := 4) hx hb dX6_readOneType_53 (by decide) ?_
  refine lv_icmp_ge (tgt := 91) hx hb dX6_readOneType_54 (by decide) (fun h => absurd h (by decide)) (fun _ => ?_)
  refine lv_iload hx hb dX6_readOneType_57 (lv_at hl 1 rfl) ?_
  refine lv_bipush (v := 7) hx hb dX6_readOneType_59 (by decide) ?_
  refine lv_icmp_ne (tgt := 91) hx hb dX6_readOneType_61 (by decide) (fun _ => ?_) (fun h => absurd h (by decide))
  refine lv_iload hx hb dX6_readOneType_91 (lv_at hl 1 rfl) ?_
  refine lv_iconst (v := 1) hx hb dX6_readOneType_93 (by decide) ?_
  refine lv_icmp_lt (tgt := 104) hx hb dX6_readOneType_94 (by decide) (fun h => absurd h (by decide)) (fun _ => ?_)
  refine lv_iload hx hb dX6_readOneType_97 (lv_at hl 1 rfl) ?_
  refine lv_bipush (v := 6) hx hb dX6_readOneType_99 (by decide) ?_
  refine lv_icmp_le (tgt := 111) hx hb dX6_readOneType_101 (by decide) (fun _ => ?_) (fun h => absurd (by decide) h)
  refine lv_lload_n hx hb dX6_readOneType_111 rfl (lv_at hl 3 rfl) ?_
  refine lv_bipush (v := 8) hx hb dX6_readOneType_112 (by decide) ?_
  refine lv_lshl (v := 0) hx hb dX6_readOneType_114 (by decide) ?_
  refine lv_iload hx hb dX6_readOneType_115 (lv_at hl 1 rfl) ?_
  refine lv_i2l (v := 6) hx hb dX6_readOneType_117 (by decide) ?_
  refine lv_lor hx hb dX6_readOneType_118 ?_
  refine lv_topl (fun z_3 ez_3 => ?_)
  obtain rfl : z_3 = 6 := ez_3.trans (by decide)
  clear ez_3
  refine lv_lstore_n (lv' := [(2, .long 6), (6, .int 0), (5, .int 6), (4, .int 49), (0, .ref a0), (1, .int 1)]) hx hb dX6_readOneType_119 rfl hl (by decide) rfl (fun ls hl2 => ?_)
  replace hl := hl2
  clear hl2
  refine lv_iload hx hb dX6_readOneType_120 (lv_at hl 2 rfl) ?_
  refine lv_bipush (v := 6) hx hb dX6_readOneType_122 (by decide) ?_
  refine lv_icmp_eq (tgt := 129) hx hb dX6_readOneType_124 (by decide) (fun _ => ?_) (fun h => absurd (by decide) h)
  refine lv_aload_n hx hb dX6_readOneType_129 rfl (lv_at hl 4 rfl) ?_
  refine va_get (D := (dC, dI)) (ci := 6) (v := .int 50) (C := RX6) (T := TX6) (N := 9) hx hb hts iw_X6_readOneType_X6 hown hK hP 0 rfl rfl 3 (by decide) (hts _ m_X6_readOneType_1) (fun _ h9 => h9) rfl dX6_readOneType_130 ?_
  refine lv_istore (lv' := [(4, .int 50), (2, .long 6), (6, .int 0), (5, .int 6), (0, .ref a0), (1, .int 1)]) hx hb dX6_readOneType_133 hl (by decide) rfl (fun ls hl2 => ?_)
  replace hl := hl2
  clear hl2
  refine lv_aload_n hx hb dX6_readOneType_135 rfl (lv_at hl 4 rfl) ?_
  have hPc := hP.sub (ws' := [(a0, .inr (6, [.int 0, .int 0, .ref a1, .int 50, .int 0, .int 3, .int 1, .int 1, .ref a2])), (a1, .inr (5, [.ref cb, .int 81, .int 0, .ref a3, .int 8, .ref a4, .int 3, .ref a5, .int 1, .int 1, .ref a6, .int 6, .int 0, .int 1, .int 0]))]) [0, 1] rfl
  have hDc := hD.sub (ws' := [(a0, .inr (6, [.int 0, .int 0, .ref a1, .int 50, .int 0, .int 3, .int 1, .int 1, .ref a2])), (a1, .inr (5, [.ref cb, .int 81, .int 0, .ref a3, .int 8, .ref a4, .int 3, .ref a5, .int 1, .int 1, .ref a6, .int 6, .int 0, .int 1, .int 0]))]) [0, 1] (by decide) rfl
  have hFc := va_free (wc := [(a0, .inr (6, [.int 0, .int 0, .ref a1, .int 50, .int 0, .int 3, .int 1, .int 1, .ref a2])), (a1, .inr (5, [.ref cb, .int 81, .int 0, .ref a3, .int 8, .ref a4, .int 3, .ref a5, .int 1, .int 1, .ref a6, .int 6, .int 0, .int 1, .int 0]))]) hD hS hA [0, 1] rfl
  refine va_calli (va_runV (As := []) (rest := []) ⟨hx, hb, hml, hown, hts⟩ (cc_166_X6_readByte l dC dI cy H_2.size cb a0 a1 a2 a3 a4 a5 a6) (cwV 0 hts gX6_readOneType_X6_readByte rfl rfl rfl (by decide +kernel) ⟨Nat.le_of_ble_eq_true rfl, Nat.le_of_ble_eq_true rfl⟩) ⟨fun a U g mk q => by obtain ⟨q0, q1, qP, qK, qD, qN, qS⟩ := q; exact ⟨q0, q1, qP, va_K.moved (u := U) (U := U.calling g mk a) (Vm.Alike.refl U.vm) qK, qD, qN.same rfl, SK.moved (u := U) (U := U.calling g mk a) (Vm.Alike.refl U.vm) qS⟩, va_recv hK hPc (ci := 6) (q0 := 0) rfl rfl, fun U hU hW => ⟨rfl, by rw [hU], by rw [hU]; exact hPc, va_K.moved hW.alike hK, hDc.weaken (fun _ _ _ _ => trivial), hN.warm hW, by rw [hU]; exact ((hSK.kept hS.2.1).narrow hFc).moved hW.alike⟩⟩ rfl rfl hl.1 rfl (lv_room (Nat.le_of_ble_eq_true rfl)) dX6_readOneType_136 ⟨Nat.le_of_ble_eq_true rfl, Nat.le_of_ble_eq_true rfl⟩) hS (fun q _ h => hFc q h) hFc (fun r_4 u t H_5 locs ht hvm hw hB hz1 hk1 hS2 => ?_)
  obtain ⟨hP1, hK1, hD1⟩ := hB
  rw [ht] at hP1
  obtain rfl := hw
  obtain ⟨hP2, hD2⟩ := va_join (wr := []) (w1 := [(a0, .inr (6, [.int 0, .int 0, .ref a1, .int 51, .int 0, .int 3, .int 1, .int 1, .ref a2])), (a1, .inr (5, [.ref cb, .int 81, .int 0, .ref a3, .int 8, .ref a4, .int 3, .ref a5, .int 1, .int 1, .ref a6, .int 6, .int 0, .int 1, .int 0]))]) hP hD [0, 1] [] rfl rfl (by decide) (by decide) hk1 hFc hP1 hD1
  replace hP : va_P (dC, dI) vwCl [(a0, .inr (6, [.int 0, .int 0, .ref a1, .int 51, .int 0, .int 3, .int 1, .int 1, .ref a2])), (a1, .inr (5, [.ref cb, .int 81, .int 0, .ref a3, .int 8, .ref a4, .int 3, .ref a5, .int 1, .int 1, .ref a6, .int 6, .int 0, .int 1, .int 0]))] H_5 := hP2
  replace hD : va_D A [(a0, .inr (6, [.int 0, .int 0, .ref a1, .int 51, .int 0, .int 3, .int 1, .int 1, .ref a2])), (a1, .inr (5, [.ref cb, .int 81, .int 0, .ref a3, .int 8, .ref a4, .int 3, .ref a5, .int 1, .int 1, .ref a6, .int 6, .int 0, .int 1, .int 0]))] := hD2
  replace hS := hS2
  clear hP2 hD2 hS2
  clear hPc hDc hFc hP1 hD1 hK1 hk1 hz1 hvm ht
  refine W.widen (k := 0) (n := 0) (Nat.le_of_ble_eq_true rfl) (Nat.le_of_ble_eq_true rfl) ?_
  refine lv_istore (lv' := [(6, .int 0), (4, .int 50), (2, .long 6), (5, .int 6), (0, .ref a0), (1, .int 1)]) hx hb dX6_readOneType_139 hl (by decide) rfl (fun ls hl2 => ?_)
  replace hl := hl2
  clear hl2
  refine lv_aload_n hx hb dX6_readOneType_141 rfl (lv_at hl 4 rfl) ?_
  refine va_get (D := (dC, dI)) (ci := 6) (v := .int 0) (C := RX6) (T := TX6) (N := 9) hx hb hts iw_X6_readOneType_X6 hown hK hP 0 rfl rfl 4 (by decide) (hts _ m_X6_readOneType_2) (fun _ h9 => h9) rfl dX6_readOneType_142 ?_
  refine lv_if_eq (tgt := 168) hx hb dX6_readOneType_145 (by decide) (fun _ => ?_) (fun h => absurd (by decide) h)
  refine lv_lload_n hx hb dX6_readOneType_168 rfl (lv_at hl 2 rfl) ?_
  refine lv_bipush (v := 8) hx hb dX6_readOneType_169 (by decide) ?_
  refine lv_lshl (v := 1536) hx hb dX6_readOneType_171 (by decide) ?_
  refine lv_iload hx hb dX6_readOneType_172 (lv_at hl 0 rfl) ?_
  refine lv_i2l (v := 0) hx hb dX6_readOneType_174 (by decide) ?_
  refine lv_lor hx hb dX6_readOneType_175 ?_
  refine lv_topl (fun z_6 ez_6 => ?_)
  obtain rfl : z_6 = 1536 := ez_6.trans (by decide)
  clear ez_6
  exact W.lret hx hb hr (fun t ht hW => ⟨⟨1536, (), rfl, rfl, by rw [ht]; exact hP, va_K.moved hW.alike hK, hD⟩, hS.F ht⟩) hS.2.2 dX6_readOneType_176

set_option maxHeartbeats 4000000 in
set_option maxRecDepth 100000 in
theorem cc_167_X5_addType (l : Launch) (dC : Nat → ClassId) (dI : Nat → Nat → Nat) (cy : Nat → ClassId) (sz : Nat) (cb : Nat) (a0 : Nat) (a1 : Nat) (a2 : Nat) (a3 : Nat) (a4 : Nat) (f0 : Nat → Int64) (f0_0 : f0 0 = 3) : Met l yX5_addType wsX5_addType ({ frames := 0, cells := 0, slots := 0, locals := 0 }) (va_Pc [.ref a0, .long 1536] (fun U => U.heap.size = sz ∧ va_P (dC, dI) vwCl [(a0, .inr (5, [.ref cb, .int 81, .int 0, .ref a1, .int 8, .ref a2, .int 3, .ref a3, .int 1, .int 1, .ref a4, .int 6, .int 0, .int 1, .int 0])), (a1, .inl (cy 2, 2048, .inr (.inl f0)))] U.heap ∧ va_K (dC, dI) vwCl (TYS cy) U ∧ va_D (fun _ => True) [(a0, .inr (5, [.ref cb, .int 81, .int 0, .ref a1, .int 8, .ref a2, .int 3, .ref a3, .int 1, .int 1, .ref a4, .int 6, .int 0, .int 1, .int 0])), (a1, .inl (cy 2, 2048, .inr (.inl f0)))] ∧ NK U ∧ SK cb (va_A [(a0, .inr (5, [.ref cb, .int 81, .int 0, .ref a1, .int 8, .ref a2, .int 3, .ref a3, .int 1, .int 1, .ref a4, .int 6, .int 0, .int 1, .int 0])), (a1, .inl (cy 2, 2048, .inr (.inl f0)))] sz) U U.heap)) (va_Qv (fun u : (Nat → Int64) => match u with | (u0) => u0 0 = 3) (fun u t => match u with | (u0) => va_P (dC, dI) vwCl [(a0, .inr (5, [.ref cb, .int 81, .int 0, .ref a1, .int 9, .ref a2, .int 3, .ref a3, .int 1, .int 1, .ref a4, .int 6, .int 0, .int 1, .int 0])), (a1, .inl (cy 2, 2048, .inr (.inl u0)))] t.heap ∧ va_K (dC, dI) vwCl (TYS cy) t ∧ va_D (va_A [(a0, .inr (5, [.ref cb, .int 81, .int 0, .ref a1, .int 8, .ref a2, .int 3, .ref a3, .int 1, .int 1, .ref a4, .int 6, .int 0, .int 1, .int 0])), (a1, .inl (cy 2, 2048, .inr (.inl f0)))] sz) [(a0, .inr (5, [.ref cb, .int 81, .int 0, .ref a1, .int 9, .ref a2, .int 3, .ref a3, .int 1, .int 1, .ref a4, .int 6, .int 0, .int 1, .int 0])), (a1, .inl (cy 2, 2048, .inr (.inl u0)))]) (va_A [(a0, .inr (5, [.ref cb, .int 81, .int 0, .ref a1, .int 8, .ref a2, .int 3, .ref a3, .int 1, .int 1, .ref a4, .int 6, .int 0, .int 1, .int 0])), (a1, .inl (cy 2, 2048, .inr (.inl f0)))] sz)) 0 0 (va_A [(a0, .inr (5, [.ref cb, .int 81, .int 0, .ref a1, .int 8, .ref a2, .int 3, .ref a3, .int 1, .int 1, .ref a4, .int 6, .int 0, .int 1, .int 0])), (a1, .inl (cy 2, 2048, .inr (.inl f0)))] sz) := by
  refine Met.ofW (cc := cX5_addType) (maxL := 3) (ret := none) (by decide) rfl ?_
  intro p e s m args below meth c s₁ B hml hv
  obtain ⟨rfl, hsz, hP, hK, hD0, hN, hSK⟩ := hv
  have hx := B.exec
  have hb := B.bytes
  have hr := B.returns
  have hts := atoms_spec (ws := wsX5_addType) B.pre
  have hown : s.vm.findClass RX5 = some m.cls := findClass_of_methodNamed B.named
  have hlocks := B.notSynchronized
  subst hsz
  have hD := hD0.self (sz := s.heap.size)
  generalize hAe : va_A [(a0, .inr (5, [.ref cb, .int 81, .int 0, .ref a1, .int 8, .ref a2, .int 3, .ref a3, .int 1, .int 1, .ref a4, .int 6, .int 0, .int 1, .int 0])), (a1, .inl (cy 2, 2048, .inr (.inl f0)))] s.heap.size = A at hD hSK ⊢
  have hA : ∀ q : Nat, s.heap.size ≤ q → A q := fun q h => by rw [← hAe]; exact Or.inr h
  have hS : va_S A s.heap s.heap [] := va_S.rf
  have hP : va_P (dC, dI) vwCl [(a0, .inr (5, [.ref cb, .int 81, .int 0, .ref a1, .int 8, .ref a2, .int 3, .ref a3, .int 1, .int 1, .ref a4, .int 6, .int 0, .int 1, .int 0])), (a1, .inl (cy 2, 2048, .inr (.inl f0)))] s.heap := hP
  have hl := lv_entry ([.ref a0, .long 1536]) (n := 3) (Nat.le_of_ble_eq_true rfl)
  rw [lg_entry_eq]
  generalize (lg_sl ([.ref a0, .long 1536]) ++ List.replicate (3 - (lg_sl ([.ref a0, .long 1536])).length) Slot.unset).toArray = ls at hl ⊢
  replace hl : lv_has ls 3 [(0, .ref a0), (1, .long 1536)] := hl
  refine lv_aload_n hx hb dX5_addType_0 rfl (lv_at hl 0 rfl) ?_
  refine va_get (D := (dC, dI)) (ci := 5) (v := .int 8) (C := RX5) (T := TX5) (N := 15) hx hb hts iw_X5_addType_X5 hown hK hP 0 rfl rfl 4 (by decide) (hts _ m_X5_addType_1) (fun _ h9 => h9) rfl dX5_addType_1 ?_
  refine lv_aload_n hx hb dX5_addType_4 rfl (lv_at hl 0 rfl) ?_
  refine va_get (D := (dC, dI)) (ci := 5) (v := .ref a1) (C := RX5) (T := TX5) (N := 15) hx hb hts iw_X5_addType_X5 hown hK hP 0 rfl rfl 3 (by decide) (hts _ m_X5_addType_2) (fun _ h9 => h9) rfl dX5_addType_5 ?_
  refine va_alen (v := 2048) hx hb hK hP 1 2 rfl rfl rfl dX5_addType_8 ?_
  refine lv_icmp_ge (tgt := 29) hx hb dX5_addType_9 (by decide) (fun h => absurd h (by decide)) (fun _ => ?_)
  refine lv_aload_n hx hb dX5_addType_12 rfl (lv_at hl 0 rfl) ?_
  refine va_get (D := (dC, dI)) (ci := 5) (v := .ref a1) (C := RX5) (T := TX5) (N := 15) hx hb hts iw_X5_addType_X5 hown hK hP 0 rfl rfl 3 (by decide) (hts _ m_X5_addType_2) (fun _ h9 => h9) rfl dX5_addType_13 ?_
  refine lv_aload_n hx hb dX5_addType_16 rfl (lv_at hl 0 rfl) ?_
  refine lv_dup hx hb dX5_addType_17 rfl ?_
  refine va_get (D := (dC, dI)) (ci := 5) (v := .int 8) (C := RX5) (T := TX5) (N := 15) hx hb hts iw_X5_addType_X5 hown hK hP 0 rfl rfl 4 (by decide) (hts _ m_X5_addType_1) (fun _ h9 => h9) rfl dX5_addType_18 ?_
  refine lv_dup_x1 hx hb dX5_addType_21 rfl rfl ?_
  refine lv_iconst (v := 1) hx hb dX5_addType_22 (by decide) ?_
  refine lv_iadd hx hb dX5_addType_23 ?_
  refine lv_topi (fun z_1 ez_1 => ?_)
  obtain rfl : z_1 = 9 := ez_1.trans (by decide)
  clear ez_1
  refine va_put (D := (dC, dI)) (ci := 5) (v := .int 9) (ty := .int) (C := RX5) (T := TX5) (N := 15) hx hb hts iw_X5_addType_X5 tyX5 tyX5_ok nmX5 hown hK hP hD hS 0 rfl rfl 4 (by decide) (hts _ m_X5_addType_1) (fun _ h9 => h9) rfl (by decide +kernel) rfl rfl (Nat.le_of_ble_eq_true rfl) dX5_addType_24 (fun H_2 locs hP2 hD2 hS2 => ?_)
  replace hP : va_P (dC, dI) vwCl [(a0, .inr (5, [.ref cb, .int 81, .int 0, .ref a1, .int 9, .ref a2, .int 3, .ref a3, .int 1, .int 1, .ref a4, .int 6, .int 0, .int 1, .int 0])), (a1, .inl (cy 2, 2048, .inr (.inl f0)))] H_2 := hP2
  replace hD : va_D A [(a0, .inr (5, [.ref cb, .int 81, .int 0, .ref a1, .int 9, .ref a2, .int 3, .ref a3, .int 1, .int 1, .ref a4, .int 6, .int 0, .int 1, .int 0])), (a1, .inl (cy 2, 2048, .inr (.inl f0)))] := hD2
  replace hS := hS2
  clear hP2 hD2 hS2
  refine lv_lload_n hx hb dX5_addType_27 rfl (lv_at hl 1 rfl) ?_
  refine va_last hx hb hK hP hD hS 1 2 rfl rfl (by unfold vp_in; decide) dX5_addType_28 (fun H_4 locs hP2 hD2 hS2 => ?_)
  replace hP : va_P (dC, dI) vwCl [(a0, .inr (5, [.ref cb, .int 81, .int 0, .ref a1, .int 9, .ref a2, .int 3, .ref a3, .int 1, .int 1, .ref a4, .int 6, .int 0, .int 1, .int 0])), (a1, .inl (cy 2, 2048, .inr (.inl (vp_updL f0 8 1536))))] H_4 := hP2
  replace hD : va_D A [(a0, .inr (5, [.ref cb, .int 81, .int 0, .ref a1, .int 9, .ref a2, .int 3, .ref a3, .int 1, .int 1, .ref a4, .int 6, .int 0, .int 1, .int 0])), (a1, .inl (cy 2, 2048, .inr (.inl (vp_updL f0 8 1536))))] := hD2
  replace hS := hS2
  clear hP2 hD2 hS2
  obtain ⟨g_3, eg_3⟩ : ∃ z, vp_updL f0 8 1536 = z := ⟨_, rfl⟩
  rw [eg_3] at hP hD
  have kg_3_0 : g_3 0 = 3 := by rw [← eg_3, pk_uLn (by decide)]; exact f0_0
  exact W.vret hx hb hr (fun t ht hW => ⟨⟨(g_3), rfl, kg_3_0, by rw [ht]; exact hP, va_K.moved hW.alike hK, hD⟩, hS.F ht⟩) hS.2.2 dX5_addType_29

set_option maxHeartbeats 4000000 in
set_option maxRecDepth 100000 in
theorem cc_159_X6_readTypes (l : Launch) (dC : Nat → ClassId) (dI : Nat → Nat → Nat) (cy : Nat → ClassId) (sz : Nat) (cb : Nat) (a0 : Nat) (a1 : Nat) (a2 : Nat) (a3 : Nat) (a4 : Nat) (a5 : Nat) (a6 : Nat) (f0 : Nat → Int64) (f0_0 : f0 0 = 3) : Met l yX6_readTypes wsX6_readTypes ({ frames := 2, cells := 0, slots := 0, locals := 46 }) (va_Pc [.ref a0, .int 2, .int 1] (fun U => U.heap.size = sz ∧ va_P (dC, dI) vwCl [(a0, .inr (6, [.int 0, .int 0, .ref a1, .int 47, .int 0, .int 3, .int 1, .int 1, .ref a3])), (a1, .inr (5, [.ref cb, .int 81, .int 0, .ref a2, .int 7, .ref a4, .int 3, .ref a5, .int 1, .int 1, .ref a6, .int 6, .int 0, .int 1, .int 0])), (a2, .inl (cy 2, 2048, .inr (.inl f0)))] U.heap ∧ va_K (dC, dI) vwCl (TYS cy) U ∧ va_D (fun _ => True) [(a0, .inr (6, [.int 0, .int 0, .ref a1, .int 47, .int 0, .int 3, .int 1, .int 1, .ref a3])), (a1, .inr (5, [.ref cb, .int 81, .int 0, .ref a2, .int 7, .ref a4, .int 3, .ref a5, .int 1, .int 1, .ref a6, .int 6, .int 0, .int 1, .int 0])), (a2, .inl (cy 2, 2048, .inr (.inl f0)))] ∧ NK U ∧ SK cb (va_A [(a0, .inr (6, [.int 0, .int 0, .ref a1, .int 47, .int 0, .int 3, .int 1, .int 1, .ref a3])), (a1, .inr (5, [.ref cb, .int 81, .int 0, .ref a2, .int 7, .ref a4, .int 3, .ref a5, .int 1, .int 1, .ref a6, .int 6, .int 0, .int 1, .int 0])), (a2, .inl (cy 2, 2048, .inr (.inl f0)))] sz) U U.heap)) (va_Qv (fun u : (Nat → Int64) => match u with | (u0) => u0 0 = 3) (fun u t => match u with | (u0) => va_P (dC, dI) vwCl [(a0, .inr (6, [.int 0, .int 0, .ref a1, .int 51, .int 0, .int 3, .int 1, .int 1, .ref a3])), (a1, .inr (5, [.ref cb, .int 81, .int 0, .ref a2, .int 9, .ref a4, .int 3, .ref a5, .int 1, .int 1, .ref a6, .int 6, .int 0, .int 1, .int 0])), (a2, .inl (cy 2, 2048, .inr (.inl u0)))] t.heap ∧ va_K (dC, dI) vwCl (TYS cy) t ∧ va_D (va_A [(a0, .inr (6, [.int 0, .int 0, .ref a1, .int 47, .int 0, .int 3, .int 1, .int 1, .ref a3])), (a1, .inr (5, [.ref cb, .int 81, .int 0, .ref a2, .int 7, .ref a4, .int 3, .ref a5, .int 1, .int 1, .ref a6, .int 6, .int 0, .int 1, .int 0])), (a2, .inl (cy 2, 2048, .inr (.inl f0)))] sz) [(a0, .inr (6, [.int 0, .int 0, .ref a1, .int 51, .int 0, .int 3, .int 1, .int 1, .ref a3])), (a1, .inr (5, [.ref cb, .int 81, .int 0, .ref a2, .int 9, .ref a4, .int 3, .ref a5, .int 1, .int 1, .ref a6, .int 6, .int 0, .int 1, .int 0])), (a2, .inl (cy 2, 2048, .inr (.inl u0)))]) (va_A [(a0, .inr (6, [.int 0, .int 0, .ref a1, .int 47, .int 0, .int 3, .int 1, .int 1, .ref a3])), (a1, .inr (5, [.ref cb, .int 81, .int 0, .ref a2, .int 7, .ref a4, .int 3, .ref a5, .int 1, .int 1, .ref a6, .int 6, .int 0, .int 1, .int 0])), (a2, .inl (cy 2, 2048, .inr (.inl f0)))] sz)) 0 0 (va_A [(a0, .inr (6, [.int 0, .int 0, .ref a1, .int 47, .int 0, .int 3, .int 1, .int 1, .ref a3])), (a1, .inr (5, [.ref cb, .int 81, .int 0, .ref a2, .int 7, .ref a4, .int 3, .ref a5, .int 1, .int 1, .ref a6, .int 6, .int 0, .int 1, .int 0])), (a2, .inl (cy 2, 2048, .inr (.inl f0)))] sz) := by
  refine Met.ofW (cc := cX6_readTypes) (maxL := 4) (ret := none) (by decide) rfl ?_
  intro p e s m args below meth c s₁ B hml hv
  obtain ⟨rfl, hsz, hP, hK, hD0, hN, hSK⟩ := hv
  have hx := B.exec
  have hb := B.bytes
  have hr := B.returns
  have hts := atoms_spec (ws := wsX6_readTypes) B.pre
  have hown : s.vm.findClass RX6 = some m.cls := findClass_of_methodNamed B.named
  have hlocks := B.notSynchronized
  subst hsz
  have hD := hD0.self (sz := s.heap.size)
  generalize hAe : va_A [(a0, .inr (6, [.int 0, .int 0, .ref a1, .int 47, .int 0, .int 3, .int 1, .int 1, .ref a3])), (a1, .inr (5, [.ref cb, .int 81, .int 0, .ref a2, .int 7, .ref a4, .int 3, .ref a5, .int 1, .int 1, .ref a6, .int 6, .int 0, .int 1, .int 0])), (a2, .inl (cy 2, 2048, .inr (.inl f0)))] s.heap.size = A at hD hSK ⊢
  have hA : ∀ q : Nat, s.heap.size ≤ q → A q := fun q h => by rw [← hAe]; exact Or.inr h
  have hS : va_S A s.heap s.heap [] := va_S.rf
  have hP : va_P (dC, dI) vwCl [(a0, .inr (6, [.int 0, .int 0, .ref a1, .int 47, .int 0, .int 3, .int 1, .int 1, .ref a3])), (a1, .inr (5, [.ref cb, .int 81, .int 0, .ref a2, .int 7, .ref a4, .int 3, .ref a5, .int 1, .int 1, .ref a6, .int 6, .int 0, .int 1, .int 0])), (a2, .inl (cy 2, 2048, .inr (.inl f0)))] s.heap := hP
  have hl := lv_entry ([.ref a0, .int 2, .int 1]) (n := 4) (Nat.le_of_ble_eq_true rfl)
  rw [lg_entry_eq]
  generalize (lg_sl ([.ref a0, .int 2, .int 1]) ++ List.replicate (4 - (lg_sl ([.ref a0, .int 2, .int 1])).length) Slot.unset).toArray = ls at hl ⊢
  replace hl : lv_has ls 4 [(0, .ref a0), (1, .int 2), (2, .int 1)] := hl
  refine lv_iconst (v := 0) hx hb dX6_readTypes_0 (by decide) ?_
  refine lv_istore_n (lv' := [(3, .int 0), (0, .ref a0), (1, .int 2), (2, .int 1)]) hx hb dX6_readTypes_1 rfl hl (by decide) rfl (fun ls hl2 => ?_)
  replace hl := hl2
  clear hl2
  refine lv_iload_n hx hb dX6_readTypes_2 rfl (lv_at hl 0 rfl) ?_
  refine lv_iload_n hx hb dX6_readTypes_3 rfl (lv_at hl 2 rfl) ?_
  refine lv_icmp_ge (tgt := 32) hx hb dX6_readTypes_4 (by decide) (fun h => absurd h (by decide)) (fun _ => ?_)
  refine lv_aload_n hx hb dX6_readTypes_7 rfl (lv_at hl 1 rfl) ?_
  refine va_get (D := (dC, dI)) (ci := 6) (v := .int 0) (C := RX6) (T := TX6) (N := 9) hx hb hts iw_X6_readTypes_X6 hown hK hP 0 rfl rfl 1 (by decide) (hts _ m_X6_readTypes_1) (fun _ h9 => h9) rfl dX6_readTypes_8 ?_
  refine lv_if_ne (tgt := 32) hx hb dX6_readTypes_11 (by decide) (fun h => absurd (by decide) h) (fun _ => ?_)
  refine lv_aload_n hx hb dX6_readTypes_14 rfl (lv_at hl 1 rfl) ?_
  refine va_get (D := (dC, dI)) (ci := 6) (v := .ref a1) (C := RX6) (T := TX6) (N := 9) hx hb hts iw_X6_readTypes_X6 hown hK hP 0 rfl rfl 2 (by decide) (hts _ m_X6_readTypes_2) (fun _ h9 => h9) rfl dX6_readTypes_15 ?_
  refine lv_aload_n hx hb dX6_readTypes_18 rfl (lv_at hl 1 rfl) ?_
  refine lv_iload_n hx hb dX6_readTypes_19 rfl (lv_at hl 3 rfl) ?_
  have hPc := hP.sub (ws' := [(a0, .inr (6, [.int 0, .int 0, .ref a1, .int 47, .int 0, .int 3, .int 1, .int 1, .ref a3])), (a1, .inr (5, [.ref cb, .int 81, .int 0, .ref a2, .int 7, .ref a4, .int 3, .ref a5, .int 1, .int 1, .ref a6, .int 6, .int 0, .int 1, .int 0]))]) [0, 1] rfl
  have hDc := hD.sub (ws' := [(a0, .inr (6, [.int 0, .int 0, .ref a1, .int 47, .int 0, .int 3, .int 1, .int 1, .ref a3])), (a1, .inr (5, [.ref cb, .int 81, .int 0, .ref a2, .int 7, .ref a4, .int 3, .ref a5, .int 1, .int 1, .ref a6, .int 6, .int 0, .int 1, .int 0]))]) [0, 1] (by decide) rfl
  have hFc := va_free (wc := [(a0, .inr (6, [.int 0, .int 0, .ref a1, .int 47, .int 0, .int 3, .int 1, .int 1, .ref a3])), (a1, .inr (5, [.ref cb, .int 81, .int 0, .ref a2, .int 7, .ref a4, .int 3, .ref a5, .int 1, .int 1, .ref a6, .int 6, .int 0, .int 1, .int 0]))]) hD hS hA [0, 1] rfl
  refine va_calll (va_runV (As := [.int 1]) (rest := [.ref a1]) ⟨hx, hb, hml, hown, hts⟩ (cc_160_X6_readOneType l dC dI cy s.heap.size cb a0 a1 a3 a2 a4 a5 a6) (cwV 1 hts gX6_readTypes_X6_readOneType rfl rfl rfl (by decide +kernel) ⟨Nat.le_of_ble_eq_true rfl, Nat.le_of_ble_eq_true rfl⟩) ⟨fun a U g mk q => by obtain ⟨q0, q1, qP, qK, qD, qN, qS⟩ := q; exact ⟨q0, q1, qP, va_K.moved (u := U) (U := U.calling g mk a) (Vm.Alike.refl U.vm) qK, qD, qN.same rfl, SK.moved (u := U) (U := U.calling g mk a) (Vm.Alike.refl U.vm) qS⟩, va_recv hK hPc (ci := 6) (q0 := 0) rfl rfl, fun U hU hW => ⟨rfl, by rw [hU], by rw [hU]; exact hPc, va_K.moved hW.alike hK, hDc.weaken (fun _ _ _ _ => trivial), hN.warm hW, by rw [hU]; exact ((hSK.kept hS.2.1).narrow hFc).moved hW.alike⟩⟩ rfl rfl hl.1 rfl (lv_room (Nat.le_of_ble_eq_true rfl)) dX6_readTypes_20 ⟨Nat.le_of_ble_eq_true rfl, Nat.le_of_ble_eq_true rfl⟩) hS (fun q _ h => hFc q h) hFc (fun r_1 u t H_2 locs ht hvm hw hB hz1 hk1 hS2 => ?_)
  obtain ⟨hP1, hK1, hD1⟩ := hB
  rw [ht] at hP1
  obtain rfl := hw
  obtain ⟨hP2, hD2⟩ := va_join (wr := [(a2, .inl (cy 2, 2048, .inr (.inl f0)))]) (w1 := [(a0, .inr (6, [.int 0, .int 0, .ref a1, .int 49, .int 0, .int 3, .int 1, .int 1, .ref a3])), (a1, .inr (5, [.ref cb, .int 81, .int 0, .ref a2, .int 7, .ref a4, .int 3, .ref a5, .int 1, .int 1, .ref a6, .int 6, .int 0, .int 1, .int 0]))]) hP hD [0, 1] [2] rfl rfl (by decide) (by decide) hk1 hFc hP1 hD1
  replace hP : va_P (dC, dI) vwCl [(a2, .inl (cy 2, 2048, .inr (.inl f0))), (a0, .inr (6, [.int 0, .int 0, .ref a1, .int 49, .int 0, .int 3, .int 1, .int 1, .ref a3])), (a1, .inr (5, [.ref cb, .int 81, .int 0, .ref a2, .int 7, .ref a4, .int 3, .ref a5, .int 1, .int 1, .ref a6, .int 6, .int 0, .int 1, .int 0]))] H_2 := hP2
  replace hD : va_D A [(a2, .inl (cy 2, 2048, .inr (.inl f0))), (a0, .inr (6, [.int 0, .int 0, .ref a1, .int 49, .int 0, .int 3, .int 1, .int 1, .ref a3])), (a1, .inr (5, [.ref cb, .int 81, .int 0, .ref a2, .int 7, .ref a4, .int 3, .ref a5, .int 1, .int 1, .ref a6, .int 6, .int 0, .int 1, .int 0]))] := hD2
  replace hS := hS2
  clear hP2 hD2 hS2
  clear hPc hDc hFc hP1 hD1 hK1 hk1 hz1 hvm ht
  refine W.widen (k := 0) (n := 0) (Nat.le_of_ble_eq_true rfl) (Nat.le_of_ble_eq_true rfl) ?_
  have hPc := hP.sub (ws' := [(a1, .inr (5, [.ref cb, .int 81, .int 0, .ref a2, .int 7, .ref a4, .int 3, .ref a5, .int 1, .int 1, .ref a6, .int 6, .int 0, .int 1, .int 0])), (a2, .inl (cy 2, 2048, .inr (.inl f0)))]) [2, 0] rfl
  have hDc := hD.sub (ws' := [(a1, .inr (5, [.ref cb, .int 81, .int 0, .ref a2, .int 7, .ref a4, .int 3, .ref a5, .int 1, .int 1, .ref a6, .int 6, .int 0, .int 1, .int 0])), (a2, .inl (cy 2, 2048, .inr (.inl f0)))]) [2, 0] (by decide) rfl
  have hFc := va_free (wc := [(a1, .inr (5, [.ref cb, .int 81, .int 0, .ref a2, .int 7, .ref a4, .int 3, .ref a5, .int 1, .int 1, .ref a6, .int 6, .int 0, .int 1, .int 0])), (a2, .inl (cy 2, 2048, .inr (.inl f0)))]) hD hS hA [2, 0] rfl
  refine va_callv (va_runV (As := [.long 1536]) (rest := []) ⟨hx, hb, hml, hown, hts⟩ (cc_163_X5_addType l dC dI cy H_2.size cb a1 a2 a4 a5 a6 f0 f0_0) (cwV 1 hts gX6_readTypes_X5_addType rfl rfl rfl (by decide +kernel) ⟨Nat.le_of_ble_eq_true rfl, Nat.le_of_ble_eq_true rfl⟩) ⟨fun a U g mk q => by obtain ⟨q0, q1, qP, qK, qD, qN, qS⟩ := q; exact ⟨q0, q1, qP, va_K.moved (u := U) (U := U.calling g mk a) (Vm.Alike.refl U.vm) qK, qD, qN.same rfl, SK.moved (u := U) (U := U.calling g mk a) (Vm.Alike.refl U.vm) qS⟩, va_recv hK hPc (ci := 5) (q0 := 0) rfl rfl, fun U hU hW => ⟨rfl, by rw [hU], by rw [hU]; exact hPc, va_K.moved hW.alike hK, hDc.weaken (fun _ _ _ _ => trivial), hN.warm hW, by rw [hU]; exact ((hSK.kept hS.2.1).narrow hFc).moved hW.alike⟩⟩ rfl rfl hl.1 rfl (lv_room (Nat.le_of_ble_eq_true rfl)) dX6_readTypes_23 ⟨Nat.le_of_ble_eq_true rfl, Nat.le_of_ble_eq_true rfl⟩) hS (fun q _ h => hFc q h) hFc (fun u t H_3 locs ht hvm hw hB hz1 hk1 hS2 => ?_)
  obtain ⟨g_4, rfl⟩ : ∃ z, z = u := ⟨_, rfl⟩
  obtain ⟨hP1, hK1, hD1⟩ := hB
  rw [ht] at hP1
  have kp_5 := hw
  obtain ⟨hP2, hD2⟩ := va_join (wr := [(a0, .inr (6, [.int 0, .int 0, .ref a1, .int 49, .int 0, .int 3, .int 1, .int 1, .ref a3]))]) (w1 := [(a1, .inr (5, [.ref cb, .int 81, .int 0, .ref a2, .int 8, .ref a4, .int 3, .ref a5, .int 1, .int 1, .ref a6, .int 6, .int 0, .int 1, .int 0])), (a2, .inl (cy 2, 2048, .inr (.inl g_4)))]) hP hD [2, 0] [1] rfl rfl (by decide) (by decide) hk1 hFc hP1 hD1
  replace hP : va_P (dC, dI) vwCl [(a0, .inr (6, [.int 0, .int 0, .ref a1, .int 49, .int 0, .int 3, .int 1, .int 1, .ref a3])), (a1, .inr (5, [.ref cb, .int 81, .int 0, .ref a2, .int 8, .ref a4, .int 3, .ref a5, .int 1, .int 1, .ref a6, .int 6, .int 0, .int 1, .int 0])), (a2, .inl (cy 2, 2048, .inr (.inl g_4)))] H_3 := hP2
  replace hD : va_D A [(a0, .inr (6, [.int 0, .int 0, .ref a1, .int 49, .int 0, .int 3, .int 1, .int 1, .ref a3])), (a1, .inr (5, [.ref cb, .int 81, .int 0, .ref a2, .int 8, .ref a4, .int 3, .ref a5, .int 1, .int 1, .ref a6, .int 6, .int 0, .int 1, .int 0])), (a2, .inl (cy 2, 2048, .inr (.inl g_4)))] := hD2
  replace hS := hS2
  clear hP2 hD2 hS2
  clear hPc hDc hFc hP1 hD1 hK1 hk1 hz1 hvm ht
  refine W.widen (k := 0) (n := 0) (Nat.le_of_ble_eq_true rfl) (Nat.le_of_ble_eq_true rfl) ?_
  refine lv_iinc (v := 1) (lv' := [(3, .int 1), (0, .ref a0), (1, .int 2), (2, .int 1)]) hx hb dX6_readTypes_26 hl (k := 0) rfl (by decide) (by decide) rfl (fun ls hl2 => ?_)
  replace hl := hl2
  clear hl2
  refine lv_goto (tgt := 2) hx hb dX6_readTypes_29 (by decide) ?_
  refine lv_iload_n hx hb dX6_readTypes_2 rfl (lv_at hl 0 rfl) ?_
  refine lv_iload_n hx hb dX6_readTypes_3 rfl (lv_at hl 2 rfl) ?_
  refine lv_icmp_ge (tgt := 32) hx hb dX6_readTypes_4 (by decide) (fun h => absurd h (by decide)) (fun _ => ?_)
  refine lv_aload_n hx hb dX6_readTypes_7 rfl (lv_at hl 1 rfl) ?_
  refine va_get (D := (dC, dI)) (ci := 6) (v := .int 0) (C := RX6) (T := TX6) (N := 9) hx hb hts iw_X6_readTypes_X6 hown hK hP 0 rfl rfl 1 (by decide) (hts _ m_X6_readTypes_1) (fun _ h9 => h9) rfl dX6_readTypes_8 ?_
  refine lv_if_ne (tgt := 32) hx hb dX6_readTypes_11 (by decide) (fun h => absurd (by decide) h) (fun _ => ?_)
  refine lv_aload_n hx hb dX6_readTypes_14 rfl (lv_at hl 1 rfl) ?_
  refine va_get (D := (dC, dI)) (ci := 6) (v := .ref a1) (C := RX6) (T := TX6) (N := 9) hx hb hts iw_X6_readTypes_X6 hown hK hP 0 rfl rfl 2 (by decide) (hts _ m_X6_readTypes_2) (fun _ h9 => h9) rfl dX6_readTypes_15 ?_
  refine lv_aload_n hx hb dX6_readTypes_18 rfl (lv_at hl 1 rfl) ?_
  refine lv_iload_n hx hb dX6_readTypes_19 rfl (lv_at hl 3 rfl) ?_
  have hPc := hP.sub (ws' := [(a0, .inr (6, [.int 0, .int 0, .ref a1, .int 49, .int 0, .int 3, .int 1, .int 1, .ref a3])), (a1, .inr (5, [.ref cb, .int 81, .int 0, .ref a2, .int 8, .ref a4, .int 3, .ref a5, .int 1, .int 1, .ref a6, .int 6, .int 0, .int 1, .int 0]))]) [0, 1] rfl
  have hDc := hD.sub (ws' := [(a0, .inr (6, [.int 0, .int 0, .ref a1, .int 49, .int 0, .int 3, .int 1, .int 1, .ref a3])), (a1, .inr (5, [.ref cb, .int 81, .int 0, .ref a2, .int 8, .ref a4, .int 3, .ref a5, .int 1, .int 1, .ref a6, .int 6, .int 0, .int 1, .int 0]))]) [0, 1] (by decide) rfl
  have hFc := va_free (wc := [(a0, .inr (6, [.int 0, .int 0, .ref a1, .int 49, .int 0, .int 3, .int 1, .int 1, .ref a3])), (a1, .inr (5, [.ref cb, .int 81, .int 0, .ref a2, .int 8, .ref a4, .int 3, .ref a5, .int 1, .int 1, .ref a6, .int 6, .int 0, .int 1, .int 0]))]) hD hS hA [0, 1] rfl
  refine va_calll (va_runV (As := [.int 1]) (rest := [.ref a1]) ⟨hx, hb, hml, hown, hts⟩ (cc_164_X6_readOneType l dC dI cy H_3.size cb a0 a1 a3 a2 a4 a5 a6) (cwV 1 hts gX6_readTypes_X6_readOneType rfl rfl rfl (by decide +kernel) ⟨Nat.le_of_ble_eq_true rfl, Nat.le_of_ble_eq_true rfl⟩) ⟨fun a U g mk q => by obtain ⟨q0, q1, qP, qK, qD, qN, qS⟩ := q; exact ⟨q0, q1, qP, va_K.moved (u := U) (U := U.calling g mk a) (Vm.Alike.refl U.vm) qK, qD, qN.same rfl, SK.moved (u := U) (U := U.calling g mk a) (Vm.Alike.refl U.vm) qS⟩, va_recv hK hPc (ci := 6) (q0 := 0) rfl rfl, fun U hU hW => ⟨rfl, by rw [hU], by rw [hU]; exact hPc, va_K.moved hW.alike hK, hDc.weaken (fun _ _ _ _ => trivial), hN.warm hW, by rw [hU]; exact ((hSK.kept hS.2.1).narrow hFc).moved hW.alike⟩⟩ rfl rfl hl.1 rfl (lv_room (Nat.le_of_ble_eq_true rfl)) dX6_readTypes_20 ⟨Nat.le_of_ble_eq_true rfl, Nat.le_of_ble_eq_true rfl⟩) hS (fun q _ h => hFc q h) hFc (fun r_6 u t H_7 locs ht hvm hw hB hz1 hk1 hS2 => ?_)
  obtain ⟨hP1, hK1, hD1⟩ := hB
  rw [ht] at hP1
  obtain rfl := hw
  obtain ⟨hP2, hD2⟩ := va_join (wr := [(a2, .inl (cy 2, 2048, .inr (.inl g_4)))]) (w1 := [(a0, .inr (6, [.int 0, .int 0, .ref a1, .int 51, .int 0, .int 3, .int 1, .int 1, .ref a3])), (a1, .inr (5, [.ref cb, .int 81, .int 0, .ref a2, .int 8, .ref a4, .int 3, .ref a5, .int 1, .int 1, .ref a6, .int 6, .int 0, .int 1, .int 0]))]) hP hD [0, 1] [2] rfl rfl (by decide) (by decide) hk1 hFc hP1 hD1
  replace hP : va_P (dC, dI) vwCl [(a2, .inl (cy 2, 2048, .inr (.inl g_4))), (a0, .inr (6, [.int 0, .int 0, .ref a1, .int 51, .int 0, .int 3, .int 1, .int 1, .ref a3])), (a1, .inr (5, [.ref cb, .int 81, .int 0, .ref a2, .int 8, .ref a4, .int 3, .ref a5, .int 1, .int 1, .ref a6, .int 6, .int 0, .int 1, .int 0]))] H_7 := hP2
  replace hD : va_D A [(a2, .inl (cy 2, 2048, .inr (.inl g_4))), (a0, .inr (6, [.int 0, .int 0, .ref a1, .int 51, .int 0, .int 3, .int 1, .int 1, .ref a3])), (a1, .inr (5, [.ref cb, .int 81, .int 0, .ref a2, .int 8, .ref a4, .int 3, .ref a5, .int 1, .int 1, .ref a6, .int 6, .int 0, .int 1, .int 0]))] := hD2
  replace hS := hS2
  clear hP2 hD2 hS2
  clear hPc hDc hFc hP1 hD1 hK1 hk1 hz1 hvm ht
  refine W.widen (k := 0) (n := 0) (Nat.le_of_ble_eq_true rfl) (Nat.le_of_ble_eq_true rfl) ?_
  have hPc := hP.sub (ws' := [(a1, .inr (5, [.ref cb, .int 81, .int 0, .ref a2, .int 8, .ref a4, .int 3, .ref a5, .int 1, .int 1, .ref a6, .int 6, .int 0, .int 1, .int 0])), (a2, .inl (cy 2, 2048, .inr (.inl g_4)))]) [2, 0] rfl
  have hDc := hD.sub (ws' := [(a1, .inr (5, [.ref cb, .int 81, .int 0, .ref a2, .int 8, .ref a4, .int 3, .ref a5, .int 1, .int 1, .ref a6, .int 6, .int 0, .int 1, .int 0])), (a2, .inl (cy 2, 2048, .inr (.inl g_4)))]) [2, 0] (by decide) rfl
  have hFc := va_free (wc := [(a1, .inr (5, [.ref cb, .int 81, .int 0, .ref a2, .int 8, .ref a4, .int 3, .ref a5, .int 1, .int 1, .ref a6, .int 6, .int 0, .int 1, .int 0])), (a2, .inl (cy 2, 2048, .inr (.inl g_4)))]) hD hS hA [2, 0] rfl
  refine va_callv (va_runV (As := [.long 1536]) (rest := []) ⟨hx, hb, hml, hown, hts⟩ (cc_167_X5_addType l dC dI cy H_7.size cb a1 a2 a4 a5 a6 g_4 kp_5) (cwV 1 hts gX6_readTypes_X5_addType rfl rfl rfl (by decide +kernel) ⟨Nat.le_of_ble_eq_true rfl, Nat.le_of_ble_eq_true rfl⟩) ⟨fun a U g mk q => by obtain ⟨q0, q1, qP, qK, qD, qN, qS⟩ := q; exact ⟨q0, q1, qP, va_K.moved (u := U) (U := U.calling g mk a) (Vm.Alike.refl U.vm) qK, qD, qN.same rfl, SK.moved (u := U) (U := U.calling g mk a) (Vm.Alike.refl U.vm) qS⟩, va_recv hK hPc (ci := 5) (q0 := 0) rfl rfl, fun U hU hW => ⟨rfl, by rw [hU], by rw [hU]; exact hPc, va_K.moved hW.alike hK, hDc.weaken (fun _ _ _ _ => trivial), hN.warm hW, by rw [hU]; exact ((hSK.kept hS.2.1).narrow hFc).moved hW.alike⟩⟩ rfl rfl hl.1 rfl (lv_room (Nat.le_of_ble_eq_true rfl)) dX6_readTypes_23 ⟨Nat.le_of_ble_eq_true rfl, Nat.le_of_ble_eq_true rfl⟩) hS (fun q _ h => hFc q h) hFc (fun u t H_8 locs ht hvm hw hB hz1 hk1 hS2 => ?_)
  obtain ⟨g_9, rfl⟩ : ∃ z, z = u := ⟨_, rfl⟩
  obtain ⟨hP1, hK1, hD1⟩ := hB
  rw [ht] at hP1
  have kp_10 := hw
  obtain ⟨hP2, hD2⟩ := va_join (wr := [(a0, .inr (6, [.int 0, .int 0, .ref a1, .int 51, .int 0, .int 3, .int 1, .int 1, .ref a3]))]) (w1 := [(a1, .inr (5, [.ref cb, .int 81, .int 0, .ref a2, .int 9, .ref a4, .int 3, .ref a5, .int 1, .int 1, .ref a6, .int 6, .int 0, .int 1, .int 0])), (a2, .inl (cy 2, 2048, .inr (.inl g_9)))]) hP hD [2, 0] [1] rfl rfl (by decide) (by decide) hk1 hFc hP1 hD1
  replace hP : va_P (dC, dI) vwCl [(a0, .inr (6, [.int 0, .int 0, .ref a1, .int 51, .int 0, .int 3, .int 1, .int 1, .ref a3])), (a1, .inr (5, [.ref cb, .int 81, .int 0, .ref a2, .int 9, .ref a4, .int 3, .ref a5, .int 1, .int 1, .ref a6, .int 6, .int 0, .int 1, .int 0])), (a2, .inl (cy 2, 2048, .inr (.inl g_9)))] H_8 := hP2
  replace hD : va_D A [(a0, .inr (6, [.int 0, .int 0, .ref a1, .int 51, .int 0, .int 3, .int 1, .int 1, .ref a3])), (a1, .inr (5, [.ref cb, .int 81, .int 0, .ref a2, .int 9, .ref a4, .int 3, .ref a5, .int 1, .int 1, .ref a6, .int 6, .int 0, .int 1, .int 0])), (a2, .inl (cy 2, 2048, .inr (.inl g_9)))] := hD2
  replace hS := hS2
  clear hP2 hD2 hS2
  clear hPc hDc hFc hP1 hD1 hK1 hk1 hz1 hvm ht
  refine W.widen (k := 0) (n := 0) (Nat.le_of_ble_eq_true rfl) (Nat.le_of_ble_eq_true rfl) ?_
  refine lv_iinc (v := 2) (lv' := [(3, .int 2), (0, .ref a0), (1, .int 2), (2, .int 1)]) hx hb dX6_readTypes_26 hl (k := 0) rfl (by decide) (by decide) rfl (fun ls hl2 => ?_)
  replace hl := hl2
  clear hl2
  refine lv_goto (tgt := 2) hx hb dX6_readTypes_29 (by decide) ?_
  refine lv_iload_n hx hb dX6_readTypes_2 rfl (lv_at hl 0 rfl) ?_
  refine lv_iload_n hx hb dX6_readTypes_3 rfl (lv_at hl 2 rfl) ?_
  refine lv_icmp_ge (tgt := 32) hx hb dX6_readTypes_4 (by decide) (fun _ => ?_) (fun h => absurd (by decide) h)
  exact W.vret hx hb hr (fun t ht hW => ⟨⟨(g_9), rfl, kp_10, by rw [ht]; exact hP, va_K.moved hW.alike hK, hD⟩, hS.F ht⟩) hS.2.2 dX6_readTypes_32

set_option maxHeartbeats 4000000 in
set_option maxRecDepth 100000 in
theorem cc_156_X6_readList (l : Launch) (dC : Nat → ClassId) (dI : Nat → Nat → Nat) (cy : Nat → ClassId) (sz : Nat) (cb : Nat) (a0 : Nat) (a1 : Nat) (a2 : Nat) (a3 : Nat) (a4 : Nat) (a5 : Nat) (a6 : Nat) (f0 : Nat → Int64) (f0_0 : f0 0 = 3) : Met l yX6_readList wsX6_readList ({ frames := 3, cells := 0, slots := 0, locals := 69 }) (va_Pc [.ref a0, .int 8] (fun U => U.heap.size = sz ∧ va_P (dC, dI) vwCl [(a0, .inr (6, [.int 0, .int 0, .ref a1, .int 46, .int 0, .int 3, .int 1, .int 1, .ref a3])), (a1, .inr (5, [.ref cb, .int 81, .int 0, .ref a2, .int 7, .ref a4, .int 3, .ref a5, .int 1, .int 1, .ref a6, .int 6, .int 0, .int 1, .int 0])), (a2, .inl (cy 2, 2048, .inr (.inl f0)))] U.heap ∧ va_K (dC, dI) vwCl (TYS cy) U ∧ va_D (fun _ => True) [(a0, .inr (6, [.int 0, .int 0, .ref a1, .int 46, .int 0, .int 3, .int 1, .int 1, .ref a3])), (a1, .inr (5, [.ref cb, .int 81, .int 0, .ref a2, .int 7, .ref a4, .int 3, .ref a5, .int 1, .int 1, .ref a6, .int 6, .int 0, .int 1, .int 0])), (a2, .inl (cy 2, 2048, .inr (.inl f0)))] ∧ NK U ∧ SK cb (va_A [(a0, .inr (6, [.int 0, .int 0, .ref a1, .int 46, .int 0, .int 3, .int 1, .int 1, .ref a3])), (a1, .inr (5, [.ref cb, .int 81, .int 0, .ref a2, .int 7, .ref a4, .int 3, .ref a5, .int 1, .int 1, .ref a6, .int 6, .int 0, .int 1, .int 0])), (a2, .inl (cy 2, 2048, .inr (.inl f0)))] sz) U U.heap)) (va_Qi (fun (r : Int32) (u : (Nat → Int64)) => match u with | (u0) => r = 2 ∧ u0 0 = 3) (fun u t => match u with | (u0) => va_P (dC, dI) vwCl [(a0, .inr (6, [.int 0, .int 0, .ref a1, .int 51, .int 0, .int 3, .int 1, .int 1, .ref a3])), (a1, .inr (5, [.ref cb, .int 81, .int 0, .ref a2, .int 9, .ref a4, .int 3, .ref a5, .int 1, .int 1, .ref a6, .int 6, .int 0, .int 1, .int 0])), (a2, .inl (cy 2, 2048, .inr (.inl u0)))] t.heap ∧ va_K (dC, dI) vwCl (TYS cy) t ∧ va_D (va_A [(a0, .inr (6, [.int 0, .int 0, .ref a1, .int 46, .int 0, .int 3, .int 1, .int 1, .ref a3])), (a1, .inr (5, [.ref cb, .int 81, .int 0, .ref a2, .int 7, .ref a4, .int 3, .ref a5, .int 1, .int 1, .ref a6, .int 6, .int 0, .int 1, .int 0])), (a2, .inl (cy 2, 2048, .inr (.inl f0)))] sz) [(a0, .inr (6, [.int 0, .int 0, .ref a1, .int 51, .int 0, .int 3, .int 1, .int 1, .ref a3])), (a1, .inr (5, [.ref cb, .int 81, .int 0, .ref a2, .int 9, .ref a4, .int 3, .ref a5, .int 1, .int 1, .ref a6, .int 6, .int 0, .int 1, .int 0])), (a2, .inl (cy 2, 2048, .inr (.inl u0)))]) (va_A [(a0, .inr (6, [.int 0, .int 0, .ref a1, .int 46, .int 0, .int 3, .int 1, .int 1, .ref a3])), (a1, .inr (5, [.ref cb, .int 81, .int 0, .ref a2, .int 7, .ref a4, .int 3, .ref a5, .int 1, .int 1, .ref a6, .int 6, .int 0, .int 1, .int 0])), (a2, .inl (cy 2, 2048, .inr (.inl f0)))] sz)) 0 0 (va_A [(a0, .inr (6, [.int 0, .int 0, .ref a1, .int 46, .int 0, .int 3, .int 1, .int 1, .ref a3])), (a1, .inr (5, [.ref cb, .int 81, .int 0, .ref a2, .int 7, .ref a4, .int 3, .ref a5, .int 1, .int 1, .ref a6, .int 6, .int 0, .int 1, .int 0])), (a2, .inl (cy 2, 2048, .inr (.inl f0)))] sz) := by
  refine Met.ofW (cc := cX6_readList) (maxL := 3) (ret := (some .int)) (by decide) rfl ?_
  intro p e s m args below meth c s₁ B hml hv
  obtain ⟨rfl, hsz, hP, hK, hD0, hN, hSK⟩ := hv
  have hx := B.exec
  have hb := B.bytes
  have hr := B.returns
  have hts := atoms_spec (ws := wsX6_readList) B.pre
  have hown : s.vm.findClass RX6 = some m.cls := findClass_of_methodNamed B.named
  have hlocks := B.notSynchronized
  subst hsz
  have hD := hD0.self (sz := s.heap.size)
  generalize hAe : va_A [(a0, .inr (6, [.int 0, .int 0, .ref a1, .int 46, .int 0, .int 3, .int 1, .int 1, .ref a3])), (a1, .inr (5, [.ref cb, .int 81, .int 0, .ref a2, .int 7, .ref a4, .int 3, .ref a5, .int 1, .int 1, .ref a6, .int 6, .int 0, .int 1, .int 0])), (a2, .inl (cy 2, 2048, .inr (.inl f0)))] s.heap.size = A at hD hSK ⊢
  have hA : ∀ q : Nat, s.heap.size ≤ q → A q := fun q h => by rw [← hAe]; exact Or.inr h
  have hS : va_S A s.heap s.heap [] := va_S.rf
  have hP : va_P (dC, dI) vwCl [(a0, .inr (6, [.int 0, .int 0, .ref a1, .int 46, .int 0, .int 3, .int 1, .int 1, .ref a3])), (a1, .inr (5, [.ref cb, .int 81, .int 0, .ref a2, .int 7, .ref a4, .int 3, .ref a5, .int 1, .int 1, .ref a6, .int 6, .int 0, .int 1, .int 0])), (a2, .inl (cy 2, 2048, .inr (.inl f0)))] s.heap := hP
  have hl := lv_entry ([.ref a0, .int 8]) (n := 3) (Nat.le_of_ble_eq_true rfl)
  rw [lg_entry_eq]
  generalize (lg_sl ([.ref a0, .int 8]) ++ List.replicate (3 - (lg_sl ([.ref a0, .int 8])).length) Slot.unset).toArray = ls at hl ⊢
  replace hl : lv_has ls 3 [(0, .ref a0), (1, .int 8)] := hl
  refine lv_aload_n hx hb dX6_readList_0 rfl (lv_at hl 0 rfl) ?_
  refine lv_iconst (v := 0) hx hb dX6_readList_1 (by decide) ?_
  refine lv_iload_n hx hb dX6_readList_2 rfl (lv_at hl 1 rfl) ?_
  have hPc := hP.sub (ws' := [(a0, .inr (6, [.int 0, .int 0, .ref a1, .int 46, .int 0, .int 3, .int 1, .int 1, .ref a3])), (a1, .inr (5, [.ref cb, .int 81, .int 0, .ref a2, .int 7, .ref a4, .int 3, .ref a5, .int 1, .int 1, .ref a6, .int 6, .int 0, .int 1, .int 0]))]) [0, 1] rfl
  have hDc := hD.sub (ws' := [(a0, .inr (6, [.int 0, .int 0, .ref a1, .int 46, .int 0, .int 3, .int 1, .int 1, .ref a3])), (a1, .inr (5, [.ref cb, .int 81, .int 0, .ref a2, .int 7, .ref a4, .int 3, .ref a5, .int 1, .int 1, .ref a6, .int 6, .int 0, .int 1, .int 0]))]) [0, 1] (by decide) rfl
  have hFc := va_free (wc := [(a0, .inr (6, [.int 0, .int 0, .ref a1, .int 46, .int 0, .int 3, .int 1, .int 1, .ref a3])), (a1, .inr (5, [.ref cb, .int 81, .int 0, .ref a2, .int 7, .ref a4, .int 3, .ref a5, .int 1, .int 1, .ref a6, .int 6, .int 0, .int 1, .int 0]))]) hD hS hA [0, 1] rfl
  refine va_calli (va_runV (As := [.int 0, .int 8]) (rest := []) ⟨hx, hb, hml, hown, hts⟩ (cc_157_X6_readNumber l dC dI cy s.heap.size cb a0 a1 a3 a2 a4 a5 a6) (cwV 2 hts gX6_readList_X6_readNumber rfl rfl rfl (by decide +kernel) ⟨Nat.le_of_ble_eq_true rfl, Nat.le_of_ble_eq_true rfl⟩) ⟨fun a U g mk q => by obtain ⟨q0, q1, qP, qK, qD, qN, qS⟩ := q; exact ⟨q0, q1, qP, va_K.moved (u := U) (U := U.calling g mk a) (Vm.Alike.refl U.vm) qK, qD, qN.same rfl, SK.moved (u := U) (U := U.calling g mk a) (Vm.Alike.refl U.vm) qS⟩, va_recv hK hPc (ci := 6) (q0 := 0) rfl rfl, fun U hU hW => ⟨rfl, by rw [hU], by rw [hU]; exact hPc, va_K.moved hW.alike hK, hDc.weaken (fun _ _ _ _ => trivial), hN.warm hW, by rw [hU]; exact ((hSK.kept hS.2.1).narrow hFc).moved hW.alike⟩⟩ rfl rfl hl.1 rfl (lv_room (Nat.le_of_ble_eq_true rfl)) dX6_readList_3 ⟨Nat.le_of_ble_eq_true rfl, Nat.le_of_ble_eq_true rfl⟩) hS (fun q _ h => hFc q h) hFc (fun r_1 u t H_2 locs ht hvm hw hB hz1 hk1 hS2 => ?_)
  obtain ⟨hP1, hK1, hD1⟩ := hB
  rw [ht] at hP1
  obtain rfl := hw
  obtain ⟨hP2, hD2⟩ := va_join (wr := [(a2, .inl (cy 2, 2048, .inr (.inl f0)))]) (w1 := [(a0, .inr (6, [.int 0, .int 0, .ref a1, .int 47, .int 0, .int 3, .int 1, .int 1, .ref a3])), (a1, .inr (5, [.ref cb, .int 81, .int 0, .ref a2, .int 7, .ref a4, .int 3, .ref a5, .int 1, .int 1, .ref a6, .int 6, .int 0, .int 1, .int 0]))]) hP hD [0, 1] [2] rfl rfl (by decide) (by decide) hk1 hFc hP1 hD1
  replace hP : va_P (dC, dI) vwCl [(a2, .inl (cy 2, 2048, .inr (.inl f0))), (a0, .inr (6, [.int 0, .int 0, .ref a1, .int 47, .int 0, .int 3, .int 1, .int 1, .ref a3])), (a1, .inr (5, [.ref cb, .int 81, .int 0, .ref a2, .int 7, .ref a4, .int 3, .ref a5, .int 1, .int 1, .ref a6, .int 6, .int 0, .int 1, .int 0]))] H_2 := hP2
  replace hD : va_D A [(a2, .inl (cy 2, 2048, .inr (.inl f0))), (a0, .inr (6, [.int 0, .int 0, .ref a1, .int 47, .int 0, .int 3, .int 1, .int 1, .ref a3])), (a1, .inr (5, [.ref cb, .int 81, .int 0, .ref a2, .int 7, .ref a4, .int 3, .ref a5, .int 1, .int 1, .ref a6, .int 6, .int 0, .int 1, .int 0]))] := hD2
  replace hS := hS2
  clear hP2 hD2 hS2
  clear hPc hDc hFc hP1 hD1 hK1 hk1 hz1 hvm ht
  refine W.widen (k := 0) (n := 0) (Nat.le_of_ble_eq_true rfl) (Nat.le_of_ble_eq_true rfl) ?_
  refine lv_istore_n (lv' := [(2, .int 2), (0, .ref a0), (1, .int 8)]) hx hb dX6_readList_6 rfl hl (by decide) rfl (fun ls hl2 => ?_)
  replace hl := hl2
  clear hl2
  refine lv_aload_n hx hb dX6_readList_7 rfl (lv_at hl 1 rfl) ?_
  refine lv_iload_n hx hb dX6_readList_8 rfl (lv_at hl 0 rfl) ?_
  refine lv_iconst (v := 1) hx hb dX6_readList_9 (by decide) ?_
  have hPc := hP.sub (ws' := [(a0, .inr (6, [.int 0, .int 0, .ref a1, .int 47, .int 0, .int 3, .int 1, .int 1, .ref a3])), (a1, .inr (5, [.ref cb, .int 81, .int 0, .ref a2, .int 7, .ref a4, .int 3, .ref a5, .int 1, .int 1, .ref a6, .int 6, .int 0, .int 1, .int 0])), (a2, .inl (cy 2, 2048, .inr (.inl f0)))]) [1, 2, 0] rfl
  have hDc := hD.sub (ws' := [(a0, .inr (6, [.int 0, .int 0, .ref a1, .int 47, .int 0, .int 3, .int 1, .int 1, .ref a3])), (a1, .inr (5, [.ref cb, .int 81, .int 0, .ref a2, .int 7, .ref a4, .int 3, .ref a5, .int 1, .int 1, .ref a6, .int 6, .int 0, .int 1, .int 0])), (a2, .inl (cy 2, 2048, .inr (.inl f0)))]) [1, 2, 0] (by decide) rfl
  have hFc := va_free (wc := [(a0, .inr (6, [.int 0, .int 0, .ref a1, .int 47, .int 0, .int 3, .int 1, .int 1, .ref a3])), (a1, .inr (5, [.ref cb, .int 81, .int 0, .ref a2, .int 7, .ref a4, .int 3, .ref a5, .int 1, .int 1, .ref a6, .int 6, .int 0, .int 1, .int 0])), (a2, .inl (cy 2, 2048, .inr (.inl f0)))]) hD hS hA [1, 2, 0] rfl
  refine va_callv (va_runV (As := [.int 2, .int 1]) (rest := []) ⟨hx, hb, hml, hown, hts⟩ (cc_159_X6_readTypes l dC dI cy H_2.size cb a0 a1 a2 a3 a4 a5 a6 f0 f0_0) (cwV 2 hts gX6_readList_X6_readTypes rfl rfl rfl (by decide +kernel) ⟨Nat.le_of_ble_eq_true rfl, Nat.le_of_ble_eq_true rfl⟩) ⟨fun a U g mk q => by obtain ⟨q0, q1, qP, qK, qD, qN, qS⟩ := q; exact ⟨q0, q1, qP, va_K.moved (u := U) (U := U.calling g mk a) (Vm.Alike.refl U.vm) qK, qD, qN.same rfl, SK.moved (u := U) (U := U.calling g mk a) (Vm.Alike.refl U.vm) qS⟩, va_recv hK hPc (ci := 6) (q0 := 0) rfl rfl, fun U hU hW => ⟨rfl, by rw [hU], by rw [hU]; exact hPc, va_K.moved hW.alike hK, hDc.weaken (fun _ _ _ _ => trivial), hN.warm hW, by rw [hU]; exact ((hSK.kept hS.2.1).narrow hFc).moved hW.alike⟩⟩ rfl rfl hl.1 rfl (lv_room (Nat.le_of_ble_eq_true rfl)) dX6_readList_10 ⟨Nat.le_of_ble_eq_true rfl, Nat.le_of_ble_eq_true rfl⟩) hS (fun q _ h => hFc q h) hFc (fun u t H_3 locs ht hvm hw hB hz1 hk1 hS2 => ?_)
  obtain ⟨g_4, rfl⟩ : ∃ z, z = u := ⟨_, rfl⟩
  obtain ⟨hP1, hK1, hD1⟩ := hB
  rw [ht] at hP1
  have kp_5 := hw
  obtain ⟨hP2, hD2⟩ := va_join (wr := []) (w1 := [(a0, .inr (6, [.int 0, .int 0, .ref a1, .int 51, .int 0, .int 3, .int 1, .int 1, .ref a3])), (a1, .inr (5, [.ref cb, .int 81, .int 0, .ref a2, .int 9, .ref a4, .int 3, .ref a5, .int 1, .int 1, .ref a6, .int 6, .int 0, .int 1, .int 0])), (a2, .inl (cy 2, 2048, .inr (.inl g_4)))]) hP hD [1, 2, 0] [] rfl rfl (by decide) (by decide) hk1 hFc hP1 hD1
  replace hP : va_P (dC, dI) vwCl [(a0, .inr (6, [.int 0, .int 0, .ref a1, .int 51, .int 0, .int 3, .int 1, .int 1, .ref a3])), (a1, .inr (5, [.ref cb, .int 81, .int 0, .ref a2, .int 9, .ref a4, .int 3, .ref a5, .int 1, .int 1, .ref a6, .int 6, .int 0, .int 1, .int 0])), (a2, .inl (cy 2, 2048, .inr (.inl g_4)))] H_3 := hP2
  replace hD : va_D A [(a0, .inr (6, [.int 0, .int 0, .ref a1, .int 51, .int 0, .int 3, .int 1, .int 1, .ref a3])), (a1, .inr (5, [.ref cb, .int 81, .int 0, .ref a2, .int 9, .ref a4, .int 3, .ref a5, .int 1, .int 1, .ref a6, .int 6, .int 0, .int 1, .int 0])), (a2, .inl (cy 2, 2048, .inr (.inl g_4)))] := hD2
  replace hS := hS2
  clear hP2 hD2 hS2
  clear hPc hDc hFc hP1 hD1 hK1 hk1 hz1 hvm ht
  refine W.widen (k := 0) (n := 0) (Nat.le_of_ble_eq_true rfl) (Nat.le_of_ble_eq_true rfl) ?_
  refine lv_iload_n hx hb dX6_readList_13 rfl (lv_at hl 0 rfl) ?_
  exact W.iret hx hb hr (fun t ht hW => ⟨⟨2, (g_4), rfl, ⟨rfl, kp_5⟩, by rw [ht]; exact hP, va_K.moved hW.alike hK, hD⟩, hS.F ht⟩) hS.2.2 dX6_readList_14

set_option maxHeartbeats 4000000 in
set_option maxRecDepth 100000 in
theorem cc_168_X5_setFunction (l : Launch) (dC : Nat → ClassId) (dI : Nat → Nat → Nat) (cy : Nat → ClassId) (sz : Nat) (cb : Nat) (a0 : Nat) (a1 : Nat) (a2 : Nat) (a3 : Nat) (a4 : Nat) (f0 : Nat → Int32)  : Met l yX5_setFunction wsX5_setFunction ({ frames := 0, cells := 0, slots := 0, locals := 0 }) (va_Pc [.ref a0, .int 3, .int 2, .int 2] (fun U => U.heap.size = sz ∧ va_P (dC, dI) vwCl [(a0, .inr (5, [.ref cb, .int 81, .int 0, .ref a2, .int 9, .ref a3, .int 3, .ref a4, .int 1, .int 1, .ref a1, .int 6, .int 0, .int 1, .int 0])), (a1, .inl (cy 1, 864, .inl f0))] U.heap ∧ va_K (dC, dI) vwCl (TYS cy) U ∧ va_D (fun _ => True) [(a0, .inr (5, [.ref cb, .int 81, .int 0, .ref a2, .int 9, .ref a3, .int 3, .ref a4, .int 1, .int 1, .ref a1, .int 6, .int 0, .int 1, .int 0])), (a1, .inl (cy 1, 864, .inl f0))] ∧ NK U ∧ SK cb (va_A [(a0, .inr (5, [.ref cb, .int 81, .int 0, .ref a2, .int 9, .ref a3, .int 3, .ref a4, .int 1, .int 1, .ref a1, .int 6, .int 0, .int 1, .int 0])), (a1, .inl (cy 1, 864, .inl f0))] sz) U U.heap)) (va_Qv (fun u : (Nat → Int32) => True) (fun u t => match u with | (u0) => va_P (dC, dI) vwCl [(a0, .inr (5, [.ref cb, .int 81, .int 0, .ref a2, .int 9, .ref a3, .int 3, .ref a4, .int 1, .int 1, .ref a1, .int 6, .int 0, .int 1, .int 0])), (a1, .inl (cy 1, 864, .inl u0))] t.heap ∧ va_K (dC, dI) vwCl (TYS cy) t ∧ va_D (va_A [(a0, .inr (5, [.ref cb, .int 81, .int 0, .ref a2, .int 9, .ref a3, .int 3, .ref a4, .int 1, .int 1, .ref a1, .int 6, .int 0, .int 1, .int 0])), (a1, .inl (cy 1, 864, .inl f0))] sz) [(a0, .inr (5, [.ref cb, .int 81, .int 0, .ref a2, .int 9, .ref a3, .int 3, .ref a4, .int 1, .int 1, .ref a1, .int 6, .int 0, .int 1, .int 0])), (a1, .inl (cy 1, 864, .inl u0))]) (va_A [(a0, .inr (5, [.ref cb, .int 81, .int 0, .ref a2, .int 9, .ref a3, .int 3, .ref a4, .int 1, .int 1, .ref a1, .int 6, .int 0, .int 1, .int 0])), (a1, .inl (cy 1, 864, .inl f0))] sz)) 0 0 (va_A [(a0, .inr (5, [.ref cb, .int 81, .int 0, .ref a2, .int 9, .ref a3, .int 3, .ref a4, .int 1, .int 1, .ref a1, .int 6, .int 0, .int 1, .int 0])), (a1, .inl (cy 1, 864, .inl f0))] sz) := by
  refine Met.ofW (cc := cX5_setFunction) (maxL := 4) (ret := none) (by decide) rfl ?_
  intro p e s m args below meth c s₁ B hml hv
  obtain ⟨rfl, hsz, hP, hK, hD0, hN, hSK⟩ := hv
  have hx := B.exec
  have hb := B.bytes
  have hr := B.returns
  have hts := atoms_spec (ws := wsX5_setFunction) B.pre
  have hown : s.vm.findClass RX5 = some m.cls := findClass_of_methodNamed B.named
  have hlocks := B.notSynchronized
  subst hsz
  have hD := hD0.self (sz := s.heap.size)
  generalize hAe : va_A [(a0, .inr (5, [.ref cb, .int 81, .int 0, .ref a2, .int 9, .ref a3, .int 3, .ref a4, .int 1, .int 1, .ref a1, .int 6, .int 0, .int 1, .int 0])), (a1, .inl (cy 1, 864, .inl f0))] s.heap.size = A at hD hSK ⊢
  have hA : ∀ q : Nat, s.heap.size ≤ q → A q := fun q h => by rw [← hAe]; exact Or.inr h
  have hS : va_S A s.heap s.heap [] := va_S.rf
  have hP : va_P (dC, dI) vwCl [(a0, .inr (5, [.ref cb, .int 81, .int 0, .ref a2, .int 9, .ref a3, .int 3, .ref a4, .int 1, .int 1, .ref a1, .int 6, .int 0, .int 1, .int 0])), (a1, .inl (cy 1, 864, .inl f0))] s.heap := hP
  have hl := lv_entry ([.ref a0, .int 3, .int 2, .int 2]) (n := 4) (Nat.le_of_ble_eq_true rfl)
  rw [lg_entry_eq]
  generalize (lg_sl ([.ref a0, .int 3, .int 2, .int 2]) ++ List.replicate (4 - (lg_sl ([.ref a0, .int 3, .int 2, .int 2])).length) Slot.unset).toArray = ls at hl ⊢
  replace hl : lv_has ls 4 [(0, .ref a0), (1, .int 3), (2, .int 2), (3, .int 2)] := hl
  refine lv_iload_n hx hb dX5_setFunction_0 rfl (lv_at hl 1 rfl) ?_
  refine lv_if_lt (tgt := 22) hx hb dX5_setFunction_1 (by decide) (fun h => absurd h (by decide)) (fun _ => ?_)
  refine lv_iload_n hx hb dX5_setFunction_4 rfl (lv_at hl 1 rfl) ?_
  refine lv_bipush (v := 96) hx hb dX5_setFunction_5 (by decide) ?_
  refine lv_icmp_ge (tgt := 22) hx hb dX5_setFunction_7 (by decide) (fun h => absurd h (by decide)) (fun _ => ?_)
  refine lv_aload_n hx hb dX5_setFunction_10 rfl (lv_at hl 0 rfl) ?_
  refine va_get (D := (dC, dI)) (ci := 5) (v := .ref a1) (C := RX5) (T := TX5) (N := 15) hx hb hts iw_X5_setFunction_X5 hown hK hP 0 rfl rfl 10 (by decide) (hts _ m_X5_setFunction_1) (fun _ h9 => h9) rfl dX5_setFunction_11 ?_
  refine lv_iload_n hx hb dX5_setFunction_14 rfl (lv_at hl 1 rfl) ?_
  refine lv_bipush (v := 9) hx hb dX5_setFunction_15 (by decide) ?_
  refine lv_imul hx hb dX5_setFunction_17 ?_
  refine lv_topi (fun z_1 ez_1 => ?_)
  obtain rfl : z_1 = 27 := ez_1.trans (by decide)
  clear ez_1
  refine lv_iload_n hx hb dX5_setFunction_18 rfl (lv_at hl 2 rfl) ?_
  refine lv_iadd hx hb dX5_setFunction_19 ?_
  refine lv_topi (fun z_2 ez_2 => ?_)
  obtain rfl : z_2 = 29 := ez_2.trans (by decide)
  clear ez_2
  refine lv_iload_n hx hb dX5_setFunction_20 rfl (lv_at hl 3 rfl) ?_
  refine va_iast hx hb hK hP hD hS 1 1 rfl rfl (by unfold vp_in; decide) dX5_setFunction_21 (fun H_4 locs hP2 hD2 hS2 => ?_)
  replace hP : va_P (dC, dI) vwCl [(a0, .inr (5, [.ref cb, .int 81, .int 0, .ref a2, .int 9, .ref a3, .int 3, .ref a4, .int 1, .int 1, .ref a1, .int 6, .int 0, .int 1, .int 0])), (a1, .inl (cy 1, 864, .inl (upd f0 29 2)))] H_4 := hP2
  replace hD : va_D A [(a0, .inr (5, [.ref cb, .int 81, .int 0, .ref a2, .int 9, .ref a3, .int 3, .ref a4, .int 1, .int 1, .ref a1, .int 6, .int 0, .int 1, .int 0])), (a1, .inl (cy 1, 864, .inl (upd f0 29 2)))] := hD2
  replace hS := hS2
  clear hP2 hD2 hS2
  obtain ⟨g_3, eg_3⟩ : ∃ z, upd f0 29 2 = z := ⟨_, rfl⟩
  rw [eg_3] at hP hD
  exact W.vret hx hb hr (fun t ht hW => ⟨⟨(g_3), rfl, trivial, by rw [ht]; exact hP, va_K.moved hW.alike hK, hD⟩, hS.F ht⟩) hS.2.2 dX5_setFunction_22

set_option maxHeartbeats 4000000 in
set_option maxRecDepth 100000 in
theorem cc_171_X6_readByte (l : Launch) (dC : Nat → ClassId) (dI : Nat → Nat → Nat) (cy : Nat → ClassId) (sz : Nat) (cb : Nat) (a0 : Nat) (a1 : Nat) (a2 : Nat) (a3 : Nat) (a4 : Nat) (a5 : Nat) (a6 : Nat)  : Met l yX6_readByte wsX6_readByte ({ frames := 0, cells := 0, slots := 0, locals := 0 }) (va_Pc [.ref a0] (fun U => U.heap.size = sz ∧ va_P (dC, dI) vwCl [(a0, .inr (6, [.int 0, .int 0, .ref a1, .int 51, .int 0, .int 3, .int 1, .int 1, .ref a2])), (a1, .inr (5, [.ref cb, .int 81, .int 0, .ref a3, .int 9, .ref a4, .int 3, .ref a5, .int 1, .int 1, .ref a6, .int 6, .int 0, .int 1, .int 0]))] U.heap ∧ va_K (dC, dI) vwCl (TYS cy) U ∧ va_D (fun _ => True) [(a0, .inr (6, [.int 0, .int 0, .ref a1, .int 51, .int 0, .int 3, .int 1, .int 1, .ref a2])), (a1, .inr (5, [.ref cb, .int 81, .int 0, .ref a3, .int 9, .ref a4, .int 3, .ref a5, .int 1, .int 1, .ref a6, .int 6, .int 0, .int 1, .int 0]))] ∧ NK U ∧ SK cb (va_A [(a0, .inr (6, [.int 0, .int 0, .ref a1, .int 51, .int 0, .int 3, .int 1, .int 1, .ref a2])), (a1, .inr (5, [.ref cb, .int 81, .int 0, .ref a3, .int 9, .ref a4, .int 3, .ref a5, .int 1, .int 1, .ref a6, .int 6, .int 0, .int 1, .int 0]))] sz) U U.heap)) (va_Qi (fun (r : Int32) (u : Unit) => r = 1) (fun u t => va_P (dC, dI) vwCl [(a0, .inr (6, [.int 0, .int 0, .ref a1, .int 52, .int 0, .int 3, .int 1, .int 1, .ref a2])), (a1, .inr (5, [.ref cb, .int 81, .int 0, .ref a3, .int 9, .ref a4, .int 3, .ref a5, .int 1, .int 1, .ref a6, .int 6, .int 0, .int 1, .int 0]))] t.heap ∧ va_K (dC, dI) vwCl (TYS cy) t ∧ va_D (va_A [(a0, .inr (6, [.int 0, .int 0, .ref a1, .int 51, .int 0, .int 3, .int 1, .int 1, .ref a2])), (a1, .inr (5, [.ref cb, .int 81, .int 0, .ref a3, .int 9, .ref a4, .int 3, .ref a5, .int 1, .int 1, .ref a6, .int 6, .int 0, .int 1, .int 0]))] sz) [(a0, .inr (6, [.int 0, .int 0, .ref a1, .int 52, .int 0, .int 3, .int 1, .int 1, .ref a2])), (a1, .inr (5, [.ref cb, .int 81, .int 0, .ref a3, .int 9, .ref a4, .int 3, .ref a5, .int 1, .int 1, .ref a6, .int 6, .int 0, .int 1, .int 0]))]) (va_A [(a0, .inr (6, [.int 0, .int 0, .ref a1, .int 51, .int 0, .int 3, .int 1, .int 1, .ref a2])), (a1, .inr (5, [.ref cb, .int 81, .int 0, .ref a3, .int 9, .ref a4, .int 3, .ref a5, .int 1, .int 1, .ref a6, .int 6, .int 0, .int 1, .int 0]))] sz)) 0 0 (va_A [(a0, .inr (6, [.int 0, .int 0, .ref a1, .int 51, .int 0, .int 3, .int 1, .int 1, .ref a2])), (a1, .inr (5, [.ref cb, .int 81, .int 0, .ref a3, .int 9, .ref a4, .int 3, .ref a5, .int 1, .int 1, .ref a6, .int 6, .int 0, .int 1, .int 0]))] sz) := by
  refine Met.ofW (cc := cX6_readByte) (maxL := 1) (ret := (some .int)) (by decide) rfl ?_
  intro p e s m args below meth c s₁ B hml hv
  obtain ⟨rfl, hsz, hP, hK, hD0, hN, hSK⟩ := hv
  have hx := B.exec
  have hb := B.bytes
  have hr := B.returns
  have hts := atoms_spec (ws := wsX6_readByte) B.pre
  have hown : s.vm.findClass RX6 = some m.cls := findClass_of_methodNamed B.named
  have hlocks := B.notSynchronized
  subst hsz
  have hD := hD0.self (sz := s.heap.size)
  generalize hAe : va_A [(a0, .inr (6, [.int 0, .int 0, .ref a1, .int 51, .int 0, .int 3, .int 1, .int 1, .ref a2])), (a1, .inr (5, [.ref cb, .int 81, .int 0, .ref a3, .int 9, .ref a4, .int 3, .ref a5, .int 1, .int 1, .ref a6, .int 6, .int 0, .int 1, .int 0]))] s.heap.size = A at hD hSK ⊢
  have hA : ∀ q : Nat, s.heap.size ≤ q → A q := fun q h => by rw [← hAe]; exact Or.inr h
  have hS : va_S A s.heap s.heap [] := va_S.rf
  have hP : va_P (dC, dI) vwCl [(a0, .inr (6, [.int 0, .int 0, .ref a1, .int 51, .int 0, .int 3, .int 1, .int 1, .ref a2])), (a1, .inr (5, [.ref cb, .int 81, .int 0, .ref a3, .int 9, .ref a4, .int 3, .ref a5, .int 1, .int 1, .ref a6, .int 6, .int 0, .int 1, .int 0]))] s.heap := hP
  have hl := lv_entry ([.ref a0]) (n := 1) (Nat.le_of_ble_eq_true rfl)
  rw [lg_entry_eq]
  generalize (lg_sl ([.ref a0]) ++ List.replicate (1 - (lg_sl ([.ref a0])).length) Slot.unset).toArray = ls at hl ⊢
  replace hl : lv_has ls 1 [(0, .ref a0)] := hl
  refine lv_aload_n hx hb dX6_readByte_0 rfl (lv_at hl 0 rfl) ?_
  refine va_get (D := (dC, dI)) (ci := 6) (v := .int 0) (C := RX6) (T := TX6) (N := 9) hx hb hts iw_X6_readByte_X6 hown hK hP 0 rfl rfl 1 (by decide) (hts _ m_X6_readByte_1) (fun _ h9 => h9) rfl dX6_readByte_1 ?_
  refine lv_if_eq (tgt := 9) hx hb dX6_readByte_4 (by decide) (fun _ => ?_) (fun h => absurd (by decide) h)
  refine lv_aload_n hx hb dX6_readByte_9 rfl (lv_at hl 0 rfl) ?_
  refine va_get (D := (dC, dI)) (ci := 6) (v := .int 51) (C := RX6) (T := TX6) (N := 9) hx hb hts iw_X6_readByte_X6 hown hK hP 0 rfl rfl 3 (by decide) (hts _ m_X6_readByte_2) (fun _ h9 => h9) rfl dX6_readByte_10 ?_
  refine lv_aload_n hx hb dX6_readByte_13 rfl (lv_at hl 0 rfl) ?_
  refine va_get (D := (dC, dI)) (ci := 6) (v := .ref a1) (C := RX6) (T := TX6) (N := 9) hx hb hts iw_X6_readByte_X6 hown hK hP 0 rfl rfl 2 (by decide) (hts _ m_X6_readByte_3) (fun _ h9 => h9) rfl dX6_readByte_14 ?_
  refine va_get (D := (dC, dI)) (ci := 5) (v := .int 81) (C := RX5) (T := TX5) (N := 15) hx hb hts iw_X6_readByte_X5 hown hK hP 1 rfl rfl 1 (by decide) (hts _ m_X6_readByte_4) (fun _ h9 => h9) rfl dX6_readByte_17 ?_
  refine lv_icmp_lt (tgt := 41) hx hb dX6_readByte_20 (by decide) (fun _ => ?_) (fun h => absurd (by decide) h)
  refine lv_aload_n hx hb dX6_readByte_41 rfl (lv_at hl 0 rfl) ?_
  refine va_get (D := (dC, dI)) (ci := 6) (v := .ref a1) (C := RX6) (T := TX6) (N := 9) hx hb hts iw_X6_readByte_X6 hown hK hP 0 rfl rfl 2 (by decide) (hts _ m_X6_readByte_3) (fun _ h9 => h9) rfl dX6_readByte_42 ?_
  refine va_get (D := (dC, dI)) (ci := 5) (v := .ref cb) (C := RX5) (T := TX5) (N := 15) hx hb hts iw_X6_readByte_X5 hown hK hP 1 rfl rfl 0 (by decide) (hts _ m_X6_readByte_6) (fun _ h9 => h9) rfl dX6_readByte_45 ?_
  refine lv_aload_n hx hb dX6_readByte_48 rfl (lv_at hl 0 rfl) ?_
  refine lv_dup hx hb dX6_readByte_49 rfl ?_
  refine va_get (D := (dC, dI)) (ci := 6) (v := .int 51) (C := RX6) (T := TX6) (N := 9) hx hb hts iw_X6_readByte_X6 hown hK hP 0 rfl rfl 3 (by decide) (hts _ m_X6_readByte_2) (fun _ h9 => h9) rfl dX6_readByte_50 ?_
  refine lv_dup_x1 hx hb dX6_readByte_53 rfl rfl ?_
  refine lv_iconst (v := 1) hx hb dX6_readByte_54 (by decide) ?_
  refine lv_iadd hx hb dX6_readByte_55 ?_
  refine lv_topi (fun z_1 ez_1 => ?_)
  obtain rfl : z_1 = 52 := ez_1.trans (by decide)
  clear ez_1
  refine va_put (D := (dC, dI)) (ci := 6) (v := .int 52) (ty := .int) (C := RX6) (T := TX6) (N := 9) hx hb hts iw_X6_readByte_X6 tyX6 tyX6_ok nmX6 hown hK hP hD hS 0 rfl rfl 3 (by decide) (hts _ m_X6_readByte_2) (fun _ h9 => h9) rfl (by decide +kernel) rfl rfl (Nat.le_of_ble_eq_true rfl) dX6_readByte_56 (fun H_2 locs hP2 hD2 hS2 => ?_)
  replace hP : va_P (dC, dI) vwCl [(a0, .inr (6, [.int 0, .int 0, .ref a1, .int 52, .int 0, .int 3, .int 1, .int 1, .ref a2])), (a1, .inr (5, [.ref cb, .int 81, .int 0, .ref a3, .int 9, .ref a4, .int 3, .ref a5, .int 1, .int 1, .ref a6, .int 6, .int 0, .int 1, .int 0]))] H_2 := hP2
  replace hD : va_D A [(a0, .inr (6, [.int 0, .int 0, .ref a1, .int 52, .int 0, .int 3, .int 1, .int 1, .ref a2])), (a1, .inr (5, [.ref cb, .int 81, .int 0, .ref a3, .int 9, .ref a4, .int 3, .ref a5, .int 1, .int 1, .ref a6, .int 6, .int 0, .int 1, .int 0]))] := hD2
  replace hS := hS2
  clear hP2 hD2 hS2
  refine va_tb (v := .int 1) hx hb hSK.2 hS (by unfold vp_in; decide) rfl dX6_readByte_59 ?_
  refine lv_sipush (v := 255) hx hb dX6_readByte_60 (by decide) ?_
  refine lv_iand hx hb dX6_readByte_63 ?_
  refine lv_topi (fun z_3 ez_3 => ?_)
  obtain rfl : z_3 = 1 := ez_3.trans (by decide)
  clear ez_3
  exact W.iret hx hb hr (fun t ht hW => ⟨⟨1, (), rfl, rfl, by rw [ht]; exact hP, va_K.moved hW.alike hK, hD⟩, hS.F ht⟩) hS.2.2 dX6_readByte_64

set_option maxHeartbeats 4000000 in
set_option maxRecDepth 100000 in
theorem cc_170_X6_readNumber (l : Launch) (dC : Nat → ClassId) (dI : Nat → Nat → Nat) (cy : Nat → ClassId) (sz : Nat) (cb : Nat) (a0 : Nat) (a1 : Nat) (a2 : Nat) (a3 : Nat) (a4 : Nat) (a5 : Nat) (a6 : Nat)  : Met l yX6_readNumber wsX6_readNumber ({ frames := 1, cells := 0, slots := 0, locals := 20 }) (va_Pc [.ref a0, .int 0, .int 8] (fun U => U.heap.size = sz ∧ va_P (dC, dI) vwCl [(a0, .inr (6, [.int 0, .int 0, .ref a1, .int 51, .int 0, .int 3, .int 1, .int 1, .ref a2])), (a1, .inr (5, [.ref cb, .int 81, .int 0, .ref a3, .int 9, .ref a4, .int 3, .ref a5, .int 1, .int 1, .ref a6, .int 6, .int 0, .int 1, .int 0]))] U.heap ∧ va_K (dC, dI) vwCl (TYS cy) U ∧ va_D (fun _ => True) [(a0, .inr (6, [.int 0, .int 0, .ref a1, .int 51, .int 0, .int 3, .int 1, .int 1, .ref a2])), (a1, .inr (5, [.ref cb, .int 81, .int 0, .ref a3, .int 9, .ref a4, .int 3, .ref a5, .int 1, .int 1, .ref a6, .int 6, .int 0, .int 1, .int 0]))] ∧ NK U ∧ SK cb (va_A [(a0, .inr (6, [.int 0, .int 0, .ref a1, .int 51, .int 0, .int 3, .int 1, .int 1, .ref a2])), (a1, .inr (5, [.ref cb, .int 81, .int 0, .ref a3, .int 9, .ref a4, .int 3, .ref a5, .int 1, .int 1, .ref a6, .int 6, .int 0, .int 1, .int 0]))] sz) U U.heap)) (va_Qi (fun (r : Int32) (u : Unit) => r = 1) (fun u t => va_P (dC, dI) vwCl [(a0, .inr (6, [.int 0, .int 0, .ref a1, .int 52, .int 0, .int 3, .int 1, .int 1, .ref a2])), (a1, .inr (5, [.ref cb, .int 81, .int 0, .ref a3, .int 9, .ref a4, .int 3, .ref a5, .int 1, .int 1, .ref a6, .int 6, .int 0, .int 1, .int 0]))] t.heap ∧ va_K (dC, dI) vwCl (TYS cy) t ∧ va_D (va_A [(a0, .inr (6, [.int 0, .int 0, .ref a1, .int 51, .int 0, .int 3, .int 1, .int 1, .ref a2])), (a1, .inr (5, [.ref cb, .int 81, .int 0, .ref a3, .int 9, .ref a4, .int 3, .ref a5, .int 1, .int 1, .ref a6, .int 6, .int 0, .int 1, .int 0]))] sz) [(a0, .inr (6, [.int 0, .int 0, .ref a1, .int 52, .int 0, .int 3, .int 1, .int 1, .ref a2])), (a1, .inr (5, [.ref cb, .int 81, .int 0, .ref a3, .int 9, .ref a4, .int 3, .ref a5, .int 1, .int 1, .ref a6, .int 6, .int 0, .int 1, .int 0]))]) (va_A [(a0, .inr (6, [.int 0, .int 0, .ref a1, .int 51, .int 0, .int 3, .int 1, .int 1, .ref a2])), (a1, .inr (5, [.ref cb, .int 81, .int 0, .ref a3, .int 9, .ref a4, .int 3, .ref a5, .int 1, .int 1, .ref a6, .int 6, .int 0, .int 1, .int 0]))] sz)) 0 0 (va_A [(a0, .inr (6, [.int 0, .int 0, .ref a1, .int 51, .int 0, .int 3, .int 1, .int 1, .ref a2])), (a1, .inr (5, [.ref cb, .int 81, .int 0, .ref a3, .int 9, .ref a4, .int 3, .ref a5, .int 1, .int 1, .ref a6, .int 6, .int 0, .int 1, .int 0]))] sz) := by
  refine Met.ofW (cc := cX6_readNumber) (maxL := 5) (ret := (some .int)) (by decide) rfl ?_
  intro p e s m args below meth c s₁ B hml hv
  obtain ⟨rfl, hsz, hP, hK, hD0, hN, hSK⟩ := hv
  have hx := B.exec
  have hb := B.bytes
  have hr := B.returns
  have hts := atoms_spec (ws := wsX6_readNumber) B.pre
  have hown : s.vm.findClass RX6 = some m.cls := findClass_of_methodNamed B.named
  have hlocks := B.notSynchronized
  subst hsz
  have hD := hD0.self (sz := s.heap.size)
  generalize hAe : va_A [(a0, .inr (6, [.int 0, .int 0, .ref a1, .int 51, .int 0, .int 3, .int 1, .int 1, .ref a2])), (a1, .inr (5, [.ref cb, .int 81, .int 0, .ref a3, .int 9, .ref a4, .int 3, .ref a5, .int 1, .int 1, .ref a6, .int 6, .int 0, .int 1, .int 0]))] s.heap.size = A at hD hSK ⊢
  have hA : ∀ q : Nat, s.heap.size ≤ q → A q := fun q h => by rw [← hAe]; exact Or.inr h
  have hS : va_S A s.heap s.heap [] := va_S.rf
  have hP : va_P (dC, dI) vwCl [(a0, .inr (6, [.int 0, .int 0, .ref a1, .int 51, .int 0, .int 3, .int 1, .int 1, .ref a2])), (a1, .inr (5, [.ref cb, .int 81, .int 0, .ref a3, .int 9, .ref a4, .int 3, .ref a5, .int 1, .int 1, .ref a6, .int 6, .int 0, .int 1, .int 0]))] s.heap := hP
  have hl := lv_entry ([.ref a0, .int 0, .int 8]) (n := 5) (Nat.le_of_ble_eq_true rfl)
  rw [lg_entry_eq]
  generalize (lg_sl ([.ref a0, .int 0, .int 8]) ++ List.replicate (5 - (lg_sl ([.ref a0, .int 0, .int 8])).length) Slot.unset).toArray = ls at hl ⊢
  replace hl : lv_has ls 5 [(0, .ref a0), (1, .int 0), (2, .int 8)] := hl
  refine lv_aload_n hx hb dX6_readNumber_0 rfl (lv_at hl 0 rfl) ?_
  refine va_get (D := (dC, dI)) (ci := 6) (v := .int 51) (C := RX6) (T := TX6) (N := 9) hx hb hts iw_X6_readNumber_X6 hown hK hP 0 rfl rfl 3 (by decide) (hts _ m_X6_readNumber_1) (fun _ h9 => h9) rfl dX6_readNumber_1 ?_
  refine lv_istore_n (lv' := [(3, .int 51), (0, .ref a0), (1, .int 0), (2, .int 8)]) hx hb dX6_readNumber_4 rfl hl (by decide) rfl (fun ls hl2 => ?_)
  replace hl := hl2
  clear hl2
  refine lv_aload_n hx hb dX6_readNumber_5 rfl (lv_at hl 1 rfl) ?_
  have hPc := hP.sub (ws' := [(a0, .inr (6, [.int 0, .int 0, .ref a1, .int 51, .int 0, .int 3, .int 1, .int 1, .ref a2])), (a1, .inr (5, [.ref cb, .int 81, .int 0, .ref a3, .int 9, .ref a4, .int 3, .ref a5, .int 1, .int 1, .ref a6, .int 6, .int 0, .int 1, .int 0]))]) [0, 1] rfl
  have hDc := hD.sub (ws' := [(a0, .inr (6, [.int 0, .int 0, .ref a1, .int 51, .int 0, .int 3, .int 1, .int 1, .ref a2])), (a1, .inr (5, [.ref cb, .int 81, .int 0, .ref a3, .int 9, .ref a4, .int 3, .ref a5, .int 1, .int 1, .ref a6, .int 6, .int 0, .int 1, .int 0]))]) [0, 1] (by decide) rfl
  have hFc := va_free (wc := [(a0, .inr (6, [.int 0, .int 0, .ref a1, .int 51, .int 0, .int 3, .int 1, .int 1, .ref a2])), (a1, .inr (5, [.ref cb, .int 81, .int 0, .ref a3, .int 9, .ref a4, .int 3, .ref a5, .int 1, .int 1, .ref a6, .int 6, .int 0, .int 1, .int 0]))]) hD hS hA [0, 1] rfl
  refine va_calli (va_runV (As := []) (rest := []) ⟨hx, hb, hml, hown, hts⟩ (cc_171_X6_readByte l dC dI cy s.heap.size cb a0 a1 a2 a3 a4 a5 a6) (cwV 0 hts gX6_readNumber_X6_readByte rfl rfl rfl (by decide +kernel) ⟨Nat.le_of_ble_eq_true rfl, Nat.le_of_ble_eq_true rfl⟩) ⟨fun a U g mk q => by obtain ⟨q0, q1, qP, qK, qD, qN, qS⟩ := q; exact ⟨q0, q1, qP, va_K.moved (u := U) (U := U.calling g mk a) (Vm.Alike.refl U.vm) qK, qD, qN.same rfl, SK.moved (u := U) (U := U.calling g mk a) (Vm.Alike.refl U.vm) qS⟩, va_recv hK hPc (ci := 6) (q0 := 0) rfl rfl, fun U hU hW => ⟨rfl, by rw [hU], by rw [hU]; exact hPc, va_K.moved hW.alike hK, hDc.weaken (fun _ _ _ _ => trivial), hN.warm hW, by rw [hU]; exact ((hSK.kept hS.2.1).narrow hFc).moved hW.alike⟩⟩ rfl rfl hl.1 rfl (lv_room (Nat.le_of_ble_eq_true rfl)) dX6_readNumber_6 ⟨Nat.le_of_ble_eq_true rfl, Nat.le_of_ble_eq_true rfl⟩) hS (fun q _ h => hFc q h) hFc (fun r_1 u t H_2 locs ht hvm hw hB hz1 hk1 hS2 => ?_)
  obtain ⟨hP1, hK1, hD1⟩ := hB
  rw [ht] at hP1
  obtain rfl := hw
  obtain ⟨hP2, hD2⟩ := va_join (wr := []) (w1 := [(a0, .inr (6, [.int 0, .int 0, .ref a1, .int 52, .int 0, .int 3, .int 1, .int 1, .ref a2])), (a1, .inr (5, [.ref cb, .int 81, .int 0, .ref a3, .int 9, .ref a4, .int 3, .ref a5, .int 1, .int 1, .ref a6, .int 6, .int 0, .int 1, .int 0]))]) hP hD [0, 1] [] rfl rfl (by decide) (by decide) hk1 hFc hP1 hD1
  replace hP : va_P (dC, dI) vwCl [(a0, .inr (6, [.int 0, .int 0, .ref a1, .int 52, .int 0, .int 3, .int 1, .int 1, .ref a2])), (a1, .inr (5, [.ref cb, .int 81, .int 0, .ref a3, .int 9, .ref a4, .int 3, .ref a5, .int 1, .int 1, .ref a6, .int 6, .int 0, .int 1, .int 0]))] H_2 := hP2
  replace hD : va_D A [(a0, .inr (6, [.int 0, .int 0, .ref a1, .int 52, .int 0, .int 3, .int 1, .int 1, .ref a2])), (a1, .inr (5, [.ref cb, .int 81, .int 0, .ref a3, .int 9, .ref a4, .int 3, .ref a5, .int 1, .int 1, .ref a6, .int 6, .int 0, .int 1, .int 0]))] := hD2
  replace hS := hS2
  clear hP2 hD2 hS2
  clear hPc hDc hFc hP1 hD1 hK1 hk1 hz1 hvm ht
  refine W.widen (k := 0) (n := 0) (Nat.le_of_ble_eq_true rfl) (Nat.le_of_ble_eq_true rfl) ?_
  refine lv_istore (lv' := [(4, .int 1), (3, .int 51), (0, .ref a0), (1, .int 0), (2, .int 8)]) hx hb dX6_readNumber_9 hl (by decide) rfl (fun ls hl2 => ?_)
  replace hl := hl2
  clear hl2
  refine lv_iload hx hb dX6_readNumber_11 (lv_at hl 0 rfl) ?_
  refine lv_iload_n hx hb dX6_readNumber_13 rfl (lv_at hl 3 rfl) ?_
  refine lv_icmp_lt (tgt := 23) hx hb dX6_readNumber_14 (by decide) (fun h => absurd h (by decide)) (fun _ => ?_)
  refine lv_iload hx hb dX6_readNumber_17 (lv_at hl 0 rfl) ?_
  refine lv_iload_n hx hb dX6_readNumber_19 rfl (lv_at hl 4 rfl) ?_
  refine lv_icmp_le (tgt := 29) hx hb dX6_readNumber_20 (by decide) (fun _ => ?_) (fun h => absurd (by decide) h)
  refine lv_aload_n hx hb dX6_readNumber_29 rfl (lv_at hl 2 rfl) ?_
  refine va_get (D := (dC, dI)) (ci := 6) (v := .int 0) (C := RX6) (T := TX6) (N := 9) hx hb hts iw_X6_readNumber_X6 hown hK hP 0 rfl rfl 1 (by decide) (hts _ m_X6_readNumber_2) (fun _ h9 => h9) rfl dX6_readNumber_30 ?_
  refine lv_if_ne (tgt := 41) hx hb dX6_readNumber_33 (by decide) (fun h => absurd (by decide) h) (fun _ => ?_)
  refine lv_iload hx hb dX6_readNumber_36 (lv_at hl 0 rfl) ?_
  refine lv_goto (tgt := 42) hx hb dX6_readNumber_38 (by decide) ?_
  exact W.iret hx hb hr (fun t ht hW => ⟨⟨1, (), rfl, rfl, by rw [ht]; exact hP, va_K.moved hW.alike hK, hD⟩, hS.F ht⟩) hS.2.2 dX6_readNumber_42

set_option maxHeartbeats 4000000 in
set_option maxRecDepth 100000 in
theorem cc_174_X6_readByte (l : Launch) (dC : Nat → ClassId) (dI : Nat → Nat → Nat) (cy : Nat → ClassId) (sz : Nat) (cb : Nat) (a0 : Nat) (a1 : Nat) (a2 : Nat) (a3 : Nat) (a4 : Nat) (a5 : Nat) (a6 : Nat)  : Met l yX6_readByte wsX6_readByte ({ frames := 0, cells := 0, slots := 0, locals := 0 }) (va_Pc [.ref a0] (fun U => U.heap.size = sz ∧ va_P (dC, dI) vwCl [(a0, .inr (6, [.int 0, .int 0, .ref a1, .int 52, .int 0, .int 3, .int 1, .int 1, .ref a2])), (a1, .inr (5, [.ref cb, .int 81, .int 0, .ref a3, .int 9, .ref a4, .int 3, .ref a5, .int 1, .int 1, .ref a6, .int 6, .int 0, .int 1, .int 0]))] U.heap ∧ va_K (dC, dI) vwCl (TYS cy) U ∧ va_D (fun _ => True) [(a0, .inr (6, [.int 0, .int 0, .ref a1, .int 52, .int 0, .int 3, .int 1, .int 1, .ref a2])), (a1, .inr (5, [.ref cb, .int 81, .int 0, .ref a3, .int 9, .ref a4, .int 3, .ref a5, .int 1, .int 1, .ref a6, .int 6, .int 0, .int 1, .int 0]))] ∧ NK U ∧ SK cb (va_A [(a0, .inr (6, [.int 0, .int 0, .ref a1, .int 52, .int 0, .int 3, .int 1, .int 1, .ref a2])), (a1, .inr (5, [.ref cb, .int 81, .int 0, .ref a3, .int 9, .ref a4, .int 3, .ref a5, .int 1, .int 1, .ref a6, .int 6, .int 0, .int 1, .int 0]))] sz) U U.heap)) (va_Qi (fun (r : Int32) (u : Unit) => r = 6) (fun u t => va_P (dC, dI) vwCl [(a0, .inr (6, [.int 0, .int 0, .ref a1, .int 53, .int 0, .int 3, .int 1, .int 1, .ref a2])), (a1, .inr (5, [.ref cb, .int 81, .int 0, .ref a3, .int 9, .ref a4, .int 3, .ref a5, .int 1, .int 1, .ref a6, .int 6, .int 0, .int 1, .int 0]))] t.heap ∧ va_K (dC, dI) vwCl (TYS cy) t ∧ va_D (va_A [(a0, .inr (6, [.int 0, .int 0, .ref a1, .int 52, .int 0, .int 3, .int 1, .int 1, .ref a2])), (a1, .inr (5, [.ref cb, .int 81, .int 0, .ref a3, .int 9, .ref a4, .int 3, .ref a5, .int 1, .int 1, .ref a6, .int 6, .int 0, .int 1, .int 0]))] sz) [(a0, .inr (6, [.int 0, .int 0, .ref a1, .int 53, .int 0, .int 3, .int 1, .int 1, .ref a2])), (a1, .inr (5, [.ref cb, .int 81, .int 0, .ref a3, .int 9, .ref a4, .int 3, .ref a5, .int 1, .int 1, .ref a6, .int 6, .int 0, .int 1, .int 0]))]) (va_A [(a0, .inr (6, [.int 0, .int 0, .ref a1, .int 52, .int 0, .int 3, .int 1, .int 1, .ref a2])), (a1, .inr (5, [.ref cb, .int 81, .int 0, .ref a3, .int 9, .ref a4, .int 3, .ref a5, .int 1, .int 1, .ref a6, .int 6, .int 0, .int 1, .int 0]))] sz)) 0 0 (va_A [(a0, .inr (6, [.int 0, .int 0, .ref a1, .int 52, .int 0, .int 3, .int 1, .int 1, .ref a2])), (a1, .inr (5, [.ref cb, .int 81, .int 0, .ref a3, .int 9, .ref a4, .int 3, .ref a5, .int 1, .int 1, .ref a6, .int 6, .int 0, .int 1, .int 0]))] sz) := by
  refine Met.ofW (cc := cX6_readByte) (maxL := 1) (ret := (some .int)) (by decide) rfl ?_
  intro p e s m args below meth c s₁ B hml hv
  obtain ⟨rfl, hsz, hP, hK, hD0, hN, hSK⟩ := hv
  have hx := B.exec
  have hb := B.bytes
  have hr := B.returns
  have hts := atoms_spec (ws := wsX6_readByte) B.pre
  have hown : s.vm.findClass RX6 = some m.cls := findClass_of_methodNamed B.named
  have hlocks := B.notSynchronized
  subst hsz
  have hD := hD0.self (sz := s.heap.size)
  generalize hAe : va_A [(a0, .inr (6, [.int 0, .int 0, .ref a1, .int 52, .int 0, .int 3, .int 1, .int 1, .ref a2])), (a1, .inr (5, [.ref cb, .int 81, .int 0, .ref a3, .int 9, .ref a4, .int 3, .ref a5, .int 1, .int 1, .ref a6, .int 6, .int 0, .int 1, .int 0]))] s.heap.size = A at hD hSK ⊢
  have hA : ∀ q : Nat, s.heap.size ≤ q → A q := fun q h => by rw [← hAe]; exact Or.inr h
  have hS : va_S A s.heap s.heap [] := va_S.rf
  have hP : va_P (dC, dI) vwCl [(a0, .inr (6, [.int 0, .int 0, .ref a1, .int 52, .int 0, .int 3, .int 1, .int 1, .ref a2])), (a1, .inr (5, [.ref cb, .int 81, .int 0, .ref a3, .int 9, .ref a4, .int 3, .ref a5, .int 1, .int 1, .ref a6, .int 6, .int 0, .int 1, .int 0]))] s.heap := hP
  have hl := lv_entry ([.ref a0]) (n := 1) (Nat.le_of_ble_eq_true rfl)
  rw [lg_entry_eq]
  generalize (lg_sl ([.ref a0]) ++ List.replicate (1 - (lg_sl ([.ref a0])).length) Slot.unset).toArray = ls at hl ⊢
  replace hl : lv_has ls 1 [(0, .ref a0)] := hl
  refine lv_aload_n hx hb dX6_readByte_0 rfl (lv_at hl 0 rfl) ?_
  refine va_get (D := (dC, dI)) (ci := 6) (v := .int 0) (C := RX6) (T := TX6) (N := 9) hx hb hts iw_X6_readByte_X6 hown hK hP 0 rfl rfl 1 (by decide) (hts _ m_X6_readByte_1) (fun _ h9 => h9) rfl dX6_readByte_1 ?_
  refine lv_if_eq (tgt := 9) hx hb dX6_readByte_4 (by decide) (fun _ => ?_) (fun h => absurd (by decide) h)
  refine lv_aload_n hx hb dX6_readByte_9 rfl (lv_at hl 0 rfl) ?_
  refine va_get (D := (dC, dI)) (ci := 6) (v := .int 52) (C := RX6) (T := TX6) (N := 9) hx hb hts iw_X6_readByte_X6 hown hK hP 0 rfl rfl 3 (by decide) (hts _ m_X6_readByte_2) (fun _ h9 => h9) rfl dX6_readByte_10 ?_
  refine lv_aload_n hx hb dX6_readByte_13 rfl (lv_at hl 0 rfl) ?_
  refine va_get (D := (dC, dI)) (ci := 6) (v := .ref a1) (C := RX6) (T := TX6) (N := 9) hx hb hts iw_X6_readByte_X6 hown hK hP 0 rfl rfl 2 (by decide) (hts _ m_X6_readByte_3) (fun _ h9 => h9) rfl dX6_readByte_14 ?_
  refine va_get (D := (dC, dI)) (ci := 5) (v := .int 81) (C := RX5) (T := TX5) (N := 15) hx hb hts iw_X6_readByte_X5 hown hK hP 1 rfl rfl 1 (by decide) (hts _ m_X6_readByte_4) (fun _ h9 => h9) rfl dX6_readByte_17 ?_
  refine lv_icmp_lt (tgt := 41) hx hb dX6_readByte_20 (by decide) (fun _ => ?_) (fun h => absurd (by decide) h)
  refine lv_aload_n hx hb dX6_readByte_41 rfl (lv_at hl 0 rfl) ?_
  refine va_get (D := (dC, dI)) (ci := 6) (v := .ref a1) (C := RX6) (T := TX6) (N := 9) hx hb hts iw_X6_readByte_X6 hown hK hP 0 rfl rfl 2 (by decide) (hts _ m_X6_readByte_3) (fun _ h9 => h9) rfl dX6_readByte_42 ?_
  refine va_get (D := (dC, dI)) (ci := 5) (v := .ref cb) (C := RX5) (T := TX5) (N := 15) hx hb hts iw_X6_readByte_X5 hown hK hP 1 rfl rfl 0 (by decide) (hts _ m_X6_readByte_6) (fun _ h9 => h9) rfl dX6_readByte_45 ?_
  refine lv_aload_n hx hb dX6_readByte_48 rfl (lv_at hl 0 rfl) ?_
  refine lv_dup hx hb dX6_readByte_49 rfl ?_
  refine va_get (D := (dC, dI)) (ci := 6) (v := .int 52) (C := RX6) (T := TX6) (N := 9) hx hb hts iw_X6_readByte_X6 hown hK hP 0 rfl rfl 3 (by decide) (hts _ m_X6_readByte_2) (fun _ h9 => h9) rfl dX6_readByte_50 ?_
  refine lv_dup_x1 hx hb dX6_readByte_53 rfl rfl ?_
  refine lv_iconst (v := 1) hx hb dX6_readByte_54 (by decide) ?_
  refine lv_iadd hx hb dX6_readByte_55 ?_
  refine lv_topi (fun z_1 ez_1 => ?_)
  obtain rfl : z_1 = 53 := ez_1.trans (by decide)
  clear ez_1
  refine va_put (D := (dC, dI)) (ci := 6) (v := .int 53) (ty := .int) (C := RX6) (T := TX6) (N := 9) hx hb hts iw_X6_readByte_X6 tyX6 tyX6_ok nmX6 hown hK hP hD hS 0 rfl rfl 3 (by decide) (hts _ m_X6_readByte_2) (fun _ h9 => h9) rfl (by decide +kernel) rfl rfl (Nat.le_of_ble_eq_true rfl) dX6_readByte_56 (fun H_2 locs hP2 hD2 hS2 => ?_)
  replace hP : va_P (dC, dI) vwCl [(a0, .inr (6, [.int 0, .int 0, .ref a1, .int 53, .int 0, .int 3, .int 1, .int 1, .ref a2])), (a1, .inr (5, [.ref cb, .int 81, .int 0, .ref a3, .int 9, .ref a4, .int 3, .ref a5, .int 1, .int 1, .ref a6, .int 6, .int 0, .int 1, .int 0]))] H_2 := hP2
  replace hD : va_D A [(a0, .inr (6, [.int 0, .int 0, .ref a1, .int 53, .int 0, .int 3, .int 1, .int 1, .ref a2])), (a1, .inr (5, [.ref cb, .int 81, .int 0, .ref a3, .int 9, .ref a4, .int 3, .ref a5, .int 1, .int 1, .ref a6, .int 6, .int 0, .int 1, .int 0]))] := hD2
  replace hS := hS2
  clear hP2 hD2 hS2
  refine va_tb (v := .int 6) hx hb hSK.2 hS (by unfold vp_in; decide) rfl dX6_readByte_59 ?_
  refine lv_sipush (v := 255) hx hb dX6_readByte_60 (by decide) ?_
  refine lv_iand hx hb dX6_readByte_63 ?_
  refine lv_topi (fun z_3 ez_3 => ?_)
  obtain rfl : z_3 = 6 := ez_3.trans (by decide)
  clear ez_3
  exact W.iret hx hb hr (fun t ht hW => ⟨⟨6, (), rfl, rfl, by rw [ht]; exact hP, va_K.moved hW.alike hK, hD⟩, hS.F ht⟩) hS.2.2 dX6_readByte_64

set_option maxHeartbeats 4000000 in
set_option maxRecDepth 100000 in
theorem cc_175_X6_readByte (l : Launch) (dC : Nat → ClassId) (dI : Nat → Nat → Nat) (cy : Nat → ClassId) (sz : Nat) (cb : Nat) (a0 : Nat) (a1 : Nat) (a2 : Nat) (a3 : Nat) (a4 : Nat) (a5 : Nat) (a6 : Nat)  : Met l yX6_readByte wsX6_readByte ({ frames := 0, cells := 0, slots := 0, locals := 0 }) (va_Pc [.ref a0] (fun U => U.heap.size = sz ∧ va_P (dC, dI) vwCl [(a0, .inr (6, [.int 0, .int 0, .ref a1, .int 53, .int 0, .int 3, .int 1, .int 1, .ref a2])), (a1, .inr (5, [.ref cb, .int 81, .int 0, .ref a3, .int 9, .ref a4, .int 3, .ref a5, .int 1, .int 1, .ref a6, .int 6, .int 0, .int 1, .int 0]))] U.heap ∧ va_K (dC, dI) vwCl (TYS cy) U ∧ va_D (fun _ => True) [(a0, .inr (6, [.int 0, .int 0, .ref a1, .int 53, .int 0, .int 3, .int 1, .int 1, .ref a2])), (a1, .inr (5, [.ref cb, .int 81, .int 0, .ref a3, .int 9, .ref a4, .int 3, .ref a5, .int 1, .int 1, .ref a6, .int 6, .int 0, .int 1, .int 0]))] ∧ NK U ∧ SK cb (va_A [(a0, .inr (6, [.int 0, .int 0, .ref a1, .int 53, .int 0, .int 3, .int 1, .int 1, .ref a2])), (a1, .inr (5, [.ref cb, .int 81, .int 0, .ref a3, .int 9, .ref a4, .int 3, .ref a5, .int 1, .int 1, .ref a6, .int 6, .int 0, .int 1, .int 0]))] sz) U U.heap)) (va_Qi (fun (r : Int32) (u : Unit) => r = 0) (fun u t => va_P (dC, dI) vwCl [(a0, .inr (6, [.int 0, .int 0, .ref a1, .int 54, .int 0, .int 3, .int 1, .int 1, .ref a2])), (a1, .inr (5, [.ref cb, .int 81, .int 0, .ref a3, .int 9, .ref a4, .int 3, .ref a5, .int 1, .int 1, .ref a6, .int 6, .int 0, .int 1, .int 0]))] t.heap ∧ va_K (dC, dI) vwCl (TYS cy) t ∧ va_D (va_A [(a0, .inr (6, [.int 0, .int 0, .ref a1, .int 53, .int 0, .int 3, .int 1, .int 1, .ref a2])), (a1, .inr (5, [.ref cb, .int 81, .int 0, .ref a3, .int 9, .ref a4, .int 3, .ref a5, .int 1, .int 1, .ref a6, .int 6, .int 0, .int 1, .int 0]))] sz) [(a0, .inr (6, [.int 0, .int 0, .ref a1, .int 54, .int 0, .int 3, .int 1, .int 1, .ref a2])), (a1, .inr (5, [.ref cb, .int 81, .int 0, .ref a3, .int 9, .ref a4, .int 3, .ref a5, .int 1, .int 1, .ref a6, .int 6, .int 0, .int 1, .int 0]))]) (va_A [(a0, .inr (6, [.int 0, .int 0, .ref a1, .int 53, .int 0, .int 3, .int 1, .int 1, .ref a2])), (a1, .inr (5, [.ref cb, .int 81, .int 0, .ref a3, .int 9, .ref a4, .int 3, .ref a5, .int 1, .int 1, .ref a6, .int 6, .int 0, .int 1, .int 0]))] sz)) 0 0 (va_A [(a0, .inr (6, [.int 0, .int 0, .ref a1, .int 53, .int 0, .int 3, .int 1, .int 1, .ref a2])), (a1, .inr (5, [.ref cb, .int 81, .int 0, .ref a3, .int 9, .ref a4, .int 3, .ref a5, .int 1, .int 1, .ref a6, .int 6, .int 0, .int 1, .int 0]))] sz) := by
  refine Met.ofW (cc := cX6_readByte) (maxL := 1) (ret := (some .int)) (by decide) rfl ?_
  intro p e s m args below meth c s₁ B hml hv
  obtain ⟨rfl, hsz, hP, hK, hD0, hN, hSK⟩ := hv
  have hx := B.exec
  have hb := B.bytes
  have hr := B.returns
  have hts := atoms_spec (ws := wsX6_readByte) B.pre
  have hown : s.vm.findClass RX6 = some m.cls := findClass_of_methodNamed B.named
  have hlocks := B.notSynchronized
  subst hsz
  have hD := hD0.self (sz := s.heap.size)
  generalize hAe : va_A [(a0, .inr (6, [.int 0, .int 0, .ref a1, .int 53, .int 0, .int 3, .int 1, .int 1, .ref a2])), (a1, .inr (5, [.ref cb, .int 81, .int 0, .ref a3, .int 9, .ref a4, .int 3, .ref a5, .int 1, .int 1, .ref a6, .int 6, .int 0, .int 1, .int 0]))] s.heap.size = A at hD hSK ⊢
  have hA : ∀ q : Nat, s.heap.size ≤ q → A q := fun q h => by rw [← hAe]; exact Or.inr h
  have hS : va_S A s.heap s.heap [] := va_S.rf
  have hP : va_P (dC, dI) vwCl [(a0, .inr (6, [.int 0, .int 0, .ref a1, .int 53, .int 0, .int 3, .int 1, .int 1, .ref a2])), (a1, .inr (5, [.ref cb, .int 81, .int 0, .ref a3, .int 9, .ref a4, .int 3, .ref a5, .int 1, .int 1, .ref a6, .int 6, .int 0, .int 1, .int 0]))] s.heap := hP
  have hl := lv_entry ([.ref a0]) (n := 1) (Nat.le_of_ble_eq_true rfl)
  rw [lg_entry_eq]
  generalize (lg_sl ([.ref a0]) ++ List.replicate (1 - (lg_sl ([.ref a0])).length) Slot.unset).toArray = ls at hl ⊢
  replace hl : lv_has ls 1 [(0, .ref a0)] := hl
  refine lv_aload_n hx hb dX6_readByte_0 rfl (lv_at hl 0 rfl) ?_
  refine va_get (D := (dC, dI)) (ci := 6) (v := .int 0) (C := RX6) (T := TX6) (N := 9) hx hb hts iw_X6_readByte_X6 hown hK hP 0 rfl rfl 1 (by decide) (hts _ m_X6_readByte_1) (fun _ h9 => h9) rfl dX6_readByte_1 ?_
  refine lv_if_eq (tgt := 9) hx hb dX6_readByte_4 (by decide) (fun _ => ?_) (fun h => absurd (by decide) h)
  refine lv_aload_n hx hb dX6_readByte_9 rfl (lv_at hl 0 rfl) ?_
  refine va_get (D := (dC, dI)) (ci := 6) (v := .int 53) (C := RX6) (T := TX6) (N := 9) hx hb hts iw_X6_readByte_X6 hown hK hP 0 rfl rfl 3 (by decide) (hts _ m_X6_readByte_2) (fun _ h9 => h9) rfl dX6_readByte_10 ?_
  refine lv_aload_n hx hb dX6_readByte_13 rfl (lv_at hl 0 rfl) ?_
  refine va_get (D := (dC, dI)) (ci := 6) (v := .ref a1) (C := RX6) (T := TX6) (N := 9) hx hb hts iw_X6_readByte_X6 hown hK hP 0 rfl rfl 2 (by decide) (hts _ m_X6_readByte_3) (fun _ h9 => h9) rfl dX6_readByte_14 ?_
  refine va_get (D := (dC, dI)) (ci := 5) (v := .int 81) (C := RX5) (T := TX5) (N := 15) hx hb hts iw_X6_readByte_X5 hown hK hP 1 rfl rfl 1 (by decide) (hts _ m_X6_readByte_4) (fun _ h9 => h9) rfl dX6_readByte_17 ?_
  refine lv_icmp_lt (tgt := 41) hx hb dX6_readByte_20 (by decide) (fun _ => ?_) (fun h => absurd (by decide) h)
  refine lv_aload_n hx hb dX6_readByte_41 rfl (lv_at hl 0 rfl) ?_
  refine va_get (D := (dC, dI)) (ci := 6) (v := .ref a1) (C := RX6) (T := TX6) (N := 9) hx hb hts iw_X6_readByte_X6 hown hK hP 0 rfl rfl 2 (by decide) (hts _ m_X6_readByte_3) (fun _ h9 => h9) rfl dX6_readByte_42 ?_
  refine va_get (D := (dC, dI)) (ci := 5) (v := .ref cb) (C := RX5) (T := TX5) (N := 15) hx hb hts iw_X6_readByte_X5 hown hK hP 1 rfl rfl 0 (by decide) (hts _ m_X6_readByte_6) (fun _ h9 => h9) rfl dX6_readByte_45 ?_
  refine lv_aload_n hx hb dX6_readByte_48 rfl (lv_at hl 0 rfl) ?_
  refine lv_dup hx hb dX6_readByte_49 rfl ?_
  refine va_get (D := (dC, dI)) (ci := 6) (v := .int 53) (C := RX6) (T := TX6) (N := 9) hx hb hts iw_X6_readByte_X6 hown hK hP 0 rfl rfl 3 (by decide) (hts _ m_X6_readByte_2) (fun _ h9 => h9) rfl dX6_readByte_50 ?_
  refine lv_dup_x1 hx hb dX6_readByte_53 rfl rfl ?_
  refine lv_iconst (v := 1) hx hb dX6_readByte_54 (by decide) ?_
  refine lv_iadd hx hb dX6_readByte_55 ?_
  refine lv_topi (fun z_1 ez_1 => ?_)
  obtain rfl : z_1 = 54 := ez_1.trans (by decide)
  clear ez_1
  refine va_put (D := (dC, dI)) (ci := 6) (v := .int 54) (ty := .int) (C := RX6) (T := TX6) (N := 9) hx hb hts iw_X6_readByte_X6 tyX6 tyX6_ok nmX6 hown hK hP hD hS 0 rfl rfl 3 (by decide) (hts _ m_X6_readByte_2) (fun _ h9 => h9) rfl (by decide +kernel) rfl rfl (Nat.le_of_ble_eq_true rfl) dX6_readByte_56 (fun H_2 locs hP2 hD2 hS2 => ?_)
  replace hP : va_P (dC, dI) vwCl [(a0, .inr (6, [.int 0, .int 0, .ref a1, .int 54, .int 0, .int 3, .int 1, .int 1, .ref a2])), (a1, .inr (5, [.ref cb, .int 81, .int 0, .ref a3, .int 9, .ref a4, .int 3, .ref a5, .int 1, .int 1, .ref a6, .int 6, .int 0, .int 1, .int 0]))] H_2 := hP2
  replace hD : va_D A [(a0, .inr (6, [.int 0, .int 0, .ref a1, .int 54, .int 0, .int 3, .int 1, .int 1, .ref a2])), (a1, .inr (5, [.ref cb, .int 81, .int 0, .ref a3, .int 9, .ref a4, .int 3, .ref a5, .int 1, .int 1, .ref a6, .int 6, .int 0, .int 1, .int 0]))] := hD2
  replace hS := hS2
  clear hP2 hD2 hS2
  refine va_tb (v := .int 0) hx hb hSK.2 hS (by unfold vp_in; decide) rfl dX6_readByte_59 ?_
  refine lv_sipush (v := 255) hx hb dX6_readByte_60 (by decide) ?_
  refine lv_iand hx hb dX6_readByte_63 ?_
  refine lv_topi (fun z_3 ez_3 => ?_)
  obtain rfl : z_3 = 0 := ez_3.trans (by decide)
  clear ez_3
  exact W.iret hx hb hr (fun t ht hW => ⟨⟨0, (), rfl, rfl, by rw [ht]; exact hP, va_K.moved hW.alike hK, hD⟩, hS.F ht⟩) hS.2.2 dX6_readByte_64

set_option maxHeartbeats 4000000 in
set_option maxRecDepth 100000 in
theorem cc_173_X6_readOneType (l : Launch) (dC : Nat → ClassId) (dI : Nat → Nat → Nat) (cy : Nat → ClassId) (sz : Nat) (cb : Nat) (a0 : Nat) (a1 : Nat) (a2 : Nat) (a3 : Nat) (a4 : Nat) (a5 : Nat) (a6 : Nat)  : Met l yX6_readOneType wsX6_readOneType ({ frames := 1, cells := 0, slots := 0, locals := 20 }) (va_Pc [.ref a0, .int 1] (fun U => U.heap.size = sz ∧ va_P (dC, dI) vwCl [(a0, .inr (6, [.int 0, .int 0, .ref a1, .int 52, .int 0, .int 3, .int 1, .int 1, .ref a2])), (a1, .inr (5, [.ref cb, .int 81, .int 0, .ref a3, .int 9, .ref a4, .int 3, .ref a5, .int 1, .int 1, .ref a6, .int 6, .int 0, .int 1, .int 0]))] U.heap ∧ va_K (dC, dI) vwCl (TYS cy) U ∧ va_D (fun _ => True) [(a0, .inr (6, [.int 0, .int 0, .ref a1, .int 52, .int 0, .int 3, .int 1, .int 1, .ref a2])), (a1, .inr (5, [.ref cb, .int 81, .int 0, .ref a3, .int 9, .ref a4, .int 3, .ref a5, .int 1, .int 1, .ref a6, .int 6, .int 0, .int 1, .int 0]))] ∧ NK U ∧ SK cb (va_A [(a0, .inr (6, [.int 0, .int 0, .ref a1, .int 52, .int 0, .int 3, .int 1, .int 1, .ref a2])), (a1, .inr (5, [.ref cb, .int 81, .int 0, .ref a3, .int 9, .ref a4, .int 3, .ref a5, .int 1, .int 1, .ref a6, .int 6, .int 0, .int 1, .int 0]))] sz) U U.heap)) (va_Ql (fun (r : Int64) (u : Unit) => r = 1536) (fun u t => va_P (dC, dI) vwCl [(a0, .inr (6, [.int 0, .int 0, .ref a1, .int 54, .int 0, .int 3, .int 1, .int 1, .ref a2])), (a1, .inr (5, [.ref cb, .int 81, .int 0, .ref a3, .int 9, .ref a4, .int 3, .ref a5, .int 1, .int 1, .ref a6, .int 6, .int 0, .int 1, .int 0]))] t.heap ∧ va_K (dC, dI) vwCl (TYS cy) t ∧ va_D (va_A [(a0, .inr (6, [.int 0, .int 0, .ref a1, .int 52, .int 0, .int 3, .int 1, .int 1, .ref a2])), (a1, .inr (5, [.ref cb, .int 81, .int 0, .ref a3, .int 9, .ref a4, .int 3, .ref a5, .int 1, .int 1, .ref a6, .int 6, .int 0, .int 1, .int 0]))] sz) [(a0, .inr (6, [.int 0, .int 0, .ref a1, .int 54, .int 0, .int 3, .int 1, .int 1, .ref a2])), (a1, .inr (5, [.ref cb, .int 81, .int 0, .ref a3, .int 9, .ref a4, .int 3, .ref a5, .int 1, .int 1, .ref a6, .int 6, .int 0, .int 1, .int 0]))]) (va_A [(a0, .inr (6, [.int 0, .int 0, .ref a1, .int 52, .int 0, .int 3, .int 1, .int 1, .ref a2])), (a1, .inr (5, [.ref cb, .int 81, .int 0, .ref a3, .int 9, .ref a4, .int 3, .ref a5, .int 1, .int 1, .ref a6, .int 6, .int 0, .int 1, .int 0]))] sz)) 0 0 (va_A [(a0, .inr (6, [.int 0, .int 0, .ref a1, .int 52, .int 0, .int 3, .int 1, .int 1, .ref a2])), (a1, .inr (5, [.ref cb, .int 81, .int 0, .ref a3, .int 9, .ref a4, .int 3, .ref a5, .int 1, .int 1, .ref a6, .int 6, .int 0, .int 1, .int 0]))] sz) := by
  refine Met.ofW (cc := cX6_readOneType) (maxL := 7) (ret := (some .long)) (by decide) rfl ?_
  intro p e s m args below meth c s₁ B hml hv
  obtain ⟨rfl, hsz, hP, hK, hD0, hN, hSK⟩ := hv
  have hx := B.exec
  have hb := B.bytes
  have hr := B.returns
  have hts := atoms_spec (ws := wsX6_readOneType) B.pre
  have hown : s.vm.findClass RX6 = some m.cls := findClass_of_methodNamed B.named
  have hlocks := B.notSynchronized
  subst hsz
  have hD := hD0.self (sz := s.heap.size)
  generalize hAe : va_A [(a0, .inr (6, [.int 0, .int 0, .ref a1, .int 52, .int 0, .int 3, .int 1, .int 1, .ref a2])), (a1, .inr (5, [.ref cb, .int 81, .int 0, .ref a3, .int 9, .ref a4, .int 3, .ref a5, .int 1, .int 1, .ref a6, .int 6, .int 0, .int 1, .int 0]))] s.heap.size = A at hD hSK ⊢
  have hA : ∀ q : Nat, s.heap.size ≤ q → A q := fun q h => by rw [← hAe]; exact Or.inr h
  have hS : va_S A s.heap s.heap [] := va_S.rf
  have hP : va_P (dC, dI) vwCl [(a0, .inr (6, [.int 0, .int 0, .ref a1, .int 52, .int 0, .int 3, .int 1, .int 1, .ref a2])), (a1, .inr (5, [.ref cb, .int 81, .int 0, .ref a3, .int 9, .ref a4, .int 3, .ref a5, .int 1, .int 1, .ref a6, .int 6, .int 0, .int 1, .int 0]))] s.heap := hP
  have hl := lv_entry ([.ref a0, .int 1]) (n := 7) (Nat.le_of_ble_eq_true rfl)
  rw [lg_entry_eq]
  generalize (lg_sl ([.ref a0, .int 1]) ++ List.replicate (7 - (lg_sl ([.ref a0, .int 1])).length) Slot.unset).toArray = ls at hl ⊢
  replace hl : lv_has ls 7 [(0, .ref a0), (1, .int 1)] := hl
  refine lv_lconst (v := 0) hx hb dX6_readOneType_0 (by decide) ?_
  refine lv_lstore_n (lv' := [(2, .long 0), (0, .ref a0), (1, .int 1)]) hx hb dX6_readOneType_1 rfl hl (by decide) rfl (fun ls hl2 => ?_)
  replace hl := hl2
  clear hl2
  refine lv_aload_n hx hb dX6_readOneType_2 rfl (lv_at hl 1 rfl) ?_
  refine va_get (D := (dC, dI)) (ci := 6) (v := .int 52) (C := RX6) (T := TX6) (N := 9) hx hb hts iw_X6_readOneType_X6 hown hK hP 0 rfl rfl 3 (by decide) (hts _ m_X6_readOneType_1) (fun _ h9 => h9) rfl dX6_readOneType_3 ?_
  refine lv_istore (lv' := [(4, .int 52), (2, .long 0), (0, .ref a0), (1, .int 1)]) hx hb dX6_readOneType_6 hl (by decide) rfl (fun ls hl2 => ?_)
  replace hl := hl2
  clear hl2
  refine lv_aload_n hx hb dX6_readOneType_8 rfl (lv_at hl 2 rfl) ?_
  have hPc := hP.sub (ws' := [(a0, .inr (6, [.int 0, .int 0, .ref a1, .int 52, .int 0, .int 3, .int 1, .int 1, .ref a2])), (a1, .inr (5, [.ref cb, .int 81, .int 0, .ref a3, .int 9, .ref a4, .int 3, .ref a5, .int 1, .int 1, .ref a6, .int 6, .int 0, .int 1, .int 0]))]) [0, 1] rfl
  have hDc := hD.sub (ws' := [(a0, .inr (6, [.int 0, .int 0, .ref a1, .int 52, .int 0, .int 3, .int 1, .int 1, .ref a2])), (a1, .inr (5, [.ref cb, .int 81, .int 0, .ref a3, .int 9, .ref a4, .int 3, .ref a5, .int 1, .int 1, .ref a6, .int 6, .int 0, .int 1, .int 0]))]) [0, 1] (by decide) rfl
  have hFc := va_free (wc := [(a0, .inr (6, [.int 0, .int 0, .ref a1, .int 52, .int 0, .int 3, .int 1, .int 1, .ref a2])), (a1, .inr (5, [.ref cb, .int 81, .int 0, .ref a3, .int 9, .ref a4, .int 3, .ref a5, .int 1, .int 1, .ref a6, .int 6, .int 0, .int 1, .int 0]))]) hD hS hA [0, 1] rfl
  refine va_calli (va_runV (As := []) (rest := []) ⟨hx, hb, hml, hown, hts⟩ (cc_174_X6_readByte l dC dI cy s.heap.size cb a0 a1 a2 a3 a4 a5 a6) (cwV 0 hts gX6_readOneType_X6_readByte rfl rfl rfl (by decide +kernel) ⟨Nat.le_of_ble_eq_true rfl, Nat.le_of_ble_eq_true rfl⟩) ⟨fun a U g mk q => by obtain ⟨q0, q1, qP, qK, qD, qN, qS⟩ := q; exact ⟨q0, q1, qP, va_K.moved (u := U) (U := U.calling g mk a) (Vm.Alike.refl U.vm) qK, qD, qN.same rfl, SK.moved (u := U) (U := U.calling g mk a) (Vm.Alike.refl U.vm) qS⟩, va_recv hK hPc (ci := 6) (q0 := 0) rfl rfl, fun U hU hW => ⟨rfl, by rw [hU], by rw [hU]; exact hPc, va_K.moved hW.alike hK, hDc.weaken (fun _ _ _ _ => trivial), hN.warm hW, by rw [hU]; exact ((hSK.kept hS.2.1).narrow hFc).moved hW.alike⟩⟩ rfl rfl hl.1 rfl (lv_room (Nat.le_of_ble_eq_true rfl)) dX6_readOneType_9 ⟨Nat.le_of_ble_eq_true rfl, Nat.le_of_ble_eq_true rfl⟩) hS (fun q _ h => hFc q h) hFc (fun r_1 u t H_2 locs ht hvm hw hB hz1 hk1 hS2 => ?_)
  obtain ⟨hP1, hK1, hD1⟩ := hB
  rw [ht] at hP1
  obtain rfl := hw
  obtain ⟨hP2, hD2⟩ := va_join (wr := []) (w1 := [(a0, .inr (6, [.int 0, .int 0, .ref a1, .int 53, .int 0, .int 3, .int 1, .int 1, .ref a2])), (a1, .inr (5, [.ref cb, .int 81, .int 0, .ref a3, .int 9, .ref a4, .int 3, .ref a5, .int 1, .int 1, .ref a6, .int 6, .int 0, .int 1, .int 0]))]) hP hD [0, 1] [] rfl rfl (by decide) (by decide) hk1 hFc hP1 hD1
  replace hP : va_P (dC, dI) vwCl [(a0, .inr (6, [.int 0, .int 0, .ref a1, .int 53, .int 0, .int 3, .int 1, .int 1, .ref a2])), (a1, .inr (5, [.ref cb, .int 81, .int 0, .ref a3, .int 9, .ref a4, .int 3, .ref a5, .int 1, .int 1, .ref a6, .int 6, .int 0, .int 1, .int 0]))] H_2 := hP2
  replace hD : va_D A [(a0, .inr (6, [.int 0, .int 0, .ref a1, .int 53, .int 0, .int 3, .int 1, .int 1, .ref a2])), (a1, .inr (5, [.ref cb, .int 81, .int 0, .ref a3, .int 9, .ref a4, .int 3, .ref a5, .int 1, .int 1, .ref a6, .int 6, .int 0, .int 1, .int 0]))] := hD2
  replace hS := hS2
  clear hP2 hD2 hS2
  clear hPc hDc hFc hP1 hD1 hK1 hk1 hz1 hvm ht
  refine W.widen (k := 0) (n := 0) (Nat.le_of_ble_eq_true rfl) (Nat.le_of_ble_eq_true rfl) ?_
  refine lv_istore (lv' := [(5, .int 6), (4, .int 52), (2, .long 0), (0, .ref a0), (1, .int 1)]) hx hb dX6_readOneType_12 hl (by decide) rfl (fun ls hl2 => ?_)
  replace hl := hl2
  clear hl2
  refine lv_iload_n hx hb dX6_readOneType_14 rfl (lv_at hl 4 rfl) ?_
  refine lv_if_eq (tgt := 48) hx hb dX6_readOneType_15 (by decide) (fun h => absurd h (by decide)) (fun _ => ?_)
  refine lv_iload hx hb dX6_readOneType_18 (lv_at hl 0 rfl) ?_
  refine lv_bipush (v := 8) hx hb dX6_readOneType_20 (by decide) ?_
  refine lv_icmp_eq (tgt := 32) hx hb dX6_readOneType_22 (by decide) (fun h => absurd h (by decide)) (fun _ => ?_)
  refine lv_iload hx hb dX6_readOneType_25 (lv_at hl 0 rfl) ?_
  refine lv_bipush (v := 9) hx hb dX6_readOneType_27 (by decide) ?_
  refine lv_icmp_ne (tgt := 48) hx hb dX6_readOneType_29 (by decide) (fun _ => ?_) (fun h => absurd h (by decide))
  refine lv_iconst (v := 0) hx hb dX6_readOneType_48 (by decide) ?_
  refine lv_istore (lv' := [(6, .int 0), (5, .int 6), (4, .int 52), (2, .long 0), (0, .ref a0), (1, .int 1)]) hx hb dX6_readOneType_49 hl (by decide) rfl (fun ls hl2 => ?_)
  replace hl := hl2
  clear hl2
  refine lv_iload hx hb dX6_readOneType_51 (lv_at hl 0 rfl) ?_
  refine lv_iconst (v := 4) hx hb dX6_readOneType_53 (by decide) ?_
  refine lv_icmp_ge (tgt := 91) hx hb dX6_readOneType_54 (by decide) (fun h => absurd h (by decide)) (fun _ => ?_)
  refine lv_iload hx hb dX6_readOneType_57 (lv_at hl 1 rfl) ?_
  refine lv_bipush (v := 7) hx hb dX6_readOneType_59 (by decide) ?_
  refine lv_icmp_ne (tgt := 91) hx hb dX6_readOneType_61 (by decide) (fun _ => ?_) (fun h => absurd h (by decide))
  refine lv_iload hx hb dX6_readOneType_91 (lv_at hl 1 rfl) ?_
  refine lv_iconst (v := 1) hx hb dX6_readOneType_93 (by decide) ?_
  refine lv_icmp_lt (tgt := 104) hx hb dX6_readOneType_94 (by decide) (fun h => absurd h (by decide)) (fun _ => ?_)
  refine lv_iload hx hb dX6_readOneType_97 (lv_at hl 1 rfl) ?_
  refine lv_bipush (v := 6) hx hb dX6_readOneType_99 (by decide) ?_
  refine lv_icmp_le (tgt := 111) hx hb dX6_readOneType_101 (by decide) (fun _ => ?_) (fun h => absurd (by decide) h)
  refine lv_lload_n hx hb dX6_readOneType_111 rfl (lv_at hl 3 rfl) ?_
  refine lv_bipush (v := 8) hx hb dX6_readOneType_112 (by decide) ?_
  refine lv_lshl (v := 0) hx hb dX6_readOneType_114 (by decide) ?_
  refine lv_iload hx hb dX6_readOneType_115 (lv_at hl 1 rfl) ?_
  refine lv_i2l (v := 6) hx hb dX6_readOneType_117 (by decide) ?_
  refine lv_lor hx hb dX6_readOneType_118 ?_
  refine lv_topl (fun z_3 ez_3 => ?_)
  obtain rfl : z_3 = 6 := ez_3.trans (by decide)
  clear ez_3
  refine lv_lstore_n (lv' := [(2, .long 6), (6, .int 0), (5, .int 6), (4, .int 52), (0, .ref a0), (1, .int 1)]) hx hb dX6_readOneType_119 rfl hl (by decide) rfl (fun ls hl2 => ?_)
  replace hl := hl2
  clear hl2
  refine lv_iload hx hb dX6_readOneType_120 (lv_at hl 2 rfl) ?_
  refine lv_bipush (v := 6) hx hb dX6_readOneType_122 (by decide) ?_
  refine lv_icmp_eq (tgt := 129) hx hb dX6_readOneType_124 (by decide) (fun _ => ?_) (fun h => absurd (by decide) h)
  refine lv_aload_n hx hb dX6_readOneType_129 rfl (lv_at hl 4 rfl) ?_
  refine va_get (D := (dC, dI)) (ci := 6) (v := .int 53) (C := RX6) (T := TX6) (N := 9) hx hb hts iw_X6_readOneType_X6 hown hK hP 0 rfl rfl 3 (by decide) (hts _ m_X6_readOneType_1) (fun _ h9 => h9) rfl dX6_readOneType_130 ?_
  refine lv_istore (lv' := [(4, .int 53), (2, .long 6), (6, .int 0), (5, .int 6), (0, .ref a0), (1, .int 1)]) hx hb dX6_readOneType_133 hl (by decide) rfl (fun ls hl2 => ?_)
  replace hl := hl2
  clear hl2
  refine lv_aload_n hx hb dX6_readOneType_135 rfl (lv_at hl 4 rfl) ?_
  have hPc := hP.sub (ws' := [(a0, .inr (6, [.int 0, .int 0, .ref a1, .int 53, .int 0, .int 3, .int 1, .int 1, .ref a2])), (a1, .inr (5, [.ref cb, .int 81, .int 0, .ref a3, .int 9, .ref a4, .int 3, .ref a5, .int 1, .int 1, .ref a6, .int 6, .int 0, .int 1, .int 0]))]) [0, 1] rfl
  have hDc := hD.sub (ws' := [(a0, .inr (6, [.int 0, .int 0, .ref a1, .int 53, .int 0, .int 3, .int 1, .int 1, .ref a2])), (a1, .inr (5, [.ref cb, .int 81, .int 0, .ref a3, .int 9, .ref a4, .int 3, .ref a5, .int 1, .int 1, .ref a6, .int 6, .int 0, .int 1, .int 0]))]) [0, 1] (by decide) rfl
  have hFc := va_free (wc := [(a0, .inr (6, [.int 0, .int 0, .ref a1, .int 53, .int 0, .int 3, .int 1, .int 1, .ref a2])), (a1, .inr (5, [.ref cb, .int 81, .int 0, .ref a3, .int 9, .ref a4, .int 3, .ref a5, .int 1, .int 1, .ref a6, .int 6, .int 0, .int 1, .int 0]))]) hD hS hA [0, 1] rfl
  refine va_calli (va_runV (As := []) (rest := []) ⟨hx, hb, hml, hown, hts⟩ (cc_175_X6_readByte l dC dI cy H_2.size cb a0 a1 a2 a3 a4 a5 a6) (cwV 0 hts gX6_readOneType_X6_readByte rfl rfl rfl (by decide +kernel) ⟨Nat.le_of_ble_eq_true rfl, Nat.le_of_ble_eq_true rfl⟩) ⟨fun a U g mk q => by obtain ⟨q0, q1, qP, qK, qD, qN, qS⟩ := q; exact ⟨q0, q1, qP, va_K.moved (u := U) (U := U.calling g mk a) (Vm.Alike.refl U.vm) qK, qD, qN.same rfl, SK.moved (u := U) (U := U.calling g mk a) (Vm.Alike.refl U.vm) qS⟩, va_recv hK hPc (ci := 6) (q0 := 0) rfl rfl, fun U hU hW => ⟨rfl, by rw [hU], by rw [hU]; exact hPc, va_K.moved hW.alike hK, hDc.weaken (fun _ _ _ _ => trivial), hN.warm hW, by rw [hU]; exact ((hSK.kept hS.2.1).narrow hFc).moved hW.alike⟩⟩ rfl rfl hl.1 rfl (lv_room (Nat.le_of_ble_eq_true rfl)) dX6_readOneType_136 ⟨Nat.le_of_ble_eq_true rfl, Nat.le_of_ble_eq_true rfl⟩) hS (fun q _ h => hFc q h) hFc (fun r_4 u t H_5 locs ht hvm hw hB hz1 hk1 hS2 => ?_)
  obtain ⟨hP1, hK1, hD1⟩ := hB
  rw [ht] at hP1
  obtain rfl := hw
  obtain ⟨hP2, hD2⟩ := va_join (wr := []) (w1 := [(a0, .inr (6, [.int 0, .int 0, .ref a1, .int 54, .int 0, .int 3, .int 1, .int 1, .ref a2])), (a1, .inr (5, [.ref cb, .int 81, .int 0, .ref a3, .int 9, .ref a4, .int 3, .ref a5, .int 1, .int 1, .ref a6, .int 6, .int 0, .int 1, .int 0]))]) hP hD [0, 1] [] rfl rfl (by decide) (by decide) hk1 hFc hP1 hD1
  replace hP : va_P (dC, dI) vwCl [(a0, .inr (6, [.int 0, .int 0, .ref a1, .int 54, .int 0, .int 3, .int 1, .int 1, .ref a2])), (a1, .inr (5, [.ref cb, .int 81, .int 0, .ref a3, .int 9, .ref a4, .int 3, .ref a5, .int 1, .int 1, .ref a6, .int 6, .int 0, .int 1, .int 0]))] H_5 := hP2
  replace hD : va_D A [(a0, .inr (6, [.int 0, .int 0, .ref a1, .int 54, .int 0, .int 3, .int 1, .int 1, .ref a2])), (a1, .inr (5, [.ref cb, .int 81, .int 0, .ref a3, .int 9, .ref a4, .int 3, .ref a5, .int 1, .int 1, .ref a6, .int 6, .int 0, .int 1, .int 0]))] := hD2
  replace hS := hS2
  clear hP2 hD2 hS2
  clear hPc hDc hFc hP1 hD1 hK1 hk1 hz1 hvm ht
  refine W.widen (k := 0) (n := 0) (Nat.le_of_ble_eq_true rfl) (Nat.le_of_ble_eq_true rfl) ?_
  refine lv_istore (lv' := [(6, .int 0), (4, .int 53), (2, .long 6), (5, .int 6), (0, .ref a0), (1, .int 1)]) hx hb dX6_readOneType_139 hl (by decide) rfl (fun ls hl2 => ?_)
  replace hl := hl2
  clear hl2
  refine lv_aload_n hx hb dX6_readOneType_141 rfl (lv_at hl 4 rfl) ?_
  refine va_get (D := (dC, dI)) (ci := 6) (v := .int 0) (C := RX6) (T := TX6) (N := 9) hx hb hts iw_X6_readOneType_X6 hown hK hP 0 rfl rfl 4 (by decide) (hts _ m_X6_readOneType_2) (fun _ h9 => h9) rfl dX6_readOneType_142 ?_
  refine lv_if_eq (tgt := 168) hx hb dX6_readOneType_145 (by decide) (fun _ => ?_) (fun h => absurd (by decide) h)
  refine lv_lload_n hx hb dX6_readOneType_168 rfl (lv_at hl 2 rfl) ?_
  refine lv_bipush (v := 8) hx hb dX6_readOneType_169 (by decide) ?_
  refine lv_lshl (v := 1536) hx hb dX6_readOneType_171 (by decide) ?_
  refine lv_iload hx hb dX6_readOneType_172 (lv_at hl 0 rfl) ?_
  refine lv_i2l (v := 0) hx hb dX6_readOneType_174 (by decide) ?_
  refine lv_lor hx hb dX6_readOneType_175 ?_
  refine lv_topl (fun z_6 ez_6 => ?_)
  obtain rfl : z_6 = 1536 := ez_6.trans (by decide)
  clear ez_6
  exact W.lret hx hb hr (fun t ht hW => ⟨⟨1536, (), rfl, rfl, by rw [ht]; exact hP, va_K.moved hW.alike hK, hD⟩, hS.F ht⟩) hS.2.2 dX6_readOneType_176

set_option maxHeartbeats 4000000 in
set_option maxRecDepth 100000 in
theorem cc_176_X5_addType (l : Launch) (dC : Nat → ClassId) (dI : Nat → Nat → Nat) (cy : Nat → ClassId) (sz : Nat) (cb : Nat) (a0 : Nat) (a1 : Nat) (a2 : Nat) (a3 : Nat) (a4 : Nat) (f0 : Nat → Int64) (f0_0 : f0 0 = 3) : Met l yX5_addType wsX5_addType ({ frames := 0, cells := 0, slots := 0, locals := 0 }) (va_Pc [.ref a0, .long 1536] (fun U => U.heap.size = sz ∧ va_P (dC, dI) vwCl [(a0, .inr (5, [.ref cb, .int 81, .int 0, .ref a1, .int 9, .ref a2, .int 3, .ref a3, .int 1, .int 1, .ref a4, .int 6, .int 0, .int 1, .int 0])), (a1, .inl (cy 2, 2048, .inr (.inl f0)))] U.heap ∧ va_K (dC, dI) vwCl (TYS cy) U ∧ va_D (fun _ => True) [(a0, .inr (5, [.ref cb, .int 81, .int 0, .ref a1, .int 9, .ref a2, .int 3, .ref a3, .int 1, .int 1, .ref a4, .int 6, .int 0, .int 1, .int 0])), (a1, .inl (cy 2, 2048, .inr (.inl f0)))] ∧ NK U ∧ SK cb (va_A [(a0, .inr (5, [.ref cb, .int 81, .int 0, .ref a1, .int 9, .ref a2, .int 3, .ref a3, .int 1, .int 1, .ref a4, .int 6, .int 0, .int 1, .int 0])), (a1, .inl (cy 2, 2048, .inr (.inl f0)))] sz) U U.heap)) (va_Qv (fun u : (Nat → Int64) => match u with | (u0) => u0 0 = 3) (fun u t => match u with | (u0) => va_P (dC, dI) vwCl [(a0, .inr (5, [.ref cb, .int 81, .int 0, .ref a1, .int 10, .ref a2, .int 3, .ref a3, .int 1, .int 1, .ref a4, .int 6, .int 0, .int 1, .int 0])), (a1, .inl (cy 2, 2048, .inr (.inl u0)))] t.heap ∧ va_K (dC, dI) vwCl (TYS cy) t ∧ va_D (va_A [(a0, .inr (5, [.ref cb, .int 81, .int 0, .ref a1, .int 9, .ref a2, .int 3, .ref a3, .int 1, .int 1, .ref a4, .int 6, .int 0, .int 1, .int 0])), (a1, .inl (cy 2, 2048, .inr (.inl f0)))] sz) [(a0, .inr (5, [.ref cb, .int 81, .int 0, .ref a1, .int 10, .ref a2, .int 3, .ref a3, .int 1, .int 1, .ref a4, .int 6, .int 0, .int 1, .int 0])), (a1, .inl (cy 2, 2048, .inr (.inl u0)))]) (va_A [(a0, .inr (5, [.ref cb, .int 81, .int 0, .ref a1, .int 9, .ref a2, .int 3, .ref a3, .int 1, .int 1, .ref a4, .int 6, .int 0, .int 1, .int 0])), (a1, .inl (cy 2, 2048, .inr (.inl f0)))] sz)) 0 0 (va_A [(a0, .inr (5, [.ref cb, .int 81, .int 0, .ref a1, .int 9, .ref a2, .int 3, .ref a3, .int 1, .int 1, .ref a4, .int 6, .int 0, .int 1, .int 0])), (a1, .inl (cy 2, 2048, .inr (.inl f0)))] sz) := by
  refine Met.ofW (cc := cX5_addType) (maxL := 3) (ret := none) (by decide) rfl ?_
  intro p e s m args below meth c s₁ B hml hv
  obtain ⟨rfl, hsz, hP, hK, hD0, hN, hSK⟩ := hv
  have hx := B.exec
  have hb := B.bytes
  have hr := B.returns
  have hts := atoms_spec (ws := wsX5_addType) B.pre
  have hown : s.vm.findClass RX5 = some m.cls := findClass_of_methodNamed B.named
  have hlocks := B.notSynchronized
  subst hsz
  have hD := hD0.self (sz := s.heap.size)
  generalize hAe : va_A [(a0, .inr (5, [.ref cb, .int 81, .int 0, .ref a1, .int 9, .ref a2, .int 3, .ref a3, .int 1, .int 1, .ref a4, .int 6, .int 0, .int 1, .int 0])), (a1, .inl (cy 2, 2048, .inr (.inl f0)))] s.heap.size = A at hD hSK ⊢
  have hA : ∀ q : Nat, s.heap.size ≤ q → A q := fun q h => by rw [← hAe]; exact Or.inr h
  have hS : va_S A s.heap s.heap [] := va_S.rf
  have hP : va_P (dC, dI) vwCl [(a0, .inr (5, [.ref cb, .int 81, .int 0, .ref a1, .int 9, .ref a2, .int 3, .ref a3, .int 1, .int 1, .ref a4, .int 6, .int 0, .int 1, .int 0])), (a1, .inl (cy 2, 2048, .inr (.inl f0)))] s.heap := hP
  have hl := lv_entry ([.ref a0, .long 1536]) (n := 3) (Nat.le_of_ble_eq_true rfl)
  rw [lg_entry_eq]
  generalize (lg_sl ([.ref a0, .long 1536]) ++ List.replicate (3 - (lg_sl ([.ref a0, .long 1536])).length) Slot.unset).toArray = ls at hl ⊢
  replace hl : lv_has ls 3 [(0, .ref a0), (1, .long 1536)] := hl
  refine lv_aload_n hx hb dX5_addType_0 rfl (lv_at hl 0 rfl) ?_
  refine va_get (D := (dC, dI)) (ci := 5) (v := .int 9) (C := RX5) (T := TX5) (N := 15) hx hb hts iw_X5_addType_X5 hown hK hP 0 rfl rfl 4 (by decide) (hts _ m_X5_addType_1) (fun _ h9 => h9) rfl dX5_addType_1 ?_
  refine lv_aload_n hx hb dX5_addType_4 rfl (lv_at hl 0 rfl) ?_
  refine va_get (D := (dC, dI)) (ci := 5) (v := .ref a1) (C := RX5) (T := TX5) (N := 15) hx hb hts iw_X5_addType_X5 hown hK hP 0 rfl rfl 3 (by decide) (hts _ m_X5_addType_2) (fun _ h9 => h9) rfl dX5_addType_5 ?_
  refine va_alen (v := 2048) hx hb hK hP 1 2 rfl rfl rfl dX5_addType_8 ?_
  refine lv_icmp_ge (tgt := 29) hx hb dX5_addType_9 (by decide) (fun h => absurd h (by decide)) (fun _ => ?_)
  refine lv_aload_n hx hb dX5_addType_12 rfl (lv_at hl 0 rfl) ?_
  refine va_get (D := (dC, dI)) (ci := 5) (v := .ref a1) (C := RX5) (T := TX5) (N := 15) hx hb hts iw_X5_addType_X5 hown hK hP 0 rfl rfl 3 (by decide) (hts _ m_X5_addType_2) (fun _ h9 => h9) rfl dX5_addType_13 ?_
  refine lv_aload_n hx hb dX5_addType_16 rfl (lv_at hl 0 rfl) ?_
  refine lv_dup hx hb dX5_addType_17 rfl ?_
  refine va_get (D := (dC, dI)) (ci := 5) (v := .int 9) (C := RX5) (T := TX5) (N := 15) hx hb hts iw_X5_addType_X5 hown hK hP 0 rfl rfl 4 (by decide) (hts _ m_X5_addType_1) (fun _ h9 => h9) rfl dX5_addType_18 ?_
  refine lv_dup_x1 hx hb dX5_addType_21 rfl rfl ?_
  refine lv_iconst (v := 1) hx hb dX5_addType_22 (by decide) ?_
  refine lv_iadd hx hb dX5_addType_23 ?_
  refine lv_topi (fun z_1 ez_1 => ?_)
  obtain rfl : z_1 = 10 := ez_1.trans (by decide)
  clear ez_1
  refine va_put (D := (dC, dI)) (ci := 5) (v := .int 10) (ty := .int) (C := RX5) (T := TX5) (N := 15) hx hb hts iw_X5_addType_X5 tyX5 tyX5_ok nmX5 hown hK hP hD hS 0 rfl rfl 4 (by decide) (hts _ m_X5_addType_1) (fun _ h9 => h9) rfl (by decide +kernel) rfl rfl (Nat.le_of_ble_eq_true rfl) dX5_addType_24 (fun H_2 locs hP2 hD2 hS2 => ?_)
  replace hP : va_P (dC, dI) vwCl [(a0, .inr (5, [.ref cb, .int 81, .int 0, .ref a1, .int 10, .ref a2, .int 3, .ref a3, .int 1, .int 1, .ref a4, .int 6, .int 0, .int 1, .int 0])), (a1, .inl (cy 2, 2048, .inr (.inl f0)))] H_2 := hP2
  replace hD : va_D A [(a0, .inr (5, [.ref cb, .int 81, .int 0, .ref a1, .int 10, .ref a2, .int 3, .ref a3, .int 1, .int 1, .ref a4, .int 6, .int 0, .int 1, .int 0])), (a1, .inl (cy 2, 2048, .inr (.inl f0)))] := hD2
  replace hS := hS2
  clear hP2 hD2 hS2
  refine lv_lload_n hx hb dX5_addType_27 rfl (lv_at hl 1 rfl) ?_
  refine va_last hx hb hK hP hD hS 1 2 rfl rfl (by unfold vp_in; decide) dX5_addType_28 (fun H_4 locs hP2 hD2 hS2 => ?_)
  replace hP : va_P (dC, dI) vwCl [(a0, .inr (5, [.ref cb, .int 81, .int 0, .ref a1, .int 10, .ref a2, .int 3, .ref a3, .int 1, .int 1, .ref a4, .int 6, .int 0, .int 1, .int 0])), (a1, .inl (cy 2, 2048, .inr (.inl (vp_updL f0 9 1536))))] H_4 := hP2
  replace hD : va_D A [(a0, .inr (5, [.ref cb, .int 81, .int 0, .ref a1, .int 10, .ref a2, .int 3, .ref a3, .int 1, .int 1, .ref a4, .int 6, .int 0, .int 1, .int 0])), (a1, .inl (cy 2, 2048, .inr (.inl (vp_updL f0 9 1536))))] := hD2
  replace hS := hS2
  clear hP2 hD2 hS2
  obtain ⟨g_3, eg_3⟩ : ∃ z, vp_updL f0 9 1536 = z := ⟨_, rfl⟩
  rw [eg_3] at hP hD
  have kg_3_0 : g_3 0 = 3 := by rw [← eg_3, pk_uLn (by decide)]; exact f0_0
  exact W.vret hx hb hr (fun t ht hW => ⟨⟨(g_3), rfl, kg_3_0, by rw [ht]; exact hP, va_K.moved hW.alike hK, hD⟩, hS.F ht⟩) hS.2.2 dX5_addType_29

set_option maxHeartbeats 4000000 in
set_option maxRecDepth 100000 in
theorem cc_172_X6_readTypes (l : Launch) (dC : Nat → ClassId) (dI : Nat → Nat → Nat) (cy : Nat → ClassId) (sz : Nat) (cb : Nat) (a0 : Nat) (a1 : Nat) (a2 : Nat) (a3 : Nat) (a4 : Nat) (a5 : Nat) (a6 : Nat) (f0 : Nat → Int64) (f0_0 : f0 0 = 3) : Met l yX6_readTypes wsX6_readTypes ({ frames := 2, cells := 0, slots := 0, locals := 46 }) (va_Pc [.ref a0, .int 1, .int 1] (fun U => U.heap.size = sz ∧ va_P (dC, dI) vwCl [(a0, .inr (6, [.int 0, .int 0, .ref a1, .int 52, .int 0, .int 3, .int 1, .int 1, .ref a3])), (a1, .inr (5, [.ref cb, .int 81, .int 0, .ref a2, .int 9, .ref a4, .int 3, .ref a5, .int 1, .int 1, .ref a6, .int 6, .int 0, .int 1, .int 0])), (a2, .inl (cy 2, 2048, .inr (.inl f0)))] U.heap ∧ va_K (dC, dI) vwCl (TYS cy) U ∧ va_D (fun _ => True) [(a0, .inr (6, [.int 0, .int 0, .ref a1, .int 52, .int 0, .int 3, .int 1, .int 1, .ref a3])), (a1, .inr (5, [.ref cb, .int 81, .int 0, .ref a2, .int 9, .ref a4, .int 3, .ref a5, .int 1, .int 1, .ref a6, .int 6, .int 0, .int 1, .int 0])), (a2, .inl (cy 2, 2048, .inr (.inl f0)))] ∧ NK U ∧ SK cb (va_A [(a0, .inr (6, [.int 0, .int 0, .ref a1, .int 52, .int 0, .int 3, .int 1, .int 1, .ref a3])), (a1, .inr (5, [.ref cb, .int 81, .int 0, .ref a2, .int 9, .ref a4, .int 3, .ref a5, .int 1, .int 1, .ref a6, .int 6, .int 0, .int 1, .int 0])), (a2, .inl (cy 2, 2048, .inr (.inl f0)))] sz) U U.heap)) (va_Qv (fun u : (Nat → Int64) => match u with | (u0) => u0 0 = 3) (fun u t => match u with | (u0) => va_P (dC, dI) vwCl [(a0, .inr (6, [.int 0, .int 0, .ref a1, .int 54, .int 0, .int 3, .int 1, .int 1, .ref a3])), (a1, .inr (5, [.ref cb, .int 81, .int 0, .ref a2, .int 10, .ref a4, .int 3, .ref a5, .int 1, .int 1, .ref a6, .int 6, .int 0, .int 1, .int 0])), (a2, .inl (cy 2, 2048, .inr (.inl u0)))] t.heap ∧ va_K (dC, dI) vwCl (TYS cy) t ∧ va_D (va_A [(a0, .inr (6, [.int 0, .int 0, .ref a1, .int 52, .int 0, .int 3, .int 1, .int 1, .ref a3])), (a1, .inr (5, [.ref cb, .int 81, .int 0, .ref a2, .int 9, .ref a4, .int 3, .ref a5, .int 1, .int 1, .ref a6, .int 6, .int 0, .int 1, .int 0])), (a2, .inl (cy 2, 2048, .inr (.inl f0)))] sz) [(a0, .inr (6, [.int 0, .int 0, .ref a1, .int 54, .int 0, .int 3, .int 1, .int 1, .ref a3])), (a1, .inr (5, [.ref cb, .int 81, .int 0, .ref a2, .int 10, .ref a4, .int 3, .ref a5, .int 1, .int 1, .ref a6, .int 6, .int 0, .int 1, .int 0])), (a2, .inl (cy 2, 2048, .inr (.inl u0)))]) (va_A [(a0, .inr (6, [.int 0, .int 0, .ref a1, .int 52, .int 0, .int 3, .int 1, .int 1, .ref a3])), (a1, .inr (5, [.ref cb, .int 81, .int 0, .ref a2, .int 9, .ref a4, .int 3, .ref a5, .int 1, .int 1, .ref a6, .int 6, .int 0, .int 1, .int 0])), (a2, .inl (cy 2, 2048, .inr (.inl f0)))] sz)) 0 0 (va_A [(a0, .inr (6, [.int 0, .int 0, .ref a1, .int 52, .int 0, .int 3, .int 1, .int 1, .ref a3])), (a1, .inr (5, [.ref cb, .int 81, .int 0, .ref a2, .int 9, .ref a4, .int 3, .ref a5, .int 1, .int 1, .ref a6, .int 6, .int 0, .int 1, .int 0])), (a2, .inl (cy 2, 2048, .inr (.inl f0)))] sz) := by
  refine Met.ofW (cc := cX6_readTypes) (maxL := 4) (ret := none) (by decide) rfl ?_
  intro p e s m args below meth c s₁ B hml hv
  obtain ⟨rfl, hsz, hP, hK, hD0, hN, hSK⟩ := hv
  have hx := B.exec
  have hb := B.bytes
  have hr := B.returns
  have hts := atoms_spec (ws := wsX6_readTypes) B.pre
  have hown : s.vm.findClass RX6 = some m.cls := findClass_of_methodNamed B.named
  have hlocks := B.notSynchronized
  subst hsz
  have hD := hD0.self (sz := s.heap.size)
  generalize hAe : va_A [(a0, .inr (6, [.int 0, .int 0, .ref a1, .int 52, .int 0, .int 3, .int 1, .int 1, .ref a3])), (a1, .inr (5, [.ref cb, .int 81, .int 0, .ref a2, .int 9, .ref a4, .int 3, .ref a5, .int 1, .int 1, .ref a6, .int 6, .int 0, .int 1, .int 0])), (a2, .inl (cy 2, 2048, .inr (.inl f0)))] s.heap.size = A at hD hSK ⊢
  have hA : ∀ q : Nat, s.heap.size ≤ q → A q := fun q h => by rw [← hAe]; exact Or.inr h
  have hS : va_S A s.heap s.heap [] := va_S.rf
  have hP : va_P (dC, dI) vwCl [(a0, .inr (6, [.int 0, .int 0, .ref a1, .int 52, .int 0, .int 3, .int 1, .int 1, .ref a3])), (a1, .inr (5, [.ref cb, .int 81, .int 0, .ref a2, .int 9, .ref a4, .int 3, .ref a5, .int 1, .int 1, .ref a6, .int 6, .int 0, .int 1, .int 0])), (a2, .inl (cy 2, 2048, .inr (.inl f0)))] s.heap := hP
  have hl := lv_entry ([.ref a0, .int 1, .int 1]) (n := 4) (Nat.le_of_ble_eq_true rfl)
  rw [lg_entry_eq]
  generalize (lg_sl ([.ref a0, .int 1, .int 1]) ++ List.replicate (4 - (lg_sl ([.ref a0, .int 1, .int 1])).length) Slot.unset).toArray = ls at hl ⊢
  replace hl : lv_has ls 4 [(0, .ref a0), (1, .int 1), (2, .int 1)] := hl
  refine lv_iconst (v := 0) hx hb dX6_readTypes_0 (by decide) ?_
  refine lv_istore_n (lv' := [(3, .int 0), (0, .ref a0), (1, .int 1), (2, .int 1)]) hx hb dX6_readTypes_1 rfl hl (by decide) rfl (fun ls hl2 => ?_)
  replace hl := hl2
  clear hl2
  refine lv_iload_n hx hb dX6_readTypes_2 rfl (lv_at hl 0 rfl) ?_
  refine lv_iload_n hx hb dX6_readTypes_3 rfl (lv_at hl 2 rfl) ?_
  refine lv_icmp_ge (tgt := 32) hx hb dX6_readTypes_4 (by decide) (fun h => absurd h (by decide)) (fun _ => ?_)
  refine lv_aload_n hx hb dX6_readTypes_7 rfl (lv_at hl 1 rfl) ?_
  refine va_get (D := (dC, dI)) (ci := 6) (v := .int 0) (C := RX6) (T := TX6) (N := 9) hx hb hts iw_X6_readTypes_X6 hown hK hP 0 rfl rfl 1 (by decide) (hts _ m_X6_readTypes_1) (fun _ h9 => h9) rfl dX6_readTypes_8 ?_
  refine lv_if_ne (tgt := 32) hx hb dX6_readTypes_11 (by decide) (fun h => absurd (by decide) h) (fun _ => ?_)
  refine lv_aload_n hx hb dX6_readTypes_14 rfl (lv_at hl 1 rfl) ?_
  refine va_get (D := (dC, dI)) (ci := 6) (v := .ref a1) (C := RX6) (T := TX6) (N := 9) hx hb hts iw_X6_readTypes_X6 hown hK hP 0 rfl rfl 2 (by decide) (hts _ m_X6_readTypes_2) (fun _ h9 => h9) rfl dX6_readTypes_15 ?_
  refine lv_aload_n hx hb dX6_readTypes_18 rfl (lv_at hl 1 rfl) ?_
  refine lv_iload_n hx hb dX6_readTypes_19 rfl (lv_at hl 3 rfl) ?_
  have hPc := hP.sub (ws' := [(a0, .inr (6, [.int 0, .int 0, .ref a1, .int 52, .int 0, .int 3, .int 1, .int 1, .ref a3])), (a1, .inr (5, [.ref cb, .int 81, .int 0, .ref a2, .int 9, .ref a4, .int 3, .ref a5, .int 1, .int 1, .ref a6, .int 6, .int 0, .int 1, .int 0]))]) [0, 1] rfl
  have hDc := hD.sub (ws' := [(a0, .inr (6, [.int 0, .int 0, .ref a1, .int 52, .int 0, .int 3, .int 1, .int 1, .ref a3])), (a1, .inr (5, [.ref cb, .int 81, .int 0, .ref a2, .int 9, .ref a4, .int 3, .ref a5, .int 1, .int 1, .ref a6, .int 6, .int 0, .int 1, .int 0]))]) [0, 1] (by decide) rfl
  have hFc := va_free (wc := [(a0, .inr (6, [.int 0, .int 0, .ref a1, .int 52, .int 0, .int 3, .int 1, .int 1, .ref a3])), (a1, .inr (5, [.ref cb, .int 81, .int 0, .ref a2, .int 9, .ref a4, .int 3, .ref a5, .int 1, .int 1, .ref a6, .int 6, .int 0, .int 1, .int 0]))]) hD hS hA [0, 1] rfl
  refine va_calll (va_runV (As := [.int 1]) (rest := [.ref a1]) ⟨hx, hb, hml, hown, hts⟩ (cc_173_X6_readOneType l dC dI cy s.heap.size cb a0 a1 a3 a2 a4 a5 a6) (cwV 1 hts gX6_readTypes_X6_readOneType rfl rfl rfl (by decide +kernel) ⟨Nat.le_of_ble_eq_true rfl, Nat.le_of_ble_eq_true rfl⟩) ⟨fun a U g mk q => by obtain ⟨q0, q1, qP, qK, qD, qN, qS⟩ := q; exact ⟨q0, q1, qP, va_K.moved (u := U) (U := U.calling g mk a) (Vm.Alike.refl U.vm) qK, qD, qN.same rfl, SK.moved (u := U) (U := U.calling g mk a) (Vm.Alike.refl U.vm) qS⟩, va_recv hK hPc (ci := 6) (q0 := 0) rfl rfl, fun U hU hW => ⟨rfl, by rw [hU], by rw [hU]; exact hPc, va_K.moved hW.alike hK, hDc.weaken (fun _ _ _ _ => trivial), hN.warm hW, by rw [hU]; exact ((hSK.kept hS.2.1).narrow hFc).moved hW.alike⟩⟩ rfl rfl hl.1 rfl (lv_room (Nat.le_of_ble_eq_true rfl)) dX6_readTypes_20 ⟨Nat.le_of_ble_eq_true rfl, Nat.le_of_ble_eq_true rfl⟩) hS (fun q _ h => hFc q h) hFc (fun r_1 u t H_2 locs ht hvm hw hB hz1 hk1 hS2 => ?_)
  obtain ⟨hP1, hK1, hD1⟩ := hB
  rw [ht] at hP1
  obtain rfl := hw
  obtain ⟨hP2, hD2⟩ := va_join (wr := [(a2, .inl (cy 2, 2048, .inr (.inl f0)))]) (w1 := [(a0, .inr (6, [.int 0, .int 0, .ref a1, .int 54, .int 0, .int 3, .int 1, .int 1, .ref a3])), (a1, .inr (5, [.ref cb, .int 81, .int 0, .ref a2, .int 9, .ref a4, .int 3, .ref a5, .int 1, .int 1, .ref a6, .int 6, .int 0, .int 1, .int 0]))]) hP hD [0, 1] [2] rfl rfl (by decide) (by decide) hk1 hFc hP1 hD1
  replace hP : va_P (dC, dI) vwCl [(a2, .inl (cy 2, 2048, .inr (.inl f0))), (a0, .inr (6, [.int 0, .int 0, .ref a1, .int 54, .int 0, .int 3, .int 1, .int 1, .ref a3])), (a1, .inr (5, [.ref cb, .int 81, .int 0, .ref a2, .int 9, .ref a4, .int 3, .ref a5, .int 1, .int 1, .ref a6, .int 6, .int 0, .int 1, .int 0]))] H_2 := hP2
  replace hD : va_D A [(a2, .inl (cy 2, 2048, .inr (.inl f0))), (a0, .inr (6, [.int 0, .int 0, .ref a1, .int 54, .int 0, .int 3, .int 1, .int 1, .ref a3])), (a1, .inr (5, [.ref cb, .int 81, .int 0, .ref a2, .int 9, .ref a4, .int 3, .ref a5, .int 1, .int 1, .ref a6, .int 6, .int 0, .int 1, .int 0]))] := hD2
  replace hS := hS2
  clear hP2 hD2 hS2
  clear hPc hDc hFc hP1 hD1 hK1 hk1 hz1 hvm ht
  refine W.widen (k := 0) (n := 0) (Nat.le_of_ble_eq_true rfl) (Nat.le_of_ble_eq_true rfl) ?_
  have hPc := hP.sub (ws' := [(a1, .inr (5, [.ref cb, .int 81, .int 0, .ref a2, .int 9, .ref a4, .int 3, .ref a5, .int 1, .int 1, .ref a6, .int 6, .int 0, .int 1, .int 0])), (a2, .inl (cy 2, 2048, .inr (.inl f0)))]) [2, 0] rfl
  have hDc := hD.sub (ws' := [(a1, .inr (5, [.ref cb, .int 81, .int 0, .ref a2, .int 9, .ref a4, .int 3, .ref a5, .int 1, .int 1, .ref a6, .int 6, .int 0, .int 1, .int 0])), (a2, .inl (cy 2, 2048, .inr (.inl f0)))]) [2, 0] (by decide) rfl
  have hFc := va_free (wc := [(a1, .inr (5, [.ref cb, .int 81, .int 0, .ref a2, .int 9, .ref a4, .int 3, .ref a5, .int 1, .int 1, .ref a6, .int 6, .int 0, .int 1, .int 0])), (a2, .inl (cy 2, 2048, .inr (.inl f0)))]) hD hS hA [2, 0] rfl
  refine va_callv (va_runV (As := [.long 1536]) (rest := []) ⟨hx, hb, hml, hown, hts⟩ (cc_176_X5_addType l dC dI cy H_2.size cb a1 a2 a4 a5 a6 f0 f0_0) (cwV 1 hts gX6_readTypes_X5_addType rfl rfl rfl (by decide +kernel) ⟨Nat.le_of_ble_eq_true rfl, Nat.le_of_ble_eq_true rfl⟩) ⟨fun a U g mk q => by obtain ⟨q0, q1, qP, qK, qD, qN, qS⟩ := q; exact ⟨q0, q1, qP, va_K.moved (u := U) (U := U.calling g mk a) (Vm.Alike.refl U.vm) qK, qD, qN.same rfl, SK.moved (u := U) (U := U.calling g mk a) (Vm.Alike.refl U.vm) qS⟩, va_recv hK hPc (ci := 5) (q0 := 0) rfl rfl, fun U hU hW => ⟨rfl, by rw [hU], by rw [hU]; exact hPc, va_K.moved hW.alike hK, hDc.weaken (fun _ _ _ _ => trivial), hN.warm hW, by rw [hU]; exact ((hSK.kept hS.2.1).narrow hFc).moved hW.alike⟩⟩ rfl rfl hl.1 rfl (lv_room (Nat.le_of_ble_eq_true rfl)) dX6_readTypes_23 ⟨Nat.le_of_ble_eq_true rfl, Nat.le_of_ble_eq_true rfl⟩) hS (fun q _ h => hFc q h) hFc (fun u t H_3 locs ht hvm hw hB hz1 hk1 hS2 => ?_)
  obtain ⟨g_4, rfl⟩ : ∃ z, z = u := ⟨_, rfl⟩
  obtain ⟨hP1, hK1, hD1⟩ := hB
  rw [ht] at hP1
  have kp_5 := hw
  obtain ⟨hP2, hD2⟩ := va_join (wr := [(a0, .inr (6, [.int 0, .int 0, .ref a1, .int 54, .int 0, .int 3, .int 1, .int 1, .ref a3]))]) (w1 := [(a1, .inr (5, [.ref cb, .int 81, .int 0, .ref a2, .int 10, .ref a4, .int 3, .ref a5, .int 1, .int 1, .ref a6, .int 6, .int 0, .int 1, .int 0])), (a2, .inl (cy 2, 2048, .inr (.inl g_4)))]) hP hD [2, 0] [1] rfl rfl (by decide) (by decide) hk1 hFc hP1 hD1
  replace hP : va_P (dC, dI) vwCl [(a0, .inr (6, [.int 0, .int 0, .ref a1, .int 54, .int 0, .int 3, .int 1, .int 1, .ref a3])), (a1, .inr (5, [.ref cb, .int 81, .int 0, .ref a2, .int 10, .ref a4, .int 3, .ref a5, .int 1, .int 1, .ref a6, .int 6, .int 0, .int 1, .int 0])), (a2, .inl (cy 2, 2048, .inr (.inl g_4)))] H_3 := hP2
  replace hD : va_D A [(a0, .inr (6, [.int 0, .int 0, .ref a1, .int 54, .int 0, .int 3, .int 1, .int 1, .ref a3])), (a1, .inr (5, [.ref cb, .int 81, .int 0, .ref a2, .int 10, .ref a4, .int 3, .ref a5, .int 1, .int 1, .ref a6, .int 6, .int 0, .int 1, .int 0])), (a2, .inl (cy 2, 2048, .inr (.inl g_4)))] := hD2
  replace hS := hS2
  clear hP2 hD2 hS2
  clear hPc hDc hFc hP1 hD1 hK1 hk1 hz1 hvm ht
  refine W.widen (k := 0) (n := 0) (Nat.le_of_ble_eq_true rfl) (Nat.le_of_ble_eq_true rfl) ?_
  refine lv_iinc (v := 1) (lv' := [(3, .int 1), (0, .ref a0), (1, .int 1), (2, .int 1)]) hx hb dX6_readTypes_26 hl (k := 0) rfl (by decide) (by decide) rfl (fun ls hl2 => ?_)
  replace hl := hl2
  clear hl2
  refine lv_goto (tgt := 2) hx hb dX6_readTypes_29 (by decide) ?_
  refine lv_iload_n hx hb dX6_readTypes_2 rfl (lv_at hl 0 rfl) ?_
  refine lv_iload_n hx hb dX6_readTypes_3 rfl (lv_at hl 2 rfl) ?_
  refine lv_icmp_ge (tgt := 32) hx hb dX6_readTypes_4 (by decide) (fun _ => ?_) (fun h => absurd (by decide) h)
  exact W.vret hx hb hr (fun t ht hW => ⟨⟨(g_4), rfl, kp_5, by rw [ht]; exact hP, va_K.moved hW.alike hK, hD⟩, hS.F ht⟩) hS.2.2 dX6_readTypes_32

set_option maxHeartbeats 4000000 in
set_option maxRecDepth 100000 in
theorem cc_169_X6_readList (l : Launch) (dC : Nat → ClassId) (dI : Nat → Nat → Nat) (cy : Nat → ClassId) (sz : Nat) (cb : Nat) (a0 : Nat) (a1 : Nat) (a2 : Nat) (a3 : Nat) (a4 : Nat) (a5 : Nat) (a6 : Nat) (f0 : Nat → Int64) (f0_0 : f0 0 = 3) : Met l yX6_readList wsX6_readList ({ frames := 3, cells := 0, slots := 0, locals := 69 }) (va_Pc [.ref a0, .int 8] (fun U => U.heap.size = sz ∧ va_P (dC, dI) vwCl [(a0, .inr (6, [.int 0, .int 0, .ref a1, .int 51, .int 0, .int 3, .int 1, .int 1, .ref a3])), (a1, .inr (5, [.ref cb, .int 81, .int 0, .ref a2, .int 9, .ref a4, .int 3, .ref a5, .int 1, .int 1, .ref a6, .int 6, .int 0, .int 1, .int 0])), (a2, .inl (cy 2, 2048, .inr (.inl f0)))] U.heap ∧ va_K (dC, dI) vwCl (TYS cy) U ∧ va_D (fun _ => True) [(a0, .inr (6, [.int 0, .int 0, .ref a1, .int 51, .int 0, .int 3, .int 1, .int 1, .ref a3])), (a1, .inr (5, [.ref cb, .int 81, .int 0, .ref a2, .int 9, .ref a4, .int 3, .ref a5, .int 1, .int 1, .ref a6, .int 6, .int 0, .int 1, .int 0])), (a2, .inl (cy 2, 2048, .inr (.inl f0)))] ∧ NK U ∧ SK cb (va_A [(a0, .inr (6, [.int 0, .int 0, .ref a1, .int 51, .int 0, .int 3, .int 1, .int 1, .ref a3])), (a1, .inr (5, [.ref cb, .int 81, .int 0, .ref a2, .int 9, .ref a4, .int 3, .ref a5, .int 1, .int 1, .ref a6, .int 6, .int 0, .int 1, .int 0])), (a2, .inl (cy 2, 2048, .inr (.inl f0)))] sz) U U.heap)) (va_Qi (fun (r : Int32) (u : (Nat → Int64)) => match u with | (u0) => r = 1 ∧ u0 0 = 3) (fun u t => match u with | (u0) => va_P (dC, dI) vwCl [(a0, .inr (6, [.int 0, .int 0, .ref a1, .int 54, .int 0, .int 3, .int 1, .int 1, .ref a3])), (a1, .inr (5, [.ref cb, .int 81, .int 0, .ref a2, .int 10, .ref a4, .int 3, .ref a5, .int 1, .int 1, .ref a6, .int 6, .int 0, .int 1, .int 0])), (a2, .inl (cy 2, 2048, .inr (.inl u0)))] t.heap ∧ va_K (dC, dI) vwCl (TYS cy) t ∧ va_D (va_A [(a0, .inr (6, [.int 0, .int 0, .ref a1, .int 51, .int 0, .int 3, .int 1, .int 1, .ref a3])), (a1, .inr (5, [.ref cb, .int 81, .int 0, .ref a2, .int 9, .ref a4, .int 3, .ref a5, .int 1, .int 1, .ref a6, .int 6, .int 0, .int 1, .int 0])), (a2, .inl (cy 2, 2048, .inr (.inl f0)))] sz) [(a0, .inr (6, [.int 0, .int 0, .ref a1, .int 54, .int 0, .int 3, .int 1, .int 1, .ref a3])), (a1, .inr (5, [.ref cb, .int 81, .int 0, .ref a2, .int 10, .ref a4, .int 3, .ref a5, .int 1, .int 1, .ref a6, .int 6, .int 0, .int 1, .int 0])), (a2, .inl (cy 2, 2048, .inr (.inl u0)))]) (va_A [(a0, .inr (6, [.int 0, .int 0, .ref a1, .int 51, .int 0, .int 3, .int 1, .int 1, .ref a3])), (a1, .inr (5, [.ref cb, .int 81, .int 0, .ref a2, .int 9, .ref a4, .int 3, .ref a5, .int 1, .int 1, .ref a6, .int 6, .int 0, .int 1, .int 0])), (a2, .inl (cy 2, 2048, .inr (.inl f0)))] sz)) 0 0 (va_A [(a0, .inr (6, [.int 0, .int 0, .ref a1, .int 51, .int 0, .int 3, .int 1, .int 1, .ref a3])), (a1, .inr (5, [.ref cb, .int 81, .int 0, .ref a2, .int 9, .ref a4, .int 3, .ref a5, .int 1, .int 1, .ref a6, .int 6, .int 0, .int 1, .int 0])), (a2, .inl (cy 2, 2048, .inr (.inl f0)))] sz) := by
  refine Met.ofW (cc := cX6_readList) (maxL := 3) (ret := (some .int)) (by decide) rfl ?_
  intro p e s m args below meth c s₁ B hml hv
  obtain ⟨rfl, hsz, hP, hK, hD0, hN, hSK⟩ := hv
  have hx := B.exec
  have hb := B.bytes
  have hr := B.returns
  have hts := atoms_spec (ws := wsX6_readList) B.pre
  have hown : s.vm.findClass RX6 = some m.cls := findClass_of_methodNamed B.named
  have hlocks := B.notSynchronized
  subst hsz
  have hD := hD0.self (sz := s.heap.size)
  generalize hAe : va_A [(a0, .inr (6, [.int 0, .int 0, .ref a1, .int 51, .int 0, .int 3, .int 1, .int 1, .ref a3])), (a1, .inr (5, [.ref cb, .int 81, .int 0, .ref a2, .int 9, .ref a4, .int 3, .ref a5, .int 1, .int 1, .ref a6, .int 6, .int 0, .int 1, .int 0])), (a2, .inl (cy 2, 2048, .inr (.inl f0)))] s.heap.size = A at hD hSK ⊢
  have hA : ∀ q : Nat, s.heap.size ≤ q → A q := fun q h => by rw [← hAe]; exact Or.inr h
  have hS : va_S A s.heap s.heap [] := va_S.rf
  have hP : va_P (dC, dI) vwCl [(a0, .inr (6, [.int 0, .int 0, .ref a1, .int 51, .int 0, .int 3, .int 1, .int 1, .ref a3])), (a1, .inr (5, [.ref cb, .int 81, .int 0, .ref a2, .int 9, .ref a4, .int 3, .ref a5, .int 1, .int 1, .ref a6, .int 6, .int 0, .int 1, .int 0])), (a2, .inl (cy 2, 2048, .inr (.inl f0)))] s.heap := hP
  have hl := lv_entry ([.ref a0, .int 8]) (n := 3) (Nat.le_of_ble_eq_true rfl)
  rw [lg_entry_eq]
  generalize (lg_sl ([.ref a0, .int 8]) ++ List.replicate (3 - (lg_sl ([.ref a0, .int 8])).length) Slot.unset).toArray = ls at hl ⊢
  replace hl : lv_has ls 3 [(0, .ref a0), (1, .int 8)] := hl
  refine lv_aload_n hx hb dX6_readList_0 rfl (lv_at hl 0 rfl) ?_
  refine lv_iconst (v := 0) hx hb dX6_readList_1 (by decide) ?_
  refine lv_iload_n hx hb dX6_readList_2 rfl (lv_at hl 1 rfl) ?_
  have hPc := hP.sub (ws' := [(a0, .inr (6, [.int 0, .int 0, .ref a1, .int 51, .int 0, .int 3, .int 1, .int 1, .ref a3])), (a1, .inr (5, [.ref cb, .int 81, .int 0, .ref a2, .int 9, .ref a4, .int 3, .ref a5, .int 1, .int 1, .ref a6, .int 6, .int 0, .int 1, .int 0]))]) [0, 1] rfl
  have hDc := hD.sub (ws' := [(a0, .inr (6, [.int 0, .int 0, .ref a1, .int 51, .int 0, .int 3, .int 1, .int 1, .ref a3])), (a1, .inr (5, [.ref cb, .int 81, .int 0, .ref a2, .int 9, .ref a4, .int 3, .ref a5, .int 1, .int 1, .ref a6, .int 6, .int 0, .int 1, .int 0]))]) [0, 1] (by decide) rfl
  have hFc := va_free (wc := [(a0, .inr (6, [.int 0, .int 0, .ref a1, .int 51, .int 0, .int 3, .int 1, .int 1, .ref a3])), (a1, .inr (5, [.ref cb, .int 81, .int 0, .ref a2, .int 9, .ref a4, .int 3, .ref a5, .int 1, .int 1, .ref a6, .int 6, .int 0, .int 1, .int 0]))]) hD hS hA [0, 1] rfl
  refine va_calli (va_runV (As := [.int 0, .int 8]) (rest := []) ⟨hx, hb, hml, hown, hts⟩ (cc_170_X6_readNumber l dC dI cy s.heap.size cb a0 a1 a3 a2 a4 a5 a6) (cwV 2 hts gX6_readList_X6_readNumber rfl rfl rfl (by decide +kernel) ⟨Nat.le_of_ble_eq_true rfl, Nat.le_of_ble_eq_true rfl⟩) ⟨fun a U g mk q => by obtain ⟨q0, q1, qP, qK, qD, qN, qS⟩ := q; exact ⟨q0, q1, qP, va_K.moved (u := U) (U := U.calling g mk a) (Vm.Alike.refl U.vm) qK, qD, qN.same rfl, SK.moved (u := U) (U := U.calling g mk a) (Vm.Alike.refl U.vm) qS⟩, va_recv hK hPc (ci := 6) (q0 := 0) rfl rfl, fun U hU hW => ⟨rfl, by rw [hU], by rw [hU]; exact hPc, va_K.moved hW.alike hK, hDc.weaken (fun _ _ _ _ => trivial), hN.warm hW, by rw [hU]; exact ((hSK.kept hS.2.1).narrow hFc).moved hW.alike⟩⟩ rfl rfl hl.1 rfl (lv_room (Nat.le_of_ble_eq_true rfl)) dX6_readList_3 ⟨Nat.le_of_ble_eq_true rfl, Nat.le_of_ble_eq_true rfl⟩) hS (fun q _ h => hFc q h) hFc (fun r_1 u t H_2 locs ht hvm hw hB hz1 hk1 hS2 => ?_)
  obtain ⟨hP1, hK1, hD1⟩ := hB
  rw [ht] at hP1
  obtain rfl := hw
  obtain ⟨hP2, hD2⟩ := va_join (wr := [(a2, .inl (cy 2, 2048, .inr (.inl f0)))]) (w1 := [(a0, .inr (6, [.int 0, .int 0, .ref a1, .int 52, .int 0, .int 3, .int 1, .int 1, .ref a3])), (a1, .inr (5, [.ref cb, .int 81, .int 0, .ref a2, .int 9, .ref a4, .int 3, .ref a5, .int 1, .int 1, .ref a6, .int 6, .int 0, .int 1, .int 0]))]) hP hD [0, 1] [2] rfl rfl (by decide) (by decide) hk1 hFc hP1 hD1
  replace hP : va_P (dC, dI) vwCl [(a2, .inl (cy 2, 2048, .inr (.inl f0))), (a0, .inr (6, [.int 0, .int 0, .ref a1, .int 52, .int 0, .int 3, .int 1, .int 1, .ref a3])), (a1, .inr (5, [.ref cb, .int 81, .int 0, .ref a2, .int 9, .ref a4, .int 3, .ref a5, .int 1, .int 1, .ref a6, .int 6, .int 0, .int 1, .int 0]))] H_2 := hP2
  replace hD : va_D A [(a2, .inl (cy 2, 2048, .inr (.inl f0))), (a0, .inr (6, [.int 0, .int 0, .ref a1, .int 52, .int 0, .int 3, .int 1, .int 1, .ref a3])), (a1, .inr (5, [.ref cb, .int 81, .int 0, .ref a2, .int 9, .ref a4, .int 3, .ref a5, .int 1, .int 1, .ref a6, .int 6, .int 0, .int 1, .int 0]))] := hD2
  replace hS := hS2
  clear hP2 hD2 hS2
  clear hPc hDc hFc hP1 hD1 hK1 hk1 hz1 hvm ht
  refine W.widen (k := 0) (n := 0) (Nat.le_of_ble_eq_true rfl) (Nat.le_of_ble_eq_true rfl) ?_
  refine lv_istore_n (lv' := [(2, .int 1), (0, .ref a0), (1, .int 8)]) hx hb dX6_readList_6 rfl hl (by decide) rfl (fun ls hl2 => ?_)
  replace hl := hl2
  clear hl2
  refine lv_aload_n hx hb dX6_readList_7 rfl (lv_at hl 1 rfl) ?_
  refine lv_iload_n hx hb dX6_readList_8 rfl (lv_at hl 0 rfl) ?_
  refine lv_iconst (v := 1) hx hb dX6_readList_9 (by decide) ?_
  have hPc := hP.sub (ws' := [(a0, .inr (6, [.int 0, .int 0, .ref a1, .int 52, .int 0, .int 3, .int 1, .int 1, .ref a3])), (a1, .inr (5, [.ref cb, .int 81, .int 0, .ref a2, .int 9, .ref a4, .int 3, .ref a5, .int 1, .int 1, .ref a6, .int 6, .int 0, .int 1, .int 0])), (a2, .inl (cy 2, 2048, .inr (.inl f0)))]) [1, 2, 0] rfl
  have hDc := hD.sub (ws' := [(a0, .inr (6, [.int 0, .int 0, .ref a1, .int 52, .int 0, .int 3, .int 1, .int 1, .ref a3])), (a1, .inr (5, [.ref cb, .int 81, .int 0, .ref a2, .int 9, .ref a4, .int 3, .ref a5, .int 1, .int 1, .ref a6, .int 6, .int 0, .int 1, .int 0])), (a2, .inl (cy 2, 2048, .inr (.inl f0)))]) [1, 2, 0] (by decide) rfl
  have hFc := va_free (wc := [(a0, .inr (6, [.int 0, .int 0, .ref a1, .int 52, .int 0, .int 3, .int 1, .int 1, .ref a3])), (a1, .inr (5, [.ref cb, .int 81, .int 0, .ref a2, .int 9, .ref a4, .int 3, .ref a5, .int 1, .int 1, .ref a6, .int 6, .int 0, .int 1, .int 0])), (a2, .inl (cy 2, 2048, .inr (.inl f0)))]) hD hS hA [1, 2, 0] rfl
  refine va_callv (va_runV (As := [.int 1, .int 1]) (rest := []) ⟨hx, hb, hml, hown, hts⟩ (cc_172_X6_readTypes l dC dI cy H_2.size cb a0 a1 a2 a3 a4 a5 a6 f0 f0_0) (cwV 2 hts gX6_readList_X6_readTypes rfl rfl rfl (by decide +kernel) ⟨Nat.le_of_ble_eq_true rfl, Nat.le_of_ble_eq_true rfl⟩) ⟨fun a U g mk q => by obtain ⟨q0, q1, qP, qK, qD, qN, qS⟩ := q; exact ⟨q0, q1, qP, va_K.moved (u := U) (U := U.calling g mk a) (Vm.Alike.refl U.vm) qK, qD, qN.same rfl, SK.moved (u := U) (U := U.calling g mk a) (Vm.Alike.refl U.vm) qS⟩, va_recv hK hPc (ci := 6) (q0 := 0) rfl rfl, fun U hU hW => ⟨rfl, by rw [hU], by rw [hU]; exact hPc, va_K.moved hW.alike hK, hDc.weaken (fun _ _ _ _ => trivial), hN.warm hW, by rw [hU]; exact ((hSK.kept hS.2.1).narrow hFc).moved hW.alike⟩⟩ rfl rfl hl.1 rfl (lv_room (Nat.le_of_ble_eq_true rfl)) dX6_readList_10 ⟨Nat.le_of_ble_eq_true rfl, Nat.le_of_ble_eq_true rfl⟩) hS (fun q _ h => hFc q h) hFc (fun u t H_3 locs ht hvm hw hB hz1 hk1 hS2 => ?_)
  obtain ⟨g_4, rfl⟩ : ∃ z, z = u := ⟨_, rfl⟩
  obtain ⟨hP1, hK1, hD1⟩ := hB
  rw [ht] at hP1
  have kp_5 := hw
  obtain ⟨hP2, hD2⟩ := va_join (wr := []) (w1 := [(a0, .inr (6, [.int 0, .int 0, .ref a1, .int 54, .int 0, .int 3, .int 1, .int 1, .ref a3])), (a1, .inr (5, [.ref cb, .int 81, .int 0, .ref a2, .int 10, .ref a4, .int 3, .ref a5, .int 1, .int 1, .ref a6, .int 6, .int 0, .int 1, .int 0])), (a2, .inl (cy 2, 2048, .inr (.inl g_4)))]) hP hD [1, 2, 0] [] rfl rfl (by decide) (by decide) hk1 hFc hP1 hD1
  replace hP : va_P (dC, dI) vwCl [(a0, .inr (6, [.int 0, .int 0, .ref a1, .int 54, .int 0, .int 3, .int 1, .int 1, .ref a3])), (a1, .inr (5, [.ref cb, .int 81, .int 0, .ref a2, .int 10, .ref a4, .int 3, .ref a5, .int 1, .int 1, .ref a6, .int 6, .int 0, .int 1, .int 0])), (a2, .inl (cy 2, 2048, .inr (.inl g_4)))] H_3 := hP2
  replace hD : va_D A [(a0, .inr (6, [.int 0, .int 0, .ref a1, .int 54, .int 0, .int 3, .int 1, .int 1, .ref a3])), (a1, .inr (5, [.ref cb, .int 81, .int 0, .ref a2, .int 10, .ref a4, .int 3, .ref a5, .int 1, .int 1, .ref a6, .int 6, .int 0, .int 1, .int 0])), (a2, .inl (cy 2, 2048, .inr (.inl g_4)))] := hD2
  replace hS := hS2
  clear hP2 hD2 hS2
  clear hPc hDc hFc hP1 hD1 hK1 hk1 hz1 hvm ht
  refine W.widen (k := 0) (n := 0) (Nat.le_of_ble_eq_true rfl) (Nat.le_of_ble_eq_true rfl) ?_
  refine lv_iload_n hx hb dX6_readList_13 rfl (lv_at hl 0 rfl) ?_
  exact W.iret hx hb hr (fun t ht hW => ⟨⟨1, (g_4), rfl, ⟨rfl, kp_5⟩, by rw [ht]; exact hP, va_K.moved hW.alike hK, hD⟩, hS.F ht⟩) hS.2.2 dX6_readList_14

set_option maxHeartbeats 4000000 in
set_option maxRecDepth 100000 in
theorem cc_177_X5_setFunction (l : Launch) (dC : Nat → ClassId) (dI : Nat → Nat → Nat) (cy : Nat → ClassId) (sz : Nat) (cb : Nat) (a0 : Nat) (a1 : Nat) (a2 : Nat) (a3 : Nat) (a4 : Nat) (f0 : Nat → Int32)  : Met l yX5_setFunction wsX5_setFunction ({ frames := 0, cells := 0, slots := 0, locals := 0 }) (va_Pc [.ref a0, .int 3, .int 3, .int 1] (fun U => U.heap.size = sz ∧ va_P (dC, dI) vwCl [(a0, .inr (5, [.ref cb, .int 81, .int 0, .ref a2, .int 10, .ref a3, .int 3, .ref a4, .int 1, .int 1, .ref a1, .int 6, .int 0, .int 1, .int 0])), (a1, .inl (cy 1, 864, .inl f0))] U.heap ∧ va_K (dC, dI) vwCl (TYS cy) U ∧ va_D (fun _ => True) [(a0, .inr (5, [.ref cb, .int 81, .int 0, .ref a2, .int 10, .ref a3, .int 3, .ref a4, .int 1, .int 1, .ref a1, .int 6, .int 0, .int 1, .int 0])), (a1, .inl (cy 1, 864, .inl f0))] ∧ NK U ∧ SK cb (va_A [(a0, .inr (5, [.ref cb, .int 81, .int 0, .ref a2, .int 10, .ref a3, .int 3, .ref a4, .int 1, .int 1, .ref a1, .int 6, .int 0, .int 1, .int 0])), (a1, .inl (cy 1, 864, .inl f0))] sz) U U.heap)) (va_Qv (fun u : (Nat → Int32) => True) (fun u t => match u with | (u0) => va_P (dC, dI) vwCl [(a0, .inr (5, [.ref cb, .int 81, .int 0, .ref a2, .int 10, .ref a3, .int 3, .ref a4, .int 1, .int 1, .ref a1, .int 6, .int 0, .int 1, .int 0])), (a1, .inl (cy 1, 864, .inl u0))] t.heap ∧ va_K (dC, dI) vwCl (TYS cy) t ∧ va_D (va_A [(a0, .inr (5, [.ref cb, .int 81, .int 0, .ref a2, .int 10, .ref a3, .int 3, .ref a4, .int 1, .int 1, .ref a1, .int 6, .int 0, .int 1, .int 0])), (a1, .inl (cy 1, 864, .inl f0))] sz) [(a0, .inr (5, [.ref cb, .int 81, .int 0, .ref a2, .int 10, .ref a3, .int 3, .ref a4, .int 1, .int 1, .ref a1, .int 6, .int 0, .int 1, .int 0])), (a1, .inl (cy 1, 864, .inl u0))]) (va_A [(a0, .inr (5, [.ref cb, .int 81, .int 0, .ref a2, .int 10, .ref a3, .int 3, .ref a4, .int 1, .int 1, .ref a1, .int 6, .int 0, .int 1, .int 0])), (a1, .inl (cy 1, 864, .inl f0))] sz)) 0 0 (va_A [(a0, .inr (5, [.ref cb, .int 81, .int 0, .ref a2, .int 10, .ref a3, .int 3, .ref a4, .int 1, .int 1, .ref a1, .int 6, .int 0, .int 1, .int 0])), (a1, .inl (cy 1, 864, .inl f0))] sz) := by
  refine Met.ofW (cc := cX5_setFunction) (maxL := 4) (ret := none) (by decide) rfl ?_
  intro p e s m args below meth c s₁ B hml hv
  obtain ⟨rfl, hsz, hP, hK, hD0, hN, hSK⟩ := hv
  have hx := B.exec
  have hb := B.bytes
  have hr := B.returns
  have hts := atoms_spec (ws := wsX5_setFunction) B.pre
  have hown : s.vm.findClass RX5 = some m.cls := findClass_of_methodNamed B.named
  have hlocks := B.notSynchronized
  subst hsz
  have hD := hD0.self (sz := s.heap.size)
  generalize hAe : va_A [(a0, .inr (5, [.ref cb, .int 81, .int 0, .ref a2, .int 10, .ref a3, .int 3, .ref a4, .int 1, .int 1, .ref a1, .int 6, .int 0, .int 1, .int 0])), (a1, .inl (cy 1, 864, .inl f0))] s.heap.size = A at hD hSK ⊢
  have hA : ∀ q : Nat, s.heap.size ≤ q → A q := fun q h => by rw [← hAe]; exact Or.inr h
  have hS : va_S A s.heap s.heap [] := va_S.rf
  have hP : va_P (dC, dI) vwCl [(a0, .inr (5, [.ref cb, .int 81, .int 0, .ref a2, .int 10, .ref a3, .int 3, .ref a4, .int 1, .int 1, .ref a1, .int 6, .int 0, .int 1, .int 0])), (a1, .inl (cy 1, 864, .inl f0))] s.heap := hP
  have hl := lv_entry ([.ref a0, .int 3, .int 3, .int 1]) (n := 4) (Nat.le_of_ble_eq_true rfl)
  rw [lg_entry_eq]
  generalize (lg_sl ([.ref a0, .int 3, .int 3, .int 1]) ++ List.replicate (4 - (lg_sl ([.ref a0, .int 3, .int 3, .int 1])).length) Slot.unset).toArray = ls at hl ⊢
  replace hl : lv_has ls 4 [(0, .ref a0), (1, .int 3), (2, .int 3), (3, .int 1)] := hl
  refine lv_iload_n hx hb dX5_setFunction_0 rfl (lv_at hl 1 rfl) ?_
  refine lv_if_lt (tgt := 22) hx hb dX5_setFunction_1 (by decide) (fun h => absurd h (by decide)) (fun _ => ?_)
  refine lv_iload_n hx hb dX5_setFunction_4 rfl (lv_at hl 1 rfl) ?_
  refine lv_bipush (v := 96) hx hb dX5_setFunction_5 (by decide) ?_
  refine lv_icmp_ge (tgt := 22) hx hb dX5_setFunction_7 (by decide) (fun h => absurd h (by decide)) (fun _ => ?_)
  refine lv_aload_n hx hb dX5_setFunction_10 rfl (lv_at hl 0 rfl) ?_
  refine va_get (D := (dC, dI)) (ci := 5) (v := .ref a1) (C := RX5) (T := TX5) (N := 15) hx hb hts iw_X5_setFunction_X5 hown hK hP 0 rfl rfl 10 (by decide) (hts _ m_X5_setFunction_1) (fun _ h9 => h9) rfl dX5_setFunction_11 ?_
  refine lv_iload_n hx hb dX5_setFunction_14 rfl (lv_at hl 1 rfl) ?_
  refine lv_bipush (v := 9) hx hb dX5_setFunction_15 (by decide) ?_
  refine lv_imul hx hb dX5_setFunction_17 ?_
  refine lv_topi (fun z_1 ez_1 => ?_)
  obtain rfl : z_1 = 27 := ez_1.trans (by decide)
  clear ez_1
  refine lv_iload_n hx hb dX5_setFunction_18 rfl (lv_at hl 2 rfl) ?_
  refine lv_iadd hx hb dX5_setFunction_19 ?_
  refine lv_topi (fun z_2 ez_2 => ?_)
  obtain rfl : z_2 = 30 := ez_2.trans (by decide)
  clear ez_2
  refine lv_iload_n hx hb dX5_setFunction_20 rfl (lv_at hl 3 rfl) ?_
  refine va_iast hx hb hK hP hD hS 1 1 rfl rfl (by unfold vp_in; decide) dX5_setFunction_21 (fun H_4 locs hP2 hD2 hS2 => ?_)
  replace hP : va_P (dC, dI) vwCl [(a0, .inr (5, [.ref cb, .int 81, .int 0, .ref a2, .int 10, .ref a3, .int 3, .ref a4, .int 1, .int 1, .ref a1, .int 6, .int 0, .int 1, .int 0])), (a1, .inl (cy 1, 864, .inl (upd f0 30 1)))] H_4 := hP2
  replace hD : va_D A [(a0, .inr (5, [.ref cb, .int 81, .int 0, .ref a2, .int 10, .ref a3, .int 3, .ref a4, .int 1, .int 1, .ref a1, .int 6, .int 0, .int 1, .int 0])), (a1, .inl (cy 1, 864, .inl (upd f0 30 1)))] := hD2
  replace hS := hS2
  clear hP2 hD2 hS2
  obtain ⟨g_3, eg_3⟩ : ∃ z, upd f0 30 1 = z := ⟨_, rfl⟩
  rw [eg_3] at hP hD
  exact W.vret hx hb hr (fun t ht hW => ⟨⟨(g_3), rfl, trivial, by rw [ht]; exact hP, va_K.moved hW.alike hK, hD⟩, hS.F ht⟩) hS.2.2 dX5_setFunction_22

set_option maxHeartbeats 4000000 in
set_option maxRecDepth 100000 in
theorem cc_180_X6_readByte (l : Launch) (dC : Nat → ClassId) (dI : Nat → Nat → Nat) (cy : Nat → ClassId) (sz : Nat) (cb : Nat) (a0 : Nat) (a1 : Nat) (a2 : Nat) (a3 : Nat) (a4 : Nat) (a5 : Nat) (a6 : Nat)  : Met l yX6_readByte wsX6_readByte ({ frames := 0, cells := 0, slots := 0, locals := 0 }) (va_Pc [.ref a0] (fun U => U.heap.size = sz ∧ va_P (dC, dI) vwCl [(a0, .inr (6, [.int 0, .int 0, .ref a1, .int 54, .int 0, .int 3, .int 1, .int 1, .ref a2])), (a1, .inr (5, [.ref cb, .int 81, .int 0, .ref a3, .int 10, .ref a4, .int 3, .ref a5, .int 1, .int 1, .ref a6, .int 6, .int 0, .int 1, .int 0]))] U.heap ∧ va_K (dC, dI) vwCl (TYS cy) U ∧ va_D (fun _ => True) [(a0, .inr (6, [.int 0, .int 0, .ref a1, .int 54, .int 0, .int 3, .int 1, .int 1, .ref a2])), (a1, .inr (5, [.ref cb, .int 81, .int 0, .ref a3, .int 10, .ref a4, .int 3, .ref a5, .int 1, .int 1, .ref a6, .int 6, .int 0, .int 1, .int 0]))] ∧ NK U ∧ SK cb (va_A [(a0, .inr (6, [.int 0, .int 0, .ref a1, .int 54, .int 0, .int 3, .int 1, .int 1, .ref a2])), (a1, .inr (5, [.ref cb, .int 81, .int 0, .ref a3, .int 10, .ref a4, .int 3, .ref a5, .int 1, .int 1, .ref a6, .int 6, .int 0, .int 1, .int 0]))] sz) U U.heap)) (va_Qi (fun (r : Int32) (u : Unit) => r = 0) (fun u t => va_P (dC, dI) vwCl [(a0, .inr (6, [.int 0, .int 0, .ref a1, .int 55, .int 0, .int 3, .int 1, .int 1, .ref a2])), (a1, .inr (5, [.ref cb, .int 81, .int 0, .ref a3, .int 10, .ref a4, .int 3, .ref a5, .int 1, .int 1, .ref a6, .int 6, .int 0, .int 1, .int 0]))] t.heap ∧ va_K (dC, dI) vwCl (TYS cy) t ∧ va_D (va_A [(a0, .inr (6, [.int 0, .int 0, .ref a1, .int 54, .int 0, .int 3, .int 1, .int 1, .ref a2])), (a1, .inr (5, [.ref cb, .int 81, .int 0, .ref a3, .int 10, .ref a4, .int 3, .ref a5, .int 1, .int 1, .ref a6, .int 6, .int 0, .int 1, .int 0]))] sz) [(a0, .inr (6, [.int 0, .int 0, .ref a1, .int 55, .int 0, .int 3, .int 1, .int 1, .ref a2])), (a1, .inr (5, [.ref cb, .int 81, .int 0, .ref a3, .int 10, .ref a4, .int 3, .ref a5, .int 1, .int 1, .ref a6, .int 6, .int 0, .int 1, .int 0]))]) (va_A [(a0, .inr (6, [.int 0, .int 0, .ref a1, .int 54, .int 0, .int 3, .int 1, .int 1, .ref a2])), (a1, .inr (5, [.ref cb, .int 81, .int 0, .ref a3, .int 10, .ref a4, .int 3, .ref a5, .int 1, .int 1, .ref a6, .int 6, .int 0, .int 1, .int 0]))] sz)) 0 0 (va_A [(a0, .inr (6, [.int 0, .int 0, .ref a1, .int 54, .int 0, .int 3, .int 1, .int 1, .ref a2])), (a1, .inr (5, [.ref cb, .int 81, .int 0, .ref a3, .int 10, .ref a4, .int 3, .ref a5, .int 1, .int 1, .ref a6, .int 6, .int 0, .int 1, .int 0]))] sz) := by
  refine Met.ofW (cc := cX6_readByte) (maxL := 1) (ret := (some .int)) (by decide) rfl ?_
  intro p e s m args below meth c s₁ B hml hv
  obtain ⟨rfl, hsz, hP, hK, hD0, hN, hSK⟩ := hv
  have hx := B.exec
  have hb := B.bytes
  have hr := B.returns
  have hts := atoms_spec (ws := wsX6_readByte) B.pre
  have hown : s.vm.findClass RX6 = some m.cls := findClass_of_methodNamed B.named
  have hlocks := B.notSynchronized
  subst hsz
  have hD := hD0.self (sz := s.heap.size)
  generalize hAe : va_A [(a0, .inr (6, [.int 0, .int 0, .ref a1, .int 54, .int 0, .int 3, .int 1, .int 1, .ref a2])), (a1, .inr (5, [.ref cb, .int 81, .int 0, .ref a3, .int 10, .ref a4, .int 3, .ref a5, .int 1, .int 1, .ref a6, .int 6, .int 0, .int 1, .int 0]))] s.heap.size = A at hD hSK ⊢
  have hA : ∀ q : Nat, s.heap.size ≤ q → A q := fun q h => by rw [← hAe]; exact Or.inr h
  have hS : va_S A s.heap s.heap [] := va_S.rf
  have hP : va_P (dC, dI) vwCl [(a0, .inr (6, [.int 0, .int 0, .ref a1, .int 54, .int 0, .int 3, .int 1, .int 1, .ref a2])), (a1, .inr (5, [.ref cb, .int 81, .int 0, .ref a3, .int 10, .ref a4, .int 3, .ref a5, .int 1, .int 1, .ref a6, .int 6, .int 0, .int 1, .int 0]))] s.heap := hP
  have hl := lv_entry ([.ref a0]) (n := 1) (Nat.le_of_ble_eq_true rfl)
  rw [lg_entry_eq]
  generalize (lg_sl ([.ref a0]) ++ List.replicate (1 - (lg_sl ([.ref a0])).length) Slot.unset).toArray = ls at hl ⊢
  replace hl : lv_has ls 1 [(0, .ref a0)] := hl
  refine lv_aload_n hx hb dX6_readByte_0 rfl (lv_at hl 0 rfl) ?_
  refine va_get (D := (dC, dI)) (ci := 6) (v := .int 0) (C := RX6) (T := TX6) (N := 9) hx hb hts iw_X6_readByte_X6 hown hK hP 0 rfl rfl 1 (by decide) (hts _ m_X6_readByte_1) (fun _ h9 => h9) rfl dX6_readByte_1 ?_
  refine lv_if_eq (tgt := 9) hx hb dX6_readByte_4 (by decide) (fun _ => ?_) (fun h => absurd (by decide) h)
  refine lv_aload_n hx hb dX6_readByte_9 rfl (lv_at hl 0 rfl) ?_
  refine va_get (D := (dC, dI)) (ci := 6) (v := .int 54) (C := RX6) (T := TX6) (N := 9) hx hb hts iw_X6_readByte_X6 hown hK hP 0 rfl rfl 3 (by decide) (hts _ m_X6_readByte_2) (fun _ h9 => h9) rfl dX6_readByte_10 ?_
  refine lv_aload_n hx hb dX6_readByte_13 rfl (lv_at hl 0 rfl) ?_
  refine va_get (D := (dC, dI)) (ci := 6) (v := .ref a1) (C := RX6) (T := TX6) (N := 9) hx hb hts iw_X6_readByte_X6 hown hK hP 0 rfl rfl 2 (by decide) (hts _ m_X6_readByte_3) (fun _ h9 => h9) rfl dX6_readByte_14 ?_
  refine va_get (D := (dC, dI)) (ci := 5) (v := .int 81) (C := RX5) (T := TX5) (N := 15) hx hb hts iw_X6_readByte_X5 hown hK hP 1 rfl rfl 1 (by decide) (hts _ m_X6_readByte_4) (fun _ h9 => h9) rfl dX6_readByte_17 ?_
  refine lv_icmp_lt (tgt := 41) hx hb dX6_readByte_20 (by decide) (fun _ => ?_) (fun h => absurd (by decide) h)
  refine lv_aload_n hx hb dX6_readByte_41 rfl (lv_at hl 0 rfl) ?_
  refine va_get (D := (dC, dI)) (ci := 6) (v := .ref a1) (C := RX6) (T := TX6) (N := 9) hx hb hts iw_X6_readByte_X6 hown hK hP 0 rfl rfl 2 (by decide) (hts _ m_X6_readByte_3) (fun _ h9 => h9) rfl dX6_readByte_42 ?_
  refine va_get (D := (dC, dI)) (ci := 5) (v := .ref cb) (C := RX5) (T := TX5) (N := 15) hx hb hts iw_X6_readByte_X5 hown hK hP 1 rfl rfl 0 (by decide) (hts _ m_X6_readByte_6) (fun _ h9 => h9) rfl dX6_readByte_45 ?_
  refine lv_aload_n hx hb dX6_readByte_48 rfl (lv_at hl 0 rfl) ?_
  refine lv_dup hx hb dX6_readByte_49 rfl ?_
  refine va_get (D := (dC, dI)) (ci := 6) (v := .int 54) (C := RX6) (T := TX6) (N := 9) hx hb hts iw_X6_readByte_X6 hown hK hP 0 rfl rfl 3 (by decide) (hts _ m_X6_readByte_2) (fun _ h9 => h9) rfl dX6_readByte_50 ?_
  refine lv_dup_x1 hx hb dX6_readByte_53 rfl rfl ?_
  refine lv_iconst (v := 1) hx hb dX6_readByte_54 (by decide) ?_
  refine lv_iadd hx hb dX6_readByte_55 ?_
  refine lv_topi (fun z_1 ez_1 => ?_)
  obtain rfl : z_1 = 55 := ez_1.trans (by decide)
  clear ez_1
  refine va_put (D := (dC, dI)) (ci := 6) (v := .int 55) (ty := .int) (C := RX6) (T := TX6) (N := 9) hx hb hts iw_X6_readByte_X6 tyX6 tyX6_ok nmX6 hown hK hP hD hS 0 rfl rfl 3 (by decide) (hts _ m_X6_readByte_2) (fun _ h9 => h9) rfl (by decide +kernel) rfl rfl (Nat.le_of_ble_eq_true rfl) dX6_readByte_56 (fun H_2 locs hP2 hD2 hS2 => ?_)
  replace hP : va_P (dC, dI) vwCl [(a0, .inr (6, [.int 0, .int 0, .ref a1, .int 55, .int 0, .int 3, .int 1, .int 1, .ref a2])), (a1, .inr (5, [.ref cb, .int 81, .int 0, .ref a3, .int 10, .ref a4, .int 3, .ref a5, .int 1, .int 1, .ref a6, .int 6, .int 0, .int 1, .int 0]))] H_2 := hP2
  replace hD : va_D A [(a0, .inr (6, [.int 0, .int 0, .ref a1, .int 55, .int 0, .int 3, .int 1, .int 1, .ref a2])), (a1, .inr (5, [.ref cb, .int 81, .int 0, .ref a3, .int 10, .ref a4, .int 3, .ref a5, .int 1, .int 1, .ref a6, .int 6, .int 0, .int 1, .int 0]))] := hD2
  replace hS := hS2
  clear hP2 hD2 hS2
  refine va_tb (v := .int 0) hx hb hSK.2 hS (by unfold vp_in; decide) rfl dX6_readByte_59 ?_
  refine lv_sipush (v := 255) hx hb dX6_readByte_60 (by decide) ?_
  refine lv_iand hx hb dX6_readByte_63 ?_
  refine lv_topi (fun z_3 ez_3 => ?_)
  obtain rfl : z_3 = 0 := ez_3.trans (by decide)
  clear ez_3
  exact W.iret hx hb hr (fun t ht hW => ⟨⟨0, (), rfl, rfl, by rw [ht]; exact hP, va_K.moved hW.alike hK, hD⟩, hS.F ht⟩) hS.2.2 dX6_readByte_64

set_option maxHeartbeats 4000000 in
set_option maxRecDepth 100000 in
theorem cc_179_X6_readNumber (l : Launch) (dC : Nat → ClassId) (dI : Nat → Nat → Nat) (cy : Nat → ClassId) (sz : Nat) (cb : Nat) (a0 : Nat) (a1 : Nat) (a2 : Nat) (a3 : Nat) (a4 : Nat) (a5 : Nat) (a6 : Nat)  : Met l yX6_readNumber wsX6_readNumber ({ frames := 1, cells := 0, slots := 0, locals := 20 }) (va_Pc [.ref a0, .int 0, .int 32] (fun U => U.heap.size = sz ∧ va_P (dC, dI) vwCl [(a0, .inr (6, [.int 0, .int 0, .ref a1, .int 54, .int 0, .int 3, .int 1, .int 1, .ref a2])), (a1, .inr (5, [.ref cb, .int 81, .int 0, .ref a3, .int 10, .ref a4, .int 3, .ref a5, .int 1, .int 1, .ref a6, .int 6, .int 0, .int 1, .int 0]))] U.heap ∧ va_K (dC, dI) vwCl (TYS cy) U ∧ va_D (fun _ => True) [(a0, .inr (6, [.int 0, .int 0, .ref a1, .int 54, .int 0, .int 3, .int 1, .int 1, .ref a2])), (a1, .inr (5, [.ref cb, .int 81, .int 0, .ref a3, .int 10, .ref a4, .int 3, .ref a5, .int 1, .int 1, .ref a6, .int 6, .int 0, .int 1, .int 0]))] ∧ NK U ∧ SK cb (va_A [(a0, .inr (6, [.int 0, .int 0, .ref a1, .int 54, .int 0, .int 3, .int 1, .int 1, .ref a2])), (a1, .inr (5, [.ref cb, .int 81, .int 0, .ref a3, .int 10, .ref a4, .int 3, .ref a5, .int 1, .int 1, .ref a6, .int 6, .int 0, .int 1, .int 0]))] sz) U U.heap)) (va_Qi (fun (r : Int32) (u : Unit) => r = 0) (fun u t => va_P (dC, dI) vwCl [(a0, .inr (6, [.int 0, .int 0, .ref a1, .int 55, .int 0, .int 3, .int 1, .int 1, .ref a2])), (a1, .inr (5, [.ref cb, .int 81, .int 0, .ref a3, .int 10, .ref a4, .int 3, .ref a5, .int 1, .int 1, .ref a6, .int 6, .int 0, .int 1, .int 0]))] t.heap ∧ va_K (dC, dI) vwCl (TYS cy) t ∧ va_D (va_A [(a0, .inr (6, [.int 0, .int 0, .ref a1, .int 54, .int 0, .int 3, .int 1, .int 1, .ref a2])), (a1, .inr (5, [.ref cb, .int 81, .int 0, .ref a3, .int 10, .ref a4, .int 3, .ref a5, .int 1, .int 1, .ref a6, .int 6, .int 0, .int 1, .int 0]))] sz) [(a0, .inr (6, [.int 0, .int 0, .ref a1, .int 55, .int 0, .int 3, .int 1, .int 1, .ref a2])), (a1, .inr (5, [.ref cb, .int 81, .int 0, .ref a3, .int 10, .ref a4, .int 3, .ref a5, .int 1, .int 1, .ref a6, .int 6, .int 0, .int 1, .int 0]))]) (va_A [(a0, .inr (6, [.int 0, .int 0, .ref a1, .int 54, .int 0, .int 3, .int 1, .int 1, .ref a2])), (a1, .inr (5, [.ref cb, .int 81, .int 0, .ref a3, .int 10, .ref a4, .int 3, .ref a5, .int 1, .int 1, .ref a6, .int 6, .int 0, .int 1, .int 0]))] sz)) 0 0 (va_A [(a0, .inr (6, [.int 0, .int 0, .ref a1, .int 54, .int 0, .int 3, .int 1, .int 1, .ref a2])), (a1, .inr (5, [.ref cb, .int 81, .int 0, .ref a3, .int 10, .ref a4, .int 3, .ref a5, .int 1, .int 1, .ref a6, .int 6, .int 0, .int 1, .int 0]))] sz) := by
  refine Met.ofW (cc := cX6_readNumber) (maxL := 5) (ret := (some .int)) (by decide) rfl ?_
  intro p e s m args below meth c s₁ B hml hv
  obtain ⟨rfl, hsz, hP, hK, hD0, hN, hSK⟩ := hv
  have hx := B.exec
  have hb := B.bytes
  have hr := B.returns
  have hts := atoms_spec (ws := wsX6_readNumber) B.pre
  have hown : s.vm.findClass RX6 = some m.cls := findClass_of_methodNamed B.named
  have hlocks := B.notSynchronized
  subst hsz
  have hD := hD0.self (sz := s.heap.size)
  generalize hAe : va_A [(a0, .inr (6, [.int 0, .int 0, .ref a1, .int 54, .int 0, .int 3, .int 1, .int 1, .ref a2])), (a1, .inr (5, [.ref cb, .int 81, .int 0, .ref a3, .int 10, .ref a4, .int 3, .ref a5, .int 1, .int 1, .ref a6, .int 6, .int 0, .int 1, .int 0]))] s.heap.size = A at hD hSK ⊢
  have hA : ∀ q : Nat, s.heap.size ≤ q → A q := fun q h => by rw [← hAe]; exact Or.inr h
  have hS : va_S A s.heap s.heap [] := va_S.rf
  have hP : va_P (dC, dI) vwCl [(a0, .inr (6, [.int 0, .int 0, .ref a1, .int 54, .int 0, .int 3, .int 1, .int 1, .ref a2])), (a1, .inr (5, [.ref cb, .int 81, .int 0, .ref a3, .int 10, .ref a4, .int 3, .ref a5, .int 1, .int 1, .ref a6, .int 6, .int 0, .int 1, .int 0]))] s.heap := hP
  have hl := lv_entry ([.ref a0, .int 0, .int 32]) (n := 5) (Nat.le_of_ble_eq_true rfl)
  rw [lg_entry_eq]
  generalize (lg_sl ([.ref a0, .int 0, .int 32]) ++ List.replicate (5 - (lg_sl ([.ref a0, .int 0, .int 32])).length) Slot.unset).toArray = ls at hl ⊢
  replace hl : lv_has ls 5 [(0, .ref a0), (1, .int 0), (2, .int 32)] := hl
  refine lv_aload_n hx hb dX6_readNumber_0 rfl (lv_at hl 0 rfl) ?_
  refine va_get (D := (dC, dI)) (ci := 6) (v := .int 54) (C := RX6) (T := TX6) (N := 9) hx hb hts iw_X6_readNumber_X6 hown hK hP 0 rfl rfl 3 (by decide) (hts _ m_X6_readNumber_1) (fun _ h9 => h9) rfl dX6_readNumber_1 ?_
  refine lv_istore_n (lv' := [(3, .int 54), (0, .ref a0), (1, .int 0), (2, .int 32)]) hx hb dX6_readNumber_4 rfl hl (by decide) rfl (fun ls hl2 => ?_)
  replace hl := hl2
  clear hl2
  refine lv_aload_n hx hb dX6_readNumber_5 rfl (lv_at hl 1 rfl) ?_
  have hPc := hP.sub (ws' := [(a0, .inr (6, [.int 0, .int 0, .ref a1, .int 54, .int 0, .int 3, .int 1, .int 1, .ref a2])), (a1, .inr (5, [.ref cb, .int 81, .int 0, .ref a3, .int 10, .ref a4, .int 3, .ref a5, .int 1, .int 1, .ref a6, .int 6, .int 0, .int 1, .int 0]))]) [0, 1] rfl
  have hDc := hD.sub (ws' := [(a0, .inr (6, [.int 0, .int 0, .ref a1, .int 54, .int 0, .int 3, .int 1, .int 1, .ref a2])), (a1, .inr (5, [.ref cb, .int 81, .int 0, .ref a3, .int 10, .ref a4, .int 3, .ref a5, .int 1, .int 1, .ref a6, .int 6, .int 0, .int 1, .int 0]))]) [0, 1] (by decide) rfl
  have hFc := va_free (wc := [(a0, .inr (6, [.int 0, .int 0, .ref a1, .int 54, .int 0, .int 3, .int 1, .int 1, .ref a2])), (a1, .inr (5, [.ref cb, .int 81, .int 0, .ref a3, .int 10, .ref a4, .int 3, .ref a5, .int 1, .int 1, .ref a6, .int 6, .int 0, .int 1, .int 0]))]) hD hS hA [0, 1] rfl
  refine va_calli (va_runV (As := []) (rest := []) ⟨hx, hb, hml, hown, hts⟩ (cc_180_X6_readByte l dC dI cy s.heap.size cb a0 a1 a2 a3 a4 a5 a6) (cwV 0 hts gX6_readNumber_X6_readByte rfl rfl rfl (by decide +kernel) ⟨Nat.le_of_ble_eq_true rfl, Nat.le_of_ble_eq_true rfl⟩) ⟨fun a U g mk q => by obtain ⟨q0, q1, qP, qK, qD, qN, qS⟩ := q; exact ⟨q0, q1, qP, va_K.moved (u := U) (U := U.calling g mk a) (Vm.Alike.refl U.vm) qK, qD, qN.same rfl, SK.moved (u := U) (U := U.calling g mk a) (Vm.Alike.refl U.vm) qS⟩, va_recv hK hPc (ci := 6) (q0 := 0) rfl rfl, fun U hU hW => ⟨rfl, by rw [hU], by rw [hU]; exact hPc, va_K.moved hW.alike hK, hDc.weaken (fun _ _ _ _ => trivial), hN.warm hW, by rw [hU]; exact ((hSK.kept hS.2.1).narrow hFc).moved hW.alike⟩⟩ rfl rfl hl.1 rfl (lv_room (Nat.le_of_ble_eq_true rfl)) dX6_readNumber_6 ⟨Nat.le_of_ble_eq_true rfl, Nat.le_of_ble_eq_true rfl⟩) hS (fun q _ h => hFc q h) hFc (fun r_1 u t H_2 locs ht hvm hw hB hz1 hk1 hS2 => ?_)
  obtain ⟨hP1, hK1, hD1⟩ := hB
  rw [ht] at hP1
  obtain rfl := hw
  obtain ⟨hP2, hD2⟩ := va_join (wr := []) (w1 := [(a0, .inr (6, [.int 0, .int 0, .ref a1, .int 55, .int 0, .int 3, .int 1, .int 1, .ref a2])), (a1, .inr (5, [.ref cb, .int 81, .int 0, .ref a3, .int 10, .ref a4, .int 3, .ref a5, .int 1, .int 1, .ref a6, .int 6, .int 0, .int 1, .int 0]))]) hP hD [0, 1] [] rfl rfl (by decide) (by decide) hk1 hFc hP1 hD1
  replace hP : va_P (dC, dI) vwCl [(a0, .inr (6, [.int 0, .int 0, .ref a1, .int 55, .int 0, .int 3, .int 1, .int 1, .ref a2])), (a1, .inr (5, [.ref cb, .int 81, .int 0, .ref a3, .int 10, .ref a4, .int 3, .ref a5, .int 1, .int 1, .ref a6, .int 6, .int 0, .int 1, .int 0]))] H_2 := hP2
  replace hD : va_D A [(a0, .inr (6, [.int 0, .int 0, .ref a1, .int 55, .int 0, .int 3, .int 1, .int 1, .ref a2])), (a1, .inr (5, [.ref cb, .int 81, .int 0, .ref a3, .int 10, .ref a4, .int 3, .ref a5, .int 1, .int 1, .ref a6, .int 6, .int 0, .int 1, .int 0]))] := hD2
  replace hS := hS2
  clear hP2 hD2 hS2
  clear hPc hDc hFc hP1 hD1 hK1 hk1 hz1 hvm ht
  refine W.widen (k := 0) (n := 0) (Nat.le_of_ble_eq_true rfl) (Nat.le_of_ble_eq_true rfl) ?_
  refine lv_istore (lv' := [(4, .int 0), (3, .int 54), (0, .ref a0), (1, .int 0), (2, .int 32)]) hx hb dX6_readNumber_9 hl (by decide) rfl (fun ls hl2 => ?_)
  replace hl := hl2
  clear hl2
  refine lv_iload hx hb dX6_readNumber_11 (lv_at hl 0 rfl) ?_
  refine lv_iload_n hx hb dX6_readNumber_13 rfl (lv_at hl 3 rfl) ?_
  refine lv_icmp_lt (tgt := 23) hx hb dX6_readNumber_14 (by decide) (fun h => absurd h (by decide)) (fun _ => ?_)
  refine lv_iload hx hb dX6_readNumber_17 (lv_at hl 0 rfl) ?_
  refine lv_iload_n hx hb dX6_readNumber_19 rfl (lv_at hl 4 rfl) ?_
  refine lv_icmp_le (tgt := 29) hx hb dX6_readNumber_20 (by decide) (fun _ => ?_) (fun h => absurd (by decide) h)
  refine lv_aload_n hx hb dX6_readNumber_29 rfl (lv_at hl 2 rfl) ?_
  refine va_get (D := (dC, dI)) (ci := 6) (v := .int 0) (C := RX6) (T := TX6) (N := 9) hx hb hts iw_X6_readNumber_X6 hown hK hP 0 rfl rfl 1 (by decide) (hts _ m_X6_readNumber_2) (fun _ h9 => h9) rfl dX6_readNumber_30 ?_
  refine lv_if_ne (tgt := 41) hx hb dX6_readNumber_33 (by decide) (fun h => absurd (by decide) h) (fun _ => ?_)
  refine lv_iload hx hb dX6_readNumber_36 (lv_at hl 0 rfl) ?_
  refine lv_goto (tgt := 42) hx hb dX6_readNumber_38 (by decide) ?_
  exact W.iret hx hb hr (fun t ht hW => ⟨⟨0, (), rfl, rfl, by rw [ht]; exact hP, va_K.moved hW.alike hK, hD⟩, hS.F ht⟩) hS.2.2 dX6_readNumber_42

set_option maxHeartbeats 4000000 in
set_option maxRecDepth 100000 in
theorem cc_181_X6_readTypes (l : Launch) (dC : Nat → ClassId) (dI : Nat → Nat → Nat) (cy : Nat → ClassId) (sz : Nat) (cb : Nat) (a0 : Nat) (a1 : Nat) (a2 : Nat)  : Met l yX6_readTypes wsX6_readTypes ({ frames := 0, cells := 0, slots := 0, locals := 0 }) (va_Pc [.ref a0, .int 0, .int 1] (fun U => U.heap.size = sz ∧ va_P (dC, dI) vwCl [(a0, .inr (6, [.int 0, .int 0, .ref a1, .int 55, .int 0, .int 3, .int 1, .int 1, .ref a2]))] U.heap ∧ va_K (dC, dI) vwCl (TYS cy) U ∧ va_D (fun _ => True) [(a0, .inr (6, [.int 0, .int 0, .ref a1, .int 55, .int 0, .int 3, .int 1, .int 1, .ref a2]))] ∧ NK U ∧ SK cb (va_A [(a0, .inr (6, [.int 0, .int 0, .ref a1, .int 55, .int 0, .int 3, .int 1, .int 1, .ref a2]))] sz) U U.heap)) (va_Qv (fun u : Unit => True) (fun u t => va_P (dC, dI) vwCl [(a0, .inr (6, [.int 0, .int 0, .ref a1, .int 55, .int 0, .int 3, .int 1, .int 1, .ref a2]))] t.heap ∧ va_K (dC, dI) vwCl (TYS cy) t ∧ va_D (va_A [(a0, .inr (6, [.int 0, .int 0, .ref a1, .int 55, .int 0, .int 3, .int 1, .int 1, .ref a2]))] sz) [(a0, .inr (6, [.int 0, .int 0, .ref a1, .int 55, .int 0, .int 3, .int 1, .int 1, .ref a2]))]) (va_A [(a0, .inr (6, [.int 0, .int 0, .ref a1, .int 55, .int 0, .int 3, .int 1, .int 1, .ref a2]))] sz)) 0 0 (va_A [(a0, .inr (6, [.int 0, .int 0, .ref a1, .int 55, .int 0, .int 3, .int 1, .int 1, .ref a2]))] sz) := by
  refine Met.ofW (cc := cX6_readTypes) (maxL := 4) (ret := none) (by decide) rfl ?_
  intro p e s m args below meth c s₁ B hml hv
  obtain ⟨rfl, hsz, hP, hK, hD0, hN, hSK⟩ := hv
  have hx := B.exec
  have hb := B.bytes
  have hr := B.returns
  have hts := atoms_spec (ws := wsX6_readTypes) B.pre
  have hown : s.vm.findClass RX6 = some m.cls := findClass_of_methodNamed B.named
  have hlocks := B.notSynchronized
  subst hsz
  have hD := hD0.self (sz := s.heap.size)
  generalize hAe : va_A [(a0, .inr (6, [.int 0, .int 0, .ref a1, .int 55, .int 0, .int 3, .int 1, .int 1, .ref a2]))] s.heap.size = A at hD hSK ⊢
  have hA : ∀ q : Nat, s.heap.size ≤ q → A q := fun q h => by rw [← hAe]; exact Or.inr h
  have hS : va_S A s.heap s.heap [] := va_S.rf
  have hP : va_P (dC, dI) vwCl [(a0, .inr (6, [.int 0, .int 0, .ref a1, .int 55, .int 0, .int 3, .int 1, .int 1, .ref a2]))] s.heap := hP
  have hl := lv_entry ([.ref a0, .int 0, .int 1]) (n := 4) (Nat.le_of_ble_eq_true rfl)
  rw [lg_entry_eq]
  generalize (lg_sl ([.ref a0, .int 0, .int 1]) ++ List.replicate (4 - (lg_sl ([.ref a0, .int 0, .int 1])).length) Slot.unset).toArray = ls at hl ⊢
  replace hl : lv_has ls 4 [(0, .ref a0), (1, .int 0), (2, .int 1)] := hl
  refine lv_iconst (v := 0) hx hb dX6_readTypes_0 (by decide) ?_
  refine lv_istore_n (lv' := [(3, .int 0), (0, .ref a0), (1, .int 0), (2, .int 1)]) hx hb dX6_readTypes_1 rfl hl (by decide) rfl (fun ls hl2 => ?_)
  replace hl := hl2
  clear hl2
  refine lv_iload_n hx hb dX6_readTypes_2 rfl (lv_at hl 0 rfl) ?_
  refine lv_iload_n hx hb dX6_readTypes_3 rfl (lv_at hl 2 rfl) ?_
  refine lv_icmp_ge (tgt := 32) hx hb dX6_readTypes_4 (by decide) (fun _ => ?_) (fun h => absurd (by decide) h)
  exact W.vret hx hb hr (fun t ht hW => ⟨⟨(), rfl, trivial, by rw [ht]; exact hP, va_K.moved hW.alike hK, hD⟩, hS.F ht⟩) hS.2.2 dX6_readTypes_32

set_option maxHeartbeats 4000000 in
set_option maxRecDepth 100000 in
theorem cc_178_X6_readList (l : Launch) (dC : Nat → ClassId) (dI : Nat → Nat → Nat) (cy : Nat → ClassId) (sz : Nat) (cb : Nat) (a0 : Nat) (a1 : Nat) (a2 : Nat) (a3 : Nat) (a4 : Nat) (a5 : Nat) (a6 : Nat)  : Met l yX6_readList wsX6_readList ({ frames := 2, cells := 0, slots := 0, locals := 44 }) (va_Pc [.ref a0, .int 32] (fun U => U.heap.size = sz ∧ va_P (dC, dI) vwCl [(a0, .inr (6, [.int 0, .int 0, .ref a1, .int 54, .int 0, .int 3, .int 1, .int 1, .ref a2])), (a1, .inr (5, [.ref cb, .int 81, .int 0, .ref a3, .int 10, .ref a4, .int 3, .ref a5, .int 1, .int 1, .ref a6, .int 6, .int 0, .int 1, .int 0]))] U.heap ∧ va_K (dC, dI) vwCl (TYS cy) U ∧ va_D (fun _ => True) [(a0, .inr (6, [.int 0, .int 0, .ref a1, .int 54, .int 0, .int 3, .int 1, .int 1, .ref a2])), (a1, .inr (5, [.ref cb, .int 81, .int 0, .ref a3, .int 10, .ref a4, .int 3, .ref a5, .int 1, .int 1, .ref a6, .int 6, .int 0, .int 1, .int 0]))] ∧ NK U ∧ SK cb (va_A [(a0, .inr (6, [.int 0, .int 0, .ref a1, .int 54, .int 0, .int 3, .int 1, .int 1, .ref a2])), (a1, .inr (5, [.ref cb, .int 81, .int 0, .ref a3, .int 10, .ref a4, .int 3, .ref a5, .int 1, .int 1, .ref a6, .int 6, .int 0, .int 1, .int 0]))] sz) U U.heap)) (va_Qi (fun (r : Int32) (u : Unit) => r = 0) (fun u t => va_P (dC, dI) vwCl [(a0, .inr (6, [.int 0, .int 0, .ref a1, .int 55, .int 0, .int 3, .int 1, .int 1, .ref a2])), (a1, .inr (5, [.ref cb, .int 81, .int 0, .ref a3, .int 10, .ref a4, .int 3, .ref a5, .int 1, .int 1, .ref a6, .int 6, .int 0, .int 1, .int 0]))] t.heap ∧ va_K (dC, dI) vwCl (TYS cy) t ∧ va_D (va_A [(a0, .inr (6, [.int 0, .int 0, .ref a1, .int 54, .int 0, .int 3, .int 1, .int 1, .ref a2])), (a1, .inr (5, [.ref cb, .int 81, .int 0, .ref a3, .int 10, .ref a4, .int 3, .ref a5, .int 1, .int 1, .ref a6, .int 6, .int 0, .int 1, .int 0]))] sz) [(a0, .inr (6, [.int 0, .int 0, .ref a1, .int 55, .int 0, .int 3, .int 1, .int 1, .ref a2])), (a1, .inr (5, [.ref cb, .int 81, .int 0, .ref a3, .int 10, .ref a4, .int 3, .ref a5, .int 1, .int 1, .ref a6, .int 6, .int 0, .int 1, .int 0]))]) (va_A [(a0, .inr (6, [.int 0, .int 0, .ref a1, .int 54, .int 0, .int 3, .int 1, .int 1, .ref a2])), (a1, .inr (5, [.ref cb, .int 81, .int 0, .ref a3, .int 10, .ref a4, .int 3, .ref a5, .int 1, .int 1, .ref a6, .int 6, .int 0, .int 1, .int 0]))] sz)) 0 0 (va_A [(a0, .inr (6, [.int 0, .int 0, .ref a1, .int 54, .int 0, .int 3, .int 1, .int 1, .ref a2])), (a1, .inr (5, [.ref cb, .int 81, .int 0, .ref a3, .int 10, .ref a4, .int 3, .ref a5, .int 1, .int 1, .ref a6, .int 6, .int 0, .int 1, .int 0]))] sz) := by
  refine Met.ofW (cc := cX6_readList) (maxL := 3) (ret := (some .int)) (by decide) rfl ?_
  intro p e s m args below meth c s₁ B hml hv
  obtain ⟨rfl, hsz, hP, hK, hD0, hN, hSK⟩ := hv
  have hx := B.exec
  have hb := B.bytes
  have hr := B.returns
  have hts := atoms_spec (ws := wsX6_readList) B.pre
  have hown : s.vm.findClass RX6 = some m.cls := findClass_of_methodNamed B.named
  have hlocks := B.notSynchronized
  subst hsz
  have hD := hD0.self (sz := s.heap.size)
  generalize hAe : va_A [(a0, .inr (6, [.int 0, .int 0, .ref a1, .int 54, .int 0, .int 3, .int 1, .int 1, .ref a2])), (a1, .inr (5, [.ref cb, .int 81, .int 0, .ref a3, .int 10, .ref a4, .int 3, .ref a5, .int 1, .int 1, .ref a6, .int 6, .int 0, .int 1, .int 0]))] s.heap.size = A at hD hSK ⊢
  have hA : ∀ q : Nat, s.heap.size ≤ q → A q := fun q h => by rw [← hAe]; exact Or.inr h
  have hS : va_S A s.heap s.heap [] := va_S.rf
  have hP : va_P (dC, dI) vwCl [(a0, .inr (6, [.int 0, .int 0, .ref a1, .int 54, .int 0, .int 3, .int 1, .int 1, .ref a2])), (a1, .inr (5, [.ref cb, .int 81, .int 0, .ref a3, .int 10, .ref a4, .int 3, .ref a5, .int 1, .int 1, .ref a6, .int 6, .int 0, .int 1, .int 0]))] s.heap := hP
  have hl := lv_entry ([.ref a0, .int 32]) (n := 3) (Nat.le_of_ble_eq_true rfl)
  rw [lg_entry_eq]
  generalize (lg_sl ([.ref a0, .int 32]) ++ List.replicate (3 - (lg_sl ([.ref a0, .int 32])).length) Slot.unset).toArray = ls at hl ⊢
  replace hl : lv_has ls 3 [(0, .ref a0), (1, .int 32)] := hl
  refine lv_aload_n hx hb dX6_readList_0 rfl (lv_at hl 0 rfl) ?_
  refine lv_iconst (v := 0) hx hb dX6_readList_1 (by decide) ?_
  refine lv_iload_n hx hb dX6_readList_2 rfl (lv_at hl 1 rfl) ?_
  have hPc := hP.sub (ws' := [(a0, .inr (6, [.int 0, .int 0, .ref a1, .int 54, .int 0, .int 3, .int 1, .int 1, .ref a2])), (a1, .inr (5, [.ref cb, .int 81, .int 0, .ref a3, .int 10, .ref a4, .int 3, .ref a5, .int 1, .int 1, .ref a6, .int 6, .int 0, .int 1, .int 0]))]) [0, 1] rfl
  have hDc := hD.sub (ws' := [(a0, .inr (6, [.int 0, .int 0, .ref a1, .int 54, .int 0, .int 3, .int 1, .int 1, .ref a2])), (a1, .inr (5, [.ref cb, .int 81, .int 0, .ref a3, .int 10, .ref a4, .int 3, .ref a5, .int 1, .int 1, .ref a6, .int 6, .int 0, .int 1, .int 0]))]) [0, 1] (by decide) rfl
  have hFc := va_free (wc := [(a0, .inr (6, [.int 0, .int 0, .ref a1, .int 54, .int 0, .int 3, .int 1, .int 1, .ref a2])), (a1, .inr (5, [.ref cb, .int 81, .int 0, .ref a3, .int 10, .ref a4, .int 3, .ref a5, .int 1, .int 1, .ref a6, .int 6, .int 0, .int 1, .int 0]))]) hD hS hA [0, 1] rfl
  refine va_calli (va_runV (As := [.int 0, .int 32]) (rest := []) ⟨hx, hb, hml, hown, hts⟩ (cc_179_X6_readNumber l dC dI cy s.heap.size cb a0 a1 a2 a3 a4 a5 a6) (cwV 2 hts gX6_readList_X6_readNumber rfl rfl rfl (by decide +kernel) ⟨Nat.le_of_ble_eq_true rfl, Nat.le_of_ble_eq_true rfl⟩) ⟨fun a U g mk q => by obtain ⟨q0, q1, qP, qK, qD, qN, qS⟩ := q; exact ⟨q0, q1, qP, va_K.moved (u := U) (U := U.calling g mk a) (Vm.Alike.refl U.vm) qK, qD, qN.same rfl, SK.moved (u := U) (U := U.calling g mk a) (Vm.Alike.refl U.vm) qS⟩, va_recv hK hPc (ci := 6) (q0 := 0) rfl rfl, fun U hU hW => ⟨rfl, by rw [hU], by rw [hU]; exact hPc, va_K.moved hW.alike hK, hDc.weaken (fun _ _ _ _ => trivial), hN.warm hW, by rw [hU]; exact ((hSK.kept hS.2.1).narrow hFc).moved hW.alike⟩⟩ rfl rfl hl.1 rfl (lv_room (Nat.le_of_ble_eq_true rfl)) dX6_readList_3 ⟨Nat.le_of_ble_eq_true rfl, Nat.le_of_ble_eq_true rfl⟩) hS (fun q _ h => hFc q h) hFc (fun r_1 u t H_2 locs ht hvm hw hB hz1 hk1 hS2 => ?_)
  obtain ⟨hP1, hK1, hD1⟩ := hB
  rw [ht] at hP1
  obtain rfl := hw
  obtain ⟨hP2, hD2⟩ := va_join (wr := []) (w1 := [(a0, .inr (6, [.int 0, .int 0, .ref a1, .int 55, .int 0, .int 3, .int 1, .int 1, .ref a2])), (a1, .inr (5, [.ref cb, .int 81, .int 0, .ref a3, .int 10, .ref a4, .int 3, .ref a5, .int 1, .int 1, .ref a6, .int 6, .int 0, .int 1, .int 0]))]) hP hD [0, 1] [] rfl rfl (by decide) (by decide) hk1 hFc hP1 hD1
  replace hP : va_P (dC, dI) vwCl [(a0, .inr (6, [.int 0, .int 0, .ref a1, .int 55, .int 0, .int 3, .int 1, .int 1, .ref a2])), (a1, .inr (5, [.ref cb, .int 81, .int 0, .ref a3, .int 10, .ref a4, .int 3, .ref a5, .int 1, .int 1, .ref a6, .int 6, .int 0, .int 1, .int 0]))] H_2 := hP2
  replace hD : va_D A [(a0, .inr (6, [.int 0, .int 0, .ref a1, .int 55, .int 0, .int 3, .int 1, .int 1, .ref a2])), (a1, .inr (5, [.ref cb, .int 81, .int 0, .ref a3, .int 10, .ref a4, .int 3, .ref a5, .int 1, .int 1, .ref a6, .int 6, .int 0, .int 1, .int 0]))] := hD2
  replace hS := hS2
  clear hP2 hD2 hS2
  clear hPc hDc hFc hP1 hD1 hK1 hk1 hz1 hvm ht
  refine W.widen (k := 0) (n := 0) (Nat.le_of_ble_eq_true rfl) (Nat.le_of_ble_eq_true rfl) ?_
  refine lv_istore_n (lv' := [(2, .int 0), (0, .ref a0), (1, .int 32)]) hx hb dX6_readList_6 rfl hl (by decide) rfl (fun ls hl2 => ?_)
  replace hl := hl2
  clear hl2
  refine lv_aload_n hx hb dX6_readList_7 rfl (lv_at hl 1 rfl) ?_
  refine lv_iload_n hx hb dX6_readList_8 rfl (lv_at hl 0 rfl) ?_
  refine lv_iconst (v := 1) hx hb dX6_readList_9 (by decide) ?_
  have hPc := hP.sub (ws' := [(a0, .inr (6, [.int 0, .int 0, .ref a1, .int 55, .int 0, .int 3, .int 1, .int 1, .ref a2]))]) [0] rfl
  have hDc := hD.sub (ws' := [(a0, .inr (6, [.int 0, .int 0, .ref a1, .int 55, .int 0, .int 3, .int 1, .int 1, .ref a2]))]) [0] (by decide) rfl
  have hFc := va_free (wc := [(a0, .inr (6, [.int 0, .int 0, .ref a1, .int 55, .int 0, .int 3, .int 1, .int 1, .ref a2]))]) hD hS hA [0] rfl
  refine va_callv (va_runV (As := [.int 0, .int 1]) (rest := []) ⟨hx, hb, hml, hown, hts⟩ (cc_181_X6_readTypes l dC dI cy H_2.size cb a0 a1 a2) (cwV 2 hts gX6_readList_X6_readTypes rfl rfl rfl (by decide +kernel) ⟨Nat.le_of_ble_eq_true rfl, Nat.le_of_ble_eq_true rfl⟩) ⟨fun a U g mk q => by obtain ⟨q0, q1, qP, qK, qD, qN, qS⟩ := q; exact ⟨q0, q1, qP, va_K.moved (u := U) (U := U.calling g mk a) (Vm.Alike.refl U.vm) qK, qD, qN.same rfl, SK.moved (u := U) (U := U.calling g mk a) (Vm.Alike.refl U.vm) qS⟩, va_recv hK hPc (ci := 6) (q0 := 0) rfl rfl, fun U hU hW => ⟨rfl, by rw [hU], by rw [hU]; exact hPc, va_K.moved hW.alike hK, hDc.weaken (fun _ _ _ _ => trivial), hN.warm hW, by rw [hU]; exact ((hSK.kept hS.2.1).narrow hFc).moved hW.alike⟩⟩ rfl rfl hl.1 rfl (lv_room (Nat.le_of_ble_eq_true rfl)) dX6_readList_10 ⟨Nat.le_of_ble_eq_true rfl, Nat.le_of_ble_eq_true rfl⟩) hS (fun q _ h => hFc q h) hFc (fun u t H_3 locs ht hvm hw hB hz1 hk1 hS2 => ?_)
  obtain ⟨hP1, hK1, hD1⟩ := hB
  rw [ht] at hP1
  obtain ⟨hP2, hD2⟩ := va_join (wr := [(a1, .inr (5, [.ref cb, .int 81, .int 0, .ref a3, .int 10, .ref a4, .int 3, .ref a5, .int 1, .int 1, .ref a6, .int 6, .int 0, .int 1, .int 0]))]) (w1 := [(a0, .inr (6, [.int 0, .int 0, .ref a1, .int 55, .int 0, .int 3, .int 1, .int 1, .ref a2]))]) hP hD [0] [1] rfl rfl (by decide) (by decide) hk1 hFc hP1 hD1
  replace hP : va_P (dC, dI) vwCl [(a1, .inr (5, [.ref cb, .int 81, .int 0, .ref a3, .int 10, .ref a4, .int 3, .ref a5, .int 1, .int 1, .ref a6, .int 6, .int 0, .int 1, .int 0])), (a0, .inr (6, [.int 0, .int 0, .ref a1, .int 55, .int 0, .int 3, .int 1, .int 1, .ref a2]))] H_3 := hP2
  replace hD : va_D A [(a1, .inr (5, [.ref cb, .int 81, .int 0, .ref a3, .int 10, .ref a4, .int 3, .ref a5, .int 1, .int 1, .ref a6, .int 6, .int 0, .int 1, .int 0])), (a0, .inr (6, [.int 0, .int 0, .ref a1, .int 55, .int 0, .int 3, .int 1, .int 1, .ref a2]))] := hD2
  replace hS := hS2
  clear hP2 hD2 hS2
  clear hPc hDc hFc hP1 hD1 hK1 hk1 hz1 hvm ht
  refine W.widen (k := 0) (n := 0) (Nat.le_of_ble_eq_true rfl) (Nat.le_of_ble_eq_true rfl) ?_
  refine lv_iload_n hx hb dX6_readList_13 rfl (lv_at hl 0 rfl) ?_
  have hP := hP.sub (ws' := [(a0, .inr (6, [.int 0, .int 0, .ref a1, .int 55, .int 0, .int 3, .int 1, .int 1, .ref a2])), (a1, .inr (5, [.ref cb, .int 81, .int 0, .ref a3, .int 10, .ref a4, .int 3, .ref a5, .int 1, .int 1, .ref a6, .int 6, .int 0, .int 1, .int 0]))]) [1, 0] rfl
  have hD := hD.sub (ws' := [(a0, .inr (6, [.int 0, .int 0, .ref a1, .int 55, .int 0, .int 3, .int 1, .int 1, .ref a2])), (a1, .inr (5, [.ref cb, .int 81, .int 0, .ref a3, .int 10, .ref a4, .int 3, .ref a5, .int 1, .int 1, .ref a6, .int 6, .int 0, .int 1, .int 0]))]) [1, 0] (by decide) rfl
  exact W.iret hx hb hr (fun t ht hW => ⟨⟨0, (), rfl, rfl, by rw [ht]; exact hP, va_K.moved hW.alike hK, hD⟩, hS.F ht⟩) hS.2.2 dX6_readList_14

set_option maxHeartbeats 4000000 in
set_option maxRecDepth 100000 in
theorem cc_182_X5_setFunction (l : Launch) (dC : Nat → ClassId) (dI : Nat → Nat → Nat) (cy : Nat → ClassId) (sz : Nat) (cb : Nat) (a0 : Nat) (a1 : Nat) (a2 : Nat) (a3 : Nat) (a4 : Nat) (f0 : Nat → Int32)  : Met l yX5_setFunction wsX5_setFunction ({ frames := 0, cells := 0, slots := 0, locals := 0 }) (va_Pc [.ref a0, .int 3, .int 4, .int 0] (fun U => U.heap.size = sz ∧ va_P (dC, dI) vwCl [(a0, .inr (5, [.ref cb, .int 81, .int 0, .ref a2, .int 10, .ref a3, .int 3, .ref a4, .int 1, .int 1, .ref a1, .int 6, .int 0, .int 1, .int 0])), (a1, .inl (cy 1, 864, .inl f0))] U.heap ∧ va_K (dC, dI) vwCl (TYS cy) U ∧ va_D (fun _ => True) [(a0, .inr (5, [.ref cb, .int 81, .int 0, .ref a2, .int 10, .ref a3, .int 3, .ref a4, .int 1, .int 1, .ref a1, .int 6, .int 0, .int 1, .int 0])), (a1, .inl (cy 1, 864, .inl f0))] ∧ NK U ∧ SK cb (va_A [(a0, .inr (5, [.ref cb, .int 81, .int 0, .ref a2, .int 10, .ref a3, .int 3, .ref a4, .int 1, .int 1, .ref a1, .int 6, .int 0, .int 1, .int 0])), (a1, .inl (cy 1, 864, .inl f0))] sz) U U.heap)) (va_Qv (fun u : (Nat → Int32) => True) (fun u t => match u with | (u0) => va_P (dC, dI) vwCl [(a0, .inr (5, [.ref cb, .int 81, .int 0, .ref a2, .int 10, .ref a3, .int 3, .ref a4, .int 1, .int 1, .ref a1, .int 6, .int 0, .int 1, .int 0])), (a1, .inl (cy 1, 864, .inl u0))] t.heap ∧ va_K (dC, dI) vwCl (TYS cy) t ∧ va_D (va_A [(a0, .inr (5, [.ref cb, .int 81, .int 0, .ref a2, .int 10, .ref a3, .int 3, .ref a4, .int 1, .int 1, .ref a1, .int 6, .int 0, .int 1, .int 0])), (a1, .inl (cy 1, 864, .inl f0))] sz) [(a0, .inr (5, [.ref cb, .int 81, .int 0, .ref a2, .int 10, .ref a3, .int 3, .ref a4, .int 1, .int 1, .ref a1, .int 6, .int 0, .int 1, .int 0])), (a1, .inl (cy 1, 864, .inl u0))]) (va_A [(a0, .inr (5, [.ref cb, .int 81, .int 0, .ref a2, .int 10, .ref a3, .int 3, .ref a4, .int 1, .int 1, .ref a1, .int 6, .int 0, .int 1, .int 0])), (a1, .inl (cy 1, 864, .inl f0))] sz)) 0 0 (va_A [(a0, .inr (5, [.ref cb, .int 81, .int 0, .ref a2, .int 10, .ref a3, .int 3, .ref a4, .int 1, .int 1, .ref a1, .int 6, .int 0, .int 1, .int 0])), (a1, .inl (cy 1, 864, .inl f0))] sz) := by
  refine Met.ofW (cc := cX5_setFunction) (maxL := 4) (ret := none) (by decide) rfl ?_
  intro p e s m args below meth c s₁ B hml hv
  obtain ⟨rfl, hsz, hP, hK, hD0, hN, hSK⟩ := hv
  have hx := B.exec
  have hb := B.bytes
  have hr := B.returns
  have hts := atoms_spec (ws := wsX5_setFunction) B.pre
  have hown : s.vm.findClass RX5 = some m.cls := findClass_of_methodNamed B.named
  have hlocks := B.notSynchronized
  subst hsz
  have hD := hD0.self (sz := s.heap.size)
  generalize hAe : va_A [(a0, .inr (5, [.ref cb, .int 81, .int 0, .ref a2, .int 10, .ref a3, .int 3, .ref a4, .int 1, .int 1, .ref a1, .int 6, .int 0, .int 1, .int 0])), (a1, .inl (cy 1, 864, .inl f0))] s.heap.size = A at hD hSK ⊢
  have hA : ∀ q : Nat, s.heap.size ≤ q → A q := fun q h => by rw [← hAe]; exact Or.inr h
  have hS : va_S A s.heap s.heap [] := va_S.rf
  have hP : va_P (dC, dI) vwCl [(a0, .inr (5, [.ref cb, .int 81, .int 0, .ref a2, .int 10, .ref a3, .int 3, .ref a4, .int 1, .int 1, .ref a1, .int 6, .int 0, .int 1, .int 0])), (a1, .inl (cy 1, 864, .inl f0))] s.heap := hP
  have hl := lv_entry ([.ref a0, .int 3, .int 4, .int 0]) (n := 4) (Nat.le_of_ble_eq_true rfl)
  rw [lg_entry_eq]
  generalize (lg_sl ([.ref a0, .int 3, .int 4, .int 0]) ++ List.replicate (4 - (lg_sl ([.ref a0, .int 3, .int 4, .int 0])).length) Slot.unset).toArray = ls at hl ⊢
  replace hl : lv_has ls 4 [(0, .ref a0), (1, .int 3), (2, .int 4), (3, .int 0)] := hl
  refine lv_iload_n hx hb dX5_setFunction_0 rfl (lv_at hl 1 rfl) ?_
  refine lv_if_lt (tgt := 22) hx hb dX5_setFunction_1 (by decide) (fun h => absurd h (by decide)) (fun _ => ?_)
  refine lv_iload_n hx hb dX5_setFunction_4 rfl (lv_at hl 1 rfl) ?_
  refine lv_bipush (v := 96) hx hb dX5_setFunction_5 (by decide) ?_
  refine lv_icmp_ge (tgt := 22) hx hb dX5_setFunction_7 (by decide) (fun h => absurd h (by decide)) (fun _ => ?_)
  refine lv_aload_n hx hb dX5_setFunction_10 rfl (lv_at hl 0 rfl) ?_
  refine va_get (D := (dC, dI)) (ci := 5) (v := .ref a1) (C := RX5) (T := TX5) (N := 15) hx hb hts iw_X5_setFunction_X5 hown hK hP 0 rfl rfl 10 (by decide) (hts _ m_X5_setFunction_1) (fun _ h9 => h9) rfl dX5_setFunction_11 ?_
  refine lv_iload_n hx hb dX5_setFunction_14 rfl (lv_at hl 1 rfl) ?_
  refine lv_bipush (v := 9) hx hb dX5_setFunction_15 (by decide) ?_
  refine lv_imul hx hb dX5_setFunction_17 ?_
  refine lv_topi (fun z_1 ez_1 => ?_)
  obtain rfl : z_1 = 27 := ez_1.trans (by decide)
  clear ez_1
  refine lv_iload_n hx hb dX5_setFunction_18 rfl (lv_at hl 2 rfl) ?_
  refine lv_iadd hx hb dX5_setFunction_19 ?_
  refine lv_topi (fun z_2 ez_2 => ?_)
  obtain rfl : z_2 = 31 := ez_2.trans (by decide)
  clear ez_2
  refine lv_iload_n hx hb dX5_setFunction_20 rfl (lv_at hl 3 rfl) ?_
  refine va_iast hx hb hK hP hD hS 1 1 rfl rfl (by unfold vp_in; decide) dX5_setFunction_21 (fun H_4 locs hP2 hD2 hS2 => ?_)
  replace hP : va_P (dC, dI) vwCl [(a0, .inr (5, [.ref cb, .int 81, .int 0, .ref a2, .int 10, .ref a3, .int 3, .ref a4, .int 1, .int 1, .ref a1, .int 6, .int 0, .int 1, .int 0])), (a1, .inl (cy 1, 864, .inl (upd f0 31 0)))] H_4 := hP2
  replace hD : va_D A [(a0, .inr (5, [.ref cb, .int 81, .int 0, .ref a2, .int 10, .ref a3, .int 3, .ref a4, .int 1, .int 1, .ref a1, .int 6, .int 0, .int 1, .int 0])), (a1, .inl (cy 1, 864, .inl (upd f0 31 0)))] := hD2
  replace hS := hS2
  clear hP2 hD2 hS2
  obtain ⟨g_3, eg_3⟩ : ∃ z, upd f0 31 0 = z := ⟨_, rfl⟩
  rw [eg_3] at hP hD
  exact W.vret hx hb hr (fun t ht hW => ⟨⟨(g_3), rfl, trivial, by rw [ht]; exact hP, va_K.moved hW.alike hK, hD⟩, hS.F ht⟩) hS.2.2 dX5_setFunction_22

set_option maxHeartbeats 4000000 in
set_option maxRecDepth 100000 in
theorem cc_184_X6_readByte (l : Launch) (dC : Nat → ClassId) (dI : Nat → Nat → Nat) (cy : Nat → ClassId) (sz : Nat) (cb : Nat) (a0 : Nat) (a1 : Nat) (a2 : Nat) (a3 : Nat) (a4 : Nat) (a5 : Nat) (a6 : Nat)  : Met l yX6_readByte wsX6_readByte ({ frames := 0, cells := 0, slots := 0, locals := 0 }) (va_Pc [.ref a0] (fun U => U.heap.size = sz ∧ va_P (dC, dI) vwCl [(a0, .inr (6, [.int 0, .int 0, .ref a1, .int 55, .int 0, .int 3, .int 2, .int 1, .ref a2])), (a1, .inr (5, [.ref cb, .int 81, .int 0, .ref a3, .int 10, .ref a4, .int 3, .ref a5, .int 1, .int 1, .ref a6, .int 6, .int 0, .int 1, .int 0]))] U.heap ∧ va_K (dC, dI) vwCl (TYS cy) U ∧ va_D (fun _ => True) [(a0, .inr (6, [.int 0, .int 0, .ref a1, .int 55, .int 0, .int 3, .int 2, .int 1, .ref a2])), (a1, .inr (5, [.ref cb, .int 81, .int 0, .ref a3, .int 10, .ref a4, .int 3, .ref a5, .int 1, .int 1, .ref a6, .int 6, .int 0, .int 1, .int 0]))] ∧ NK U ∧ SK cb (va_A [(a0, .inr (6, [.int 0, .int 0, .ref a1, .int 55, .int 0, .int 3, .int 2, .int 1, .ref a2])), (a1, .inr (5, [.ref cb, .int 81, .int 0, .ref a3, .int 10, .ref a4, .int 3, .ref a5, .int 1, .int 1, .ref a6, .int 6, .int 0, .int 1, .int 0]))] sz) U U.heap)) (va_Qi (fun (r : Int32) (u : Unit) => r = 0) (fun u t => va_P (dC, dI) vwCl [(a0, .inr (6, [.int 0, .int 0, .ref a1, .int 56, .int 0, .int 3, .int 2, .int 1, .ref a2])), (a1, .inr (5, [.ref cb, .int 81, .int 0, .ref a3, .int 10, .ref a4, .int 3, .ref a5, .int 1, .int 1, .ref a6, .int 6, .int 0, .int 1, .int 0]))] t.heap ∧ va_K (dC, dI) vwCl (TYS cy) t ∧ va_D (va_A [(a0, .inr (6, [.int 0, .int 0, .ref a1, .int 55, .int 0, .int 3, .int 2, .int 1, .ref a2])), (a1, .inr (5, [.ref cb, .int 81, .int 0, .ref a3, .int 10, .ref a4, .int 3, .ref a5, .int 1, .int 1, .ref a6, .int 6, .int 0, .int 1, .int 0]))] sz) [(a0, .inr (6, [.int 0, .int 0, .ref a1, .int 56, .int 0, .int 3, .int 2, .int 1, .ref a2])), (a1, .inr (5, [.ref cb, .int 81, .int 0, .ref a3, .int 10, .ref a4, .int 3, .ref a5, .int 1, .int 1, .ref a6, .int 6, .int 0, .int 1, .int 0]))]) (va_A [(a0, .inr (6, [.int 0, .int 0, .ref a1, .int 55, .int 0, .int 3, .int 2, .int 1, .ref a2])), (a1, .inr (5, [.ref cb, .int 81, .int 0, .ref a3, .int 10, .ref a4, .int 3, .ref a5, .int 1, .int 1, .ref a6, .int 6, .int 0, .int 1, .int 0]))] sz)) 0 0 (va_A [(a0, .inr (6, [.int 0, .int 0, .ref a1, .int 55, .int 0, .int 3, .int 2, .int 1, .ref a2])), (a1, .inr (5, [.ref cb, .int 81, .int 0, .ref a3, .int 10, .ref a4, .int 3, .ref a5, .int 1, .int 1, .ref a6, .int 6, .int 0, .int 1, .int 0]))] sz) := by
  refine Met.ofW (cc := cX6_readByte) (maxL := 1) (ret := (some .int)) (by decide) rfl ?_
  intro p e s m args below meth c s₁ B hml hv
  obtain ⟨rfl, hsz, hP, hK, hD0, hN, hSK⟩ := hv
  have hx := B.exec
  have hb := B.bytes
  have hr := B.returns
  have hts := atoms_spec (ws := wsX6_readByte) B.pre
  have hown : s.vm.findClass RX6 = some m.cls := findClass_of_methodNamed B.named
  have hlocks := B.notSynchronized
  subst hsz
  have hD := hD0.self (sz := s.heap.size)
  generalize hAe : va_A [(a0, .inr (6, [.int 0, .int 0, .ref a1, .int 55, .int 0, .int 3, .int 2, .int 1, .ref a2])), (a1, .inr (5, [.ref cb, .int 81, .int 0, .ref a3, .int 10, .ref a4, .int 3, .ref a5, .int 1, .int 1, .ref a6, .int 6, .int 0, .int 1, .int 0]))] s.heap.size = A at hD hSK ⊢
  have hA : ∀ q : Nat, s.heap.size ≤ q → A q := fun q h => by rw [← hAe]; exact Or.inr h
  have hS : va_S A s.heap s.heap [] := va_S.rf
  have hP : va_P (dC, dI) vwCl [(a0, .inr (6, [.int 0, .int 0, .ref a1, .int 55, .int 0, .int 3, .int 2, .int 1, .ref a2])), (a1, .inr (5, [.ref cb, .int 81, .int 0, .ref a3, .int 10, .ref a4, .int 3, .ref a5, .int 1, .int 1, .ref a6, .int 6, .int 0, .int 1, .int 0]))] s.heap := hP
  have hl := lv_entry ([.ref a0]) (n := 1) (Nat.le_of_ble_eq_true rfl)
  rw [lg_entry_eq]
  generalize (lg_sl ([.ref a0]) ++ List.replicate (1 - (lg_sl ([.ref a0])).length) Slot.unset).toArray = ls at hl ⊢
  replace hl : lv_has ls 1 [(0, .ref a0)] := hl
  refine lv_aload_n hx hb dX6_readByte_0 rfl (lv_at hl 0 rfl) ?_
  refine va_get (D := (dC, dI)) (ci := 6) (v := .int 0) (C := RX6) (T := TX6) (N := 9) hx hb hts iw_X6_readByte_X6 hown hK hP 0 rfl rfl 1 (by decide) (hts _ m_X6_readByte_1) (fun _ h9 => h9) rfl dX6_readByte_1 ?_
  refine lv_if_eq (tgt := 9) hx hb dX6_readByte_4 (by decide) (fun _ => ?_) (fun h => absurd (by decide) h)
  refine lv_aload_n hx hb dX6_readByte_9 rfl (lv_at hl 0 rfl) ?_
  refine va_get (D := (dC, dI)) (ci := 6) (v := .int 55) (C := RX6) (T := TX6) (N := 9) hx hb hts iw_X6_readByte_X6 hown hK hP 0 rfl rfl 3 (by decide) (hts _ m_X6_readByte_2) (fun _ h9 => h9) rfl dX6_readByte_10 ?_
  refine lv_aload_n hx hb dX6_readByte_13 rfl (lv_at hl 0 rfl) ?_
  refine va_get (D := (dC, dI)) (ci := 6) (v := .ref a1) (C := RX6) (T := TX6) (N := 9) hx hb hts iw_X6_readByte_X6 hown hK hP 0 rfl rfl 2 (by decide) (hts _ m_X6_readByte_3) (fun _ h9 => h9) rfl dX6_readByte_14 ?_
  refine va_get (D := (dC, dI)) (ci := 5) (v := .int 81) (C := RX5) (T := TX5) (N := 15) hx hb hts iw_X6_readByte_X5 hown hK hP 1 rfl rfl 1 (by decide) (hts _ m_X6_readByte_4) (fun _ h9 => h9) rfl dX6_readByte_17 ?_
  refine lv_icmp_lt (tgt := 41) hx hb dX6_readByte_20 (by decide) (fun _ => ?_) (fun h => absurd (by decide) h)
  refine lv_aload_n hx hb dX6_readByte_41 rfl (lv_at hl 0 rfl) ?_
  refine va_get (D := (dC, dI)) (ci := 6) (v := .ref a1) (C := RX6) (T := TX6) (N := 9) hx hb hts iw_X6_readByte_X6 hown hK hP 0 rfl rfl 2 (by decide) (hts _ m_X6_readByte_3) (fun _ h9 => h9) rfl dX6_readByte_42 ?_
  refine va_get (D := (dC, dI)) (ci := 5) (v := .ref cb) (C := RX5) (T := TX5) (N := 15) hx hb hts iw_X6_readByte_X5 hown hK hP 1 rfl rfl 0 (by decide) (hts _ m_X6_readByte_6) (fun _ h9 => h9) rfl dX6_readByte_45 ?_
  refine lv_aload_n hx hb dX6_readByte_48 rfl (lv_at hl 0 rfl) ?_
  refine lv_dup hx hb dX6_readByte_49 rfl ?_
  refine va_get (D := (dC, dI)) (ci := 6) (v := .int 55) (C := RX6) (T := TX6) (N := 9) hx hb hts iw_X6_readByte_X6 hown hK hP 0 rfl rfl 3 (by decide) (hts _ m_X6_readByte_2) (fun _ h9 => h9) rfl dX6_readByte_50 ?_
  refine lv_dup_x1 hx hb dX6_readByte_53 rfl rfl ?_
  refine lv_iconst (v := 1) hx hb dX6_readByte_54 (by decide) ?_
  refine lv_iadd hx hb dX6_readByte_55 ?_
  refine lv_topi (fun z_1 ez_1 => ?_)
  obtain rfl : z_1 = 56 := ez_1.trans (by decide)
  clear ez_1
  refine va_put (D := (dC, dI)) (ci := 6) (v := .int 56) (ty := .int) (C := RX6) (T := TX6) (N := 9) hx hb hts iw_X6_readByte_X6 tyX6 tyX6_ok nmX6 hown hK hP hD hS 0 rfl rfl 3 (by decide) (hts _ m_X6_readByte_2) (fun _ h9 => h9) rfl (by decide +kernel) rfl rfl (Nat.le_of_ble_eq_true rfl) dX6_readByte_56 (fun H_2 locs hP2 hD2 hS2 => ?_)
  replace hP : va_P (dC, dI) vwCl [(a0, .inr (6, [.int 0, .int 0, .ref a1, .int 56, .int 0, .int 3, .int 2, .int 1, .ref a2])), (a1, .inr (5, [.ref cb, .int 81, .int 0, .ref a3, .int 10, .ref a4, .int 3, .ref a5, .int 1, .int 1, .ref a6, .int 6, .int 0, .int 1, .int 0]))] H_2 := hP2
  replace hD : va_D A [(a0, .inr (6, [.int 0, .int 0, .ref a1, .int 56, .int 0, .int 3, .int 2, .int 1, .ref a2])), (a1, .inr (5, [.ref cb, .int 81, .int 0, .ref a3, .int 10, .ref a4, .int 3, .ref a5, .int 1, .int 1, .ref a6, .int 6, .int 0, .int 1, .int 0]))] := hD2
  replace hS := hS2
  clear hP2 hD2 hS2
  refine va_tb (v := .int 0) hx hb hSK.2 hS (by unfold vp_in; decide) rfl dX6_readByte_59 ?_
  refine lv_sipush (v := 255) hx hb dX6_readByte_60 (by decide) ?_
  refine lv_iand hx hb dX6_readByte_63 ?_
  refine lv_topi (fun z_3 ez_3 => ?_)
  obtain rfl : z_3 = 0 := ez_3.trans (by decide)
  clear ez_3
  exact W.iret hx hb hr (fun t ht hW => ⟨⟨0, (), rfl, rfl, by rw [ht]; exact hP, va_K.moved hW.alike hK, hD⟩, hS.F ht⟩) hS.2.2 dX6_readByte_64

set_option maxHeartbeats 4000000 in
set_option maxRecDepth 100000 in
theorem cc_185_X6_readByte (l : Launch) (dC : Nat → ClassId) (dI : Nat → Nat → Nat) (cy : Nat → ClassId) (sz : Nat) (cb : Nat) (a0 : Nat) (a1 : Nat) (a2 : Nat) (a3 : Nat) (a4 : Nat) (a5 : Nat) (a6 : Nat)  : Met l yX6_readByte wsX6_readByte ({ frames := 0, cells := 0, slots := 0, locals := 0 }) (va_Pc [.ref a0] (fun U => U.heap.size = sz ∧ va_P (dC, dI) vwCl [(a0, .inr (6, [.int 0, .int 0, .ref a1, .int 56, .int 0, .int 3, .int 2, .int 1, .ref a2])), (a1, .inr (5, [.ref cb, .int 81, .int 0, .ref a3, .int 10, .ref a4, .int 3, .ref a5, .int 1, .int 1, .ref a6, .int 6, .int 0, .int 1, .int 0]))] U.heap ∧ va_K (dC, dI) vwCl (TYS cy) U ∧ va_D (fun _ => True) [(a0, .inr (6, [.int 0, .int 0, .ref a1, .int 56, .int 0, .int 3, .int 2, .int 1, .ref a2])), (a1, .inr (5, [.ref cb, .int 81, .int 0, .ref a3, .int 10, .ref a4, .int 3, .ref a5, .int 1, .int 1, .ref a6, .int 6, .int 0, .int 1, .int 0]))] ∧ NK U ∧ SK cb (va_A [(a0, .inr (6, [.int 0, .int 0, .ref a1, .int 56, .int 0, .int 3, .int 2, .int 1, .ref a2])), (a1, .inr (5, [.ref cb, .int 81, .int 0, .ref a3, .int 10, .ref a4, .int 3, .ref a5, .int 1, .int 1, .ref a6, .int 6, .int 0, .int 1, .int 0]))] sz) U U.heap)) (va_Qi (fun (r : Int32) (u : Unit) => r = 1) (fun u t => va_P (dC, dI) vwCl [(a0, .inr (6, [.int 0, .int 0, .ref a1, .int 57, .int 0, .int 3, .int 2, .int 1, .ref a2])), (a1, .inr (5, [.ref cb, .int 81, .int 0, .ref a3, .int 10, .ref a4, .int 3, .ref a5, .int 1, .int 1, .ref a6, .int 6, .int 0, .int 1, .int 0]))] t.heap ∧ va_K (dC, dI) vwCl (TYS cy) t ∧ va_D (va_A [(a0, .inr (6, [.int 0, .int 0, .ref a1, .int 56, .int 0, .int 3, .int 2, .int 1, .ref a2])), (a1, .inr (5, [.ref cb, .int 81, .int 0, .ref a3, .int 10, .ref a4, .int 3, .ref a5, .int 1, .int 1, .ref a6, .int 6, .int 0, .int 1, .int 0]))] sz) [(a0, .inr (6, [.int 0, .int 0, .ref a1, .int 57, .int 0, .int 3, .int 2, .int 1, .ref a2])), (a1, .inr (5, [.ref cb, .int 81, .int 0, .ref a3, .int 10, .ref a4, .int 3, .ref a5, .int 1, .int 1, .ref a6, .int 6, .int 0, .int 1, .int 0]))]) (va_A [(a0, .inr (6, [.int 0, .int 0, .ref a1, .int 56, .int 0, .int 3, .int 2, .int 1, .ref a2])), (a1, .inr (5, [.ref cb, .int 81, .int 0, .ref a3, .int 10, .ref a4, .int 3, .ref a5, .int 1, .int 1, .ref a6, .int 6, .int 0, .int 1, .int 0]))] sz)) 0 0 (va_A [(a0, .inr (6, [.int 0, .int 0, .ref a1, .int 56, .int 0, .int 3, .int 2, .int 1, .ref a2])), (a1, .inr (5, [.ref cb, .int 81, .int 0, .ref a3, .int 10, .ref a4, .int 3, .ref a5, .int 1, .int 1, .ref a6, .int 6, .int 0, .int 1, .int 0]))] sz) := by
  refine Met.ofW (cc := cX6_readByte) (maxL := 1) (ret := (some .int)) (by decide) rfl ?_
  intro p e s m args below meth c s₁ B hml hv
  obtain ⟨rfl, hsz, hP, hK, hD0, hN, hSK⟩ := hv
  have hx := B.exec
  have hb := B.bytes
  have hr := B.returns
  have hts := atoms_spec (ws := wsX6_readByte) B.pre
  have hown : s.vm.findClass RX6 = some m.cls := findClass_of_methodNamed B.named
  have hlocks := B.notSynchronized
  subst hsz
  have hD := hD0.self (sz := s.heap.size)
  generalize hAe : va_A [(a0, .inr (6, [.int 0, .int 0, .ref a1, .int 56, .int 0, .int 3, .int 2, .int 1, .ref a2])), (a1, .inr (5, [.ref cb, .int 81, .int 0, .ref a3, .int 10, .ref a4, .int 3, .ref a5, .int 1, .int 1, .ref a6, .int 6, .int 0, .int 1, .int 0]))] s.heap.size = A at hD hSK ⊢
  have hA : ∀ q : Nat, s.heap.size ≤ q → A q := fun q h => by rw [← hAe]; exact Or.inr h
  have hS : va_S A s.heap s.heap [] := va_S.rf
  have hP : va_P (dC, dI) vwCl [(a0, .inr (6, [.int 0, .int 0, .ref a1, .int 56, .int 0, .int 3, .int 2, .int 1, .ref a2])), (a1, .inr (5, [.ref cb, .int 81, .int 0, .ref a3, .int 10, .ref a4, .int 3, .ref a5, .int 1, .int 1, .ref a6, .int 6, .int 0, .int 1, .int 0]))] s.heap := hP
  have hl := lv_entry ([.ref a0]) (n := 1) (Nat.le_of_ble_eq_true rfl)
  rw [lg_entry_eq]
  generalize (lg_sl ([.ref a0]) ++ List.replicate (1 - (lg_sl ([.ref a0])).length) Slot.unset).toArray = ls at hl ⊢
  replace hl : lv_has ls 1 [(0, .ref a0)] := hl
  refine lv_aload_n hx hb dX6_readByte_0 rfl (lv_at hl 0 rfl) ?_
  refine va_get (D := (dC, dI)) (ci := 6) (v := .int 0) (C := RX6) (T := TX6) (N := 9) hx hb hts iw_X6_readByte_X6 hown hK hP 0 rfl rfl 1 (by decide) (hts _ m_X6_readByte_1) (fun _ h9 => h9) rfl dX6_readByte_1 ?_
  refine lv_if_eq (tgt := 9) hx hb dX6_readByte_4 (by decide) (fun _ => ?_) (fun h => absurd (by decide) h)
  refine lv_aload_n hx hb dX6_readByte_9 rfl (lv_at hl 0 rfl) ?_
  refine va_get (D := (dC, dI)) (ci := 6) (v := .int 56) (C := RX6) (T := TX6) (N := 9) hx hb hts iw_X6_readByte_X6 hown hK hP 0 rfl rfl 3 (by decide) (hts _ m_X6_readByte_2) (fun _ h9 => h9) rfl dX6_readByte_10 ?_
  refine lv_aload_n hx hb dX6_readByte_13 rfl (lv_at hl 0 rfl) ?_
  refine va_get (D := (dC, dI)) (ci := 6) (v := .ref a1) (C := RX6) (T := TX6) (N := 9) hx hb hts iw_X6_readByte_X6 hown hK hP 0 rfl rfl 2 (by decide) (hts _ m_X6_readByte_3) (fun _ h9 => h9) rfl dX6_readByte_14 ?_
  refine va_get (D := (dC, dI)) (ci := 5) (v := .int 81) (C := RX5) (T := TX5) (N := 15) hx hb hts iw_X6_readByte_X5 hown hK hP 1 rfl rfl 1 (by decide) (hts _ m_X6_readByte_4) (fun _ h9 => h9) rfl dX6_readByte_17 ?_
  refine lv_icmp_lt (tgt := 41) hx hb dX6_readByte_20 (by decide) (fun _ => ?_) (fun h => absurd (by decide) h)
  refine lv_aload_n hx hb dX6_readByte_41 rfl (lv_at hl 0 rfl) ?_
  refine va_get (D := (dC, dI)) (ci := 6) (v := .ref a1) (C := RX6) (T := TX6) (N := 9) hx hb hts iw_X6_readByte_X6 hown hK hP 0 rfl rfl 2 (by decide) (hts _ m_X6_readByte_3) (fun _ h9 => h9) rfl dX6_readByte_42 ?_
  refine va_get (D := (dC, dI)) (ci := 5) (v := .ref cb) (C := RX5) (T := TX5) (N := 15) hx hb hts iw_X6_readByte_X5 hown hK hP 1 rfl rfl 0 (by decide) (hts _ m_X6_readByte_6) (fun _ h9 => h9) rfl dX6_readByte_45 ?_
  refine lv_aload_n hx hb dX6_readByte_48 rfl (lv_at hl 0 rfl) ?_
  refine lv_dup hx hb dX6_readByte_49 rfl ?_
  refine va_get (D := (dC, dI)) (ci := 6) (v := .int 56) (C := RX6) (T := TX6) (N := 9) hx hb hts iw_X6_readByte_X6 hown hK hP 0 rfl rfl 3 (by decide) (hts _ m_X6_readByte_2) (fun _ h9 => h9) rfl dX6_readByte_50 ?_
  refine lv_dup_x1 hx hb dX6_readByte_53 rfl rfl ?_
  refine lv_iconst (v := 1) hx hb dX6_readByte_54 (by decide) ?_
  refine lv_iadd hx hb dX6_readByte_55 ?_
  refine lv_topi (fun z_1 ez_1 => ?_)
  obtain rfl : z_1 = 57 := ez_1.trans (by decide)
  clear ez_1
  refine va_put (D := (dC, dI)) (ci := 6) (v := .int 57) (ty := .int) (C := RX6) (T := TX6) (N := 9) hx hb hts iw_X6_readByte_X6 tyX6 tyX6_ok nmX6 hown hK hP hD hS 0 rfl rfl 3 (by decide) (hts _ m_X6_readByte_2) (fun _ h9 => h9) rfl (by decide +kernel) rfl rfl (Nat.le_of_ble_eq_true rfl) dX6_readByte_56 (fun H_2 locs hP2 hD2 hS2 => ?_)
  replace hP : va_P (dC, dI) vwCl [(a0, .inr (6, [.int 0, .int 0, .ref a1, .int 57, .int 0, .int 3, .int 2, .int 1, .ref a2])), (a1, .inr (5, [.ref cb, .int 81, .int 0, .ref a3, .int 10, .ref a4, .int 3, .ref a5, .int 1, .int 1, .ref a6, .int 6, .int 0, .int 1, .int 0]))] H_2 := hP2
  replace hD : va_D A [(a0, .inr (6, [.int 0, .int 0, .ref a1, .int 57, .int 0, .int 3, .int 2, .int 1, .ref a2])), (a1, .inr (5, [.ref cb, .int 81, .int 0, .ref a3, .int 10, .ref a4, .int 3, .ref a5, .int 1, .int 1, .ref a6, .int 6, .int 0, .int 1, .int 0]))] := hD2
  replace hS := hS2
  clear hP2 hD2 hS2
  refine va_tb (v := .int 1) hx hb hSK.2 hS (by unfold vp_in; decide) rfl dX6_readByte_59 ?_
  refine lv_sipush (v := 255) hx hb dX6_readByte_60 (by decide) ?_
  refine lv_iand hx hb dX6_readByte_63 ?_
  refine lv_topi (fun z_3 ez_3 => ?_)
  obtain rfl : z_3 = 1 := ez_3.trans (by decide)
  clear ez_3
  exact W.iret hx hb hr (fun t ht hW => ⟨⟨1, (), rfl, rfl, by rw [ht]; exact hP, va_K.moved hW.alike hK, hD⟩, hS.F ht⟩) hS.2.2 dX6_readByte_64

set_option maxHeartbeats 4000000 in
set_option maxRecDepth 100000 in
theorem cc_183_X6_readShort (l : Launch) (dC : Nat → ClassId) (dI : Nat → Nat → Nat) (cy : Nat → ClassId) (sz : Nat) (cb : Nat) (a0 : Nat) (a1 : Nat) (a2 : Nat) (a3 : Nat) (a4 : Nat) (a5 : Nat) (a6 : Nat)  : Met l yX6_readShort wsX6_readShort ({ frames := 1, cells := 0, slots := 0, locals := 20 }) (va_Pc [.ref a0] (fun U => U.heap.size = sz ∧ va_P (dC, dI) vwCl [(a0, .inr (6, [.int 0, .int 0, .ref a1, .int 55, .int 0, .int 3, .int 2, .int 1, .ref a2])), (a1, .inr (5, [.ref cb, .int 81, .int 0, .ref a3, .int 10, .ref a4, .int 3, .ref a5, .int 1, .int 1, .ref a6, .int 6, .int 0, .int 1, .int 0]))] U.heap ∧ va_K (dC, dI) vwCl (TYS cy) U ∧ va_D (fun _ => True) [(a0, .inr (6, [.int 0, .int 0, .ref a1, .int 55, .int 0, .int 3, .int 2, .int 1, .ref a2])), (a1, .inr (5, [.ref cb, .int 81, .int 0, .ref a3, .int 10, .ref a4, .int 3, .ref a5, .int 1, .int 1, .ref a6, .int 6, .int 0, .int 1, .int 0]))] ∧ NK U ∧ SK cb (va_A [(a0, .inr (6, [.int 0, .int 0, .ref a1, .int 55, .int 0, .int 3, .int 2, .int 1, .ref a2])), (a1, .inr (5, [.ref cb, .int 81, .int 0, .ref a3, .int 10, .ref a4, .int 3, .ref a5, .int 1, .int 1, .ref a6, .int 6, .int 0, .int 1, .int 0]))] sz) U U.heap)) (va_Qi (fun (r : Int32) (u : Unit) => r = 1) (fun u t => va_P (dC, dI) vwCl [(a0, .inr (6, [.int 0, .int 0, .ref a1, .int 57, .int 0, .int 3, .int 2, .int 1, .ref a2])), (a1, .inr (5, [.ref cb, .int 81, .int 0, .ref a3, .int 10, .ref a4, .int 3, .ref a5, .int 1, .int 1, .ref a6, .int 6, .int 0, .int 1, .int 0]))] t.heap ∧ va_K (dC, dI) vwCl (TYS cy) t ∧ va_D (va_A [(a0, .inr (6, [.int 0, .int 0, .ref a1, .int 55, .int 0, .int 3, .int 2, .int 1, .ref a2])), (a1, .inr (5, [.ref cb, .int 81, .int 0, .ref a3, .int 10, .ref a4, .int 3, .ref a5, .int 1, .int 1, .ref a6, .int 6, .int 0, .int 1, .int 0]))] sz) [(a0, .inr (6, [.int 0, .int 0, .ref a1, .int 57, .int 0, .int 3, .int 2, .int 1, .ref a2])), (a1, .inr (5, [.ref cb, .int 81, .int 0, .ref a3, .int 10, .ref a4, .int 3, .ref a5, .int 1, .int 1, .ref a6, .int 6, .int 0, .int 1, .int 0]))]) (va_A [(a0, .inr (6, [.int 0, .int 0, .ref a1, .int 55, .int 0, .int 3, .int 2, .int 1, .ref a2])), (a1, .inr (5, [.ref cb, .int 81, .int 0, .ref a3, .int 10, .ref a4, .int 3, .ref a5, .int 1, .int 1, .ref a6, .int 6, .int 0, .int 1, .int 0]))] sz)) 0 0 (va_A [(a0, .inr (6, [.int 0, .int 0, .ref a1, .int 55, .int 0, .int 3, .int 2, .int 1, .ref a2])), (a1, .inr (5, [.ref cb, .int 81, .int 0, .ref a3, .int 10, .ref a4, .int 3, .ref a5, .int 1, .int 1, .ref a6, .int 6, .int 0, .int 1, .int 0]))] sz) := by
  refine Met.ofW (cc := cX6_readShort) (maxL := 2) (ret := (some .int)) (by decide) rfl ?_
  intro p e s m args below meth c s₁ B hml hv
  obtain ⟨rfl, hsz, hP, hK, hD0, hN, hSK⟩ := hv
  have hx := B.exec
  have hb := B.bytes
  have hr := B.returns
  have hts := atoms_spec (ws := wsX6_readShort) B.pre
  have hown : s.vm.findClass RX6 = some m.cls := findClass_of_methodNamed B.named
  have hlocks := B.notSynchronized
  subst hsz
  have hD := hD0.self (sz := s.heap.size)
  generalize hAe : va_A [(a0, .inr (6, [.int 0, .int 0, .ref a1, .int 55, .int 0, .int 3, .int 2, .int 1, .ref a2])), (a1, .inr (5, [.ref cb, .int 81, .int 0, .ref a3, .int 10, .ref a4, .int 3, .ref a5, .int 1, .int 1, .ref a6, .int 6, .int 0, .int 1, .int 0]))] s.heap.size = A at hD hSK ⊢
  have hA : ∀ q : Nat, s.heap.size ≤ q → A q := fun q h => by rw [← hAe]; exact Or.inr h
  have hS : va_S A s.heap s.heap [] := va_S.rf
  have hP : va_P (dC, dI) vwCl [(a0, .inr (6, [.int 0, .int 0, .ref a1, .int 55, .int 0, .int 3, .int 2, .int 1, .ref a2])), (a1, .inr (5, [.ref cb, .int 81, .int 0, .ref a3, .int 10, .ref a4, .int 3, .ref a5, .int 1, .int 1, .ref a6, .int 6, .int 0, .int 1, .int 0]))] s.heap := hP
  have hl := lv_entry ([.ref a0]) (n := 2) (Nat.le_of_ble_eq_true rfl)
  rw [lg_entry_eq]
  generalize (lg_sl ([.ref a0]) ++ List.replicate (2 - (lg_sl ([.ref a0])).length) Slot.unset).toArray = ls at hl ⊢
  replace hl : lv_has ls 2 [(0, .ref a0)] := hl
  refine lv_aload_n hx hb dX6_readShort_0 rfl (lv_at hl 0 rfl) ?_
  have hPc := hP.sub (ws' := [(a0, .inr (6, [.int 0, .int 0, .ref a1, .int 55, .int 0, .int 3, .int 2, .int 1, .ref a2])), (a1, .inr (5, [.ref cb, .int 81, .int 0, .ref a3, .int 10, .ref a4, .int 3, .ref a5, .int 1, .int 1, .ref a6, .int 6, .int 0, .int 1, .int 0]))]) [0, 1] rfl
  have hDc := hD.sub (ws' := [(a0, .inr (6, [.int 0, .int 0, .ref a1, .int 55, .int 0, .int 3, .int 2, .int 1, .ref a2])), (a1, .inr (5, [.ref cb, .int 81, .int 0, .ref a3, .int 10, .ref a4, .int 3, .ref a5, .int 1, .int 1, .ref a6, .int 6, .int 0, .int 1, .int 0]))]) [0, 1] (by decide) rfl
  have hFc := va_free (wc := [(a0, .inr (6, [.int 0, .int 0, .ref a1, .int 55, .int 0, .int 3, .int 2, .int 1, .ref a2])), (a1, .inr (5, [.ref cb, .int 81, .int 0, .ref a3, .int 10, .ref a4, .int 3, .ref a5, .int 1, .int 1, .ref a6, .int 6, .int 0, .int 1, .int 0]))]) hD hS hA [0, 1] rfl
  refine va_calli (va_runV (As := []) (rest := []) ⟨hx, hb, hml, hown, hts⟩ (cc_184_X6_readByte l dC dI cy s.heap.size cb a0 a1 a2 a3 a4 a5 a6) (cwV 0 hts gX6_readShort_X6_readByte rfl rfl rfl (by decide +kernel) ⟨Nat.le_of_ble_eq_true rfl, Nat.le_of_ble_eq_true rfl⟩) ⟨fun a U g mk q => by obtain ⟨q0, q1, qP, qK, qD, qN, qS⟩ := q; exact ⟨q0, q1, qP, va_K.moved (u := U) (U := U.calling g mk a) (Vm.Alike.refl U.vm) qK, qD, qN.same rfl, SK.moved (u := U) (U := U.calling g mk a) (Vm.Alike.refl U.vm) qS⟩, va_recv hK hPc (ci := 6) (q0 := 0) rfl rfl, fun U hU hW => ⟨rfl, by rw [hU], by rw [hU]; exact hPc, va_K.moved hW.alike hK, hDc.weaken (fun _ _ _ _ => trivial), hN.warm hW, by rw [hU]; exact ((hSK.kept hS.2.1).narrow hFc).moved hW.alike⟩⟩ rfl rfl hl.1 rfl (lv_room (Nat.le_of_ble_eq_true rfl)) dX6_readShort_1 ⟨Nat.le_of_ble_eq_true rfl, Nat.le_of_ble_eq_true rfl⟩) hS (fun q _ h => hFc q h) hFc (fun r_1 u t H_2 locs ht hvm hw hB hz1 hk1 hS2 => ?_)
  obtain ⟨hP1, hK1, hD1⟩ := hB
  rw [ht] at hP1
  obtain rfl := hw
  obtain ⟨hP2, hD2⟩ := va_join (wr := []) (w1 := [(a0, .inr (6, [.int 0, .int 0, .ref a1, .int 56, .int 0, .int 3, .int 2, .int 1, .ref a2])), (a1, .inr (5, [.ref cb, .int 81, .int 0, .ref a3, .int 10, .ref a4, .int 3, .ref a5, .int 1, .int 1, .ref a6, .int 6, .int 0, .int 1, .int 0]))]) hP hD [0, 1] [] rfl rfl (by decide) (by decide) hk1 hFc hP1 hD1
  replace hP : va_P (dC, dI) vwCl [(a0, .inr (6, [.int 0, .int 0, .ref a1, .int 56, .int 0, .int 3, .int 2, .int 1, .ref a2])), (a1, .inr (5, [.ref cb, .int 81, .int 0, .ref a3, .int 10, .ref a4, .int 3, .ref a5, .int 1, .int 1, .ref a6, .int 6, .int 0, .int 1, .int 0]))] H_2 := hP2
  replace hD : va_D A [(a0, .inr (6, [.int 0, .int 0, .ref a1, .int 56, .int 0, .int 3, .int 2, .int 1, .ref a2])), (a1, .inr (5, [.ref cb, .int 81, .int 0, .ref a3, .int 10, .ref a4, .int 3, .ref a5, .int 1, .int 1, .ref a6, .int 6, .int 0, .int 1, .int 0]))] := hD2
  replace hS := hS2
  clear hP2 hD2 hS2
  clear hPc hDc hFc hP1 hD1 hK1 hk1 hz1 hvm ht
  refine W.widen (k := 0) (n := 0) (Nat.le_of_ble_eq_true rfl) (Nat.le_of_ble_eq_true rfl) ?_
  refine lv_istore_n (lv' := [(1, .int 0), (0, .ref a0)]) hx hb dX6_readShort_4 rfl hl (by decide) rfl (fun ls hl2 => ?_)
  replace hl := hl2
  clear hl2
  refine lv_iload_n hx hb dX6_readShort_5 rfl (lv_at hl 0 rfl) ?_
  refine lv_bipush (v := 8) hx hb dX6_readShort_6 (by decide) ?_
  refine lv_ishl hx hb dX6_readShort_8 ?_
  refine lv_topi (fun z_3 ez_3 => ?_)
  obtain rfl : z_3 = 0 := ez_3.trans (by decide)
  clear ez_3
  refine lv_aload_n hx hb dX6_readShort_9 rfl (lv_at hl 1 rfl) ?_
  have hPc := hP.sub (ws' := [(a0, .inr (6, [.int 0, .int 0, .ref a1, .int 56, .int 0, .int 3, .int 2, .int 1, .ref a2])), (a1, .inr (5, [.ref cb, .int 81, .int 0, .ref a3, .int 10, .ref a4, .int 3, .ref a5, .int 1, .int 1, .ref a6, .int 6, .int 0, .int 1, .int 0]))]) [0, 1] rfl
  have hDc := hD.sub (ws' := [(a0, .inr (6, [.int 0, .int 0, .ref a1, .int 56, .int 0, .int 3, .int 2, .int 1, .ref a2])), (a1, .inr (5, [.ref cb, .int 81, .int 0, .ref a3, .int 10, .ref a4, .int 3, .ref a5, .int 1, .int 1, .ref a6, .int 6, .int 0, .int 1, .int 0]))]) [0, 1] (by decide) rfl
  have hFc := va_free (wc := [(a0, .inr (6, [.int 0, .int 0, .ref a1, .int 56, .int 0, .int 3, .int 2, .int 1, .ref a2])), (a1, .inr (5, [.ref cb, .int 81, .int 0, .ref a3, .int 10, .ref a4, .int 3, .ref a5, .int 1, .int 1, .ref a6, .int 6, .int 0, .int 1, .int 0]))]) hD hS hA [0, 1] rfl
  refine va_calli (va_runV (As := []) (rest := [.int 0]) ⟨hx, hb, hml, hown, hts⟩ (cc_185_X6_readByte l dC dI cy H_2.size cb a0 a1 a2 a3 a4 a5 a6) (cwV 0 hts gX6_readShort_X6_readByte rfl rfl rfl (by decide +kernel) ⟨Nat.le_of_ble_eq_true rfl, Nat.le_of_ble_eq_true rfl⟩) ⟨fun a U g mk q => by obtain ⟨q0, q1, qP, qK, qD, qN, qS⟩ := q; exact ⟨q0, q1, qP, va_K.moved (u := U) (U := U.calling g mk a) (Vm.Alike.refl U.vm) qK, qD, qN.same rfl, SK.moved (u := U) (U := U.calling g mk a) (Vm.Alike.refl U.vm) qS⟩, va_recv hK hPc (ci := 6) (q0 := 0) rfl rfl, fun U hU hW => ⟨rfl, by rw [hU], by rw [hU]; exact hPc, va_K.moved hW.alike hK, hDc.weaken (fun _ _ _ _ => trivial), hN.warm hW, by rw [hU]; exact ((hSK.kept hS.2.1).narrow hFc).moved hW.alike⟩⟩ rfl rfl hl.1 rfl (lv_room (Nat.le_of_ble_eq_true rfl)) dX6_readShort_10 ⟨Nat.le_of_ble_eq_true rfl, Nat.le_of_ble_eq_true rfl⟩) hS (fun q _ h => hFc q h) hFc (fun r_4 u t H_5 locs ht hvm hw hB hz1 hk1 hS2 => ?_)
  obtain ⟨hP1, hK1, hD1⟩ := hB
  rw [ht] at hP1
  obtain rfl := hw
  obtain ⟨hP2, hD2⟩ := va_join (wr := []) (w1 := [(a0, .inr (6, [.int 0, .int 0, .ref a1, .int 57, .int 0, .int 3, .int 2, .int 1, .ref a2])), (a1, .inr (5, [.ref cb, .int 81, .int 0, .ref a3, .int 10, .ref a4, .int 3, .ref a5, .int 1, .int 1, .ref a6, .int 6, .int 0, .int 1, .int 0]))]) hP hD [0, 1] [] rfl rfl (by decide) (by decide) hk1 hFc hP1 hD1
  replace hP : va_P (dC, dI) vwCl [(a0, .inr (6, [.int 0, .int 0, .ref a1, .int 57, .int 0, .int 3, .int 2, .int 1, .ref a2])), (a1, .inr (5, [.ref cb, .int 81, .int 0, .ref a3, .int 10, .ref a4, .int 3, .ref a5, .int 1, .int 1, .ref a6, .int 6, .int 0, .int 1, .int 0]))] H_5 := hP2
  replace hD : va_D A [(a0, .inr (6, [.int 0, .int 0, .ref a1, .int 57, .int 0, .int 3, .int 2, .int 1, .ref a2])), (a1, .inr (5, [.ref cb, .int 81, .int 0, .ref a3, .int 10, .ref a4, .int 3, .ref a5, .int 1, .int 1, .ref a6, .int 6, .int 0, .int 1, .int 0]))] := hD2
  replace hS := hS2
  clear hP2 hD2 hS2
  clear hPc hDc hFc hP1 hD1 hK1 hk1 hz1 hvm ht
  refine W.widen (k := 0) (n := 0) (Nat.le_of_ble_eq_true rfl) (Nat.le_of_ble_eq_true rfl) ?_
  refine lv_ior hx hb dX6_readShort_13 ?_
  refine lv_topi (fun z_6 ez_6 => ?_)
  obtain rfl : z_6 = 1 := ez_6.trans (by decide)
  clear ez_6
  exact W.iret hx hb hr (fun t ht hW => ⟨⟨1, (), rfl, rfl, by rw [ht]; exact hP, va_K.moved hW.alike hK, hD⟩, hS.F ht⟩) hS.2.2 dX6_readShort_14

set_option maxHeartbeats 4000000 in
set_option maxRecDepth 100000 in
theorem cc_186_X5_setFunction (l : Launch) (dC : Nat → ClassId) (dI : Nat → Nat → Nat) (cy : Nat → ClassId) (sz : Nat) (cb : Nat) (a0 : Nat) (a1 : Nat) (a2 : Nat) (a3 : Nat) (a4 : Nat) (f0 : Nat → Int32)  : Met l yX5_setFunction wsX5_setFunction ({ frames := 0, cells := 0, slots := 0, locals := 0 }) (va_Pc [.ref a0, .int 3, .int 5, .int 3] (fun U => U.heap.size = sz ∧ va_P (dC, dI) vwCl [(a0, .inr (5, [.ref cb, .int 81, .int 0, .ref a2, .int 10, .ref a3, .int 3, .ref a4, .int 1, .int 1, .ref a1, .int 6, .int 0, .int 1, .int 0])), (a1, .inl (cy 1, 864, .inl f0))] U.heap ∧ va_K (dC, dI) vwCl (TYS cy) U ∧ va_D (fun _ => True) [(a0, .inr (5, [.ref cb, .int 81, .int 0, .ref a2, .int 10, .ref a3, .int 3, .ref a4, .int 1, .int 1, .ref a1, .int 6, .int 0, .int 1, .int 0])), (a1, .inl (cy 1, 864, .inl f0))] ∧ NK U ∧ SK cb (va_A [(a0, .inr (5, [.ref cb, .int 81, .int 0, .ref a2, .int 10, .ref a3, .int 3, .ref a4, .int 1, .int 1, .ref a1, .int 6, .int 0, .int 1, .int 0])), (a1, .inl (cy 1, 864, .inl f0))] sz) U U.heap)) (va_Qv (fun u : (Nat → Int32) => True) (fun u t => match u with | (u0) => va_P (dC, dI) vwCl [(a0, .inr (5, [.ref cb, .int 81, .int 0, .ref a2, .int 10, .ref a3, .int 3, .ref a4, .int 1, .int 1, .ref a1, .int 6, .int 0, .int 1, .int 0])), (a1, .inl (cy 1, 864, .inl u0))] t.heap ∧ va_K (dC, dI) vwCl (TYS cy) t ∧ va_D (va_A [(a0, .inr (5, [.ref cb, .int 81, .int 0, .ref a2, .int 10, .ref a3, .int 3, .ref a4, .int 1, .int 1, .ref a1, .int 6, .int 0, .int 1, .int 0])), (a1, .inl (cy 1, 864, .inl f0))] sz) [(a0, .inr (5, [.ref cb, .int 81, .int 0, .ref a2, .int 10, .ref a3, .int 3, .ref a4, .int 1, .int 1, .ref a1, .int 6, .int 0, .int 1, .int 0])), (a1, .inl (cy 1, 864, .inl u0))]) (va_A [(a0, .inr (5, [.ref cb, .int 81, .int 0, .ref a2, .int 10, .ref a3, .int 3, .ref a4, .int 1, .int 1, .ref a1, .int 6, .int 0, .int 1, .int 0])), (a1, .inl (cy 1, 864, .inl f0))] sz)) 0 0 (va_A [(a0, .inr (5, [.ref cb, .int 81, .int 0, .ref a2, .int 10, .ref a3, .int 3, .ref a4, .int 1, .int 1, .ref a1, .int 6, .int 0, .int 1, .int 0])), (a1, .inl (cy 1, 864, .inl f0))] sz) := by
  refine Met.ofW (cc := cX5_setFunction) (maxL := 4) (ret := none) (by decide) rfl ?_
  intro p e s m args below meth c s₁ B hml hv
  obtain ⟨rfl, hsz, hP, hK, hD0, hN, hSK⟩ := hv
  have hx := B.exec
  have hb := B.bytes
  have hr := B.returns
  have hts := atoms_spec (ws := wsX5_setFunction) B.pre
  have hown : s.vm.findClass RX5 = some m.cls := findClass_of_methodNamed B.named
  have hlocks := B.notSynchronized
  subst hsz
  have hD := hD0.self (sz := s.heap.size)
  generalize hAe : va_A [(a0, .inr (5, [.ref cb, .int 81, .int 0, .ref a2, .int 10, .ref a3, .int 3, .ref a4, .int 1, .int 1, .ref a1, .int 6, .int 0, .int 1, .int 0])), (a1, .inl (cy 1, 864, .inl f0))] s.heap.size = A at hD hSK ⊢
  have hA : ∀ q : Nat, s.heap.size ≤ q → A q := fun q h => by rw [← hAe]; exact Or.inr h
  have hS : va_S A s.heap s.heap [] := va_S.rf
  have hP : va_P (dC, dI) vwCl [(a0, .inr (5, [.ref cb, .int 81, .int 0, .ref a2, .int 10, .ref a3, .int 3, .ref a4, .int 1, .int 1, .ref a1, .int 6, .int 0, .int 1, .int 0])), (a1, .inl (cy 1, 864, .inl f0))] s.heap := hP
  have hl := lv_entry ([.ref a0, .int 3, .int 5, .int 3]) (n := 4) (Nat.le_of_ble_eq_true rfl)
  rw [lg_entry_eq]
  generalize (lg_sl ([.ref a0, .int 3, .int 5, .int 3]) ++ List.replicate (4 - (lg_sl ([.ref a0, .int 3, .int 5, .int 3])).length) Slot.unset).toArray = ls at hl ⊢
  replace hl : lv_has ls 4 [(0, .ref a0), (1, .int 3), (2, .int 5), (3, .int 3)] := hl
  refine lv_iload_n hx hb dX5_setFunction_0 rfl (lv_at hl 1 rfl) ?_
  refine lv_if_lt (tgt := 22) hx hb dX5_setFunction_1 (by decide) (fun h => absurd h (by decide)) (fun _ => ?_)
  refine lv_iload_n hx hb dX5_setFunction_4 rfl (lv_at hl 1 rfl) ?_
  refine lv_bipush (v := 96) hx hb dX5_setFunction_5 (by decide) ?_
  refine lv_icmp_ge (tgt := 22) hx hb dX5_setFunction_7 (by decide) (fun h => absurd h (by decide)) (fun _ => ?_)
  refine lv_aload_n hx hb dX5_setFunction_10 rfl (lv_at hl 0 rfl) ?_
  refine va_get (D := (dC, dI)) (ci := 5) (v := .ref a1) (C := RX5) (T := TX5) (N := 15) hx hb hts iw_X5_setFunction_X5 hown hK hP 0 rfl rfl 10 (by decide) (hts _ m_X5_setFunction_1) (fun _ h9 => h9) rfl dX5_setFunction_11 ?_
  refine lv_iload_n hx hb dX5_setFunction_14 rfl (lv_at hl 1 rfl) ?_
  refine lv_bipush (v := 9) hx hb dX5_setFunction_15 (by decide) ?_
  refine lv_imul hx hb dX5_setFunction_17 ?_
  refine lv_topi (fun z_1 ez_1 => ?_)
  obtain rfl : z_1 = 27 := ez_1.trans (by decide)
  clear ez_1
  refine lv_iload_n hx hb dX5_setFunction_18 rfl (lv_at hl 2 rfl) ?_
  refine lv_iadd hx hb dX5_setFunction_19 ?_
  refine lv_topi (fun z_2 ez_2 => ?_)
  obtain rfl : z_2 = 32 := ez_2.trans (by decide)
  clear ez_2
  refine lv_iload_n hx hb dX5_setFunction_20 rfl (lv_at hl 3 rfl) ?_
  refine va_iast hx hb hK hP hD hS 1 1 rfl rfl (by unfold vp_in; decide) dX5_setFunction_21 (fun H_4 locs hP2 hD2 hS2 => ?_)
  replace hP : va_P (dC, dI) vwCl [(a0, .inr (5, [.ref cb, .int 81, .int 0, .ref a2, .int 10, .ref a3, .int 3, .ref a4, .int 1, .int 1, .ref a1, .int 6, .int 0, .int 1, .int 0])), (a1, .inl (cy 1, 864, .inl (upd f0 32 3)))] H_4 := hP2
  replace hD : va_D A [(a0, .inr (5, [.ref cb, .int 81, .int 0, .ref a2, .int 10, .ref a3, .int 3, .ref a4, .int 1, .int 1, .ref a1, .int 6, .int 0, .int 1, .int 0])), (a1, .inl (cy 1, 864, .inl (upd f0 32 3)))] := hD2
  replace hS := hS2
  clear hP2 hD2 hS2
  obtain ⟨g_3, eg_3⟩ : ∃ z, upd f0 32 3 = z := ⟨_, rfl⟩
  rw [eg_3] at hP hD
  exact W.vret hx hb hr (fun t ht hW => ⟨⟨(g_3), rfl, trivial, by rw [ht]; exact hP, va_K.moved hW.alike hK, hD⟩, hS.F ht⟩) hS.2.2 dX5_setFunction_22

set_option maxHeartbeats 4000000 in
set_option maxRecDepth 100000 in
theorem cc_187_X5_setFunction (l : Launch) (dC : Nat → ClassId) (dI : Nat → Nat → Nat) (cy : Nat → ClassId) (sz : Nat) (cb : Nat) (a0 : Nat) (a1 : Nat) (a2 : Nat) (a3 : Nat) (a4 : Nat) (f0 : Nat → Int32)  : Met l yX5_setFunction wsX5_setFunction ({ frames := 0, cells := 0, slots := 0, locals := 0 }) (va_Pc [.ref a0, .int 3, .int 6, .int 1] (fun U => U.heap.size = sz ∧ va_P (dC, dI) vwCl [(a0, .inr (5, [.ref cb, .int 81, .int 0, .ref a2, .int 10, .ref a3, .int 3, .ref a4, .int 1, .int 1, .ref a1, .int 6, .int 0, .int 1, .int 0])), (a1, .inl (cy 1, 864, .inl f0))] U.heap ∧ va_K (dC, dI) vwCl (TYS cy) U ∧ va_D (fun _ => True) [(a0, .inr (5, [.ref cb, .int 81, .int 0, .ref a2, .int 10, .ref a3, .int 3, .ref a4, .int 1, .int 1, .ref a1, .int 6, .int 0, .int 1, .int 0])), (a1, .inl (cy 1, 864, .inl f0))] ∧ NK U ∧ SK cb (va_A [(a0, .inr (5, [.ref cb, .int 81, .int 0, .ref a2, .int 10, .ref a3, .int 3, .ref a4, .int 1, .int 1, .ref a1, .int 6, .int 0, .int 1, .int 0])), (a1, .inl (cy 1, 864, .inl f0))] sz) U U.heap)) (va_Qv (fun u : (Nat → Int32) => True) (fun u t => match u with | (u0) => va_P (dC, dI) vwCl [(a0, .inr (5, [.ref cb, .int 81, .int 0, .ref a2, .int 10, .ref a3, .int 3, .ref a4, .int 1, .int 1, .ref a1, .int 6, .int 0, .int 1, .int 0])), (a1, .inl (cy 1, 864, .inl u0))] t.heap ∧ va_K (dC, dI) vwCl (TYS cy) t ∧ va_D (va_A [(a0, .inr (5, [.ref cb, .int 81, .int 0, .ref a2, .int 10, .ref a3, .int 3, .ref a4, .int 1, .int 1, .ref a1, .int 6, .int 0, .int 1, .int 0])), (a1, .inl (cy 1, 864, .inl f0))] sz) [(a0, .inr (5, [.ref cb, .int 81, .int 0, .ref a2, .int 10, .ref a3, .int 3, .ref a4, .int 1, .int 1, .ref a1, .int 6, .int 0, .int 1, .int 0])), (a1, .inl (cy 1, 864, .inl u0))]) (va_A [(a0, .inr (5, [.ref cb, .int 81, .int 0, .ref a2, .int 10, .ref a3, .int 3, .ref a4, .int 1, .int 1, .ref a1, .int 6, .int 0, .int 1, .int 0])), (a1, .inl (cy 1, 864, .inl f0))] sz)) 0 0 (va_A [(a0, .inr (5, [.ref cb, .int 81, .int 0, .ref a2, .int 10, .ref a3, .int 3, .ref a4, .int 1, .int 1, .ref a1, .int 6, .int 0, .int 1, .int 0])), (a1, .inl (cy 1, 864, .inl f0))] sz) := by
  refine Met.ofW (cc := cX5_setFunction) (maxL := 4) (ret := none) (by decide) rfl ?_
  intro p e s m args below meth c s₁ B hml hv
  obtain ⟨rfl, hsz, hP, hK, hD0, hN, hSK⟩ := hv
  have hx := B.exec
  have hb := B.bytes
  have hr := B.returns
  have hts := atoms_spec (ws := wsX5_setFunction) B.pre
  have hown : s.vm.findClass RX5 = some m.cls := findClass_of_methodNamed B.named
  have hlocks := B.notSynchronized
  subst hsz
  have hD := hD0.self (sz := s.heap.size)
  generalize hAe : va_A [(a0, .inr (5, [.ref cb, .int 81, .int 0, .ref a2, .int 10, .ref a3, .int 3, .ref a4, .int 1, .int 1, .ref a1, .int 6, .int 0, .int 1, .int 0])), (a1, .inl (cy 1, 864, .inl f0))] s.heap.size = A at hD hSK ⊢
  have hA : ∀ q : Nat, s.heap.size ≤ q → A q := fun q h => by rw [← hAe]; exact Or.inr h
  have hS : va_S A s.heap s.heap [] := va_S.rf
  have hP : va_P (dC, dI) vwCl [(a0, .inr (5, [.ref cb, .int 81, .int 0, .ref a2, .int 10, .ref a3, .int 3, .ref a4, .int 1, .int 1, .ref a1, .int 6, .int 0, .int 1, .int 0])), (a1, .inl (cy 1, 864, .inl f0))] s.heap := hP
  have hl := lv_entry ([.ref a0, .int 3, .int 6, .int 1]) (n := 4) (Nat.le_of_ble_eq_true rfl)
  rw [lg_entry_eq]
  generalize (lg_sl ([.ref a0, .int 3, .int 6, .int 1]) ++ List.replicate (4 - (lg_sl ([.ref a0, .int 3, .int 6, .int 1])).length) Slot.unset).toArray = ls at hl ⊢
  replace hl : lv_has ls 4 [(0, .ref a0), (1, .int 3), (2, .int 6), (3, .int 1)] := hl
  refine lv_iload_n hx hb dX5_setFunction_0 rfl (lv_at hl 1 rfl) ?_
  refine lv_if_lt (tgt := 22) hx hb dX5_setFunction_1 (by decide) (fun h => absurd h (by decide)) (fun _ => ?_)
  refine lv_iload_n hx hb dX5_setFunction_4 rfl (lv_at hl 1 rfl) ?_
  refine lv_bipush (v := 96) hx hb dX5_setFunction_5 (by decide) ?_
  refine lv_icmp_ge (tgt := 22) hx hb dX5_setFunction_7 (by decide) (fun h => absurd h (by decide)) (fun _ => ?_)
  refine lv_aload_n hx hb dX5_setFunction_10 rfl (lv_at hl 0 rfl) ?_
  refine va_get (D := (dC, dI)) (ci := 5) (v := .ref a1) (C := RX5) (T := TX5) (N := 15) hx hb hts iw_X5_setFunction_X5 hown hK hP 0 rfl rfl 10 (by decide) (hts _ m_X5_setFunction_1) (fun _ h9 => h9) rfl dX5_setFunction_11 ?_
  refine lv_iload_n hx hb dX5_setFunction_14 rfl (lv_at hl 1 rfl) ?_
  refine lv_bipush (v := 9) hx hb dX5_setFunction_15 (by decide) ?_
  refine lv_imul hx hb dX5_setFunction_17 ?_
  refine lv_topi (fun z_1 ez_1 => ?_)
  obtain rfl : z_1 = 27 := ez_1.trans (by decide)
  clear ez_1
  refine lv_iload_n hx hb dX5_setFunction_18 rfl (lv_at hl 2 rfl) ?_
  refine lv_iadd hx hb dX5_setFunction_19 ?_
  refine lv_topi (fun z_2 ez_2 => ?_)
  obtain rfl : z_2 = 33 := ez_2.trans (by decide)
  clear ez_2
  refine lv_iload_n hx hb dX5_setFunction_20 rfl (lv_at hl 3 rfl) ?_
  refine va_iast hx hb hK hP hD hS 1 1 rfl rfl (by unfold vp_in; decide) dX5_setFunction_21 (fun H_4 locs hP2 hD2 hS2 => ?_)
  replace hP : va_P (dC, dI) vwCl [(a0, .inr (5, [.ref cb, .int 81, .int 0, .ref a2, .int 10, .ref a3, .int 3, .ref a4, .int 1, .int 1, .ref a1, .int 6, .int 0, .int 1, .int 0])), (a1, .inl (cy 1, 864, .inl (upd f0 33 1)))] H_4 := hP2
  replace hD : va_D A [(a0, .inr (5, [.ref cb, .int 81, .int 0, .ref a2, .int 10, .ref a3, .int 3, .ref a4, .int 1, .int 1, .ref a1, .int 6, .int 0, .int 1, .int 0])), (a1, .inl (cy 1, 864, .inl (upd f0 33 1)))] := hD2
  replace hS := hS2
  clear hP2 hD2 hS2
  obtain ⟨g_3, eg_3⟩ : ∃ z, upd f0 33 1 = z := ⟨_, rfl⟩
  rw [eg_3] at hP hD
  exact W.vret hx hb hr (fun t ht hW => ⟨⟨(g_3), rfl, trivial, by rw [ht]; exact hP, va_K.moved hW.alike hK, hD⟩, hS.F ht⟩) hS.2.2 dX5_setFunction_22

set_option maxHeartbeats 4000000 in
set_option maxRecDepth 100000 in
theorem cc_189_X5_addStart (l : Launch) (dC : Nat → ClassId) (dI : Nat → Nat → Nat) (cy : Nat → ClassId) (sz : Nat) (cb : Nat) (a0 : Nat) (a1 : Nat) (a2 : Nat) (a3 : Nat) (a4 : Nat) (f0 : Nat → Int32)  : Met l yX5_addStart wsX5_addStart ({ frames := 0, cells := 0, slots := 0, locals := 0 }) (va_Pc [.ref a0, .int 57] (fun U => U.heap.size = sz ∧ va_P (dC, dI) vwCl [(a0, .inr (5, [.ref cb, .int 81, .int 0, .ref a2, .int 10, .ref a1, .int 3, .ref a3, .int 1, .int 1, .ref a4, .int 6, .int 0, .int 1, .int 0])), (a1, .inl (cy 1, 2048, .inl f0))] U.heap ∧ va_K (dC, dI) vwCl (TYS cy) U ∧ va_D (fun _ => True) [(a0, .inr (5, [.ref cb, .int 81, .int 0, .ref a2, .int 10, .ref a1, .int 3, .ref a3, .int 1, .int 1, .ref a4, .int 6, .int 0, .int 1, .int 0])), (a1, .inl (cy 1, 2048, .inl f0))] ∧ NK U ∧ SK cb (va_A [(a0, .inr (5, [.ref cb, .int 81, .int 0, .ref a2, .int 10, .ref a1, .int 3, .ref a3, .int 1, .int 1, .ref a4, .int 6, .int 0, .int 1, .int 0])), (a1, .inl (cy 1, 2048, .inl f0))] sz) U U.heap)) (va_Qv (fun u : (Nat → Int32) => True) (fun u t => match u with | (u0) => va_P (dC, dI) vwCl [(a0, .inr (5, [.ref cb, .int 81, .int 0, .ref a2, .int 10, .ref a1, .int 4, .ref a3, .int 1, .int 1, .ref a4, .int 6, .int 0, .int 1, .int 0])), (a1, .inl (cy 1, 2048, .inl u0))] t.heap ∧ va_K (dC, dI) vwCl (TYS cy) t ∧ va_D (va_A [(a0, .inr (5, [.ref cb, .int 81, .int 0, .ref a2, .int 10, .ref a1, .int 3, .ref a3, .int 1, .int 1, .ref a4, .int 6, .int 0, .int 1, .int 0])), (a1, .inl (cy 1, 2048, .inl f0))] sz) [(a0, .inr (5, [.ref cb, .int 81, .int 0, .ref a2, .int 10, .ref a1, .int 4, .ref a3, .int 1, .int 1, .ref a4, .int 6, .int 0, .int 1, .int 0])), (a1, .inl (cy 1, 2048, .inl u0))]) (va_A [(a0, .inr (5, [.ref cb, .int 81, .int 0, .ref a2, .int 10, .ref a1, .int 3, .ref a3, .int 1, .int 1, .ref a4, .int 6, .int 0, .int 1, .int 0])), (a1, .inl (cy 1, 2048, .inl f0))] sz)) 0 0 (va_A [(a0, .inr (5, [.ref cb, .int 81, .int 0, .ref a2, .int 10, .ref a1, .int 3, .ref a3, .int 1, .int 1, .ref a4, .int 6, .int 0, .int 1, .int 0])), (a1, .inl (cy 1, 2048, .inl f0))] sz) := by
  refine Met.ofW (cc := cX5_addStart) (maxL := 2) (ret := none) (by decide) rfl ?_
  intro p e s m args below meth c s₁ B hml hv
  obtain ⟨rfl, hsz, hP, hK, hD0, hN, hSK⟩ := hv
  have hx := B.exec
  have hb := B.bytes
  have hr := B.returns
  have hts := atoms_spec (ws := wsX5_addStart) B.pre
  have hown : s.vm.findClass RX5 = some m.cls := findClass_of_methodNamed B.named
  have hlocks := B.notSynchronized
  subst hsz
  have hD := hD0.self (sz := s.heap.size)
  generalize hAe : va_A [(a0, .inr (5, [.ref cb, .int 81, .int 0, .ref a2, .int 10, .ref a1, .int 3, .ref a3, .int 1, .int 1, .ref a4, .int 6, .int 0, .int 1, .int 0])), (a1, .inl (cy 1, 2048, .inl f0))] s.heap.size = A at hD hSK ⊢
  have hA : ∀ q : Nat, s.heap.size ≤ q → A q := fun q h => by rw [← hAe]; exact Or.inr h
  have hS : va_S A s.heap s.heap [] := va_S.rf
  have hP : va_P (dC, dI) vwCl [(a0, .inr (5, [.ref cb, .int 81, .int 0, .ref a2, .int 10, .ref a1, .int 3, .ref a3, .int 1, .int 1, .ref a4, .int 6, .int 0, .int 1, .int 0])), (a1, .inl (cy 1, 2048, .inl f0))] s.heap := hP
  have hl := lv_entry ([.ref a0, .int 57]) (n := 2) (Nat.le_of_ble_eq_true rfl)
  rw [lg_entry_eq]
  generalize (lg_sl ([.ref a0, .int 57]) ++ List.replicate (2 - (lg_sl ([.ref a0, .int 57])).length) Slot.unset).toArray = ls at hl ⊢
  replace hl : lv_has ls 2 [(0, .ref a0), (1, .int 57)] := hl
  refine lv_aload_n hx hb dX5_addStart_0 rfl (lv_at hl 0 rfl) ?_
  refine va_get (D := (dC, dI)) (ci := 5) (v := .int 3) (C := RX5) (T := TX5) (N := 15) hx hb hts iw_X5_addStart_X5 hown hK hP 0 rfl rfl 6 (by decide) (hts _ m_X5_addStart_1) (fun _ h9 => h9) rfl dX5_addStart_1 ?_
  refine lv_aload_n hx hb dX5_addStart_4 rfl (lv_at hl 0 rfl) ?_
  refine va_get (D := (dC, dI)) (ci := 5) (v := .ref a1) (C := RX5) (T := TX5) (N := 15) hx hb hts iw_X5_addStart_X5 hown hK hP 0 rfl rfl 5 (by decide) (hts _ m_X5_addStart_2) (fun _ h9 => h9) rfl dX5_addStart_5 ?_
  refine va_alen (v := 2048) hx hb hK hP 1 1 rfl rfl rfl dX5_addStart_8 ?_
  refine lv_icmp_ge (tgt := 29) hx hb dX5_addStart_9 (by decide) (fun h => absurd h (by decide)) (fun _ => ?_)
  refine lv_aload_n hx hb dX5_addStart_12 rfl (lv_at hl 0 rfl) ?_
  refine va_get (D := (dC, dI)) (ci := 5) (v := .ref a1) (C := RX5) (T := TX5) (N := 15) hx hb hts iw_X5_addStart_X5 hown hK hP 0 rfl rfl 5 (by decide) (hts _ m_X5_addStart_2) (fun _ h9 => h9) rfl dX5_addStart_13 ?_
  refine lv_aload_n hx hb dX5_addStart_16 rfl (lv_at hl 0 rfl) ?_
  refine lv_dup hx hb dX5_addStart_17 rfl ?_
  refine va_get (D := (dC, dI)) (ci := 5) (v := .int 3) (C := RX5) (T := TX5) (N := 15) hx hb hts iw_X5_addStart_X5 hown hK hP 0 rfl rfl 6 (by decide) (hts _ m_X5_addStart_1) (fun _ h9 => h9) rfl dX5_addStart_18 ?_
  refine lv_dup_x1 hx hb dX5_addStart_21 rfl rfl ?_
  refine lv_iconst (v := 1) hx hb dX5_addStart_22 (by decide) ?_
  refine lv_iadd hx hb dX5_addStart_23 ?_
  refine lv_topi (fun z_1 ez_1 => ?_)
  obtain rfl : z_1 = 4 := ez_1.trans (by decide)
  clear ez_1
  refine va_put (D := (dC, dI)) (ci := 5) (v := .int 4) (ty := .int) (C := RX5) (T := TX5) (N := 15) hx hb hts iw_X5_addStart_X5 tyX5 tyX5_ok nmX5 hown hK hP hD hS 0 rfl rfl 6 (by decide) (hts _ m_X5_addStart_1) (fun _ h9 => h9) rfl (by decide +kernel) rfl rfl (Nat.le_of_ble_eq_true rfl) dX5_addStart_24 (fun H_2 locs hP2 hD2 hS2 => ?_)
  replace hP : va_P (dC, dI) vwCl [(a0, .inr (5, [.ref cb, .int 81, .int 0, .ref a2, .int 10, .ref a1, .int 4, .ref a3, .int 1, .int 1, .ref a4, .int 6, .int 0, .int 1, .int 0])), (a1, .inl (cy 1, 2048, .inl f0))] H_2 := hP2
  replace hD : va_D A [(a0, .inr (5, [.ref cb, .int 81, .int 0, .ref a2, .int 10, .ref a1, .int 4, .ref a3, .int 1, .int 1, .ref a4, .int 6, .int 0, .int 1, .int 0])), (a1, .inl (cy 1, 2048, .inl f0))] := hD2
  replace hS := hS2
  clear hP2 hD2 hS2
  refine lv_iload_n hx hb dX5_addStart_27 rfl (lv_at hl 1 rfl) ?_
  refine va_iast hx hb hK hP hD hS 1 1 rfl rfl (by unfold vp_in; decide) dX5_addStart_28 (fun H_4 locs hP2 hD2 hS2 => ?_)
  replace hP : va_P (dC, dI) vwCl [(a0, .inr (5, [.ref cb, .int 81, .int 0, .ref a2, .int 10, .ref a1, .int 4, .ref a3, .int 1, .int 1, .ref a4, .int 6, .int 0, .int 1, .int 0])), (a1, .inl (cy 1, 2048, .inl (upd f0 3 57)))] H_4 := hP2
  replace hD : va_D A [(a0, .inr (5, [.ref cb, .int 81, .int 0, .ref a2, .int 10, .ref a1, .int 4, .ref a3, .int 1, .int 1, .ref a4, .int 6, .int 0, .int 1, .int 0])), (a1, .inl (cy 1, 2048, .inl (upd f0 3 57)))] := hD2
  replace hS := hS2
  clear hP2 hD2 hS2
  obtain ⟨g_3, eg_3⟩ : ∃ z, upd f0 3 57 = z := ⟨_, rfl⟩
  rw [eg_3] at hP hD
  exact W.vret hx hb hr (fun t ht hW => ⟨⟨(g_3), rfl, trivial, by rw [ht]; exact hP, va_K.moved hW.alike hK, hD⟩, hS.F ht⟩) hS.2.2 dX5_addStart_29

set_option maxHeartbeats 4000000 in
set_option maxRecDepth 100000 in
theorem cc_190_X6_readByte (l : Launch) (dC : Nat → ClassId) (dI : Nat → Nat → Nat) (cy : Nat → ClassId) (sz : Nat) (cb : Nat) (a0 : Nat) (a1 : Nat) (a2 : Nat) (a3 : Nat) (a4 : Nat) (a5 : Nat) (a6 : Nat)  : Met l yX6_readByte wsX6_readByte ({ frames := 0, cells := 0, slots := 0, locals := 0 }) (va_Pc [.ref a0] (fun U => U.heap.size = sz ∧ va_P (dC, dI) vwCl [(a0, .inr (6, [.int 0, .int 0, .ref a1, .int 57, .int 0, .int 4, .int 2, .int 1, .ref a2])), (a1, .inr (5, [.ref cb, .int 81, .int 0, .ref a3, .int 10, .ref a4, .int 4, .ref a5, .int 1, .int 1, .ref a6, .int 6, .int 0, .int 1, .int 0]))] U.heap ∧ va_K (dC, dI) vwCl (TYS cy) U ∧ va_D (fun _ => True) [(a0, .inr (6, [.int 0, .int 0, .ref a1, .int 57, .int 0, .int 4, .int 2, .int 1, .ref a2])), (a1, .inr (5, [.ref cb, .int 81, .int 0, .ref a3, .int 10, .ref a4, .int 4, .ref a5, .int 1, .int 1, .ref a6, .int 6, .int 0, .int 1, .int 0]))] ∧ NK U ∧ SK cb (va_A [(a0, .inr (6, [.int 0, .int 0, .ref a1, .int 57, .int 0, .int 4, .int 2, .int 1, .ref a2])), (a1, .inr (5, [.ref cb, .int 81, .int 0, .ref a3, .int 10, .ref a4, .int 4, .ref a5, .int 1, .int 1, .ref a6, .int 6, .int 0, .int 1, .int 0]))] sz) U U.heap)) (va_Qi (fun (r : Int32) (u : Unit) => r = 35) (fun u t => va_P (dC, dI) vwCl [(a0, .inr (6, [.int 0, .int 0, .ref a1, .int 58, .int 0, .int 4, .int 2, .int 1, .ref a2])), (a1, .inr (5, [.ref cb, .int 81, .int 0, .ref a3, .int 10, .ref a4, .int 4, .ref a5, .int 1, .int 1, .ref a6, .int 6, .int 0, .int 1, .int 0]))] t.heap ∧ va_K (dC, dI) vwCl (TYS cy) t ∧ va_D (va_A [(a0, .inr (6, [.int 0, .int 0, .ref a1, .int 57, .int 0, .int 4, .int 2, .int 1, .ref a2])), (a1, .inr (5, [.ref cb, .int 81, .int 0, .ref a3, .int 10, .ref a4, .int 4, .ref a5, .int 1, .int 1, .ref a6, .int 6, .int 0, .int 1, .int 0]))] sz) [(a0, .inr (6, [.int 0, .int 0, .ref a1, .int 58, .int 0, .int 4, .int 2, .int 1, .ref a2])), (a1, .inr (5, [.ref cb, .int 81, .int 0, .ref a3, .int 10, .ref a4, .int 4, .ref a5, .int 1, .int 1, .ref a6, .int 6, .int 0, .int 1, .int 0]))]) (va_A [(a0, .inr (6, [.int 0, .int 0, .ref a1, .int 57, .int 0, .int 4, .int 2, .int 1, .ref a2])), (a1, .inr (5, [.ref cb, .int 81, .int 0, .ref a3, .int 10, .ref a4, .int 4, .ref a5, .int 1, .int 1, .ref a6, .int 6, .int 0, .int 1, .int 0]))] sz)) 0 0 (va_A [(a0, .inr (6, [.int 0, .int 0, .ref a1, .int 57, .int 0, .int 4, .int 2, .int 1, .ref a2])), (a1, .inr (5, [.ref cb, .int 81, .int 0, .ref a3, .int 10, .ref a4, .int 4, .ref a5, .int 1, .int 1, .ref a6, .int 6, .int 0, .int 1, .int 0]))] sz) := by
  refine Met.ofW (cc := cX6_readByte) (maxL := 1) (ret := (some .int)) (by decide) rfl ?_
  intro p e s m args below meth c s₁ B hml hv
  obtain ⟨rfl, hsz, hP, hK, hD0, hN, hSK⟩ := hv
  have hx := B.exec
  have hb := B.bytes
  have hr := B.returns
  have hts := atoms_spec (ws := wsX6_readByte) B.pre
  have hown : s.vm.findClass RX6 = some m.cls := findClass_of_methodNamed B.named
  have hlocks := B.notSynchronized
  subst hsz
  have hD := hD0.self (sz := s.heap.size)
  generalize hAe : va_A [(a0, .inr (6, [.int 0, .int 0, .ref a1, .int 57, .int 0, .int 4, .int 2, .int 1, .ref a2])), (a1, .inr (5, [.ref cb, .int 81, .int 0, .ref a3, .int 10, .ref a4, .int 4, .ref a5, .int 1, .int 1, .ref a6, .int 6, .int 0, .int 1, .int 0]))] s.heap.size = A at hD hSK ⊢
  have hA : ∀ q : Nat, s.heap.size ≤ q → A q := fun q h => by rw [← hAe]; exact Or.inr h
  have hS : va_S A s.heap s.heap [] := va_S.rf
  have hP : va_P (dC, dI) vwCl [(a0, .inr (6, [.int 0, .int 0, .ref a1, .int 57, .int 0, .int 4, .int 2, .int 1, .ref a2])), (a1, .inr (5, [.ref cb, .int 81, .int 0, .ref a3, .int 10, .ref a4, .int 4, .ref a5, .int 1, .int 1, .ref a6, .int 6, .int 0, .int 1, .int 0]))] s.heap := hP
  have hl := lv_entry ([.ref a0]) (n := 1) (Nat.le_of_ble_eq_true rfl)
  rw [lg_entry_eq]
  generalize (lg_sl ([.ref a0]) ++ List.replicate (1 - (lg_sl ([.ref a0])).length) Slot.unset).toArray = ls at hl ⊢
  replace hl : lv_has ls 1 [(0, .ref a0)] := hl
  refine lv_aload_n hx hb dX6_readByte_0 rfl (lv_at hl 0 rfl) ?_
  refine va_get (D := (dC, dI)) (ci := 6) (v := .int 0) (C := RX6) (T := TX6) (N := 9) hx hb hts iw_X6_readByte_X6 hown hK hP 0 rfl rfl 1 (by decide) (hts _ m_X6_readByte_1) (fun _ h9 => h9) rfl dX6_readByte_1 ?_
  refine lv_if_eq (tgt := 9) hx hb dX6_readByte_4 (by decide) (fun _ => ?_) (fun h => absurd (by decide) h)
  refine lv_aload_n hx hb dX6_readByte_9 rfl (lv_at hl 0 rfl) ?_
  refine va_get (D := (dC, dI)) (ci := 6) (v := .int 57) (C := RX6) (T := TX6) (N := 9) hx hb hts iw_X6_readByte_X6 hown hK hP 0 rfl rfl 3 (by decide) (hts _ m_X6_readByte_2) (fun _ h9 => h9) rfl dX6_readByte_10 ?_
  refine lv_aload_n hx hb dX6_readByte_13 rfl (lv_at hl 0 rfl) ?_
  refine va_get (D := (dC, dI)) (ci := 6) (v := .ref a1) (C := RX6) (T := TX6) (N := 9) hx hb hts iw_X6_readByte_X6 hown hK hP 0 rfl rfl 2 (by decide) (hts _ m_X6_readByte_3) (fun _ h9 => h9) rfl dX6_readByte_14 ?_
  refine va_get (D := (dC, dI)) (ci := 5) (v := .int 81) (C := RX5) (T := TX5) (N := 15) hx hb hts iw_X6_readByte_X5 hown hK hP 1 rfl rfl 1 (by decide) (hts _ m_X6_readByte_4) (fun _ h9 => h9) rfl dX6_readByte_17 ?_
  refine lv_icmp_lt (tgt := 41) hx hb dX6_readByte_20 (by decide) (fun _ => ?_) (fun h => absurd (by decide) h)
  refine lv_aload_n hx hb dX6_readByte_41 rfl (lv_at hl 0 rfl) ?_
  refine va_get (D := (dC, dI)) (ci := 6) (v := .ref a1) (C := RX6) (T := TX6) (N := 9) hx hb hts iw_X6_readByte_X6 hown hK hP 0 rfl rfl 2 (by decide) (hts _ m_X6_readByte_3) (fun _ h9 => h9) rfl dX6_readByte_42 ?_
  refine va_get (D := (dC, dI)) (ci := 5) (v := .ref cb) (C := RX5) (T := TX5) (N := 15) hx hb hts iw_X6_readByte_X5 hown hK hP 1 rfl rfl 0 (by decide) (hts _ m_X6_readByte_6) (fun _ h9 => h9) rfl dX6_readByte_45 ?_
  refine lv_aload_n hx hb dX6_readByte_48 rfl (lv_at hl 0 rfl) ?_
  refine lv_dup hx hb dX6_readByte_49 rfl ?_
  refine va_get (D := (dC, dI)) (ci := 6) (v := .int 57) (C := RX6) (T := TX6) (N := 9) hx hb hts iw_X6_readByte_X6 hown hK hP 0 rfl rfl 3 (by decide) (hts _ m_X6_readByte_2) (fun _ h9 => h9) rfl dX6_readByte_50 ?_
  refine lv_dup_x1 hx hb dX6_readByte_53 rfl rfl ?_
  refine lv_iconst (v := 1) hx hb dX6_readByte_54 (by decide) ?_
  refine lv_iadd hx hb dX6_readByte_55 ?_
  refine lv_topi (fun z_1 ez_1 => ?_)
  obtain rfl : z_1 = 58 := ez_1.trans (by decide)
  clear ez_1
  refine va_put (D := (dC, dI)) (ci := 6) (v := .int 58) (ty := .int) (C := RX6) (T := TX6) (N := 9) hx hb hts iw_X6_readByte_X6 tyX6 tyX6_ok nmX6 hown hK hP hD hS 0 rfl rfl 3 (by decide) (hts _ m_X6_readByte_2) (fun _ h9 => h9) rfl (by decide +kernel) rfl rfl (Nat.le_of_ble_eq_true rfl) dX6_readByte_56 (fun H_2 locs hP2 hD2 hS2 => ?_)
  replace hP : va_P (dC, dI) vwCl [(a0, .inr (6, [.int 0, .int 0, .ref a1, .int 58, .int 0, .int 4, .int 2, .int 1, .ref a2])), (a1, .inr (5, [.ref cb, .int 81, .int 0, .ref a3, .int 10, .ref a4, .int 4, .ref a5, .int 1, .int 1, .ref a6, .int 6, .int 0, .int 1, .int 0]))] H_2 := hP2
  replace hD : va_D A [(a0, .inr (6, [.int 0, .int 0, .ref a1, .int 58, .int 0, .int 4, .int 2, .int 1, .ref a2])), (a1, .inr (5, [.ref cb, .int 81, .int 0, .ref a3, .int 10, .ref a4, .int 4, .ref a5, .int 1, .int 1, .ref a6, .int 6, .int 0, .int 1, .int 0]))] := hD2
  replace hS := hS2
  clear hP2 hD2 hS2
  refine va_tb (v := .int 35) hx hb hSK.2 hS (by unfold vp_in; decide) rfl dX6_readByte_59 ?_
  refine lv_sipush (v := 255) hx hb dX6_readByte_60 (by decide) ?_
  refine lv_iand hx hb dX6_readByte_63 ?_
  refine lv_topi (fun z_3 ez_3 => ?_)
  obtain rfl : z_3 = 35 := ez_3.trans (by decide)
  clear ez_3
  exact W.iret hx hb hr (fun t ht hW => ⟨⟨35, (), rfl, rfl, by rw [ht]; exact hP, va_K.moved hW.alike hK, hD⟩, hS.F ht⟩) hS.2.2 dX6_readByte_64

set_option maxHeartbeats 4000000 in
set_option maxRecDepth 100000 in
theorem cc_188_X6_readInstruction (l : Launch) (dC : Nat → ClassId) (dI : Nat → Nat → Nat) (cy : Nat → ClassId) (sz : Nat) (cb : Nat) (a0 : Nat) (a1 : Nat) (a2 : Nat) (a3 : Nat) (a4 : Nat) (a5 : Nat) (a6 : Nat) (f0 : Nat → Int32)  : Met l yX6_readInstruction wsX6_readInstruction ({ frames := 1, cells := 0, slots := 0, locals := 21 }) (va_Pc [.ref a0] (fun U => U.heap.size = sz ∧ va_P (dC, dI) vwCl [(a0, .inr (6, [.int 0, .int 0, .ref a1, .int 57, .int 0, .int 4, .int 2, .int 1, .ref a3])), (a1, .inr (5, [.ref cb, .int 81, .int 0, .ref a4, .int 10, .ref a2, .int 3, .ref a5, .int 1, .int 1, .ref a6, .int 6, .int 0, .int 1, .int 0])), (a2, .inl (cy 1, 2048, .inl f0))] U.heap ∧ va_K (dC, dI) vwCl (TYS cy) U ∧ va_D (fun _ => True) [(a0, .inr (6, [.int 0, .int 0, .ref a1, .int 57, .int 0, .int 4, .int 2, .int 1, .ref a3])), (a1, .inr (5, [.ref cb, .int 81, .int 0, .ref a4, .int 10, .ref a2, .int 3, .ref a5, .int 1, .int 1, .ref a6, .int 6, .int 0, .int 1, .int 0])), (a2, .inl (cy 1, 2048, .inl f0))] ∧ NK U ∧ SK cb (va_A [(a0, .inr (6, [.int 0, .int 0, .ref a1, .int 57, .int 0, .int 4, .int 2, .int 1, .ref a3])), (a1, .inr (5, [.ref cb, .int 81, .int 0, .ref a4, .int 10, .ref a2, .int 3, .ref a5, .int 1, .int 1, .ref a6, .int 6, .int 0, .int 1, .int 0])), (a2, .inl (cy 1, 2048, .inl f0))] sz) U U.heap)) (va_Qv (fun u : (Nat → Int32) => True) (fun u t => match u with | (u0) => va_P (dC, dI) vwCl [(a0, .inr (6, [.int 0, .int 0, .ref a1, .int 58, .int 0, .int 4, .int 2, .int 1, .ref a3])), (a1, .inr (5, [.ref cb, .int 81, .int 0, .ref a4, .int 10, .ref a2, .int 4, .ref a5, .int 1, .int 1, .ref a6, .int 6, .int 0, .int 1, .int 0])), (a2, .inl (cy 1, 2048, .inl u0))] t.heap ∧ va_K (dC, dI) vwCl (TYS cy) t ∧ va_D (va_A [(a0, .inr (6, [.int 0, .int 0, .ref a1, .int 57, .int 0, .int 4, .int 2, .int 1, .ref a3])), (a1, .inr (5, [.ref cb, .int 81, .int 0, .ref a4, .int 10, .ref a2, .int 3, .ref a5, .int 1, .int 1, .ref a6, .int 6, .int 0, .int 1, .int 0])), (a2, .inl (cy 1, 2048, .inl f0))] sz) [(a0, .inr (6, [.int 0, .int 0, .ref a1, .int 58, .int 0, .int 4, .int 2, .int 1, .ref a3])), (a1, .inr (5, [.ref cb, .int 81, .int 0, .ref a4, .int 10, .ref a2, .int 4, .ref a5, .int 1, .int 1, .ref a6, .int 6, .int 0, .int 1, .int 0])), (a2, .inl (cy 1, 2048, .inl u0))]) (va_A [(a0, .inr (6, [.int 0, .int 0, .ref a1, .int 57, .int 0, .int 4, .int 2, .int 1, .ref a3])), (a1, .inr (5, [.ref cb, .int 81, .int 0, .ref a4, .int 10, .ref a2, .int 3, .ref a5, .int 1, .int 1, .ref a6, .int 6, .int 0, .int 1, .int 0])), (a2, .inl (cy 1, 2048, .inl f0))] sz)) 0 0 (va_A [(a0, .inr (6, [.int 0, .int 0, .ref a1, .int 57, .int 0, .int 4, .int 2, .int 1, .ref a3])), (a1, .inr (5, [.ref cb, .int 81, .int 0, .ref a4, .int 10, .ref a2, .int 3, .ref a5, .int 1, .int 1, .ref a6, .int 6, .int 0, .int 1, .int 0])), (a2, .inl (cy 1, 2048, .inl f0))] sz) := by
  refine Met.ofW (cc := cX6_readInstruction) (maxL := 4) (ret := none) (by decide) rfl ?_
  intro p e s m args below meth c s₁ B hml hv
  obtain ⟨rfl, hsz, hP, hK, hD0, hN, hSK⟩ := hv
  have hx := B.exec
  have hb := B.bytes
  have hr := B.returns
  have hts := atoms_spec (ws := wsX6_readInstruction) B.pre
  have hown : s.vm.findClass RX6 = some m.cls := findClass_of_methodNamed B.named
  have hlocks := B.notSynchronized
  subst hsz
  have hD := hD0.self (sz := s.heap.size)
  generalize hAe : va_A [(a0, .inr (6, [.int 0, .int 0, .ref a1, .int 57, .int 0, .int 4, .int 2, .int 1, .ref a3])), (a1, .inr (5, [.ref cb, .int 81, .int 0, .ref a4, .int 10, .ref a2, .int 3, .ref a5, .int 1, .int 1, .ref a6, .int 6, .int 0, .int 1, .int 0])), (a2, .inl (cy 1, 2048, .inl f0))] s.heap.size = A at hD hSK ⊢
  have hA : ∀ q : Nat, s.heap.size ≤ q → A q := fun q h => by rw [← hAe]; exact Or.inr h
  have hS : va_S A s.heap s.heap [] := va_S.rf
  have hP : va_P (dC, dI) vwCl [(a0, .inr (6, [.int 0, .int 0, .ref a1, .int 57, .int 0, .int 4, .int 2, .int 1, .ref a3])), (a1, .inr (5, [.ref cb, .int 81, .int 0, .ref a4, .int 10, .ref a2, .int 3, .ref a5, .int 1, .int 1, .ref a6, .int 6, .int 0, .int 1, .int 0])), (a2, .inl (cy 1, 2048, .inl f0))] s.heap := hP
  have hl := lv_entry ([.ref a0]) (n := 4) (Nat.le_of_ble_eq_true rfl)
  rw [lg_entry_eq]
  generalize (lg_sl ([.ref a0]) ++ List.replicate (4 - (lg_sl ([.ref a0])).length) Slot.unset).toArray = ls at hl ⊢
  replace hl : lv_has ls 4 [(0, .ref a0)] := hl
  refine lv_aload_n hx hb dX6_readInstruction_0 rfl (lv_at hl 0 rfl) ?_
  refine va_get (D := (dC, dI)) (ci := 6) (v := .ref a1) (C := RX6) (T := TX6) (N := 9) hx hb hts iw_X6_readInstruction_X6 hown hK hP 0 rfl rfl 2 (by decide) (hts _ m_X6_readInstruction_1) (fun _ h9 => h9) rfl dX6_readInstruction_1 ?_
  refine lv_aload_n hx hb dX6_readInstruction_4 rfl (lv_at hl 0 rfl) ?_
  refine va_get (D := (dC, dI)) (ci := 6) (v := .int 57) (C := RX6) (T := TX6) (N := 9) hx hb hts iw_X6_readInstruction_X6 hown hK hP 0 rfl rfl 3 (by decide) (hts _ m_X6_readInstruction_2) (fun _ h9 => h9) rfl dX6_readInstruction_5 ?_
  have hPc := hP.sub (ws' := [(a1, .inr (5, [.ref cb, .int 81, .int 0, .ref a4, .int 10, .ref a2, .int 3, .ref a5, .int 1, .int 1, .ref a6, .int 6, .int 0, .int 1, .int 0])), (a2, .inl (cy 1, 2048, .inl f0))]) [1, 2] rfl
  have hDc := hD.sub (ws' := [(a1, .inr (5, [.ref cb, .int 81, .int 0, .ref a4, .int 10, .ref a2, .int 3, .ref a5, .int 1, .int 1, .ref a6, .int 6, .int 0, .int 1, .int 0])), (a2, .inl (cy 1, 2048, .inl f0))]) [1, 2] (by decide) rfl
  have hFc := va_free (wc := [(a1, .inr (5, [.ref cb, .int 81, .int 0, .ref a4, .int 10, .ref a2, .int 3, .ref a5, .int 1, .int 1, .ref a6, .int 6, .int 0, .int 1, .int 0])), (a2, .inl (cy 1, 2048, .inl f0))]) hD hS hA [1, 2] rfl
  refine va_callv (va_runV (As := [.int 57]) (rest := []) ⟨hx, hb, hml, hown, hts⟩ (cc_189_X5_addStart l dC dI cy s.heap.size cb a1 a2 a4 a5 a6 f0) (cwV 1 hts gX6_readInstruction_X5_addStart rfl rfl rfl (by decide +kernel) ⟨Nat.le_of_ble_eq_true rfl, Nat.le_of_ble_eq_true rfl⟩) ⟨fun a U g mk q => by obtain ⟨q0, q1, qP, qK, qD, qN, qS⟩ := q; exact ⟨q0, q1, qP, va_K.moved (u := U) (U := U.calling g mk a) (Vm.Alike.refl U.vm) qK, qD, qN.same rfl, SK.moved (u := U) (U := U.calling g mk a) (Vm.Alike.refl U.vm) qS⟩, va_recv hK hPc (ci := 5) (q0 := 0) rfl rfl, fun U hU hW => ⟨rfl, by rw [hU], by rw [hU]; exact hPc, va_K.moved hW.alike hK, hDc.weaken (fun _ _ _ _ => trivial), hN.warm hW, by rw [hU]; exact ((hSK.kept hS.2.1).narrow hFc).moved hW.alike⟩⟩ rfl rfl hl.1 rfl (lv_room (Nat.le_of_ble_eq_true rfl)) dX6_readInstruction_8 ⟨Nat.le_of_ble_eq_true rfl, Nat.le_of_ble_eq_true rfl⟩) hS (fun q _ h => hFc q h) hFc (fun u t H_1 locs ht hvm hw hB hz1 hk1 hS2 => ?_)
  obtain ⟨g_2, rfl⟩ : ∃ z, z = u := ⟨_, rfl⟩
  obtain ⟨hP1, hK1, hD1⟩ := hB
  rw [ht] at hP1
  obtain ⟨hP2, hD2⟩ := va_join (wr := [(a0, .inr (6, [.int 0, .int 0, .ref a1, .int 57, .int 0, .int 4, .int 2, .int 1, .ref a3]))]) (w1 := [(a1, .inr (5, [.ref cb, .int 81, .int 0, .ref a4, .int 10, .ref a2, .int 4, .ref a5, .int 1, .int 1, .ref a6, .int 6, .int 0, .int 1, .int 0])), (a2, .inl (cy 1, 2048, .inl g_2))]) hP hD [1, 2] [0] rfl rfl (by decide) (by decide) hk1 hFc hP1 hD1
  replace hP : va_P (dC, dI) vwCl [(a0, .inr (6, [.int 0, .int 0, .ref a1, .int 57, .int 0, .int 4, .int 2, .int 1, .ref a3])), (a1, .inr (5, [.ref cb, .int 81, .int 0, .ref a4, .int 10, .ref a2, .int 4, .ref a5, .int 1, .int 1, .ref a6, .int 6, .int 0, .int 1, .int 0])), (a2, .inl (cy 1, 2048, .inl g_2))] H_1 := hP2
  replace hD : va_D A [(a0, .inr (6, [.int 0, .int 0, .ref a1, .int 57, .int 0, .int 4, .int 2, .int 1, .ref a3])), (a1, .inr (5, [.ref cb, .int 81, .int 0, .ref a4, .int 10, .ref a2, .int 4, .ref a5, .int 1, .int 1, .ref a6, .int 6, .int 0, .int 1, .int 0])), (a2, .inl (cy 1, 2048, .inl g_2))] := hD2
  replace hS := hS2
  clear hP2 hD2 hS2
  clear hPc hDc hFc hP1 hD1 hK1 hk1 hz1 hvm ht
  refine W.widen (k := 0) (n := 0) (Nat.le_of_ble_eq_true rfl) (Nat.le_of_ble_eq_true rfl) ?_
  refine lv_aload_n hx hb dX6_readInstruction_11 rfl (lv_at hl 0 rfl) ?_
  refine va_get (D := (dC, dI)) (ci := 6) (v := .int 57) (C := RX6) (T := TX6) (N := 9) hx hb hts iw_X6_readInstruction_X6 hown hK hP 0 rfl rfl 3 (by decide) (hts _ m_X6_readInstruction_2) (fun _ h9 => h9) rfl dX6_readInstruction_12 ?_
  refine lv_istore_n (lv' := [(1, .int 57), (0, .ref a0)]) hx hb dX6_readInstruction_15 rfl hl (by decide) rfl (fun ls hl2 => ?_)
  replace hl := hl2
  clear hl2
  refine lv_aload_n hx hb dX6_readInstruction_16 rfl (lv_at hl 1 rfl) ?_
  have hPc := hP.sub (ws' := [(a0, .inr (6, [.int 0, .int 0, .ref a1, .int 57, .int 0, .int 4, .int 2, .int 1, .ref a3])), (a1, .inr (5, [.ref cb, .int 81, .int 0, .ref a4, .int 10, .ref a2, .int 4, .ref a5, .int 1, .int 1, .ref a6, .int 6, .int 0, .int 1, .int 0]))]) [0, 1] rfl
  have hDc := hD.sub (ws' := [(a0, .inr (6, [.int 0, .int 0, .ref a1, .int 57, .int 0, .int 4, .int 2, .int 1, .ref a3])), (a1, .inr (5, [.ref cb, .int 81, .int 0, .ref a4, .int 10, .ref a2, .int 4, .ref a5, .int 1, .int 1, .ref a6, .int 6, .int 0, .int 1, .int 0]))]) [0, 1] (by decide) rfl
  have hFc := va_free (wc := [(a0, .inr (6, [.int 0, .int 0, .ref a1, .int 57, .int 0, .int 4, .int 2, .int 1, .ref a3])), (a1, .inr (5, [.ref cb, .int 81, .int 0, .ref a4, .int 10, .ref a2, .int 4, .ref a5, .int 1, .int 1, .ref a6, .int 6, .int 0, .int 1, .int 0]))]) hD hS hA [0, 1] rfl
  refine va_calli (va_runV (As := []) (rest := []) ⟨hx, hb, hml, hown, hts⟩ (cc_190_X6_readByte l dC dI cy H_1.size cb a0 a1 a3 a4 a2 a5 a6) (cwV 0 hts gX6_readInstruction_X6_readByte rfl rfl rfl (by decide +kernel) ⟨Nat.le_of_ble_eq_true rfl, Nat.le_of_ble_eq_true rfl⟩) ⟨fun a U g mk q => by obtain ⟨q0, q1, qP, qK, qD, qN, qS⟩ := q; exact ⟨q0, q1, qP, va_K.moved (u := U) (U := U.calling g mk a) (Vm.Alike.refl U.vm) qK, qD, qN.same rfl, SK.moved (u := U) (U := U.calling g mk a) (Vm.Alike.refl U.vm) qS⟩, va_recv hK hPc (ci := 6) (q0 := 0) rfl rfl, fun U hU hW => ⟨rfl, by rw [hU], by rw [hU]; exact hPc, va_K.moved hW.alike hK, hDc.weaken (fun _ _ _ _ => trivial), hN.warm hW, by rw [hU]; exact ((hSK.kept hS.2.1).narrow hFc).moved hW.alike⟩⟩ rfl rfl hl.1 rfl (lv_room (Nat.le_of_ble_eq_true rfl)) dX6_readInstruction_17 ⟨Nat.le_of_ble_eq_true rfl, Nat.le_of_ble_eq_true rfl⟩) hS (fun q _ h => hFc q h) hFc (fun r_3 u t H_4 locs ht hvm hw hB hz1 hk1 hS2 => ?_)
  obtain ⟨hP1, hK1, hD1⟩ := hB
  rw [ht] at hP1
  obtain rfl := hw
  obtain ⟨hP2, hD2⟩ := va_join (wr := [(a2, .inl (cy 1, 2048, .inl g_2))]) (w1 := [(a0, .inr (6, [.int 0, .int 0, .ref a1, .int 58, .int 0, .int 4, .int 2, .int 1, .ref a3])), (a1, .inr (5, [.ref cb, .int 81, .int 0, .ref a4, .int 10, .ref a2, .int 4, .ref a5, .int 1, .int 1, .ref a6, .int 6, .int 0, .int 1, .int 0]))]) hP hD [0, 1] [2] rfl rfl (by decide) (by decide) hk1 hFc hP1 hD1
  replace hP : va_P (dC, dI) vwCl [(a2, .inl (cy 1, 2048, .inl g_2)), (a0, .inr (6, [.int 0, .int 0, .ref a1, .int 58, .int 0, .int 4, .int 2, .int 1, .ref a3])), (a1, .inr (5, [.ref cb, .int 81, .int 0, .ref a4, .int 10, .ref a2, .int 4, .ref a5, .int 1, .int 1, .ref a6, .int 6, .int 0, .int 1, .int 0]))] H_4 := hP2
  replace hD : va_D A [(a2, .inl (cy 1, 2048, .inl g_2)), (a0, .inr (6, [.int 0, .int 0, .ref a1, .int 58, .int 0, .int 4, .int 2, .int 1, .ref a3])), (a1, .inr (5, [.ref cb, .int 81, .int 0, .ref a4, .int 10, .ref a2, .int 4, .ref a5, .int 1, .int 1, .ref a6, .int 6, .int 0, .int 1, .int 0]))] := hD2
  replace hS := hS2
  clear hP2 hD2 hS2
  clear hPc hDc hFc hP1 hD1 hK1 hk1 hz1 hvm ht
  refine W.widen (k := 0) (n := 0) (Nat.le_of_ble_eq_true rfl) (Nat.le_of_ble_eq_true rfl) ?_
  refine lv_istore_n (lv' := [(2, .int 35), (1, .int 57), (0, .ref a0)]) hx hb dX6_readInstruction_20 rfl hl (by decide) rfl (fun ls hl2 => ?_)
  replace hl := hl2
  clear hl2
  refine lv_iload_n hx hb dX6_readInstruction_21 rfl (lv_at hl 0 rfl) ?_
  refine lv_bipush (v := 59) hx hb dX6_readInstruction_22 (by decide) ?_
  refine lv_icmp_le (tgt := 36) hx hb dX6_readInstruction_24 (by decide) (fun _ => ?_) (fun h => absurd (by decide) h)
  refine lv_iload_n hx hb dX6_readInstruction_36 rfl (lv_at hl 0 rfl) ?_
  refine lv_iconst (v := 2) hx hb dX6_readInstruction_37 (by decide) ?_
  refine lv_icmp_lt (tgt := 79) hx hb dX6_readInstruction_38 (by decide) (fun h => absurd h (by decide)) (fun _ => ?_)
  refine lv_iload_n hx hb dX6_readInstruction_41 rfl (lv_at hl 0 rfl) ?_
  refine lv_iconst (v := 4) hx hb dX6_readInstruction_42 (by decide) ?_
  refine lv_icmp_gt (tgt := 79) hx hb dX6_readInstruction_43 (by decide) (fun _ => ?_) (fun h => absurd (by decide) h)
  refine lv_iload_n hx hb dX6_readInstruction_79 rfl (lv_at hl 0 rfl) ?_
  refine lv_iconst (v := 5) hx hb dX6_readInstruction_80 (by decide) ?_
  refine lv_icmp_lt (tgt := 135) hx hb dX6_readInstruction_81 (by decide) (fun h => absurd h (by decide)) (fun _ => ?_)
  refine lv_iload_n hx hb dX6_readInstruction_84 rfl (lv_at hl 0 rfl) ?_
  refine lv_bipush (v := 10) hx hb dX6_readInstruction_85 (by decide) ?_
  refine lv_icmp_gt (tgt := 135) hx hb dX6_readInstruction_87 (by decide) (fun _ => ?_) (fun h => absurd (by decide) h)
  refine lv_iload_n hx hb dX6_readInstruction_135 rfl (lv_at hl 0 rfl) ?_
  refine lv_bipush (v := 11) hx hb dX6_readInstruction_136 (by decide) ?_
  refine lv_icmp_lt (tgt := 161) hx hb dX6_readInstruction_138 (by decide) (fun h => absurd h (by decide)) (fun _ => ?_)
  refine lv_iload_n hx hb dX6_readInstruction_141 rfl (lv_at hl 0 rfl) ?_
  refine lv_bipush (v := 15) hx hb dX6_readInstruction_142 (by decide) ?_
  refine lv_icmp_gt (tgt := 161) hx hb dX6_readInstruction_144 (by decide) (fun _ => ?_) (fun h => absurd (by decide) h)
  refine lv_iload_n hx hb dX6_readInstruction_161 rfl (lv_at hl 0 rfl) ?_
  refine lv_bipush (v := 16) hx hb dX6_readInstruction_162 (by decide) ?_
  refine lv_icmp_eq (tgt := 173) hx hb dX6_readInstruction_164 (by decide) (fun h => absurd h (by decide)) (fun _ => ?_)
  refine lv_iload_n hx hb dX6_readInstruction_167 rfl (lv_at hl 0 rfl) ?_
  refine lv_bipush (v := 17) hx hb dX6_readInstruction_168 (by decide) ?_
  refine lv_icmp_ne (tgt := 196) hx hb dX6_readInstruction_170 (by decide) (fun _ => ?_) (fun h => absurd h (by decide))
  refine lv_iload_n hx hb dX6_readInstruction_196 rfl (lv_at hl 0 rfl) ?_
  refine lv_bipush (v := 21) hx hb dX6_readInstruction_197 (by decide) ?_
  refine lv_icmp_eq (tgt := 220) hx hb dX6_readInstruction_199 (by decide) (fun h => absurd h (by decide)) (fun _ => ?_)
  refine lv_iload_n hx hb dX6_readInstruction_202 rfl (lv_at hl 0 rfl) ?_
  refine lv_bipush (v := 22) hx hb dX6_readInstruction_203 (by decide) ?_
  refine lv_icmp_eq (tgt := 220) hx hb dX6_readInstruction_205 (by decide) (fun h => absurd h (by decide)) (fun _ => ?_)
  refine lv_iload_n hx hb dX6_readInstruction_208 rfl (lv_at hl 0 rfl) ?_
  refine lv_bipush (v := 47) hx hb dX6_readInstruction_209 (by decide) ?_
  refine lv_icmp_lt (tgt := 228) hx hb dX6_readInstruction_211 (by decide) (fun _ => ?_) (fun h => absurd (by decide) h)
  refine lv_iload_n hx hb dX6_readInstruction_228 rfl (lv_at hl 0 rfl) ?_
  refine lv_bipush (v := 23) hx hb dX6_readInstruction_229 (by decide) ?_
  refine lv_icmp_ne (tgt := 259) hx hb dX6_readInstruction_231 (by decide) (fun _ => ?_) (fun h => absurd h (by decide))
  refine lv_iload_n hx hb dX6_readInstruction_259 rfl (lv_at hl 0 rfl) ?_
  refine lv_bipush (v := 52) hx hb dX6_readInstruction_260 (by decide) ?_
  refine lv_icmp_lt (tgt := 299) hx hb dX6_readInstruction_262 (by decide) (fun _ => ?_) (fun h => absurd (by decide) h)
  have hP := hP.sub (ws' := [(a0, .inr (6, [.int 0, .int 0, .ref a1, .int 58, .int 0, .int 4, .int 2, .int 1, .ref a3])), (a1, .inr (5, [.ref cb, .int 81, .int 0, .ref a4, .int 10, .ref a2, .int 4, .ref a5, .int 1, .int 1, .ref a6, .int 6, .int 0, .int 1, .int 0])), (a2, .inl (cy 1, 2048, .inl g_2))]) [1, 2, 0] rfl
  have hD := hD.sub (ws' := [(a0, .inr (6, [.int 0, .int 0, .ref a1, .int 58, .int 0, .int 4, .int 2, .int 1, .ref a3])), (a1, .inr (5, [.ref cb, .int 81, .int 0, .ref a4, .int 10, .ref a2, .int 4, .ref a5, .int 1, .int 1, .ref a6, .int 6, .int 0, .int 1, .int 0])), (a2, .inl (cy 1, 2048, .inl g_2))]) [1, 2, 0] (by decide) rfl
  exact W.vret hx hb hr (fun t ht hW => ⟨⟨(g_2), rfl, trivial, by rw [ht]; exact hP, va_K.moved hW.alike hK, hD⟩, hS.F ht⟩) hS.2.2 dX6_readInstruction_299

set_option maxHeartbeats 4000000 in
set_option maxRecDepth 100000 in
theorem cc_191_X5_setFunction (l : Launch) (dC : Nat → ClassId) (dI : Nat → Nat → Nat) (cy : Nat → ClassId) (sz : Nat) (cb : Nat) (a0 : Nat) (a1 : Nat) (a2 : Nat) (a3 : Nat) (a4 : Nat) (f0 : Nat → Int32)  : Met l yX5_setFunction wsX5_setFunction ({ frames := 0, cells := 0, slots := 0, locals := 0 }) (va_Pc [.ref a0, .int 4, .int 7, .int 0] (fun U => U.heap.size = sz ∧ va_P (dC, dI) vwCl [(a0, .inr (5, [.ref cb, .int 81, .int 0, .ref a2, .int 10, .ref a3, .int 4, .ref a4, .int 1, .int 1, .ref a1, .int 6, .int 0, .int 1, .int 0])), (a1, .inl (cy 1, 864, .inl f0))] U.heap ∧ va_K (dC, dI) vwCl (TYS cy) U ∧ va_D (fun _ => True) [(a0, .inr (5, [.ref cb, .int 81, .int 0, .ref a2, .int 10, .ref a3, .int 4, .ref a4, .int 1, .int 1, .ref a1, .int 6, .int 0, .int 1, .int 0])), (a1, .inl (cy 1, 864, .inl f0))] ∧ NK U ∧ SK cb (va_A [(a0, .inr (5, [.ref cb, .int 81, .int 0, .ref a2, .int 10, .ref a3, .int 4, .ref a4, .int 1, .int 1, .ref a1, .int 6, .int 0, .int 1, .int 0])), (a1, .inl (cy 1, 864, .inl f0))] sz) U U.heap)) (va_Qv (fun u : (Nat → Int32) => True) (fun u t => match u with | (u0) => va_P (dC, dI) vwCl [(a0, .inr (5, [.ref cb, .int 81, .int 0, .ref a2, .int 10, .ref a3, .int 4, .ref a4, .int 1, .int 1, .ref a1, .int 6, .int 0, .int 1, .int 0])), (a1, .inl (cy 1, 864, .inl u0))] t.heap ∧ va_K (dC, dI) vwCl (TYS cy) t ∧ va_D (va_A [(a0, .inr (5, [.ref cb, .int 81, .int 0, .ref a2, .int 10, .ref a3, .int 4, .ref a4, .int 1, .int 1, .ref a1, .int 6, .int 0, .int 1, .int 0])), (a1, .inl (cy 1, 864, .inl f0))] sz) [(a0, .inr (5, [.ref cb, .int 81, .int 0, .ref a2, .int 10, .ref a3, .int 4, .ref a4, .int 1, .int 1, .ref a1, .int 6, .int 0, .int 1, .int 0])), (a1, .inl (cy 1, 864, .inl u0))]) (va_A [(a0, .inr (5, [.ref cb, .int 81, .int 0, .ref a2, .int 10, .ref a3, .int 4, .ref a4, .int 1, .int 1, .ref a1, .int 6, .int 0, .int 1, .int 0])), (a1, .inl (cy 1, 864, .inl f0))] sz)) 0 0 (va_A [(a0, .inr (5, [.ref cb, .int 81, .int 0, .ref a2, .int 10, .ref a3, .int 4, .ref a4, .int 1, .int 1, .ref a1, .int 6, .int 0, .int 1, .int 0])), (a1, .inl (cy 1, 864, .inl f0))] sz) := by
  refine Met.ofW (cc := cX5_setFunction) (maxL := 4) (ret := none) (by decide) rfl ?_
  intro p e s m args below meth c s₁ B hml hv
  obtain ⟨rfl, hsz, hP, hK, hD0, hN, hSK⟩ := hv
  have hx := B.exec
  have hb := B.bytes
  have hr := B.returns
  have hts := atoms_spec (ws := wsX5_setFunction) B.pre
  have hown : s.vm.findClass RX5 = some m.cls := findClass_of_methodNamed B.named
  have hlocks := B.notSynchronized
  subst hsz
  have hD := hD0.self (sz := s.heap.size)
  generalize hAe : va_A [(a0, .inr (5, [.ref cb, .int 81, .int 0, .ref a2, .int 10, .ref a3, .int 4, .ref a4, .int 1, .int 1, .ref a1, .int 6, .int 0, .int 1, .int 0])), (a1, .inl (cy 1, 864, .inl f0))] s.heap.size = A at hD hSK ⊢
  have hA : ∀ q : Nat, s.heap.size ≤ q → A q := fun q h => by rw [← hAe]; exact Or.inr h
  have hS : va_S A s.heap s.heap [] := va_S.rf
  have hP : va_P (dC, dI) vwCl [(a0, .inr (5, [.ref cb, .int 81, .int 0, .ref a2, .int 10, .ref a3, .int 4, .ref a4, .int 1, .int 1, .ref a1, .int 6, .int 0, .int 1, .int 0])), (a1, .inl (cy 1, 864, .inl f0))] s.heap := hP
  have hl := lv_entry ([.ref a0, .int 4, .int 7, .int 0]) (n := 4) (Nat.le_of_ble_eq_true rfl)
  rw [lg_entry_eq]
  generalize (lg_sl ([.ref a0, .int 4, .int 7, .int 0]) ++ List.replicate (4 - (lg_sl ([.ref a0, .int 4, .int 7, .int 0])).length) Slot.unset).toArray = ls at hl ⊢
  replace hl : lv_has ls 4 [(0, .ref a0), (1, .int 4), (2, .int 7), (3, .int 0)] := hl
  refine lv_iload_n hx hb dX5_setFunction_0 rfl (lv_at hl 1 rfl) ?_
  refine lv_if_lt (tgt := 22) hx hb dX5_setFunction_1 (by decide) (fun h => absurd h (by decide)) (fun _ => ?_)
  refine lv_iload_n hx hb dX5_setFunction_4 rfl (lv_at hl 1 rfl) ?_
  refine lv_bipush (v := 96) hx hb dX5_setFunction_5 (by decide) ?_
  refine lv_icmp_ge (tgt := 22) hx hb dX5_setFunction_7 (by decide) (fun h => absurd h (by decide)) (fun _ => ?_)
  refine lv_aload_n hx hb dX5_setFunction_10 rfl (lv_at hl 0 rfl) ?_
  refine va_get (D := (dC, dI)) (ci := 5) (v := .ref a1) (C := RX5) (T := TX5) (N := 15) hx hb hts iw_X5_setFunction_X5 hown hK hP 0 rfl rfl 10 (by decide) (hts _ m_X5_setFunction_1) (fun _ h9 => h9) rfl dX5_setFunction_11 ?_
  refine lv_iload_n hx hb dX5_setFunction_14 rfl (lv_at hl 1 rfl) ?_
  refine lv_bipush (v := 9) hx hb dX5_setFunction_15 (by decide) ?_
  refine lv_imul hx hb dX5_setFunction_17 ?_
  refine lv_topi (fun z_1 ez_1 => ?_)
  obtain rfl : z_1 = 36 := ez_1.trans (by decide)
  clear ez_1
  refine lv_iload_n hx hb dX5_setFunction_18 rfl (lv_at hl 2 rfl) ?_
  refine lv_iadd hx hb dX5_setFunction_19 ?_
  refine lv_topi (fun z_2 ez_2 => ?_)
  obtain rfl : z_2 = 43 := ez_2.trans (by decide)
  clear ez_2
  refine lv_iload_n hx hb dX5_setFunction_20 rfl (lv_at hl 3 rfl) ?_
  refine va_iast hx hb hK hP hD hS 1 1 rfl rfl (by unfold vp_in; decide) dX5_setFunction_21 (fun H_4 locs hP2 hD2 hS2 => ?_)
  replace hP : va_P (dC, dI) vwCl [(a0, .inr (5, [.ref cb, .int 81, .int 0, .ref a2, .int 10, .ref a3, .int 4, .ref a4, .int 1, .int 1, .ref a1, .int 6, .int 0, .int 1, .int 0])), (a1, .inl (cy 1, 864, .inl (upd f0 43 0)))] H_4 := hP2
  replace hD : va_D A [(a0, .inr (5, [.ref cb, .int 81, .int 0, .ref a2, .int 10, .ref a3, .int 4, .ref a4, .int 1, .int 1, .ref a1, .int 6, .int 0, .int 1, .int 0])), (a1, .inl (cy 1, 864, .inl (upd f0 43 0)))] := hD2
  replace hS := hS2
  clear hP2 hD2 hS2
  obtain ⟨g_3, eg_3⟩ : ∃ z, upd f0 43 0 = z := ⟨_, rfl⟩
  rw [eg_3] at hP hD
  exact W.vret hx hb hr (fun t ht hW => ⟨⟨(g_3), rfl, trivial, by rw [ht]; exact hP, va_K.moved hW.alike hK, hD⟩, hS.F ht⟩) hS.2.2 dX5_setFunction_22

set_option maxHeartbeats 4000000 in
set_option maxRecDepth 100000 in
theorem cc_192_X5_setFunction (l : Launch) (dC : Nat → ClassId) (dI : Nat → Nat → Nat) (cy : Nat → ClassId) (sz : Nat) (cb : Nat) (a0 : Nat) (a1 : Nat) (a2 : Nat) (a3 : Nat) (a4 : Nat) (f0 : Nat → Int32)  : Met l yX5_setFunction wsX5_setFunction ({ frames := 0, cells := 0, slots := 0, locals := 0 }) (va_Pc [.ref a0, .int 4, .int 8, .int 4] (fun U => U.heap.size = sz ∧ va_P (dC, dI) vwCl [(a0, .inr (5, [.ref cb, .int 81, .int 0, .ref a2, .int 10, .ref a3, .int 4, .ref a4, .int 1, .int 1, .ref a1, .int 6, .int 0, .int 1, .int 0])), (a1, .inl (cy 1, 864, .inl f0))] U.heap ∧ va_K (dC, dI) vwCl (TYS cy) U ∧ va_D (fun _ => True) [(a0, .inr (5, [.ref cb, .int 81, .int 0, .ref a2, .int 10, .ref a3, .int 4, .ref a4, .int 1, .int 1, .ref a1, .int 6, .int 0, .int 1, .int 0])), (a1, .inl (cy 1, 864, .inl f0))] ∧ NK U ∧ SK cb (va_A [(a0, .inr (5, [.ref cb, .int 81, .int 0, .ref a2, .int 10, .ref a3, .int 4, .ref a4, .int 1, .int 1, .ref a1, .int 6, .int 0, .int 1, .int 0])), (a1, .inl (cy 1, 864, .inl f0))] sz) U U.heap)) (va_Qv (fun u : (Nat → Int32) => True) (fun u t => match u with | (u0) => va_P (dC, dI) vwCl [(a0, .inr (5, [.ref cb, .int 81, .int 0, .ref a2, .int 10, .ref a3, .int 4, .ref a4, .int 1, .int 1, .ref a1, .int 6, .int 0, .int 1, .int 0])), (a1, .inl (cy 1, 864, .inl u0))] t.heap ∧ va_K (dC, dI) vwCl (TYS cy) t ∧ va_D (va_A [(a0, .inr (5, [.ref cb, .int 81, .int 0, .ref a2, .int 10, .ref a3, .int 4, .ref a4, .int 1, .int 1, .ref a1, .int 6, .int 0, .int 1, .int 0])), (a1, .inl (cy 1, 864, .inl f0))] sz) [(a0, .inr (5, [.ref cb, .int 81, .int 0, .ref a2, .int 10, .ref a3, .int 4, .ref a4, .int 1, .int 1, .ref a1, .int 6, .int 0, .int 1, .int 0])), (a1, .inl (cy 1, 864, .inl u0))]) (va_A [(a0, .inr (5, [.ref cb, .int 81, .int 0, .ref a2, .int 10, .ref a3, .int 4, .ref a4, .int 1, .int 1, .ref a1, .int 6, .int 0, .int 1, .int 0])), (a1, .inl (cy 1, 864, .inl f0))] sz)) 0 0 (va_A [(a0, .inr (5, [.ref cb, .int 81, .int 0, .ref a2, .int 10, .ref a3, .int 4, .ref a4, .int 1, .int 1, .ref a1, .int 6, .int 0, .int 1, .int 0])), (a1, .inl (cy 1, 864, .inl f0))] sz) := by
  refine Met.ofW (cc := cX5_setFunction) (maxL := 4) (ret := none) (by decide) rfl ?_
  intro p e s m args below meth c s₁ B hml hv
  obtain ⟨rfl, hsz, hP, hK, hD0, hN, hSK⟩ := hv
  have hx := B.exec
  have hb := B.bytes
  have hr := B.returns
  have hts := atoms_spec (ws := wsX5_setFunction) B.pre
  have hown : s.vm.findClass RX5 = some m.cls := findClass_of_methodNamed B.named
  have hlocks := B.notSynchronized
  subst hsz
  have hD := hD0.self (sz := s.heap.size)
  generalize hAe : va_A [(a0, .inr (5, [.ref cb, .int 81, .int 0, .ref a2, .int 10, .ref a3, .int 4, .ref a4, .int 1, .int 1, .ref a1, .int 6, .int 0, .int 1, .int 0])), (a1, .inl (cy 1, 864, .inl f0))] s.heap.size = A at hD hSK ⊢
  have hA : ∀ q : Nat, s.heap.size ≤ q → A q := fun q h => by rw [← hAe]; exact Or.inr h
  have hS : va_S A s.heap s.heap [] := va_S.rf
  have hP : va_P (dC, dI) vwCl [(a0, .inr (5, [.ref cb, .int 81, .int 0, .ref a2, .int 10, .ref a3, .int 4, .ref a4, .int 1, .int 1, .ref a1, .int 6, .int 0, .int 1, .int 0])), (a1, .inl (cy 1, 864, .inl f0))] s.heap := hP
  have hl := lv_entry ([.ref a0, .int 4, .int 8, .int 4]) (n := 4) (Nat.le_of_ble_eq_true rfl)
  rw [lg_entry_eq]
  generalize (lg_sl ([.ref a0, .int 4, .int 8, .int 4]) ++ List.replicate (4 - (lg_sl ([.ref a0, .int 4, .int 8, .int 4])).length) Slot.unset).toArray = ls at hl ⊢
  replace hl : lv_has ls 4 [(0, .ref a0), (1, .int 4), (2, .int 8), (3, .int 4)] := hl
  refine lv_iload_n hx hb dX5_setFunction_0 rfl (lv_at hl 1 rfl) ?_
  refine lv_if_lt (tgt := 22) hx hb dX5_setFunction_1 (by decide) (fun h => absurd h (by decide)) (fun _ => ?_)
  refine lv_iload_n hx hb dX5_setFunction_4 rfl (lv_at hl 1 rfl) ?_
  refine lv_bipush (v := 96) hx hb dX5_setFunction_5 (by decide) ?_
  refine lv_icmp_ge (tgt := 22) hx hb dX5_setFunction_7 (by decide) (fun h => absurd h (by decide)) (fun _ => ?_)
  refine lv_aload_n hx hb dX5_setFunction_10 rfl (lv_at hl 0 rfl) ?_
  refine va_get (D := (dC, dI)) (ci := 5) (v := .ref a1) (C := RX5) (T := TX5) (N := 15) hx hb hts iw_X5_setFunction_X5 hown hK hP 0 rfl rfl 10 (by decide) (hts _ m_X5_setFunction_1) (fun _ h9 => h9) rfl dX5_setFunction_11 ?_
  refine lv_iload_n hx hb dX5_setFunction_14 rfl (lv_at hl 1 rfl) ?_
  refine lv_bipush (v := 9) hx hb dX5_setFunction_15 (by decide) ?_
  refine lv_imul hx hb dX5_setFunction_17 ?_
  refine lv_topi (fun z_1 ez_1 => ?_)
  obtain rfl : z_1 = 36 := ez_1.trans (by decide)
  clear ez_1
  refine lv_iload_n hx hb dX5_setFunction_18 rfl (lv_at hl 2 rfl) ?_
  refine lv_iadd hx hb dX5_setFunction_19 ?_
  refine lv_topi (fun z_2 ez_2 => ?_)
  obtain rfl : z_2 = 44 := ez_2.trans (by decide)
  clear ez_2
  refine lv_iload_n hx hb dX5_setFunction_20 rfl (lv_at hl 3 rfl) ?_
  refine va_iast hx hb hK hP hD hS 1 1 rfl rfl (by unfold vp_in; decide) dX5_setFunction_21 (fun H_4 locs hP2 hD2 hS2 => ?_)
  replace hP : va_P (dC, dI) vwCl [(a0, .inr (5, [.ref cb, .int 81, .int 0, .ref a2, .int 10, .ref a3, .int 4, .ref a4, .int 1, .int 1, .ref a1, .int 6, .int 0, .int 1, .int 0])), (a1, .inl (cy 1, 864, .inl (upd f0 44 4)))] H_4 := hP2
  replace hD : va_D A [(a0, .inr (5, [.ref cb, .int 81, .int 0, .ref a2, .int 10, .ref a3, .int 4, .ref a4, .int 1, .int 1, .ref a1, .int 6, .int 0, .int 1, .int 0])), (a1, .inl (cy 1, 864, .inl (upd f0 44 4)))] := hD2
  replace hS := hS2
  clear hP2 hD2 hS2
  obtain ⟨g_3, eg_3⟩ : ∃ z, upd f0 44 4 = z := ⟨_, rfl⟩
  rw [eg_3] at hP hD
  exact W.vret hx hb hr (fun t ht hW => ⟨⟨(g_3), rfl, trivial, by rw [ht]; exact hP, va_K.moved hW.alike hK, hD⟩, hS.F ht⟩) hS.2.2 dX5_setFunction_22

set_option maxHeartbeats 4000000 in
set_option maxRecDepth 100000 in
theorem cc_194_X6_readByte (l : Launch) (dC : Nat → ClassId) (dI : Nat → Nat → Nat) (cy : Nat → ClassId) (sz : Nat) (cb : Nat) (a0 : Nat) (a1 : Nat) (a2 : Nat) (a3 : Nat) (a4 : Nat) (a5 : Nat) (a6 : Nat)  : Met l yX6_readByte wsX6_readByte ({ frames := 0, cells := 0, slots := 0, locals := 0 }) (va_Pc [.ref a0] (fun U => U.heap.size = sz ∧ va_P (dC, dI) vwCl [(a0, .inr (6, [.int 0, .int 0, .ref a1, .int 58, .int 0, .int 4, .int 2, .int 1, .ref a2])), (a1, .inr (5, [.ref cb, .int 81, .int 0, .ref a3, .int 10, .ref a4, .int 4, .ref a5, .int 1, .int 1, .ref a6, .int 6, .int 0, .int 1, .int 0]))] U.heap ∧ va_K (dC, dI) vwCl (TYS cy) U ∧ va_D (fun _ => True) [(a0, .inr (6, [.int 0, .int 0, .ref a1, .int 58, .int 0, .int 4, .int 2, .int 1, .ref a2])), (a1, .inr (5, [.ref cb, .int 81, .int 0, .ref a3, .int 10, .ref a4, .int 4, .ref a5, .int 1, .int 1, .ref a6, .int 6, .int 0, .int 1, .int 0]))] ∧ NK U ∧ SK cb (va_A [(a0, .inr (6, [.int 0, .int 0, .ref a1, .int 58, .int 0, .int 4, .int 2, .int 1, .ref a2])), (a1, .inr (5, [.ref cb, .int 81, .int 0, .ref a3, .int 10, .ref a4, .int 4, .ref a5, .int 1, .int 1, .ref a6, .int 6, .int 0, .int 1, .int 0]))] sz) U U.heap)) (va_Qi (fun (r : Int32) (u : Unit) => r = 1) (fun u t => va_P (dC, dI) vwCl [(a0, .inr (6, [.int 0, .int 0, .ref a1, .int 59, .int 0, .int 4, .int 2, .int 1, .ref a2])), (a1, .inr (5, [.ref cb, .int 81, .int 0, .ref a3, .int 10, .ref a4, .int 4, .ref a5, .int 1, .int 1, .ref a6, .int 6, .int 0, .int 1, .int 0]))] t.heap ∧ va_K (dC, dI) vwCl (TYS cy) t ∧ va_D (va_A [(a0, .inr (6, [.int 0, .int 0, .ref a1, .int 58, .int 0, .int 4, .int 2, .int 1, .ref a2])), (a1, .inr (5, [.ref cb, .int 81, .int 0, .ref a3, .int 10, .ref a4, .int 4, .ref a5, .int 1, .int 1, .ref a6, .int 6, .int 0, .int 1, .int 0]))] sz) [(a0, .inr (6, [.int 0, .int 0, .ref a1, .int 59, .int 0, .int 4, .int 2, .int 1, .ref a2])), (a1, .inr (5, [.ref cb, .int 81, .int 0, .ref a3, .int 10, .ref a4, .int 4, .ref a5, .int 1, .int 1, .ref a6, .int 6, .int 0, .int 1, .int 0]))]) (va_A [(a0, .inr (6, [.int 0, .int 0, .ref a1, .int 58, .int 0, .int 4, .int 2, .int 1, .ref a2])), (a1, .inr (5, [.ref cb, .int 81, .int 0, .ref a3, .int 10, .ref a4, .int 4, .ref a5, .int 1, .int 1, .ref a6, .int 6, .int 0, .int 1, .int 0]))] sz)) 0 0 (va_A [(a0, .inr (6, [.int 0, .int 0, .ref a1, .int 58, .int 0, .int 4, .int 2, .int 1, .ref a2])), (a1, .inr (5, [.ref cb, .int 81, .int 0, .ref a3, .int 10, .ref a4, .int 4, .ref a5, .int 1, .int 1, .ref a6, .int 6, .int 0, .int 1, .int 0]))] sz) := by
  refine Met.ofW (cc := cX6_readByte) (maxL := 1) (ret := (some .int)) (by decide) rfl ?_
  intro p e s m args below meth c s₁ B hml hv
  obtain ⟨rfl, hsz, hP, hK, hD0, hN, hSK⟩ := hv
  have hx := B.exec
  have hb := B.bytes
  have hr := B.returns
  have hts := atoms_spec (ws := wsX6_readByte) B.pre
  have hown : s.vm.findClass RX6 = some m.cls := findClass_of_methodNamed B.named
  have hlocks := B.notSynchronized
  subst hsz
  have hD := hD0.self (sz := s.heap.size)
  generalize hAe : va_A [(a0, .inr (6, [.int 0, .int 0, .ref a1, .int 58, .int 0, .int 4, .int 2, .int 1, .ref a2])), (a1, .inr (5, [.ref cb, .int 81, .int 0, .ref a3, .int 10, .ref a4, .int 4, .ref a5, .int 1, .int 1, .ref a6, .int 6, .int 0, .int 1, .int 0]))] s.heap.size = A at hD hSK ⊢
  have hA : ∀ q : Nat, s.heap.size ≤ q → A q := fun q h => by rw [← hAe]; exact Or.inr h
  have hS : va_S A s.heap s.heap [] := va_S.rf
  have hP : va_P (dC, dI) vwCl [(a0, .inr (6, [.int 0, .int 0, .ref a1, .int 58, .int 0, .int 4, .int 2, .int 1, .ref a2])), (a1, .inr (5, [.ref cb, .int 81, .int 0, .ref a3, .int 10, .ref a4, .int 4, .ref a5, .int 1, .int 1, .ref a6, .int 6, .int 0, .int 1, .int 0]))] s.heap := hP
  have hl := lv_entry ([.ref a0]) (n := 1) (Nat.le_of_ble_eq_true rfl)
  rw [lg_entry_eq]
  generalize (lg_sl ([.ref a0]) ++ List.replicate (1 - (lg_sl ([.ref a0])).length) Slot.unset).toArray = ls at hl ⊢
  replace hl : lv_has ls 1 [(0, .ref a0)] := hl
  refine lv_aload_n hx hb dX6_readByte_0 rfl (lv_at hl 0 rfl) ?_
  refine va_get (D := (dC, dI)) (ci := 6) (v := .int 0) (C := RX6) (T := TX6) (N := 9) hx hb hts iw_X6_readByte_X6 hown hK hP 0 rfl rfl 1 (by decide) (hts _ m_X6_readByte_1) (fun _ h9 => h9) rfl dX6_readByte_1 ?_
  refine lv_if_eq (tgt := 9) hx hb dX6_readByte_4 (by decide) (fun _ => ?_) (fun h => absurd (by decide) h)
  refine lv_aload_n hx hb dX6_readByte_9 rfl (lv_at hl 0 rfl) ?_
  refine va_get (D := (dC, dI)) (ci := 6) (v := .int 58) (C := RX6) (T := TX6) (N := 9) hx hb hts iw_X6_readByte_X6 hown hK hP 0 rfl rfl 3 (by decide) (hts _ m_X6_readByte_2) (fun _ h9 => h9) rfl dX6_readByte_10 ?_
  refine lv_aload_n hx hb dX6_readByte_13 rfl (lv_at hl 0 rfl) ?_
  refine va_get (D := (dC, dI)) (ci := 6) (v := .ref a1) (C := RX6) (T := TX6) (N := 9) hx hb hts iw_X6_readByte_X6 hown hK hP 0 rfl rfl 2 (by decide) (hts _ m_X6_readByte_3) (fun _ h9 => h9) rfl dX6_readByte_14 ?_
  refine va_get (D := (dC, dI)) (ci := 5) (v := .int 81) (C := RX5) (T := TX5) (N := 15) hx hb hts iw_X6_readByte_X5 hown hK hP 1 rfl rfl 1 (by decide) (hts _ m_X6_readByte_4) (fun _ h9 => h9) rfl dX6_readByte_17 ?_
  refine lv_icmp_lt (tgt := 41) hx hb dX6_readByte_20 (by decide) (fun _ => ?_) (fun h => absurd (by decide) h)
  refine lv_aload_n hx hb dX6_readByte_41 rfl (lv_at hl 0 rfl) ?_
  refine va_get (D := (dC, dI)) (ci := 6) (v := .ref a1) (C := RX6) (T := TX6) (N := 9) hx hb hts iw_X6_readByte_X6 hown hK hP 0 rfl rfl 2 (by decide) (hts _ m_X6_readByte_3) (fun _ h9 => h9) rfl dX6_readByte_42 ?_
  refine va_get (D := (dC, dI)) (ci := 5) (v := .ref cb) (C := RX5) (T := TX5) (N := 15) hx hb hts iw_X6_readByte_X5 hown hK hP 1 rfl rfl 0 (by decide) (hts _ m_X6_readByte_6) (fun _ h9 => h9) rfl dX6_readByte_45 ?_
  refine lv_aload_n hx hb dX6_readByte_48 rfl (lv_at hl 0 rfl) ?_
  refine lv_dup hx hb dX6_readByte_49 rfl ?_
  refine va_get (D := (dC, dI)) (ci := 6) (v := .int 58) (C := RX6) (T := TX6) (N := 9) hx hb hts iw_X6_readByte_X6 hown hK hP 0 rfl rfl 3 (by decide) (hts _ m_X6_readByte_2) (fun _ h9 => h9) rfl dX6_readByte_50 ?_
  refine lv_dup_x1 hx hb dX6_readByte_53 rfl rfl ?_
  refine lv_iconst (v := 1) hx hb dX6_readByte_54 (by decide) ?_
  refine lv_iadd hx hb dX6_readByte_55 ?_
  refine lv_topi (fun z_1 ez_1 => ?_)
  obtain rfl : z_1 = 59 := ez_1.trans (by decide)
  clear ez_1
  refine va_put (D := (dC, dI)) (ci := 6) (v := .int 59) (ty := .int) (C := RX6) (T := TX6) (N := 9) hx hb hts iw_X6_readByte_X6 tyX6 tyX6_ok nmX6 hown hK hP hD hS 0 rfl rfl 3 (by decide) (hts _ m_X6_readByte_2) (fun _ h9 => h9) rfl (by decide +kernel) rfl rfl (Nat.le_of_ble_eq_true rfl) dX6_readByte_56 (fun H_2 locs hP2 hD2 hS2 => ?_)
  replace hP : va_P (dC, dI) vwCl [(a0, .inr (6, [.int 0, .int 0, .ref a1, .int 59, .int 0, .int 4, .int 2, .int 1, .ref a2])), (a1, .inr (5, [.ref cb, .int 81, .int 0, .ref a3, .int 10, .ref a4, .int 4, .ref a5, .int 1, .int 1, .ref a6, .int 6, .int 0, .int 1, .int 0]))] H_2 := hP2
  replace hD : va_D A [(a0, .inr (6, [.int 0, .int 0, .ref a1, .int 59, .int 0, .int 4, .int 2, .int 1, .ref a2])), (a1, .inr (5, [.ref cb, .int 81, .int 0, .ref a3, .int 10, .ref a4, .int 4, .ref a5, .int 1, .int 1, .ref a6, .int 6, .int 0, .int 1, .int 0]))] := hD2
  replace hS := hS2
  clear hP2 hD2 hS2
  refine va_tb (v := .int 1) hx hb hSK.2 hS (by unfold vp_in; decide) rfl dX6_readByte_59 ?_
  refine lv_sipush (v := 255) hx hb dX6_readByte_60 (by decide) ?_
  refine lv_iand hx hb dX6_readByte_63 ?_
  refine lv_topi (fun z_3 ez_3 => ?_)
  obtain rfl : z_3 = 1 := ez_3.trans (by decide)
  clear ez_3
  exact W.iret hx hb hr (fun t ht hW => ⟨⟨1, (), rfl, rfl, by rw [ht]; exact hP, va_K.moved hW.alike hK, hD⟩, hS.F ht⟩) hS.2.2 dX6_readByte_64

set_option maxHeartbeats 4000000 in
set_option maxRecDepth 100000 in
theorem cc_193_X6_readNumber (l : Launch) (dC : Nat → ClassId) (dI : Nat → Nat → Nat) (cy : Nat → ClassId) (sz : Nat) (cb : Nat) (a0 : Nat) (a1 : Nat) (a2 : Nat) (a3 : Nat) (a4 : Nat) (a5 : Nat) (a6 : Nat)  : Met l yX6_readNumber wsX6_readNumber ({ frames := 1, cells := 0, slots := 0, locals := 20 }) (va_Pc [.ref a0, .int 0, .int 7] (fun U => U.heap.size = sz ∧ va_P (dC, dI) vwCl [(a0, .inr (6, [.int 0, .int 0, .ref a1, .int 58, .int 0, .int 4, .int 2, .int 1, .ref a2])), (a1, .inr (5, [.ref cb, .int 81, .int 0, .ref a3, .int 10, .ref a4, .int 4, .ref a5, .int 1, .int 1, .ref a6, .int 6, .int 0, .int 1, .int 0]))] U.heap ∧ va_K (dC, dI) vwCl (TYS cy) U ∧ va_D (fun _ => True) [(a0, .inr (6, [.int 0, .int 0, .ref a1, .int 58, .int 0, .int 4, .int 2, .int 1, .ref a2])), (a1, .inr (5, [.ref cb, .int 81, .int 0, .ref a3, .int 10, .ref a4, .int 4, .ref a5, .int 1, .int 1, .ref a6, .int 6, .int 0, .int 1, .int 0]))] ∧ NK U ∧ SK cb (va_A [(a0, .inr (6, [.int 0, .int 0, .ref a1, .int 58, .int 0, .int 4, .int 2, .int 1, .ref a2])), (a1, .inr (5, [.ref cb, .int 81, .int 0, .ref a3, .int 10, .ref a4, .int 4, .ref a5, .int 1, .int 1, .ref a6, .int 6, .int 0, .int 1, .int 0]))] sz) U U.heap)) (va_Qi (fun (r : Int32) (u : Unit) => r = 1) (fun u t => va_P (dC, dI) vwCl [(a0, .inr (6, [.int 0, .int 0, .ref a1, .int 59, .int 0, .int 4, .int 2, .int 1, .ref a2])), (a1, .inr (5, [.ref cb, .int 81, .int 0, .ref a3, .int 10, .ref a4, .int 4, .ref a5, .int 1, .int 1, .ref a6, .int 6, .int 0, .int 1, .int 0]))] t.heap ∧ va_K (dC, dI) vwCl (TYS cy) t ∧ va_D (va_A [(a0, .inr (6, [.int 0, .int 0, .ref a1, .int 58, .int 0, .int 4, .int 2, .int 1, .ref a2])), (a1, .inr (5, [.ref cb, .int 81, .int 0, .ref a3, .int 10, .ref a4, .int 4, .ref a5, .int 1, .int 1, .ref a6, .int 6, .int 0, .int 1, .int 0]))] sz) [(a0, .inr (6, [.int 0, .int 0, .ref a1, .int 59, .int 0, .int 4, .int 2, .int 1, .ref a2])), (a1, .inr (5, [.ref cb, .int 81, .int 0, .ref a3, .int 10, .ref a4, .int 4, .ref a5, .int 1, .int 1, .ref a6, .int 6, .int 0, .int 1, .int 0]))]) (va_A [(a0, .inr (6, [.int 0, .int 0, .ref a1, .int 58, .int 0, .int 4, .int 2, .int 1, .ref a2])), (a1, .inr (5, [.ref cb, .int 81, .int 0, .ref a3, .int 10, .ref a4, .int 4, .ref a5, .int 1, .int 1, .ref a6, .int 6, .int 0, .int 1, .int 0]))] sz)) 0 0 (va_A [(a0, .inr (6, [.int 0, .int 0, .ref a1, .int 58, .int 0, .int 4, .int 2, .int 1, .ref a2])), (a1, .inr (5, [.ref cb, .int 81, .int 0, .ref a3, .int 10, .ref a4, .int 4, .ref a5, .int 1, .int 1, .ref a6, .int 6, .int 0, .int 1, .int 0]))] sz) := by
  refine Met.ofW (cc := cX6_readNumber) (maxL := 5) (ret := (some .int)) (by decide) rfl ?_
  intro p e s m args below meth c s₁ B hml hv
  obtain ⟨rfl, hsz, hP, hK, hD0, hN, hSK⟩ := hv
  have hx := B.exec
  have hb := B.bytes
  have hr := B.returns
  have hts := atoms_spec (ws := wsX6_readNumber) B.pre
  have hown : s.vm.findClass RX6 = some m.cls := findClass_of_methodNamed B.named
  have hlocks := B.notSynchronized
  subst hsz
  have hD := hD0.self (sz := s.heap.size)
  generalize hAe : va_A [(a0, .inr (6, [.int 0, .int 0, .ref a1, .int 58, .int 0, .int 4, .int 2, .int 1, .ref a2])), (a1, .inr (5, [.ref cb, .int 81, .int 0, .ref a3, .int 10, .ref a4, .int 4, .ref a5, .int 1, .int 1, .ref a6, .int 6, .int 0, .int 1, .int 0]))] s.heap.size = A at hD hSK ⊢
  have hA : ∀ q : Nat, s.heap.size ≤ q → A q := fun q h => by rw [← hAe]; exact Or.inr h
  have hS : va_S A s.heap s.heap [] := va_S.rf
  have hP : va_P (dC, dI) vwCl [(a0, .inr (6, [.int 0, .int 0, .ref a1, .int 58, .int 0, .int 4, .int 2, .int 1, .ref a2])), (a1, .inr (5, [.ref cb, .int 81, .int 0, .ref a3, .int 10, .ref a4, .int 4, .ref a5, .int 1, .int 1, .ref a6, .int 6, .int 0, .int 1, .int 0]))] s.heap := hP
  have hl := lv_entry ([.ref a0, .int 0, .int 7]) (n := 5) (Nat.le_of_ble_eq_true rfl)
  rw [lg_entry_eq]
  generalize (lg_sl ([.ref a0, .int 0, .int 7]) ++ List.replicate (5 - (lg_sl ([.ref a0, .int 0, .int 7])).length) Slot.unset).toArray = ls at hl ⊢
  replace hl : lv_has ls 5 [(0, .ref a0), (1, .int 0), (2, .int 7)] := hl
  refine lv_aload_n hx hb dX6_readNumber_0 rfl (lv_at hl 0 rfl) ?_
  refine va_get (D := (dC, dI)) (ci := 6) (v := .int 58) (C := RX6) (T := TX6) (N := 9) hx hb hts iw_X6_readNumber_X6 hown hK hP 0 rfl rfl 3 (by decide) (hts _ m_X6_readNumber_1) (fun _ h9 => h9) rfl dX6_readNumber_1 ?_
  refine lv_istore_n (lv' := [(3, .int 58), (0, .ref a0), (1, .int 0), (2, .int 7)]) hx hb dX6_readNumber_4 rfl hl (by decide) rfl (fun ls hl2 => ?_)
  replace hl := hl2
  clear hl2
  refine lv_aload_n hx hb dX6_readNumber_5 rfl (lv_at hl 1 rfl) ?_
  have hPc := hP.sub (ws' := [(a0, .inr (6, [.int 0, .int 0, .ref a1, .int 58, .int 0, .int 4, .int 2, .int 1, .ref a2])), (a1, .inr (5, [.ref cb, .int 81, .int 0, .ref a3, .int 10, .ref a4, .int 4, .ref a5, .int 1, .int 1, .ref a6, .int 6, .int 0, .int 1, .int 0]))]) [0, 1] rfl
  have hDc := hD.sub (ws' := [(a0, .inr (6, [.int 0, .int 0, .ref a1, .int 58, .int 0, .int 4, .int 2, .int 1, .ref a2])), (a1, .inr (5, [.ref cb, .int 81, .int 0, .ref a3, .int 10, .ref a4, .int 4, .ref a5, .int 1, .int 1, .ref a6, .int 6, .int 0, .int 1, .int 0]))]) [0, 1] (by decide) rfl
  have hFc := va_free (wc := [(a0, .inr (6, [.int 0, .int 0, .ref a1, .int 58, .int 0, .int 4, .int 2, .int 1, .ref a2])), (a1, .inr (5, [.ref cb, .int 81, .int 0, .ref a3, .int 10, .ref a4, .int 4, .ref a5, .int 1, .int 1, .ref a6, .int 6, .int 0, .int 1, .int 0]))]) hD hS hA [0, 1] rfl
  refine va_calli (va_runV (As := []) (rest := []) ⟨hx, hb, hml, hown, hts⟩ (cc_194_X6_readByte l dC dI cy s.heap.size cb a0 a1 a2 a3 a4 a5 a6) (cwV 0 hts gX6_readNumber_X6_readByte rfl rfl rfl (by decide +kernel) ⟨Nat.le_of_ble_eq_true rfl, Nat.le_of_ble_eq_true rfl⟩) ⟨fun a U g mk q => by obtain ⟨q0, q1, qP, qK, qD, qN, qS⟩ := q; exact ⟨q0, q1, qP, va_K.moved (u := U) (U := U.calling g mk a) (Vm.Alike.refl U.vm) qK, qD, qN.same rfl, SK.moved (u := U) (U := U.calling g mk a) (Vm.Alike.refl U.vm) qS⟩, va_recv hK hPc (ci := 6) (q0 := 0) rfl rfl, fun U hU hW => ⟨rfl, by rw [hU], by rw [hU]; exact hPc, va_K.moved hW.alike hK, hDc.weaken (fun _ _ _ _ => trivial), hN.warm hW, by rw [hU]; exact ((hSK.kept hS.2.1).narrow hFc).moved hW.alike⟩⟩ rfl rfl hl.1 rfl (lv_room (Nat.le_of_ble_eq_true rfl)) dX6_readNumber_6 ⟨Nat.le_of_ble_eq_true rfl, Nat.le_of_ble_eq_true rfl⟩) hS (fun q _ h => hFc q h) hFc (fun r_1 u t H_2 locs ht hvm hw hB hz1 hk1 hS2 => ?_)
  obtain ⟨hP1, hK1, hD1⟩ := hB
  rw [ht] at hP1
  obtain rfl := hw
  obtain ⟨hP2, hD2⟩ := va_join (wr := []) (w1 := [(a0, .inr (6, [.int 0, .int 0, .ref a1, .int 59, .int 0, .int 4, .int 2, .int 1, .ref a2])), (a1, .inr (5, [.ref cb, .int 81, .int 0, .ref a3, .int 10, .ref a4, .int 4, .ref a5, .int 1, .int 1, .ref a6, .int 6, .int 0, .int 1, .int 0]))]) hP hD [0, 1] [] rfl rfl (by decide) (by decide) hk1 hFc hP1 hD1
  replace hP : va_P (dC, dI) vwCl [(a0, .inr (6, [.int 0, .int 0, .ref a1, .int 59, .int 0, .int 4, .int 2, .int 1, .ref a2])), (a1, .inr (5, [.ref cb, .int 81, .int 0, .ref a3, .int 10, .ref a4, .int 4, .ref a5, .int 1, .int 1, .ref a6, .int 6, .int 0, .int 1, .int 0]))] H_2 := hP2
  replace hD : va_D A [(a0, .inr (6, [.int 0, .int 0, .ref a1, .int 59, .int 0, .int 4, .int 2, .int 1, .ref a2])), (a1, .inr (5, [.ref cb, .int 81, .int 0, .ref a3, .int 10, .ref a4, .int 4, .ref a5, .int 1, .int 1, .ref a6, .int 6, .int 0, .int 1, .int 0]))] := hD2
  replace hS := hS2
  clear hP2 hD2 hS2
  clear hPc hDc hFc hP1 hD1 hK1 hk1 hz1 hvm ht
  refine W.widen (k := 0) (n := 0) (Nat.le_of_ble_eq_true rfl) (Nat.le_of_ble_eq_true rfl) ?_
  refine lv_istore (lv' := [(4, .int 1), (3, .int 58), (0, .ref a0), (1, .int 0), (2, .int 7)]) hx hb dX6_readNumber_9 hl (by decide) rfl (fun ls hl2 => ?_)
  replace hl := hl2
  clear hl2
  refine lv_iload hx hb dX6_readNumber_11 (lv_at hl 0 rfl) ?_
  refine lv_iload_n hx hb dX6_readNumber_13 rfl (lv_at hl 3 rfl) ?_
  refine lv_icmp_lt (tgt := 23) hx hb dX6_readNumber_14 (by decide) (fun h => absurd h (by decide)) (fun _ => ?_)
  refine lv_iload hx hb dX6_readNumber_17 (lv_at hl 0 rfl) ?_
  refine lv_iload_n hx hb dX6_readNumber_19 rfl (lv_at hl 4 rfl) ?_
  refine lv_icmp_le (tgt := 29) hx hb dX6_readNumber_20 (by decide) (fun _ => ?_) (fun h => absurd (by decide) h)
  refine lv_aload_n hx hb dX6_readNumber_29 rfl (lv_at hl 2 rfl) ?_
  refine va_get (D := (dC, dI)) (ci := 6) (v := .int 0) (C := RX6) (T := TX6) (N := 9) hx hb hts iw_X6_readNumber_X6 hown hK hP 0 rfl rfl 1 (by decide) (hts _ m_X6_readNumber_2) (fun _ h9 => h9) rfl dX6_readNumber_30 ?_
  refine lv_if_ne (tgt := 41) hx hb dX6_readNumber_33 (by decide) (fun h => absurd (by decide) h) (fun _ => ?_)
  refine lv_iload hx hb dX6_readNumber_36 (lv_at hl 0 rfl) ?_
  refine lv_goto (tgt := 42) hx hb dX6_readNumber_38 (by decide) ?_
  exact W.iret hx hb hr (fun t ht hW => ⟨⟨1, (), rfl, rfl, by rw [ht]; exact hP, va_K.moved hW.alike hK, hD⟩, hS.F ht⟩) hS.2.2 dX6_readNumber_42

set_option maxHeartbeats 4000000 in
set_option maxRecDepth 100000 in
theorem cc_195_X5_setFunction (l : Launch) (dC : Nat → ClassId) (dI : Nat → Nat → Nat) (cy : Nat → ClassId) (sz : Nat) (cb : Nat) (a0 : Nat) (a1 : Nat) (a2 : Nat) (a3 : Nat) (a4 : Nat) (f0 : Nat → Int32)  : Met l yX5_setFunction wsX5_setFunction ({ frames := 0, cells := 0, slots := 0, locals := 0 }) (va_Pc [.ref a0, .int 4, .int 0, .int 1] (fun U => U.heap.size = sz ∧ va_P (dC, dI) vwCl [(a0, .inr (5, [.ref cb, .int 81, .int 0, .ref a2, .int 10, .ref a3, .int 4, .ref a4, .int 1, .int 1, .ref a1, .int 6, .int 0, .int 1, .int 0])), (a1, .inl (cy 1, 864, .inl f0))] U.heap ∧ va_K (dC, dI) vwCl (TYS cy) U ∧ va_D (fun _ => True) [(a0, .inr (5, [.ref cb, .int 81, .int 0, .ref a2, .int 10, .ref a3, .int 4, .ref a4, .int 1, .int 1, .ref a1, .int 6, .int 0, .int 1, .int 0])), (a1, .inl (cy 1, 864, .inl f0))] ∧ NK U ∧ SK cb (va_A [(a0, .inr (5, [.ref cb, .int 81, .int 0, .ref a2, .int 10, .ref a3, .int 4, .ref a4, .int 1, .int 1, .ref a1, .int 6, .int 0, .int 1, .int 0])), (a1, .inl (cy 1, 864, .inl f0))] sz) U U.heap)) (va_Qv (fun u : (Nat → Int32) => True) (fun u t => match u with | (u0) => va_P (dC, dI) vwCl [(a0, .inr (5, [.ref cb, .int 81, .int 0, .ref a2, .int 10, .ref a3, .int 4, .ref a4, .int 1, .int 1, .ref a1, .int 6, .int 0, .int 1, .int 0])), (a1, .inl (cy 1, 864, .inl u0))] t.heap ∧ va_K (dC, dI) vwCl (TYS cy) t ∧ va_D (va_A [(a0, .inr (5, [.ref cb, .int 81, .int 0, .ref a2, .int 10, .ref a3, .int 4, .ref a4, .int 1, .int 1, .ref a1, .int 6, .int 0, .int 1, .int 0])), (a1, .inl (cy 1, 864, .inl f0))] sz) [(a0, .inr (5, [.ref cb, .int 81, .int 0, .ref a2, .int 10, .ref a3, .int 4, .ref a4, .int 1, .int 1, .ref a1, .int 6, .int 0, .int 1, .int 0])), (a1, .inl (cy 1, 864, .inl u0))]) (va_A [(a0, .inr (5, [.ref cb, .int 81, .int 0, .ref a2, .int 10, .ref a3, .int 4, .ref a4, .int 1, .int 1, .ref a1, .int 6, .int 0, .int 1, .int 0])), (a1, .inl (cy 1, 864, .inl f0))] sz)) 0 0 (va_A [(a0, .inr (5, [.ref cb, .int 81, .int 0, .ref a2, .int 10, .ref a3, .int 4, .ref a4, .int 1, .int 1, .ref a1, .int 6, .int 0, .int 1, .int 0])), (a1, .inl (cy 1, 864, .inl f0))] sz) := by
  refine Met.ofW (cc := cX5_setFunction) (maxL := 4) (ret := none) (by decide) rfl ?_
  intro p e s m args below meth c s₁ B hml hv
  obtain ⟨rfl, hsz, hP, hK, hD0, hN, hSK⟩ := hv
  have hx := B.exec
  have hb := B.bytes
  have hr := B.returns
  have hts := atoms_spec (ws := wsX5_setFunction) B.pre
  have hown : s.vm.findClass RX5 = some m.cls := findClass_of_methodNamed B.named
  have hlocks := B.notSynchronized
  subst hsz
  have hD := hD0.self (sz := s.heap.size)
  generalize hAe : va_A [(a0, .inr (5, [.ref cb, .int 81, .int 0, .ref a2, .int 10, .ref a3, .int 4, .ref a4, .int 1, .int 1, .ref a1, .int 6, .int 0, .int 1, .int 0])), (a1, .inl (cy 1, 864, .inl f0))] s.heap.size = A at hD hSK ⊢
  have hA : ∀ q : Nat, s.heap.size ≤ q → A q := fun q h => by rw [← hAe]; exact Or.inr h
  have hS : va_S A s.heap s.heap [] := va_S.rf
  have hP : va_P (dC, dI) vwCl [(a0, .inr (5, [.ref cb, .int 81, .int 0, .ref a2, .int 10, .ref a3, .int 4, .ref a4, .int 1, .int 1, .ref a1, .int 6, .int 0, .int 1, .int 0])), (a1, .inl (cy 1, 864, .inl f0))] s.heap := hP
  have hl := lv_entry ([.ref a0, .int 4, .int 0, .int 1]) (n := 4) (Nat.le_of_ble_eq_true rfl)
  rw [lg_entry_eq]
  generalize (lg_sl ([.ref a0, .int 4, .int 0, .int 1]) ++ List.replicate (4 - (lg_sl ([.ref a0, .int 4, .int 0, .int 1])).length) Slot.unset).toArray = ls at hl ⊢
  replace hl : lv_has ls 4 [(0, .ref a0), (1, .int 4), (2, .int 0), (3, .int 1)] := hl
  refine lv_iload_n hx hb dX5_setFunction_0 rfl (lv_at hl 1 rfl) ?_
  refine lv_if_lt (tgt := 22) hx hb dX5_setFunction_1 (by decide) (fun h => absurd h (by decide)) (fun _ => ?_)
  refine lv_iload_n hx hb dX5_setFunction_4 rfl (lv_at hl 1 rfl) ?_
  refine lv_bipush (v := 96) hx hb dX5_setFunction_5 (by decide) ?_
  refine lv_icmp_ge (tgt := 22) hx hb dX5_setFunction_7 (by decide) (fun h => absurd h (by decide)) (fun _ => ?_)
  refine lv_aload_n hx hb dX5_setFunction_10 rfl (lv_at hl 0 rfl) ?_
  refine va_get (D := (dC, dI)) (ci := 5) (v := .ref a1) (C := RX5) (T := TX5) (N := 15) hx hb hts iw_X5_setFunction_X5 hown hK hP 0 rfl rfl 10 (by decide) (hts _ m_X5_setFunction_1) (fun _ h9 => h9) rfl dX5_setFunction_11 ?_
  refine lv_iload_n hx hb dX5_setFunction_14 rfl (lv_at hl 1 rfl) ?_
  refine lv_bipush (v := 9) hx hb dX5_setFunction_15 (by decide) ?_
  refine lv_imul hx hb dX5_setFunction_17 ?_
  refine lv_topi (fun z_1 ez_1 => ?_)
  obtain rfl : z_1 = 36 := ez_1.trans (by decide)
  clear ez_1
  refine lv_iload_n hx hb dX5_setFunction_18 rfl (lv_at hl 2 rfl) ?_
  refine lv_iadd hx hb dX5_setFunction_19 ?_
  refine lv_topi (fun z_2 ez_2 => ?_)
  obtain rfl : z_2 = 36 := ez_2.trans (by decide)
  clear ez_2
  refine lv_iload_n hx hb dX5_setFunction_20 rfl (lv_at hl 3 rfl) ?_
  refine va_iast hx hb hK hP hD hS 1 1 rfl rfl (by unfold vp_in; decide) dX5_setFunction_21 (fun H_4 locs hP2 hD2 hS2 => ?_)
  replace hP : va_P (dC, dI) vwCl [(a0, .inr (5, [.ref cb, .int 81, .int 0, .ref a2, .int 10, .ref a3, .int 4, .ref a4, .int 1, .int 1, .ref a1, .int 6, .int 0, .int 1, .int 0])), (a1, .inl (cy 1, 864, .inl (upd f0 36 1)))] H_4 := hP2
  replace hD : va_D A [(a0, .inr (5, [.ref cb, .int 81, .int 0, .ref a2, .int 10, .ref a3, .int 4, .ref a4, .int 1, .int 1, .ref a1, .int 6, .int 0, .int 1, .int 0])), (a1, .inl (cy 1, 864, .inl (upd f0 36 1)))] := hD2
  replace hS := hS2
  clear hP2 hD2 hS2
  obtain ⟨g_3, eg_3⟩ : ∃ z, upd f0 36 1 = z := ⟨_, rfl⟩
  rw [eg_3] at hP hD
  exact W.vret hx hb hr (fun t ht hW => ⟨⟨(g_3), rfl, trivial, by rw [ht]; exact hP, va_K.moved hW.alike hK, hD⟩, hS.F ht⟩) hS.2.2 dX5_setFunction_22

set_option maxHeartbeats 4000000 in
set_option maxRecDepth 100000 in
theorem cc_196_X5_setFunction (l : Launch) (dC : Nat → ClassId) (dI : Nat → Nat → Nat) (cy : Nat → ClassId) (sz : Nat) (cb : Nat) (a0 : Nat) (a1 : Nat) (a2 : Nat) (a3 : Nat) (a4 : Nat) (f0 : Nat → Int32)  : Met l yX5_setFunction wsX5_setFunction ({ frames := 0, cells := 0, slots := 0, locals := 0 }) (va_Pc [.ref a0, .int 4, .int 1, .int 10] (fun U => U.heap.size = sz ∧ va_P (dC, dI) vwCl [(a0, .inr (5, [.ref cb, .int 81, .int 0, .ref a2, .int 10, .ref a3, .int 4, .ref a4, .int 1, .int 1, .ref a1, .int 6, .int 0, .int 1, .int 0])), (a1, .inl (cy 1, 864, .inl f0))] U.heap ∧ va_K (dC, dI) vwCl (TYS cy) U ∧ va_D (fun _ => True) [(a0, .inr (5, [.ref cb, .int 81, .int 0, .ref a2, .int 10, .ref a3, .int 4, .ref a4, .int 1, .int 1, .ref a1, .int 6, .int 0, .int 1, .int 0])), (a1, .inl (cy 1, 864, .inl f0))] ∧ NK U ∧ SK cb (va_A [(a0, .inr (5, [.ref cb, .int 81, .int 0, .ref a2, .int 10, .ref a3, .int 4, .ref a4, .int 1, .int 1, .ref a1, .int 6, .int 0, .int 1, .int 0])), (a1, .inl (cy 1, 864, .inl f0))] sz) U U.heap)) (va_Qv (fun u : (Nat → Int32) => True) (fun u t => match u with | (u0) => va_P (dC, dI) vwCl [(a0, .inr (5, [.ref cb, .int 81, .int 0, .ref a2, .int 10, .ref a3, .int 4, .ref a4, .int 1, .int 1, .ref a1, .int 6, .int 0, .int 1, .int 0])), (a1, .inl (cy 1, 864, .inl u0))] t.heap ∧ va_K (dC, dI) vwCl (TYS cy) t ∧ va_D (va_A [(a0, .inr (5, [.ref cb, .int 81, .int 0, .ref a2, .int 10, .ref a3, .int 4, .ref a4, .int 1, .int 1, .ref a1, .int 6, .int 0, .int 1, .int 0])), (a1, .inl (cy 1, 864, .inl f0))] sz) [(a0, .inr (5, [.ref cb, .int 81, .int 0, .ref a2, .int 10, .ref a3, .int 4, .ref a4, .int 1, .int 1, .ref a1, .int 6, .int 0, .int 1, .int 0])), (a1, .inl (cy 1, 864, .inl u0))]) (va_A [(a0, .inr (5, [.ref cb, .int 81, .int 0, .ref a2, .int 10, .ref a3, .int 4, .ref a4, .int 1, .int 1, .ref a1, .int 6, .int 0, .int 1, .int 0])), (a1, .inl (cy 1, 864, .inl f0))] sz)) 0 0 (va_A [(a0, .inr (5, [.ref cb, .int 81, .int 0, .ref a2, .int 10, .ref a3, .int 4, .ref a4, .int 1, .int 1, .ref a1, .int 6, .int 0, .int 1, .int 0])), (a1, .inl (cy 1, 864, .inl f0))] sz) := by
  refine Met.ofW (cc := cX5_setFunction) (maxL := 4) (ret := none) (by decide) rfl ?_
  intro p e s m args below meth c s₁ B hml hv
  obtain ⟨rfl, hsz, hP, hK, hD0, hN, hSK⟩ := hv
  have hx := B.exec
  have hb := B.bytes
  have hr := B.returns
  have hts := atoms_spec (ws := wsX5_setFunction) B.pre
  have hown : s.vm.findClass RX5 = some m.cls := findClass_of_methodNamed B.named
  have hlocks := B.notSynchronized
  subst hsz
  have hD := hD0.self (sz := s.heap.size)
  generalize hAe : va_A [(a0, .inr (5, [.ref cb, .int 81, .int 0, .ref a2, .int 10, .ref a3, .int 4, .ref a4, .int 1, .int 1, .ref a1, .int 6, .int 0, .int 1, .int 0])), (a1, .inl (cy 1, 864, .inl f0))] s.heap.size = A at hD hSK ⊢
  have hA : ∀ q : Nat, s.heap.size ≤ q → A q := fun q h => by rw [← hAe]; exact Or.inr h
  have hS : va_S A s.heap s.heap [] := va_S.rf
  have hP : va_P (dC, dI) vwCl [(a0, .inr (5, [.ref cb, .int 81, .int 0, .ref a2, .int 10, .ref a3, .int 4, .ref a4, .int 1, .int 1, .ref a1, .int 6, .int 0, .int 1, .int 0])), (a1, .inl (cy 1, 864, .inl f0))] s.heap := hP
  have hl := lv_entry ([.ref a0, .int 4, .int 1, .int 10]) (n := 4) (Nat.le_of_ble_eq_true rfl)
  rw [lg_entry_eq]
  generalize (lg_sl ([.ref a0, .int 4, .int 1, .int 10]) ++ List.replicate (4 - (lg_sl ([.ref a0, .int 4, .int 1, .int 10])).length) Slot.unset).toArray = ls at hl ⊢
  replace hl : lv_has ls 4 [(0, .ref a0), (1, .int 4), (2, .int 1), (3, .int 10)] := hl
  refine lv_iload_n hx hb dX5_setFunction_0 rfl (lv_at hl 1 rfl) ?_
  refine lv_if_lt (tgt := 22) hx hb dX5_setFunction_1 (by decide) (fun h => absurd h (by decide)) (fun _ => ?_)
  refine lv_iload_n hx hb dX5_setFunction_4 rfl (lv_at hl 1 rfl) ?_
  refine lv_bipush (v := 96) hx hb dX5_setFunction_5 (by decide) ?_
  refine lv_icmp_ge (tgt := 22) hx hb dX5_setFunction_7 (by decide) (fun h => absurd h (by decide)) (fun _ => ?_)
  refine lv_aload_n hx hb dX5_setFunction_10 rfl (lv_at hl 0 rfl) ?_
  refine va_get (D := (dC, dI)) (ci := 5) (v := .ref a1) (C := RX5) (T := TX5) (N := 15) hx hb hts iw_X5_setFunction_X5 hown hK hP 0 rfl rfl 10 (by decide) (hts _ m_X5_setFunction_1) (fun _ h9 => h9) rfl dX5_setFunction_11 ?_
  refine lv_iload_n hx hb dX5_setFunction_14 rfl (lv_at hl 1 rfl) ?_
  refine lv_bipush (v := 9) hx hb dX5_setFunction_15 (by decide) ?_
  refine lv_imul hx hb dX5_setFunction_17 ?_
  refine lv_topi (fun z_1 ez_1 => ?_)
  obtain rfl : z_1 = 36 := ez_1.trans (by decide)
  clear ez_1
  refine lv_iload_n hx hb dX5_setFunction_18 rfl (lv_at hl 2 rfl) ?_
  refine lv_iadd hx hb dX5_setFunction_19 ?_
  refine lv_topi (fun z_2 ez_2 => ?_)
  obtain rfl : z_2 = 37 := ez_2.trans (by decide)
  clear ez_2
  refine lv_iload_n hx hb dX5_setFunction_20 rfl (lv_at hl 3 rfl) ?_
  refine va_iast hx hb hK hP hD hS 1 1 rfl rfl (by unfold vp_in; decide) dX5_setFunction_21 (fun H_4 locs hP2 hD2 hS2 => ?_)
  replace hP : va_P (dC, dI) vwCl [(a0, .inr (5, [.ref cb, .int 81, .int 0, .ref a2, .int 10, .ref a3, .int 4, .ref a4, .int 1, .int 1, .ref a1, .int 6, .int 0, .int 1, .int 0])), (a1, .inl (cy 1, 864, .inl (upd f0 37 10)))] H_4 := hP2
  replace hD : va_D A [(a0, .inr (5, [.ref cb, .int 81, .int 0, .ref a2, .int 10, .ref a3, .int 4, .ref a4, .int 1, .int 1, .ref a1, .int 6, .int 0, .int 1, .int 0])), (a1, .inl (cy 1, 864, .inl (upd f0 37 10)))] := hD2
  replace hS := hS2
  clear hP2 hD2 hS2
  obtain ⟨g_3, eg_3⟩ : ∃ z, upd f0 37 10 = z := ⟨_, rfl⟩
  rw [eg_3] at hP hD
  exact W.vret hx hb hr (fun t ht hW => ⟨⟨(g_3), rfl, trivial, by rw [ht]; exact hP, va_K.moved hW.alike hK, hD⟩, hS.F ht⟩) hS.2.2 dX5_setFunction_22

set_option maxHeartbeats 4000000 in
set_option maxRecDepth 100000 in
theorem cc_199_X6_readByte (l : Launch) (dC : Nat → ClassId) (dI : Nat → Nat → Nat) (cy : Nat → ClassId) (sz : Nat) (cb : Nat) (a0 : Nat) (a1 : Nat) (a2 : Nat) (a3 : Nat) (a4 : Nat) (a5 : Nat) (a6 : Nat)  : Met l yX6_readByte wsX6_readByte ({ frames := 0, cells := 0, slots := 0, locals := 0 }) (va_Pc [.ref a0] (fun U => U.heap.size = sz ∧ va_P (dC, dI) vwCl [(a0, .inr (6, [.int 0, .int 0, .ref a1, .int 59, .int 0, .int 4, .int 2, .int 1, .ref a2])), (a1, .inr (5, [.ref cb, .int 81, .int 0, .ref a3, .int 10, .ref a4, .int 4, .ref a5, .int 1, .int 1, .ref a6, .int 6, .int 0, .int 1, .int 0]))] U.heap ∧ va_K (dC, dI) vwCl (TYS cy) U ∧ va_D (fun _ => True) [(a0, .inr (6, [.int 0, .int 0, .ref a1, .int 59, .int 0, .int 4, .int 2, .int 1, .ref a2])), (a1, .inr (5, [.ref cb, .int 81, .int 0, .ref a3, .int 10, .ref a4, .int 4, .ref a5, .int 1, .int 1, .ref a6, .int 6, .int 0, .int 1, .int 0]))] ∧ NK U ∧ SK cb (va_A [(a0, .inr (6, [.int 0, .int 0, .ref a1, .int 59, .int 0, .int 4, .int 2, .int 1, .ref a2])), (a1, .inr (5, [.ref cb, .int 81, .int 0, .ref a3, .int 10, .ref a4, .int 4, .ref a5, .int 1, .int 1, .ref a6, .int 6, .int 0, .int 1, .int 0]))] sz) U U.heap)) (va_Qi (fun (r : Int32) (u : Unit) => r = 2) (fun u t => va_P (dC, dI) vwCl [(a0, .inr (6, [.int 0, .int 0, .ref a1, .int 60, .int 0, .int 4, .int 2, .int 1, .ref a2])), (a1, .inr (5, [.ref cb, .int 81, .int 0, .ref a3, .int 10, .ref a4, .int 4, .ref a5, .int 1, .int 1, .ref a6, .int 6, .int 0, .int 1, .int 0]))] t.heap ∧ va_K (dC, dI) vwCl (TYS cy) t ∧ va_D (va_A [(a0, .inr (6, [.int 0, .int 0, .ref a1, .int 59, .int 0, .int 4, .int 2, .int 1, .ref a2])), (a1, .inr (5, [.ref cb, .int 81, .int 0, .ref a3, .int 10, .ref a4, .int 4, .ref a5, .int 1, .int 1, .ref a6, .int 6, .int 0, .int 1, .int 0]))] sz) [(a0, .inr (6, [.int 0, .int 0, .ref a1, .int 60, .int 0, .int 4, .int 2, .int 1, .ref a2])), (a1, .inr (5, [.ref cb, .int 81, .int 0, .ref a3, .int 10, .ref a4, .int 4, .ref a5, .int 1, .int 1, .ref a6, .int 6, .int 0, .int 1, .int 0]))]) (va_A [(a0, .inr (6, [.int 0, .int 0, .ref a1, .int 59, .int 0, .int 4, .int 2, .int 1, .ref a2])), (a1, .inr (5, [.ref cb, .int 81, .int 0, .ref a3, .int 10, .ref a4, .int 4, .ref a5, .int 1, .int 1, .ref a6, .int 6, .int 0, .int 1, .int 0]))] sz)) 0 0 (va_A [(a0, .inr (6, [.int 0, .int 0, .ref a1, .int 59, .int 0, .int 4, .int 2, .int 1, .ref a2])), (a1, .inr (5, [.ref cb, .int 81, .int 0, .ref a3, .int 10, .ref a4, .int 4, .ref a5, .int 1, .int 1, .ref a6, .int 6, .int 0, .int 1, .int 0]))] sz) := by
  refine Met.ofW (cc := cX6_readByte) (maxL := 1) (ret := (some .int)) (by decide) rfl ?_
  intro p e s m args below meth c s₁ B hml hv
  obtain ⟨rfl, hsz, hP, hK, hD0, hN, hSK⟩ := hv
  have hx := B.exec
  have hb := B.bytes
  have hr := B.returns
  have hts := atoms_spec (ws := wsX6_readByte) B.pre
  have hown : s.vm.findClass RX6 = some m.cls := findClass_of_methodNamed B.named
  have hlocks := B.notSynchronized
  subst hsz
  have hD := hD0.self (sz := s.heap.size)
  generalize hAe : va_A [(a0, .inr (6, [.int 0, .int 0, .ref a1, .int 59, .int 0, .int 4, .int 2, .int 1, .ref a2])), (a1, .inr (5, [.ref cb, .int 81, .int 0, .ref a3, .int 10, .ref a4, .int 4, .ref a5, .int 1, .int 1, .ref a6, .int 6, .int 0, .int 1, .int 0]))] s.heap.size = A at hD hSK ⊢
  have hA : ∀ q : Nat, s.heap.size ≤ q → A q := fun q h => by rw [← hAe]; exact Or.inr h
  have hS : va_S A s.heap s.heap [] := va_S.rf
  have hP : va_P (dC, dI) vwCl [(a0, .inr (6, [.int 0, .int 0, .ref a1, .int 59, .int 0, .int 4, .int 2, .int 1, .ref a2])), (a1, .inr (5, [.ref cb, .int 81, .int 0, .ref a3, .int 10, .ref a4, .int 4, .ref a5, .int 1, .int 1, .ref a6, .int 6, .int 0, .int 1, .int 0]))] s.heap := hP
  have hl := lv_entry ([.ref a0]) (n := 1) (Nat.le_of_ble_eq_true rfl)
  rw [lg_entry_eq]
  generalize (lg_sl ([.ref a0]) ++ List.replicate (1 - (lg_sl ([.ref a0])).length) Slot.unset).toArray = ls at hl ⊢
  replace hl : lv_has ls 1 [(0, .ref a0)] := hl
  refine lv_aload_n hx hb dX6_readByte_0 rfl (lv_at hl 0 rfl) ?_
  refine va_get (D := (dC, dI)) (ci := 6) (v := .int 0) (C := RX6) (T := TX6) (N := 9) hx hb hts iw_X6_readByte_X6 hown hK hP 0 rfl rfl 1 (by decide) (hts _ m_X6_readByte_1) (fun _ h9 => h9) rfl dX6_readByte_1 ?_
  refine lv_if_eq (tgt := 9) hx hb dX6_readByte_4 (by decide) (fun _ => ?_) (fun h => absurd (by decide) h)
  refine lv_aload_n hx hb dX6_readByte_9 rfl (lv_at hl 0 rfl) ?_
  refine va_get (D := (dC, dI)) (ci := 6) (v := .int 59) (C := RX6) (T := TX6) (N := 9) hx hb hts iw_X6_readByte_X6 hown hK hP 0 rfl rfl 3 (by decide) (hts _ m_X6_readByte_2) (fun _ h9 => h9) rfl dX6_readByte_10 ?_
  refine lv_aload_n hx hb dX6_readByte_13 rfl (lv_at hl 0 rfl) ?_
  refine va_get (D := (dC, dI)) (ci := 6) (v := .ref a1) (C := RX6) (T := TX6) (N := 9) hx hb hts iw_X6_readByte_X6 hown hK hP 0 rfl rfl 2 (by decide) (hts _ m_X6_readByte_3) (fun _ h9 => h9) rfl dX6_readByte_14 ?_
  refine va_get (D := (dC, dI)) (ci := 5) (v := .int 81) (C := RX5) (T := TX5) (N := 15) hx hb hts iw_X6_readByte_X5 hown hK hP 1 rfl rfl 1 (by decide) (hts _ m_X6_readByte_4) (fun _ h9 => h9) rfl dX6_readByte_17 ?_
  refine lv_icmp_lt (tgt := 41) hx hb dX6_readByte_20 (by decide) (fun _ => ?_) (fun h => absurd (by decide) h)
  refine lv_aload_n hx hb dX6_readByte_41 rfl (lv_at hl 0 rfl) ?_
  refine va_get (D := (dC, dI)) (ci := 6) (v := .ref a1) (C := RX6) (T := TX6) (N := 9) hx hb hts iw_X6_readByte_X6 hown hK hP 0 rfl rfl 2 (by decide) (hts _ m_X6_readByte_3) (fun _ h9 => h9) rfl dX6_readByte_42 ?_
  refine va_get (D := (dC, dI)) (ci := 5) (v := .ref cb) (C := RX5) (T := TX5) (N := 15) hx hb hts iw_X6_readByte_X5 hown hK hP 1 rfl rfl 0 (by decide) (hts _ m_X6_readByte_6) (fun _ h9 => h9) rfl dX6_readByte_45 ?_
  refine lv_aload_n hx hb dX6_readByte_48 rfl (lv_at hl 0 rfl) ?_
  refine lv_dup hx hb dX6_readByte_49 rfl ?_
  refine va_get (D := (dC, dI)) (ci := 6) (v := .int 59) (C := RX6) (T := TX6) (N := 9) hx hb hts iw_X6_readByte_X6 hown hK hP 0 rfl rfl 3 (by decide) (hts _ m_X6_readByte_2) (fun _ h9 => h9) rfl dX6_readByte_50 ?_
  refine lv_dup_x1 hx hb dX6_readByte_53 rfl rfl ?_
  refine lv_iconst (v := 1) hx hb dX6_readByte_54 (by decide) ?_
  refine lv_iadd hx hb dX6_readByte_55 ?_
  refine lv_topi (fun z_1 ez_1 => ?_)
  obtain rfl : z_1 = 60 := ez_1.trans (by decide)
  clear ez_1
  refine va_put (D := (dC, dI)) (ci := 6) (v := .int 60) (ty := .int) (C := RX6) (T := TX6) (N := 9) hx hb hts iw_X6_readByte_X6 tyX6 tyX6_ok nmX6 hown hK hP hD hS 0 rfl rfl 3 (by decide) (hts _ m_X6_readByte_2) (fun _ h9 => h9) rfl (by decide +kernel) rfl rfl (Nat.le_of_ble_eq_true rfl) dX6_readByte_56 (fun H_2 locs hP2 hD2 hS2 => ?_)
  replace hP : va_P (dC, dI) vwCl [(a0, .inr (6, [.int 0, .int 0, .ref a1, .int 60, .int 0, .int 4, .int 2, .int 1, .ref a2])), (a1, .inr (5, [.ref cb, .int 81, .int 0, .ref a3, .int 10, .ref a4, .int 4, .ref a5, .int 1, .int 1, .ref a6, .int 6, .int 0, .int 1, .int 0]))] H_2 := hP2
  replace hD : va_D A [(a0, .inr (6, [.int 0, .int 0, .ref a1, .int 60, .int 0, .int 4, .int 2, .int 1, .ref a2])), (a1, .inr (5, [.ref cb, .int 81, .int 0, .ref a3, .int 10, .ref a4, .int 4, .ref a5, .int 1, .int 1, .ref a6, .int 6, .int 0, .int 1, .int 0]))] := hD2
  replace hS := hS2
  clear hP2 hD2 hS2
  refine va_tb (v := .int 2) hx hb hSK.2 hS (by unfold vp_in; decide) rfl dX6_readByte_59 ?_
  refine lv_sipush (v := 255) hx hb dX6_readByte_60 (by decide) ?_
  refine lv_iand hx hb dX6_readByte_63 ?_
  refine lv_topi (fun z_3 ez_3 => ?_)
  obtain rfl : z_3 = 2 := ez_3.trans (by decide)
  clear ez_3
  exact W.iret hx hb hr (fun t ht hW => ⟨⟨2, (), rfl, rfl, by rw [ht]; exact hP, va_K.moved hW.alike hK, hD⟩, hS.F ht⟩) hS.2.2 dX6_readByte_64

set_option maxHeartbeats 4000000 in
set_option maxRecDepth 100000 in
theorem cc_198_X6_readNumber (l : Launch) (dC : Nat → ClassId) (dI : Nat → Nat → Nat) (cy : Nat → ClassId) (sz : Nat) (cb : Nat) (a0 : Nat) (a1 : Nat) (a2 : Nat) (a3 : Nat) (a4 : Nat) (a5 : Nat) (a6 : Nat)  : Met l yX6_readNumber wsX6_readNumber ({ frames := 1, cells := 0, slots := 0, locals := 20 }) (va_Pc [.ref a0, .int 0, .int 8] (fun U => U.heap.size = sz ∧ va_P (dC, dI) vwCl [(a0, .inr (6, [.int 0, .int 0, .ref a1, .int 59, .int 0, .int 4, .int 2, .int 1, .ref a2])), (a1, .inr (5, [.ref cb, .int 81, .int 0, .ref a3, .int 10, .ref a4, .int 4, .ref a5, .int 1, .int 1, .ref a6, .int 6, .int 0, .int 1, .int 0]))] U.heap ∧ va_K (dC, dI) vwCl (TYS cy) U ∧ va_D (fun _ => True) [(a0, .inr (6, [.int 0, .int 0, .ref a1, .int 59, .int 0, .int 4, .int 2, .int 1, .ref a2])), (a1, .inr (5, [.ref cb, .int 81, .int 0, .ref a3, .int 10, .ref a4, .int 4, .ref a5, .int 1, .int 1, .ref a6, .int 6, .int 0, .int 1, .int 0]))] ∧ NK U ∧ SK cb (va_A [(a0, .inr (6, [.int 0, .int 0, .ref a1, .int 59, .int 0, .int 4, .int 2, .int 1, .ref a2])), (a1, .inr (5, [.ref cb, .int 81, .int 0, .ref a3, .int 10, .ref a4, .int 4, .ref a5, .int 1, .int 1, .ref a6, .int 6, .int 0, .int 1, .int 0]))] sz) U U.heap)) (va_Qi (fun (r : Int32) (u : Unit) => r = 2) (fun u t => va_P (dC, dI) vwCl [(a0, .inr (6, [.int 0, .int 0, .ref a1, .int 60, .int 0, .int 4, .int 2, .int 1, .ref a2])), (a1, .inr (5, [.ref cb, .int 81, .int 0, .ref a3, .int 10, .ref a4, .int 4, .ref a5, .int 1, .int 1, .ref a6, .int 6, .int 0, .int 1, .int 0]))] t.heap ∧ va_K (dC, dI) vwCl (TYS cy) t ∧ va_D (va_A [(a0, .inr (6, [.int 0, .int 0, .ref a1, .int 59, .int 0, .int 4, .int 2, .int 1, .ref a2])), (a1, .inr (5, [.ref cb, .int 81, .int 0, .ref a3, .int 10, .ref a4, .int 4, .ref a5, .int 1, .int 1, .ref a6, .int 6, .int 0, .int 1, .int 0]))] sz) [(a0, .inr (6, [.int 0, .int 0, .ref a1, .int 60, .int 0, .int 4, .int 2, .int 1, .ref a2])), (a1, .inr (5, [.ref cb, .int 81, .int 0, .ref a3, .int 10, .ref a4, .int 4, .ref a5, .int 1, .int 1, .ref a6, .int 6, .int 0, .int 1, .int 0]))]) (va_A [(a0, .inr (6, [.int 0, .int 0, .ref a1, .int 59, .int 0, .int 4, .int 2, .int 1, .ref a2])), (a1, .inr (5, [.ref cb, .int 81, .int 0, .ref a3, .int 10, .ref a4, .int 4, .ref a5, .int 1, .int 1, .ref a6, .int 6, .int 0, .int 1, .int 0]))] sz)) 0 0 (va_A [(a0, .inr (6, [.int 0, .int 0, .ref a1, .int 59, .int 0, .int 4, .int 2, .int 1, .ref a2])), (a1, .inr (5, [.ref cb, .int 81, .int 0, .ref a3, .int 10, .ref a4, .int 4, .ref a5, .int 1, .int 1, .ref a6, .int 6, .int 0, .int 1, .int 0]))] sz) := by
  refine Met.ofW (cc := cX6_readNumber) (maxL := 5) (ret := (some .int)) (by decide) rfl ?_
  intro p e s m args below meth c s₁ B hml hv
  obtain ⟨rfl, hsz, hP, hK, hD0, hN, hSK⟩ := hv
  have hx := B.exec
  have hb := B.bytes
  have hr := B.returns
  have hts := atoms_spec (ws := wsX6_readNumber) B.pre
  have hown : s.vm.findClass RX6 = some m.cls := findClass_of_methodNamed B.named
  have hlocks := B.notSynchronized
  subst hsz
  have hD := hD0.self (sz := s.heap.size)
  generalize hAe : va_A [(a0, .inr (6, [.int 0, .int 0, .ref a1, .int 59, .int 0, .int 4, .int 2, .int 1, .ref a2])), (a1, .inr (5, [.ref cb, .int 81, .int 0, .ref a3, .int 10, .ref a4, .int 4, .ref a5, .int 1, .int 1, .ref a6, .int 6, .int 0, .int 1, .int 0]))] s.heap.size = A at hD hSK ⊢
  have hA : ∀ q : Nat, s.heap.size ≤ q → A q := fun q h => by rw [← hAe]; exact Or.inr h
  have hS : va_S A s.heap s.heap [] := va_S.rf
  have hP : va_P (dC, dI) vwCl [(a0, .inr (6, [.int 0, .int 0, .ref a1, .int 59, .int 0, .int 4, .int 2, .int 1, .ref a2])), (a1, .inr (5, [.ref cb, .int 81, .int 0, .ref a3, .int 10, .ref a4, .int 4, .ref a5, .int 1, .int 1, .ref a6, .int 6, .int 0, .int 1, .int 0]))] s.heap := hP
  have hl := lv_entry ([.ref a0, .int 0, .int 8]) (n := 5) (Nat.le_of_ble_eq_true rfl)
  rw [lg_entry_eq]
  generalize (lg_sl ([.ref a0, .int 0, .int 8]) ++ List.replicate (5 - (lg_sl ([.ref a0, .int 0, .int 8])).length) Slot.unset).toArray = ls at hl ⊢
  replace hl : lv_has ls 5 [(0, .ref a0), (1, .int 0), (2, .int 8)] := hl
  refine lv_aload_n hx hb dX6_readNumber_0 rfl (lv_at hl 0 rfl) ?_
  refine va_get (D := (dC, dI)) (ci := 6) (v := .int 59) (C := RX6) (T := TX6) (N := 9) hx hb hts iw_X6_readNumber_X6 hown hK hP 0 rfl rfl 3 (by decide) (hts _ m_X6_readNumber_1) (fun _ h9 => h9) rfl dX6_readNumber_1 ?_
  refine lv_istore_n (lv' := [(3, .int 59), (0, .ref a0), (1, .int 0), (2, .int 8)]) hx hb dX6_readNumber_4 rfl hl (by decide) rfl (fun ls hl2 => ?_)
  replace hl := hl2
  clear hl2
  refine lv_aload_n hx hb dX6_readNumber_5 rfl (lv_at hl 1 rfl) ?_
  have hPc := hP.sub (ws' := [(a0, .inr (6, [.int 0, .int 0, .ref a1, .int 59, .int 0, .int 4, .int 2, .int 1, .ref a2])), (a1, .inr (5, [.ref cb, .int 81, .int 0, .ref a3, .int 10, .ref a4, .int 4, .ref a5, .int 1, .int 1, .ref a6, .int 6, .int 0, .int 1, .int 0]))]) [0, 1] rfl
  have hDc := hD.sub (ws' := [(a0, .inr (6, [.int 0, .int 0, .ref a1, .int 59, .int 0, .int 4, .int 2, .int 1, .ref a2])), (a1, .inr (5, [.ref cb, .int 81, .int 0, .ref a3, .int 10, .ref a4, .int 4, .ref a5, .int 1, .int 1, .ref a6, .int 6, .int 0, .int 1, .int 0]))]) [0, 1] (by decide) rfl
  have hFc := va_free (wc := [(a0, .inr (6, [.int 0, .int 0, .ref a1, .int 59, .int 0, .int 4, .int 2, .int 1, .ref a2])), (a1, .inr (5, [.ref cb, .int 81, .int 0, .ref a3, .int 10, .ref a4, .int 4, .ref a5, .int 1, .int 1, .ref a6, .int 6, .int 0, .int 1, .int 0]))]) hD hS hA [0, 1] rfl
  refine va_calli (va_runV (As := []) (rest := []) ⟨hx, hb, hml, hown, hts⟩ (cc_199_X6_readByte l dC dI cy s.heap.size cb a0 a1 a2 a3 a4 a5 a6) (cwV 0 hts gX6_readNumber_X6_readByte rfl rfl rfl (by decide +kernel) ⟨Nat.le_of_ble_eq_true rfl, Nat.le_of_ble_eq_true rfl⟩) ⟨fun a U g mk q => by obtain ⟨q0, q1, qP, qK, qD, qN, qS⟩ := q; exact ⟨q0, q1, qP, va_K.moved (u := U) (U := U.calling g mk a) (Vm.Alike.refl U.vm) qK, qD, qN.same rfl, SK.moved (u := U) (U := U.calling g mk a) (Vm.Alike.refl U.vm) qS⟩, va_recv hK hPc (ci := 6) (q0 := 0) rfl rfl, fun U hU hW => ⟨rfl, by rw [hU], by rw [hU]; exact hPc, va_K.moved hW.alike hK, hDc.weaken (fun _ _ _ _ => trivial), hN.warm hW, by rw [hU]; exact ((hSK.kept hS.2.1).narrow hFc).moved hW.alike⟩⟩ rfl rfl hl.1 rfl (lv_room (Nat.le_of_ble_eq_true rfl)) dX6_readNumber_6 ⟨Nat.le_of_ble_eq_true rfl, Nat.le_of_ble_eq_true rfl⟩) hS (fun q _ h => hFc q h) hFc (fun r_1 u t H_2 locs ht hvm hw hB hz1 hk1 hS2 => ?_)
  obtain ⟨hP1, hK1, hD1⟩ := hB
  rw [ht] at hP1
  obtain rfl := hw
  obtain ⟨hP2, hD2⟩ := va_join (wr := []) (w1 := [(a0, .inr (6, [.int 0, .int 0, .ref a1, .int 60, .int 0, .int 4, .int 2, .int 1, .ref a2])), (a1, .inr (5, [.ref cb, .int 81, .int 0, .ref a3, .int 10, .ref a4, .int 4, .ref a5, .int 1, .int 1, .ref a6, .int 6, .int 0, .int 1, .int 0]))]) hP hD [0, 1] [] rfl rfl (by decide) (by decide) hk1 hFc hP1 hD1
  replace hP : va_P (dC, dI) vwCl [(a0, .inr (6, [.int 0, .int 0, .ref a1, .int 60, .int 0, .int 4, .int 2, .int 1, .ref a2])), (a1, .inr (5, [.ref cb, .int 81, .int 0, .ref a3, .int 10, .ref a4, .int 4, .ref a5, .int 1, .int 1, .ref a6, .int 6, .int 0, .int 1, .int 0]))] H_2 := hP2
  replace hD : va_D A [(a0, .inr (6, [.int 0, .int 0, .ref a1, .int 60, .int 0, .int 4, .int 2, .int 1, .ref a2])), (a1, .inr (5, [.ref cb, .int 81, .int 0, .ref a3, .int 10, .ref a4, .int 4, .ref a5, .int 1, .int 1, .ref a6, .int 6, .int 0, .int 1, .int 0]))] := hD2
  replace hS := hS2
  clear hP2 hD2 hS2
  clear hPc hDc hFc hP1 hD1 hK1 hk1 hz1 hvm ht
  refine W.widen (k := 0) (n := 0) (Nat.le_of_ble_eq_true rfl) (Nat.le_of_ble_eq_true rfl) ?_
  refine lv_istore (lv' := [(4, .int 2), (3, .int 59), (0, .ref a0), (1, .int 0), (2, .int 8)]) hx hb dX6_readNumber_9 hl (by decide) rfl (fun ls hl2 => ?_)
  replace hl := hl2
  clear hl2
  refine lv_iload hx hb dX6_readNumber_11 (lv_at hl 0 rfl) ?_
  refine lv_iload_n hx hb dX6_readNumber_13 rfl (lv_at hl 3 rfl) ?_
  refine lv_icmp_lt (tgt := 23) hx hb dX6_readNumber_14 (by decide) (fun h => absurd h (by decide)) (fun _ => ?_)
  refine lv_iload hx hb dX6_readNumber_17 (lv_at hl 0 rfl) ?_
  refine lv_iload_n hx hb dX6_readNumber_19 rfl (lv_at hl 4 rfl) ?_
  refine lv_icmp_le (tgt := 29) hx hb dX6_readNumber_20 (by decide) (fun _ => ?_) (fun h => absurd (by decide) h)
  refine lv_aload_n hx hb dX6_readNumber_29 rfl (lv_at hl 2 rfl) ?_
  refine va_get (D := (dC, dI)) (ci := 6) (v := .int 0) (C := RX6) (T := TX6) (N := 9) hx hb hts iw_X6_readNumber_X6 hown hK hP 0 rfl rfl 1 (by decide) (hts _ m_X6_readNumber_2) (fun _ h9 => h9) rfl dX6_readNumber_30 ?_
  refine lv_if_ne (tgt := 41) hx hb dX6_readNumber_33 (by decide) (fun h => absurd (by decide) h) (fun _ => ?_)
  refine lv_iload hx hb dX6_readNumber_36 (lv_at hl 0 rfl) ?_
  refine lv_goto (tgt := 42) hx hb dX6_readNumber_38 (by decide) ?_
  exact W.iret hx hb hr (fun t ht hW => ⟨⟨2, (), rfl, rfl, by rw [ht]; exact hP, va_K.moved hW.alike hK, hD⟩, hS.F ht⟩) hS.2.2 dX6_readNumber_42

set_option maxHeartbeats 4000000 in
set_option maxRecDepth 100000 in
theorem cc_202_X6_readByte (l : Launch) (dC : Nat → ClassId) (dI : Nat → Nat → Nat) (cy : Nat → ClassId) (sz : Nat) (cb : Nat) (a0 : Nat) (a1 : Nat) (a2 : Nat) (a3 : Nat) (a4 : Nat) (a5 : Nat) (a6 : Nat)  : Met l yX6_readByte wsX6_readByte ({ frames := 0, cells := 0, slots := 0, locals := 0 }) (va_Pc [.ref a0] (fun U => U.heap.size = sz ∧ va_P (dC, dI) vwCl [(a0, .inr (6, [.int 0, .int 0, .ref a1, .int 60, .int 0, .int 4, .int 2, .int 1, .ref a2])), (a1, .inr (5, [.ref cb, .int 81, .int 0, .ref a3, .int 10, .ref a4, .int 4, .ref a5, .int 1, .int 1, .ref a6, .int 6, .int 0, .int 1, .int 0]))] U.heap ∧ va_K (dC, dI) vwCl (TYS cy) U ∧ va_D (fun _ => True) [(a0, .inr (6, [.int 0, .int 0, .ref a1, .int 60, .int 0, .int 4, .int 2, .int 1, .ref a2])), (a1, .inr (5, [.ref cb, .int 81, .int 0, .ref a3, .int 10, .ref a4, .int 4, .ref a5, .int 1, .int 1, .ref a6, .int 6, .int 0, .int 1, .int 0]))] ∧ NK U ∧ SK cb (va_A [(a0, .inr (6, [.int 0, .int 0, .ref a1, .int 60, .int 0, .int 4, .int 2, .int 1, .ref a2])), (a1, .inr (5, [.ref cb, .int 81, .int 0, .ref a3, .int 10, .ref a4, .int 4, .ref a5, .int 1, .int 1, .ref a6, .int 6, .int 0, .int 1, .int 0]))] sz) U U.heap)) (va_Qi (fun (r : Int32) (u : Unit) => r = 6) (fun u t => va_P (dC, dI) vwCl [(a0, .inr (6, [.int 0, .int 0, .ref a1, .int 61, .int 0, .int 4, .int 2, .int 1, .ref a2])), (a1, .inr (5, [.ref cb, .int 81, .int 0, .ref a3, .int 10, .ref a4, .int 4, .ref a5, .int 1, .int 1, .ref a6, .int 6, .int 0, .int 1, .int 0]))] t.heap ∧ va_K (dC, dI) vwCl (TYS cy) t ∧ va_D (va_A [(a0, .inr (6, [.int 0, .int 0, .ref a1, .int 60, .int 0, .int 4, .int 2, .int 1, .ref a2])), (a1, .inr (5, [.ref cb, .int 81, .int 0, .ref a3, .int 10, .ref a4, .int 4, .ref a5, .int 1, .int 1, .ref a6, .int 6, .int 0, .int 1, .int 0]))] sz) [(a0, .inr (6, [.int 0, .int 0, .ref a1, .int 61, .int 0, .int 4, .int 2, .int 1, .ref a2])), (a1, .inr (5, [.ref cb, .int 81, .int 0, .ref a3, .int 10, .ref a4, .int 4, .ref a5, .int 1, .int 1, .ref a6, .int 6, .int 0, .int 1, .int 0]))]) (va_A [(a0, .inr (6, [.int 0, .int 0, .ref a1, .int 60, .int 0, .int 4, .int 2, .int 1, .ref a2])), (a1, .inr (5, [.ref cb, .int 81, .int 0, .ref a3, .int 10, .ref a4, .int 4, .ref a5, .int 1, .int 1, .ref a6, .int 6, .int 0, .int 1, .int 0]))] sz)) 0 0 (va_A [(a0, .inr (6, [.int 0, .int 0, .ref a1, .int 60, .int 0, .int 4, .int 2, .int 1, .ref a2])), (a1, .inr (5, [.ref cb, .int 81, .int 0, .ref a3, .int 10, .ref a4, .int 4, .ref a5, .int 1, .int 1, .ref a6, .int 6, .int 0, .int 1, .int 0]))] sz) := by
  refine Met.ofW (cc := cX6_readByte) (maxL := 1) (ret := (some .int)) (by decide) rfl ?_
  intro p e s m args below meth c s₁ B hml hv
  obtain ⟨rfl, hsz, hP, hK, hD0, hN, hSK⟩ := hv
  have hx := B.exec
  have hb := B.bytes
  have hr := B.returns
  have hts := atoms_spec (ws := wsX6_readByte) B.pre
  have hown : s.vm.findClass RX6 = some m.cls := findClass_of_methodNamed B.named
  have hlocks := B.notSynchronized
  subst hsz
  have hD := hD0.self (sz := s.heap.size)
  generalize hAe : va_A [(a0, .inr (6, [.int 0, .int 0, .ref a1, .int 60, .int 0, .int 4, .int 2, .int 1, .ref a2])), (a1, .inr (5, [.ref cb, .int 81, .int 0, .ref a3, .int 10, .ref a4, .int 4, .ref a5, .int 1, .int 1, .ref a6, .int 6, .int 0, .int 1, .int 0]))] s.heap.size = A at hD hSK ⊢
  have hA : ∀ q : Nat, s.heap.size ≤ q → A q := fun q h => by rw [← hAe]; exact Or.inr h
  have hS : va_S A s.heap s.heap [] := va_S.rf
  have hP : va_P (dC, dI) vwCl [(a0, .inr (6, [.int 0, .int 0, .ref a1, .int 60, .int 0, .int 4, .int 2, .int 1, .ref a2])), (a1, .inr (5, [.ref cb, .int 81, .int 0, .ref a3, .int 10, .ref a4, .int 4, .ref a5, .int 1, .int 1, .ref a6, .int 6, .int 0, .int 1, .int 0]))] s.heap := hP
  have hl := lv_entry ([.ref a0]) (n := 1) (Nat.le_of_ble_eq_true rfl)
  rw [lg_entry_eq]
  generalize (lg_sl ([.ref a0]) ++ List.replicate (1 - (lg_sl ([.ref a0])).length) Slot.unset).toArray = ls at hl ⊢
  replace hl : lv_has ls 1 [(0, .ref a0)] := hl
  refine lv_aload_n hx hb dX6_readByte_0 rfl (lv_at hl 0 rfl) ?_
  refine va_get (D := (dC, dI)) (ci := 6) (v := .int 0) (C := RX6) (T := TX6) (N := 9) hx hb hts iw_X6_readByte_X6 hown hK hP 0 rfl rfl 1 (by decide) (hts _ m_X6_readByte_1) (fun _ h9 => h9) rfl dX6_readByte_1 ?_
  refine lv_if_eq (tgt := 9) hx hb dX6_readByte_4 (by decide) (fun _ => ?_) (fun h => absurd (by decide) h)
  refine lv_aload_n hx hb dX6_readByte_9 rfl (lv_at hl 0 rfl) ?_
  refine va_get (D := (dC, dI)) (ci := 6) (v := .int 60) (C := RX6) (T := TX6) (N := 9) hx hb hts iw_X6_readByte_X6 hown hK hP 0 rfl rfl 3 (by decide) (hts _ m_X6_readByte_2) (fun _ h9 => h9) rfl dX6_readByte_10 ?_
  refine lv_aload_n hx hb dX6_readByte_13 rfl (lv_at hl 0 rfl) ?_
  refine va_get (D := (dC, dI)) (ci := 6) (v := .ref a1) (C := RX6) (T := TX6) (N := 9) hx hb hts iw_X6_readByte_X6 hown hK hP 0 rfl rfl 2 (by decide) (hts _ m_X6_readByte_3) (fun _ h9 => h9) rfl dX6_readByte_14 ?_
  refine va_get (D := (dC, dI)) (ci := 5) (v := .int 81) (C := RX5) (T := TX5) (N := 15) hx hb hts iw_X6_readByte_X5 hown hK hP 1 rfl rfl 1 (by decide) (hts _ m_X6_readByte_4) (fun _ h9 => h9) rfl dX6_readByte_17 ?_
  refine lv_icmp_lt (tgt := 41) hx hb dX6_readByte_20 (by decide) (fun _ => ?_) (fun h => absurd (by decide) h)
  refine lv_aload_n hx hb dX6_readByte_41 rfl (lv_at hl 0 rfl) ?_
  refine va_get (D := (dC, dI)) (ci := 6) (v := .ref a1) (C := RX6) (T := TX6) (N := 9) hx hb hts iw_X6_readByte_X6 hown hK hP 0 rfl rfl 2 (by decide) (hts _ m_X6_readByte_3) (fun _ h9 => h9) rfl dX6_readByte_42 ?_
  refine va_get (D := (dC, dI)) (ci := 5) (v := .ref cb) (C := RX5) (T := TX5) (N := 15) hx hb hts iw_X6_readByte_X5 hown hK hP 1 rfl rfl 0 (by decide) (hts _ m_X6_readByte_6) (fun _ h9 => h9) rfl dX6_readByte_45 ?_
  refine lv_aload_n hx hb dX6_readByte_48 rfl (lv_at hl 0 rfl) ?_
  refine lv_dup hx hb dX6_readByte_49 rfl ?_
  refine va_get (D := (dC, dI)) (ci := 6) (v := .int 60) (C := RX6) (T := TX6) (N := 9) hx hb hts iw_X6_readByte_X6 hown hK hP 0 rfl rfl 3 (by decide) (hts _ m_X6_readByte_2) (fun _ h9 => h9) rfl dX6_readByte_50 ?_
  refine lv_dup_x1 hx hb dX6_readByte_53 rfl rfl ?_
  refine lv_iconst (v := 1) hx hb dX6_readByte_54 (by decide) ?_
  refine lv_iadd hx hb dX6_readByte_55 ?_
  refine lv_topi (fun z_1 ez_1 => ?_)
  obtain rfl : z_1 = 61 := ez_1.trans (by decide)
  clear ez_1
  refine va_put (D := (dC, dI)) (ci := 6) (v := .int 61) (ty := .int) (C := RX6) (T := TX6) (N := 9) hx hb hts iw_X6_readByte_X6 tyX6 tyX6_ok nmX6 hown hK hP hD hS 0 rfl rfl 3 (by decide) (hts _ m_X6_readByte_2) (fun _ h9 => h9) rfl (by decide +kernel) rfl rfl (Nat.le_of_ble_eq_true rfl) dX6_readByte_56 (fun H_2 locs hP2 hD2 hS2 => ?_)
  replace hP : va_P (dC, dI) vwCl [(a0, .inr (6, [.int 0, .int 0, .ref a1, .int 61, .int 0, .int 4, .int 2, .int 1, .ref a2])), (a1, .inr (5, [.ref cb, .int 81, .int 0, .ref a3, .int 10, .ref a4, .int 4, .ref a5, .int 1, .int 1, .ref a6, .int 6, .int 0, .int 1, .int 0]))] H_2 := hP2
  replace hD : va_D A [(a0, .inr (6, [.int 0, .int 0, .ref a1, .int 61, .int 0, .int 4, .int 2, .int 1, .ref a2])), (a1, .inr (5, [.ref cb, .int 81, .int 0, .ref a3, .int 10, .ref a4, .int 4, .ref a5, .int 1, .int 1, .ref a6, .int 6, .int 0, .int 1, .int 0]))] := hD2
  replace hS := hS2
  clear hP2 hD2 hS2
  refine va_tb (v := .int 6) hx hb hSK.2 hS (by unfold vp_in; decide) rfl dX6_readByte_59 ?_
  refine lv_sipush (v := 255) hx hb dX6_readByte_60 (by decide) ?_
  refine lv_iand hx hb dX6_readByte_63 ?_
  refine lv_topi (fun z_3 ez_3 => ?_)
  obtain rfl : z_3 = 6 := ez_3.trans (by decide)
  clear ez_3
  exact W.iret hx hb hr (fun t ht hW => ⟨⟨6, (), rfl, rfl, by rw [ht]; exact hP, va_K.moved hW.alike hK, hD⟩, hS.F ht⟩) hS.2.2 dX6_readByte_64

set_option maxHeartbeats 4000000 in
set_option maxRecDepth 100000 in
theorem cc_203_X6_readByte (l : Launch) (dC : Nat → ClassId) (dI : Nat → Nat → Nat) (cy : Nat → ClassId) (sz : Nat) (cb : Nat) (a0 : Nat) (a1 : Nat) (a2 : Nat) (a3 : Nat) (a4 : Nat) (a5 : Nat) (a6 : Nat)  : Met l yX6_readByte wsX6_readByte ({ frames := 0, cells := 0, slots := 0, locals := 0 }) (va_Pc [.ref a0] (fun U => U.heap.size = sz ∧ va_P (dC, dI) vwCl [(a0, .inr (6, [.int 0, .int 0, .ref a1, .int 61, .int 0, .int 4, .int 2, .int 1, .ref a2])), (a1, .inr (5, [.ref cb, .int 81, .int 0, .ref a3, .int 10, .ref a4, .int 4, .ref a5, .int 1, .int 1, .ref a6, .int 6, .int 0, .int 1, .int 0]))] U.heap ∧ va_K (dC, dI) vwCl (TYS cy) U ∧ va_D (fun _ => True) [(a0, .inr (6, [.int 0, .int 0, .ref a1, .int 61, .int 0, .int 4, .int 2, .int 1, .ref a2])), (a1, .inr (5, [.ref cb, .int 81, .int 0, .ref a3, .int 10, .ref a4, .int 4, .ref a5, .int 1, .int 1, .ref a6, .int 6, .int 0, .int 1, .int 0]))] ∧ NK U ∧ SK cb (va_A [(a0, .inr (6, [.int 0, .int 0, .ref a1, .int 61, .int 0, .int 4, .int 2, .int 1, .ref a2])), (a1, .inr (5, [.ref cb, .int 81, .int 0, .ref a3, .int 10, .ref a4, .int 4, .ref a5, .int 1, .int 1, .ref a6, .int 6, .int 0, .int 1, .int 0]))] sz) U U.heap)) (va_Qi (fun (r : Int32) (u : Unit) => r = 0) (fun u t => va_P (dC, dI) vwCl [(a0, .inr (6, [.int 0, .int 0, .ref a1, .int 62, .int 0, .int 4, .int 2, .int 1, .ref a2])), (a1, .inr (5, [.ref cb, .int 81, .int 0, .ref a3, .int 10, .ref a4, .int 4, .ref a5, .int 1, .int 1, .ref a6, .int 6, .int 0, .int 1, .int 0]))] t.heap ∧ va_K (dC, dI) vwCl (TYS cy) t ∧ va_D (va_A [(a0, .inr (6, [.int 0, .int 0, .ref a1, .int 61, .int 0, .int 4, .int 2, .int 1, .ref a2])), (a1, .inr (5, [.ref cb, .int 81, .int 0, .ref a3, .int 10, .ref a4, .int 4, .ref a5, .int 1, .int 1, .ref a6, .int 6, .int 0, .int 1, .int 0]))] sz) [(a0, .inr (6, [.int 0, .int 0, .ref a1, .int 62, .int 0, .int 4, .int 2, .int 1, .ref a2])), (a1, .inr (5, [.ref cb, .int 81, .int 0, .ref a3, .int 10, .ref a4, .int 4, .ref a5, .int 1, .int 1, .ref a6, .int 6, .int 0, .int 1, .int 0]))]) (va_A [(a0, .inr (6, [.int 0, .int 0, .ref a1, .int 61, .int 0, .int 4, .int 2, .int 1, .ref a2])), (a1, .inr (5, [.ref cb, .int 81, .int 0, .ref a3, .int 10, .ref a4, .int 4, .ref a5, .int 1, .int 1, .ref a6, .int 6, .int 0, .int 1, .int 0]))] sz)) 0 0 (va_A [(a0, .inr (6, [.int 0, .int 0, .ref a1, .int 61, .int 0, .int 4, .int 2, .int 1, .ref a2])), (a1, .inr (5, [.ref cb, .int 81, .int 0, .ref a3, .int 10, .ref a4, .int 4, .ref a5, .int 1, .int 1, .ref a6, .int 6, .int 0, .int 1, .int 0]))] sz) := by
  refine Met.ofW (cc := cX6_readByte) (maxL := 1) (ret := (some .int)) (by decide) rfl ?_
  intro p e s m args below meth c s₁ B hml hv
  obtain ⟨rfl, hsz, hP, hK, hD0, hN, hSK⟩ := hv
  have hx := B.exec
  have hb := B.bytes
  have hr := B.returns
  have hts := atoms_spec (ws := wsX6_readByte) B.pre
  have hown : s.vm.findClass RX6 = some m.cls := findClass_of_methodNamed B.named
  have hlocks := B.notSynchronized
  subst hsz
  have hD := hD0.self (sz := s.heap.size)
  generalize hAe : va_A [(a0, .inr (6, [.int 0, .int 0, .ref a1, .int 61, .int 0, .int 4, .int 2, .int 1, .ref a2])), (a1, .inr (5, [.ref cb, .int 81, .int 0, .ref a3, .int 10, .ref a4, .int 4, .ref a5, .int 1, .int 1, .ref a6, .int 6, .int 0, .int 1, .int 0]))] s.heap.size = A at hD hSK ⊢
  have hA : ∀ q : Nat, s.heap.size ≤ q → A q := fun q h => by rw [← hAe]; exact Or.inr h
  have hS : va_S A s.heap s.heap [] := va_S.rf
  have hP : va_P (dC, dI) vwCl [(a0, .inr (6, [.int 0, .int 0, .ref a1, .int 61, .int 0, .int 4, .int 2, .int 1, .ref a2])), (a1, .inr (5, [.ref cb, .int 81, .int 0, .ref a3, .int 10, .ref a4, .int 4, .ref a5, .int 1, .int 1, .ref a6, .int 6, .int 0, .int 1, .int 0]))] s.heap := hP
  have hl := lv_entry ([.ref a0]) (n := 1) (Nat.le_of_ble_eq_true rfl)
  rw [lg_entry_eq]
  generalize (lg_sl ([.ref a0]) ++ List.replicate (1 - (lg_sl ([.ref a0])).length) Slot.unset).toArray = ls at hl ⊢
  replace hl : lv_has ls 1 [(0, .ref a0)] := hl
  refine lv_aload_n hx hb dX6_readByte_0 rfl (lv_at hl 0 rfl) ?_
  refine va_get (D := (dC, dI)) (ci := 6) (v := .int 0) (C := RX6) (T := TX6) (N := 9) hx hb hts iw_X6_readByte_X6 hown hK hP 0 rfl rfl 1 (by decide) (hts _ m_X6_readByte_1) (fun _ h9 => h9) rfl dX6_readByte_1 ?_
  refine lv_if_eq (tgt := 9) hx hb dX6_readByte_4 (by decide) (fun _ => ?_) (fun h => absurd (by decide) h)
  refine lv_aload_n hx hb dX6_readByte_9 rfl (lv_at hl 0 rfl) ?_
  refine va_get (D := (dC, dI)) (ci := 6) (v := .int 61) (C := RX6) (T := TX6) (N := 9) hx hb hts iw_X6_readByte_X6 hown hK hP 0 rfl rfl 3 (by decide) (hts _ m_X6_readByte_2) (fun _ h9 => h9) rfl dX6_readByte_10 ?_
  refine lv_aload_n hx hb dX6_readByte_13 rfl (lv_at hl 0 rfl) ?_
  refine va_get (D := (dC, dI)) (ci := 6) (v := .ref a1) (C := RX6) (T := TX6) (N := 9) hx hb hts iw_X6_readByte_X6 hown hK hP 0 rfl rfl 2 (by decide) (hts _ m_X6_readByte_3) (fun _ h9 => h9) rfl dX6_readByte_14 ?_
  refine va_get (D := (dC, dI)) (ci := 5) (v := .int 81) (C := RX5) (T := TX5) (N := 15) hx hb hts iw_X6_readByte_X5 hown hK hP 1 rfl rfl 1 (by decide) (hts _ m_X6_readByte_4) (fun _ h9 => h9) rfl dX6_readByte_17 ?_
  refine lv_icmp_lt (tgt := 41) hx hb dX6_readByte_20 (by decide) (fun _ => ?_) (fun h => absurd (by decide) h)
  refine lv_aload_n hx hb dX6_readByte_41 rfl (lv_at hl 0 rfl) ?_
  refine va_get (D := (dC, dI)) (ci := 6) (v := .ref a1) (C := RX6) (T := TX6) (N := 9) hx hb hts iw_X6_readByte_X6 hown hK hP 0 rfl rfl 2 (by decide) (hts _ m_X6_readByte_3) (fun _ h9 => h9) rfl dX6_readByte_42 ?_
  refine va_get (D := (dC, dI)) (ci := 5) (v := .ref cb) (C := RX5) (T := TX5) (N := 15) hx hb hts iw_X6_readByte_X5 hown hK hP 1 rfl rfl 0 (by decide) (hts _ m_X6_readByte_6) (fun _ h9 => h9) rfl dX6_readByte_45 ?_
  refine lv_aload_n hx hb dX6_readByte_48 rfl (lv_at hl 0 rfl) ?_
  refine lv_dup hx hb dX6_readByte_49 rfl ?_
  refine va_get (D := (dC, dI)) (ci := 6) (v := .int 61) (C := RX6) (T := TX6) (N := 9) hx hb hts iw_X6_readByte_X6 hown hK hP 0 rfl rfl 3 (by decide) (hts _ m_X6_readByte_2) (fun _ h9 => h9) rfl dX6_readByte_50 ?_
  refine lv_dup_x1 hx hb dX6_readByte_53 rfl rfl ?_
  refine lv_iconst (v := 1) hx hb dX6_readByte_54 (by decide) ?_
  refine lv_iadd hx hb dX6_readByte_55 ?_
  refine lv_topi (fun z_1 ez_1 => ?_)
  obtain rfl : z_1 = 62 := ez_1.trans (by decide)
  clear ez_1
  refine va_put (D := (dC, dI)) (ci := 6) (v := .int 62) (ty := .int) (C := RX6) (T := TX6) (N := 9) hx hb hts iw_X6_readByte_X6 tyX6 tyX6_ok nmX6 hown hK hP hD hS 0 rfl rfl 3 (by decide) (hts _ m_X6_readByte_2) (fun _ h9 => h9) rfl (by decide +kernel) rfl rfl (Nat.le_of_ble_eq_true rfl) dX6_readByte_56 (fun H_2 locs hP2 hD2 hS2 => ?_)
  replace hP : va_P (dC, dI) vwCl [(a0, .inr (6, [.int 0, .int 0, .ref a1, .int 62, .int 0, .int 4, .int 2, .int 1, .ref a2])), (a1, .inr (5, [.ref cb, .int 81, .int 0, .ref a3, .int 10, .ref a4, .int 4, .ref a5, .int 1, .int 1, .ref a6, .int 6, .int 0, .int 1, .int 0]))] H_2 := hP2
  replace hD : va_D A [(a0, .inr (6, [.int 0, .int 0, .ref a1, .int 62, .int 0, .int 4, .int 2, .int 1, .ref a2])), (a1, .inr (5, [.ref cb, .int 81, .int 0, .ref a3, .int 10, .ref a4, .int 4, .ref a5, .int 1, .int 1, .ref a6, .int 6, .int 0, .int 1, .int 0]))] := hD2
  replace hS := hS2
  clear hP2 hD2 hS2
  refine va_tb (v := .int 0) hx hb hSK.2 hS (by unfold vp_in; decide) rfl dX6_readByte_59 ?_
  refine lv_sipush (v := 255) hx hb dX6_readByte_60 (by decide) ?_
  refine lv_iand hx hb dX6_readByte_63 ?_
  refine lv_topi (fun z_3 ez_3 => ?_)
  obtain rfl : z_3 = 0 := ez_3.trans (by decide)
  clear ez_3
  exact W.iret hx hb hr (fun t ht hW => ⟨⟨0, (), rfl, rfl, by rw [ht]; exact hP, va_K.moved hW.alike hK, hD⟩, hS.F ht⟩) hS.2.2 dX6_readByte_64

set_option maxHeartbeats 4000000 in
set_option maxRecDepth 100000 in
theorem cc_201_X6_readOneType (l : Launch) (dC : Nat → ClassId) (dI : Nat → Nat → Nat) (cy : Nat → ClassId) (sz : Nat) (cb : Nat) (a0 : Nat) (a1 : Nat) (a2 : Nat) (a3 : Nat) (a4 : Nat) (a5 : Nat) (a6 : Nat)  : Met l yX6_readOneType wsX6_readOneType ({ frames := 1, cells := 0, slots := 0, locals := 20 }) (va_Pc [.ref a0, .int 1] (fun U => U.heap.size = sz ∧ va_P (dC, dI) vwCl [(a0, .inr (6, [.int 0, .int 0, .ref a1, .int 60, .int 0, .int 4, .int 2, .int 1, .ref a2])), (a1, .inr (5, [.ref cb, .int 81, .int 0, .ref a3, .int 10, .ref a4, .int 4, .ref a5, .int 1, .int 1, .ref a6, .int 6, .int 0, .int 1, .int 0]))] U.heap ∧ va_K (dC, dI) vwCl (TYS cy) U ∧ va_D (fun _ => True) [(a0, .inr (6, [.int 0, .int 0, .ref a1, .int 60, .int 0, .int 4, .int 2, .int 1, .ref a2])), (a1, .inr (5, [.ref cb, .int 81, .int 0, .ref a3, .int 10, .ref a4, .int 4, .ref a5, .int 1, .int 1, .ref a6, .int 6, .int 0, .int 1, .int 0]))] ∧ NK U ∧ SK cb (va_A [(a0, .inr (6, [.int 0, .int 0, .ref a1, .int 60, .int 0, .int 4, .int 2, .int 1, .ref a2])), (a1, .inr (5, [.ref cb, .int 81, .int 0, .ref a3, .int 10, .ref a4, .int 4, .ref a5, .int 1, .int 1, .ref a6, .int 6, .int 0, .int 1, .int 0]))] sz) U U.heap)) (va_Ql (fun (r : Int64) (u : Unit) => r = 1536) (fun u t => va_P (dC, dI) vwCl [(a0, .inr (6, [.int 0, .int 0, .ref a1, .int 62, .int 0, .int 4, .int 2, .int 1, .ref a2])), (a1, .inr (5, [.ref cb, .int 81, .int 0, .ref a3, .int 10, .ref a4, .int 4, .ref a5, .int 1, .int 1, .ref a6, .int 6, .int 0, .int 1, .int 0]))] t.heap ∧ va_K (dC, dI) vwCl (TYS cy) t ∧ va_D (va_A [(a0, .inr (6, [.int 0, .int 0, .ref a1, .int 60, .int 0, .int 4, .int 2, .int 1, .ref a2])), (a1, .inr (5, [.ref cb, .int 81, .int 0, .ref a3, .int 10, .ref a4, .int 4, .ref a5, .int 1, .int 1, .ref a6, .int 6, .int 0, .int 1, .int 0]))] sz) [(a0, .inr (6, [.int 0, .int 0, .ref a1, .int 62, .int 0, .int 4, .int 2, .int 1, .ref a2])), (a1, .inr (5, [.ref cb, .int 81, .int 0, .ref a3, .int 10, .ref a4, .int 4, .ref a5, .int 1, .int 1, .ref a6, .int 6, .int 0, .int 1, .int 0]))]) (va_A [(a0, .inr (6, [.int 0, .int 0, .ref a1, .int 60, .int 0, .int 4, .int 2, .int 1, .ref a2])), (a1, .inr (5, [.ref cb, .int 81, .int 0, .ref a3, .int 10, .ref a4, .int 4, .ref a5, .int 1, .int 1, .ref a6, .int 6, .int 0, .int 1, .int 0]))] sz)) 0 0 (va_A [(a0, .inr (6, [.int 0, .int 0, .ref a1, .int 60, .int 0, .int 4, .int 2, .int 1, .ref a2])), (a1, .inr (5, [.ref cb, .int 81, .int 0, .ref a3, .int 10, .ref a4, .int 4, .ref a5, .int 1, .int 1, .ref a6, .int 6, .int 0, .int 1, .int 0]))] sz) := by
  refine Met.ofW (cc := cX6_readOneType) (maxL := 7) (ret := (some .long)) (by decide) rfl ?_
  intro p e s m args below meth c s₁ B hml hv
  obtain ⟨rfl, hsz, hP, hK, hD0, hN, hSK⟩ := hv
  have hx := B.exec
  have hb := B.bytes
  have hr := B.returns
  have hts := atoms_spec (ws := wsX6_readOneType) B.pre
  have hown : s.vm.findClass RX6 = some m.cls := findClass_of_methodNamed B.named
  have hlocks := B.notSynchronized
  subst hsz
  have hD := hD0.self (sz := s.heap.size)
  generalize hAe : va_A [(a0, .inr (6, [.int 0, .int 0, .ref a1, .int 60, .int 0, .int 4, .int 2, .int 1, .ref a2])), (a1, .inr (5, [.ref cb, .int 81, .int 0, .ref a3, .int 10, .ref a4, .int 4, .ref a5, .int 1, .int 1, .ref a6, .int 6, .int 0, .int 1, .int 0]))] s.heap.size = A at hD hSK ⊢
  have hA : ∀ q : Nat, s.heap.size ≤ q → A q := fun q h => by rw [← hAe]; exact Or.inr h
  have hS : va_S A s.heap s.heap [] := va_S.rf
  have hP : va_P (dC, dI) vwCl [(a0, .inr (6, [.int 0, .int 0, .ref a1, .int 60, .int 0, .int 4, .int 2, .int 1, .ref a2])), (a1, .inr (5, [.ref cb, .int 81, .int 0, .ref a3, .int 10, .ref a4, .int 4, .ref a5, .int 1, .int 1, .ref a6, .int 6, .int 0, .int 1, .int 0]))] s.heap := hP
  have hl := lv_entry ([.ref a0, .int 1]) (n := 7) (Nat.le_of_ble_eq_true rfl)
  rw [lg_entry_eq]
  generalize (lg_sl ([.ref a0, .int 1]) ++ List.replicate (7 - (lg_sl ([.ref a0, .int 1])).length) Slot.unset).toArray = ls at hl ⊢
  replace hl : lv_has ls 7 [(0, .ref a0), (1, .int 1)] := hl
  refine lv_lconst (v := 0) hx hb dX6_readOneType_0 (by decide) ?_
  refine lv_lstore_n (lv' := [(2, .long 0), (0, .ref a0), (1, .int 1)]) hx hb dX6_readOneType_1 rfl hl (by decide) rfl (fun ls hl2 => ?_)
  replace hl := hl2
  clear hl2
  refine lv_aload_n hx hb dX6_readOneType_2 rfl (lv_at hl 1 rfl) ?_
  refine va_get (D := (dC, dI)) (ci := 6) (v := .int 60) (C := RX6) (T := TX6) (N := 9) hx hb hts iw_X6_readOneType_X6 hown hK hP 0 rfl rfl 3 (by decide) (hts _ m_X6_readOneType_1) (fun _ h9 => h9) rfl dX6_readOneType_3 ?_
  refine lv_istore (lv' := [(4, .int 60), (2, .long 0), (0, .ref a0), (1, .int 1)]) hx hb dX6_readOneType_6 hl (by decide) rfl (fun ls hl2 => ?_)
  replace hl := hl2
  clear hl2
  refine lv_aload_n hx hb dX6_readOneType_8 rfl (lv_at hl 2 rfl) ?_
  have hPc := hP.sub (ws' := [(a0, .inr (6, [.int 0, .int 0, .ref a1, .int 60, .int 0, .int 4, .int 2, .int 1, .ref a2])), (a1, .inr (5, [.ref cb, .int 81, .int 0, .ref a3, .int 10, .ref a4, .int 4, .ref a5, .int 1, .int 1, .ref a6, .int 6, .int 0, .int 1, .int 0]))]) [0, 1] rfl
  have hDc := hD.sub (ws' := [(a0, .inr (6, [.int 0, .int 0, .ref a1, .int 60, .int 0, .int 4, .int 2, .int 1, .ref a2])), (a1, .inr (5, [.ref cb, .int 81, .int 0, .ref a3, .int 10, .ref a4, .int 4, .ref a5, .int 1, .int 1, .ref a6, .int 6, .int 0, .int 1, .int 0]))]) [0, 1] (by decide) rfl
  have hFc := va_free (wc := [(a0, .inr (6, [.int 0, .int 0, .ref a1, .int 60, .int 0, .int 4, .int 2, .int 1, .ref a2])), (a1, .inr (5, [.ref cb, .int 81, .int 0, .ref a3, .int 10, .ref a4, .int 4, .ref a5, .int 1, .int 1, .ref a6, .int 6, .int 0, .int 1, .int 0]))]) hD hS hA [0, 1] rfl
  refine va_calli (va_runV (As := []) (rest := []) ⟨hx, hb, hml, hown, hts⟩ (cc_202_X6_readByte l dC dI cy s.heap.size cb a0 a1 a2 a3 a4 a5 a6) (cwV 0 hts gX6_readOneType_X6_readByte rfl rfl rfl (by decide +kernel) ⟨Nat.le_of_ble_eq_true rfl, Nat.le_of_ble_eq_true rfl⟩) ⟨fun a U g mk q => by obtain ⟨q0, q1, qP, qK, qD, qN, qS⟩ := q; exact ⟨q0, q1, qP, va_K.moved (u := U) (U := U.calling g mk a) (Vm.Alike.refl U.vm) qK, qD, qN.same rfl, SK.moved (u := U) (U := U.calling g mk a) (Vm.Alike.refl U.vm) qS⟩, va_recv hK hPc (ci := 6) (q0 := 0) rfl rfl, fun U hU hW => ⟨rfl, by rw [hU], by rw [hU]; exact hPc, va_K.moved hW.alike hK, hDc.weaken (fun _ _ _ _ => trivial), hN.warm hW, by rw [hU]; exact ((hSK.kept hS.2.1).narrow hFc).moved hW.alike⟩⟩ rfl rfl hl.1 rfl (lv_room (Nat.le_of_ble_eq_true rfl)) dX6_readOneType_9 ⟨Nat.le_of_ble_eq_true rfl, Nat.le_of_ble_eq_true rfl⟩) hS (fun q _ h => hFc q h) hFc (fun r_1 u t H_2 locs ht hvm hw hB hz1 hk1 hS2 => ?_)
  obtain ⟨hP1, hK1, hD1⟩ := hB
  rw [ht] at hP1
  obtain rfl := hw
  obtain ⟨hP2, hD2⟩ := va_join (wr := []) (w1 := [(a0, .inr (6, [.int 0, .int 0, .ref a1, .int 61, .int 0, .int 4, .int 2, .int 1, .ref a2])), (a1, .inr (5, [.ref cb, .int 81, .int 0, .ref a3, .int 10, .ref a4, .int 4, .ref a5, .int 1, .int 1, .ref a6, .int 6, .int 0, .int 1, .int 0]))]) hP hD [0, 1] [] rfl rfl (by decide) (by decide) hk1 hFc hP1 hD1
  replace hP : va_P (dC, dI) vwCl [(a0, .inr (6, [.int 0, .int 0, .ref a1, .int 61, .int 0, .int 4, .int 2, .int 1, .ref a2])), (a1, .inr (5, [.ref cb, .int 81, .int 0, .ref a3, .int 10, .ref a4, .int 4, .ref a5, .int 1, .int 1, .ref a6, .int 6, .int 0, .int 1, .int 0]))] H_2 := hP2
  replace hD : va_D A [(a0, .inr (6, [.int 0, .int 0, .ref a1, .int 61, .int 0, .int 4, .int 2, .int 1, .ref a2])), (a1, .inr (5, [.ref cb, .int 81, .int 0, .ref a3, .int 10, .ref a4, .int 4, .ref a5, .int 1, .int 1, .ref a6, .int 6, .int 0, .int 1, .int 0]))] := hD2
  replace hS := hS2
  clear hP2 hD2 hS2
  clear hPc hDc hFc hP1 hD1 hK1 hk1 hz1 hvm ht
  refine W.widen (k := 0) (n := 0) (Nat.le_of_ble_eq_true rfl) (Nat.le_of_ble_eq_true rfl) ?_
  refine lv_istore (lv' := [(5, .int 6), (4, .int 60), (2, .long 0), (0, .ref a0), (1, .int 1)]) hx hb dX6_readOneType_12 hl (by decide) rfl (fun ls hl2 => ?_)
  replace hl := hl2
  clear hl2
  refine lv_iload_n hx hb dX6_readOneType_14 rfl (lv_at hl 4 rfl) ?_
  refine lv_if_eq (tgt := 48) hx hb dX6_readOneType_15 (by decide) (fun h => absurd h (by decide)) (fun _ => ?_)
  refine lv_iload hx hb dX6_readOneType_18 (lv_at hl 0 rfl) ?_
  refine lv_bipush (v := 8) hx hb dX6_readOneType_20 (by decide) ?_
  refine lv_icmp_eq (tgt := 32) hx hb dX6_readOneType_22 (by decide) (fun h => absurd h (by decide)) (fun _ => ?_)
  refine lv_iload hx hb dX6_readOneType_25 (lv_at hl 0 rfl) ?_
  refine lv_bipush (v := 9) hx hb dX6_readOneType_27 (by decide) ?_
  refine lv_icmp_ne (tgt := 48) hx hb dX6_readOneType_29 (by decide) (fun _ => ?_) (fun h => absurd h (by decide))
  refine lv_iconst (v := 0) hx hb dX6_readOneType_48 (by decide) ?_
  refine lv_istore (lv' := [(6, .int 0), (5, .int 6), (4, .int 60), (2, .long 0), (0, .ref a0), (1, .int 1)]) hx hb dX6_readOneType_49 hl (by decide) rfl (fun ls hl2 => ?_)
  replace hl := hl2
  clear hl2
  refine lv_iload hx hb dX6_readOneType_51 (lv_at hl 0 rfl) ?_
  refine lv_iconst (v := 4) hx hb dX6_readOneType_53 (by decide) ?_
  refine lv_icmp_ge (tgt := 91) hx hb dX6_readOneType_54 (by decide) (fun h => absurd h (by decide)) (fun _ => ?_)
  refine lv_iload hx hb dX6_readOneType_57 (lv_at hl 1 rfl) ?_
  refine lv_bipush (v := 7) hx hb dX6_readOneType_59 (by decide) ?_
  refine lv_icmp_ne (tgt := 91) hx hb dX6_readOneType_61 (by decide) (fun _ => ?_) (fun h => absurd h (by decide))
  refine lv_iload hx hb dX6_readOneType_91 (lv_at hl 1 rfl) ?_
  refine lv_iconst (v := 1) hx hb dX6_readOneType_93 (by decide) ?_
  refine lv_icmp_lt (tgt := 104) hx hb dX6_readOneType_94 (by decide) (fun h => absurd h (by decide)) (fun _ => ?_)
  refine lv_iload hx hb dX6_readOneType_97 (lv_at hl 1 rfl) ?_
  refine lv_bipush (v := 6) hx hb dX6_readOneType_99 (by decide) ?_
  refine lv_icmp_le (tgt := 111) hx hb dX6_readOneType_101 (by decide) (fun _ => ?_) (fun h => absurd (by decide) h)
  refine lv_lload_n hx hb dX6_readOneType_111 rfl (lv_at hl 3 rfl) ?_
  refine lv_bipush (v := 8) hx hb dX6_readOneType_112 (by decide) ?_
  refine lv_lshl (v := 0) hx hb dX6_readOneType_114 (by decide) ?_
  refine lv_iload hx hb dX6_readOneType_115 (lv_at hl 1 rfl) ?_
  refine lv_i2l (v := 6) hx hb dX6_readOneType_117 (by decide) ?_
  refine lv_lor hx hb dX6_readOneType_118 ?_
  refine lv_topl (fun z_3 ez_3 => ?_)
  obtain rfl : z_3 = 6 := ez_3.trans (by decide)
  clear ez_3
  refine lv_lstore_n (lv' := [(2, .long 6), (6, .int 0), (5, .int 6), (4, .int 60), (0, .ref a0), (1, .int 1)]) hx hb dX6_readOneType_119 rfl hl (by decide) rfl (fun ls hl2 => ?_)
  replace hl := hl2
  clear hl2
  refine lv_iload hx hb dX6_readOneType_120 (lv_at hl 2 rfl) ?_
  refine lv_bipush (v := 6) hx hb dX6_readOneType_122 (by decide) ?_
  refine lv_icmp_eq (tgt := 129) hx hb dX6_readOneType_124 (by decide) (fun _ => ?_) (fun h => absurd (by decide) h)
  refine lv_aload_n hx hb dX6_readOneType_129 rfl (lv_at hl 4 rfl) ?_
  refine va_get (D := (dC, dI)) (ci := 6) (v := .int 61) (C := RX6) (T := TX6) (N := 9) hx hb hts iw_X6_readOneType_X6 hown hK hP 0 rfl rfl 3 (by decide) (hts _ m_X6_readOneType_1) (fun _ h9 => h9) rfl dX6_readOneType_130 ?_
  refine lv_istore (lv' := [(4, .int 61), (2, .long 6), (6, .int 0), (5, .int 6), (0, .ref a0), (1, .int 1)]) hx hb dX6_readOneType_133 hl (by decide) rfl (fun ls hl2 => ?_)
  replace hl := hl2
  clear hl2
  refine lv_aload_n hx hb dX6_readOneType_135 rfl (lv_at hl 4 rfl) ?_
  have hPc := hP.sub (ws' := [(a0, .inr (6, [.int 0, .int 0, .ref a1, .int 61, .int 0, .int 4, .int 2, .int 1, .ref a2])), (a1, .inr (5, [.ref cb, .int 81, .int 0, .ref a3, .int 10, .ref a4, .int 4, .ref a5, .int 1, .int 1, .ref a6, .int 6, .int 0, .int 1, .int 0]))]) [0, 1] rfl
  have hDc := hD.sub (ws' := [(a0, .inr (6, [.int 0, .int 0, .ref a1, .int 61, .int 0, .int 4, .int 2, .int 1, .ref a2])), (a1, .inr (5, [.ref cb, .int 81, .int 0, .ref a3, .int 10, .ref a4, .int 4, .ref a5, .int 1, .int 1, .ref a6, .int 6, .int 0, .int 1, .int 0]))]) [0, 1] (by decide) rfl
  have hFc := va_free (wc := [(a0, .inr (6, [.int 0, .int 0, .ref a1, .int 61, .int 0, .int 4, .int 2, .int 1, .ref a2])), (a1, .inr (5, [.ref cb, .int 81, .int 0, .ref a3, .int 10, .ref a4, .int 4, .ref a5, .int 1, .int 1, .ref a6, .int 6, .int 0, .int 1, .int 0]))]) hD hS hA [0, 1] rfl
  refine va_calli (va_runV (As := []) (rest := []) ⟨hx, hb, hml, hown, hts⟩ (cc_203_X6_readByte l dC dI cy H_2.size cb a0 a1 a2 a3 a4 a5 a6) (cwV 0 hts gX6_readOneType_X6_readByte rfl rfl rfl (by decide +kernel) ⟨Nat.le_of_ble_eq_true rfl, Nat.le_of_ble_eq_true rfl⟩) ⟨fun a U g mk q => by obtain ⟨q0, q1, qP, qK, qD, qN, qS⟩ := q; exact ⟨q0, q1, qP, va_K.moved (u := U) (U := U.calling g mk a) (Vm.Alike.refl U.vm) qK, qD, qN.same rfl, SK.moved (u := U) (U := U.calling g mk a) (Vm.Alike.refl U.vm) qS⟩, va_recv hK hPc (ci := 6) (q0 := 0) rfl rfl, fun U hU hW => ⟨rfl, by rw [hU], by rw [hU]; exact hPc, va_K.moved hW.alike hK, hDc.weaken (fun _ _ _ _ => trivial), hN.warm hW, by rw [hU]; exact ((hSK.kept hS.2.1).narrow hFc).moved hW.alike⟩⟩ rfl rfl hl.1 rfl (lv_room (Nat.le_of_ble_eq_true rfl)) dX6_readOneType_136 ⟨Nat.le_of_ble_eq_true rfl, Nat.le_of_ble_eq_true rfl⟩) hS (fun q _ h => hFc q h) hFc (fun r_4 u t H_5 locs ht hvm hw hB hz1 hk1 hS2 => ?_)
  obtain ⟨hP1, hK1, hD1⟩ := hB
  rw [ht] at hP1
  obtain rfl := hw
  obtain ⟨hP2, hD2⟩ := va_join (wr := []) (w1 := [(a0, .inr (6, [.int 0, .int 0, .ref a1, .int 62, .int 0, .int 4, .int 2, .int 1, .ref a2])), (a1, .inr (5, [.ref cb, .int 81, .int 0, .ref a3, .int 10, .ref a4, .int 4, .ref a5, .int 1, .int 1, .ref a6, .int 6, .int 0, .int 1, .int 0]))]) hP hD [0, 1] [] rfl rfl (by decide) (by decide) hk1 hFc hP1 hD1
  replace hP : va_P (dC, dI) vwCl [(a0, .inr (6, [.int 0, .int 0, .ref a1, .int 62, .int 0, .int 4, .int 2, .int 1, .ref a2])), (a1, .inr (5, [.ref cb, .int 81, .int 0, .ref a3, .int 10, .ref a4, .int 4, .ref a5, .int 1, .int 1, .ref a6, .int 6, .int 0, .int 1, .int 0]))] H_5 := hP2
  replace hD : va_D A [(a0, .inr (6, [.int 0, .int 0, .ref a1, .int 62, .int 0, .int 4, .int 2, .int 1, .ref a2])), (a1, .inr (5, [.ref cb, .int 81, .int 0, .ref a3, .int 10, .ref a4, .int 4, .ref a5, .int 1, .int 1, .ref a6, .int 6, .int 0, .int 1, .int 0]))] := hD2
  replace hS := hS2
  clear hP2 hD2 hS2
  clear hPc hDc hFc hP1 hD1 hK1 hk1 hz1 hvm ht
  refine W.widen (k := 0) (n := 0) (Nat.le_of_ble_eq_true rfl) (Nat.le_of_ble_eq_true rfl) ?_
  refine lv_istore (lv' := [(6, .int 0), (4, .int 61), (2, .long 6), (5, .int 6), (0, .ref a0), (1, .int 1)]) hx hb dX6_readOneType_139 hl (by decide) rfl (fun ls hl2 => ?_)
  replace hl := hl2
  clear hl2
  refine lv_aload_n hx hb dX6_readOneType_141 rfl (lv_at hl 4 rfl) ?_
  refine va_get (D := (dC, dI)) (ci := 6) (v := .int 0) (C := RX6) (T := TX6) (N := 9) hx hb hts iw_X6_readOneType_X6 hown hK hP 0 rfl rfl 4 (by decide) (hts _ m_X6_readOneType_2) (fun _ h9 => h9) rfl dX6_readOneType_142 ?_
  refine lv_if_eq (tgt := 168) hx hb dX6_readOneType_145 (by decide) (fun _ => ?_) (fun h => absurd (by decide) h)
  refine lv_lload_n hx hb dX6_readOneType_168 rfl (lv_at hl 2 rfl) ?_
  refine lv_bipush (v := 8) hx hb dX6_readOneType_169 (by decide) ?_
  refine lv_lshl (v := 1536) hx hb dX6_readOneType_171 (by decide) ?_
  refine lv_iload hx hb dX6_readOneType_172 (lv_at hl 0 rfl) ?_
  refine lv_i2l (v := 0) hx hb dX6_readOneType_174 (by decide) ?_
  refine lv_lor hx hb dX6_readOneType_175 ?_
  refine lv_topl (fun z_6 ez_6 => ?_)
  obtain rfl : z_6 = 1536 := ez_6.trans (by decide)
  clear ez_6
  exact W.lret hx hb hr (fun t ht hW => ⟨⟨1536, (), rfl, rfl, by rw [ht]; exact hP, va_K.moved hW.alike hK, hD⟩, hS.F ht⟩) hS.2.2 dX6_readOneType_176

set_option maxHeartbeats 4000000 in
set_option maxRecDepth 100000 in
theorem cc_204_X5_addType (l : Launch) (dC : Nat → ClassId) (dI : Nat → Nat → Nat) (cy : Nat → ClassId) (sz : Nat) (cb : Nat) (a0 : Nat) (a1 : Nat) (a2 : Nat) (a3 : Nat) (a4 : Nat) (f0 : Nat → Int64) (f0_0 : f0 0 = 3) : Met l yX5_addType wsX5_addType ({ frames := 0, cells := 0, slots := 0, locals := 0 }) (va_Pc [.ref a0, .long 1536] (fun U => U.heap.size = sz ∧ va_P (dC, dI) vwCl [(a0, .inr (5, [.ref cb, .int 81, .int 0, .ref a1, .int 10, .ref a2, .int 4, .ref a3, .int 1, .int 1, .ref a4, .int 6, .int 0, .int 1, .int 0])), (a1, .inl (cy 2, 2048, .inr (.inl f0)))] U.heap ∧ va_K (dC, dI) vwCl (TYS cy) U ∧ va_D (fun _ => True) [(a0, .inr (5, [.ref cb, .int 81, .int 0, .ref a1, .int 10, .ref a2, .int 4, .ref a3, .int 1, .int 1, .ref a4, .int 6, .int 0, .int 1, .int 0])), (a1, .inl (cy 2, 2048, .inr (.inl f0)))] ∧ NK U ∧ SK cb (va_A [(a0, .inr (5, [.ref cb, .int 81, .int 0, .ref a1, .int 10, .ref a2, .int 4, .ref a3, .int 1, .int 1, .ref a4, .int 6, .int 0, .int 1, .int 0])), (a1, .inl (cy 2, 2048, .inr (.inl f0)))] sz) U U.heap)) (va_Qv (fun u : (Nat → Int64) => match u with | (u0) => u0 0 = 3) (fun u t => match u with | (u0) => va_P (dC, dI) vwCl [(a0, .inr (5, [.ref cb, .int 81, .int 0, .ref a1, .int 11, .ref a2, .int 4, .ref a3, .int 1, .int 1, .ref a4, .int 6, .int 0, .int 1, .int 0])), (a1, .inl (cy 2, 2048, .inr (.inl u0)))] t.heap ∧ va_K (dC, dI) vwCl (TYS cy) t ∧ va_D (va_A [(a0, .inr (5, [.ref cb, .int 81, .int 0, .ref a1, .int 10, .ref a2, .int 4, .ref a3, .int 1, .int 1, .ref a4, .int 6, .int 0, .int 1, .int 0])), (a1, .inl (cy 2, 2048, .inr (.inl f0)))] sz) [(a0, .inr (5, [.ref cb, .int 81, .int 0, .ref a1, .int 11, .ref a2, .int 4, .ref a3, .int 1, .int 1, .ref a4, .int 6, .int 0, .int 1, .int 0])), (a1, .inl (cy 2, 2048, .inr (.inl u0)))]) (va_A [(a0, .inr (5, [.ref cb, .int 81, .int 0, .ref a1, .int 10, .ref a2, .int 4, .ref a3, .int 1, .int 1, .ref a4, .int 6, .int 0, .int 1, .int 0])), (a1, .inl (cy 2, 2048, .inr (.inl f0)))] sz)) 0 0 (va_A [(a0, .inr (5, [.ref cb, .int 81, .int 0, .ref a1, .int 10, .ref a2, .int 4, .ref a3, .int 1, .int 1, .ref a4, .int 6, .int 0, .int 1, .int 0])), (a1, .inl (cy 2, 2048, .inr (.inl f0)))] sz) := by
  refine Met.ofW (cc := cX5_addType) (maxL := 3) (ret := none) (by decide) rfl ?_
  intro p e s m args below meth c s₁ B hml hv
  obtain ⟨rfl, hsz, hP, hK, hD0, hN, hSK⟩ := hv
  have hx := B.exec
  have hb := B.bytes
  have hr := B.returns
  have hts := atoms_spec (ws := wsX5_addType) B.pre
  have hown : s.vm.findClass RX5 = some m.cls := findClass_of_methodNamed B.named
  have hlocks := B.notSynchronized
  subst hsz
  have hD := hD0.self (sz := s.heap.size)
  generalize hAe : va_A [(a0, .inr (5, [.ref cb, .int 81, .int 0, .ref a1, .int 10, .ref a2, .int 4, .ref a3, .int 1, .int 1, .ref a4, .int 6, .int 0, .int 1, .int 0])), (a1, .inl (cy 2, 2048, .inr (.inl f0)))] s.heap.size = A at hD hSK ⊢
  have hA : ∀ q : Nat, s.heap.size ≤ q → A q := fun q h => by rw [← hAe]; exact Or.inr h
  have hS : va_S A s.heap s.heap [] := va_S.rf
  have hP : va_P (dC, dI) vwCl [(a0, .inr (5, [.ref cb, .int 81, .int 0, .ref a1, .int 10, .ref a2, .int 4, .ref a3, .int 1, .int 1, .ref a4, .int 6, .int 0, .int 1, .int 0])), (a1, .inl (cy 2, 2048, .inr (.inl f0)))] s.heap := hP
  have hl := lv_entry ([.ref a0, .long 1536]) (n := 3) (Nat.le_of_ble_eq_true rfl)
  rw [lg_entry_eq]
  generalize (lg_sl ([.ref a0, .long 1536]) ++ List.replicate (3 - (lg_sl ([.ref a0, .long 1536])).length) Slot.unset).toArray = ls at hl ⊢
  replace hl : lv_has ls 3 [(0, .ref a0), (1, .long 1536)] := hl
  refine lv_aload_n hx hb dX5_addType_0 rfl (lv_at hl 0 rfl) ?_
  refine va_get (D := (dC, dI)) (ci := 5) (v := .int 10) (C := RX5) (T := TX5) (N := 15) hx hb hts iw_X5_addType_X5 hown hK hP 0 rfl rfl 4 (by decide) (hts _ m_X5_addType_1) (fun _ h9 => h9) rfl dX5_addType_1 ?_
  refine lv_aload_n hx hb dX5_addType_4 rfl (lv_at hl 0 rfl) ?_
  refine va_get (D := (dC, dI)) (ci := 5) (v := .ref a1) (C := RX5) (T := TX5) (N := 15) hx hb hts iw_X5_addType_X5 hown hK hP 0 rfl rfl 3 (by decide) (hts _ m_X5_addType_2) (fun _ h9 => h9) rfl dX5_addType_5 ?_
  refine va_alen (v := 2048) hx hb hK hP 1 2 rfl rfl rfl dX5_addType_8 ?_
  refine lv_icmp_ge (tgt := 29) hx hb dX5_addType_9 (by decide) (fun h => absurd h (by decide)) (fun _ => ?_)
  refine lv_aload_n hx hb dX5_addType_12 rfl (lv_at hl 0 rfl) ?_
  refine va_get (D := (dC, dI)) (ci := 5) (v := .ref a1) (C := RX5) (T := TX5) (N := 15) hx hb hts iw_X5_addType_X5 hown hK hP 0 rfl rfl 3 (by decide) (hts _ m_X5_addType_2) (fun _ h9 => h9) rfl dX5_addType_13 ?_
  refine lv_aload_n hx hb dX5_addType_16 rfl (lv_at hl 0 rfl) ?_
  refine lv_dup hx hb dX5_addType_17 rfl ?_
  refine va_get (D := (dC, dI)) (ci := 5) (v := .int 10) (C := RX5) (T := TX5) (N := 15) hx hb hts iw_X5_addType_X5 hown hK hP 0 rfl rfl 4 (by decide) (hts _ m_X5_addType_1) (fun _ h9 => h9) rfl dX5_addType_18 ?_
  refine lv_dup_x1 hx hb dX5_addType_21 rfl rfl ?_
  refine lv_iconst (v := 1) hx hb dX5_addType_22 (by decide) ?_
  refine lv_iadd hx hb dX5_addType_23 ?_
  refine lv_topi (fun z_1 ez_1 => ?_)
  obtain rfl : z_1 = 11 := ez_1.trans (by decide)
  clear ez_1
  refine va_put (D := (dC, dI)) (ci := 5) (v := .int 11) (ty := .int) (C := RX5) (T := TX5) (N := 15) hx hb hts iw_X5_addType_X5 tyX5 tyX5_ok nmX5 hown hK hP hD hS 0 rfl rfl 4 (by decide) (hts _ m_X5_addType_1) (fun _ h9 => h9) rfl (by decide +kernel) rfl rfl (Nat.le_of_ble_eq_true rfl) dX5_addType_24 (fun H_2 locs hP2 hD2 hS2 => ?_)
  replace hP : va_P (dC, dI) vwCl [(a0, .inr (5, [.ref cb, .int 81, .int 0, .ref a1, .int 11, .ref a2, .int 4, .ref a3, .int 1, .int 1, .ref a4, .int 6, .int 0, .int 1, .int 0])), (a1, .inl (cy 2, 2048, .inr (.inl f0)))] H_2 := hP2
  replace hD : va_D A [(a0, .inr (5, [.ref cb, .int 81, .int 0, .ref a1, .int 11, .ref a2, .int 4, .ref a3, .int 1, .int 1, .ref a4, .int 6, .int 0, .int 1, .int 0])), (a1, .inl (cy 2, 2048, .inr (.inl f0)))] := hD2
  replace hS := hS2
  clear hP2 hD2 hS2
  refine lv_lload_n hx hb dX5_addType_27 rfl (lv_at hl 1 rfl) ?_
  refine va_last hx hb hK hP hD hS 1 2 rfl rfl (by unfold vp_in; decide) dX5_addType_28 (fun H_4 locs hP2 hD2 hS2 => ?_)
  replace hP : va_P (dC, dI) vwCl [(a0, .inr (5, [.ref cb, .int 81, .int 0, .ref a1, .int 11, .ref a2, .int 4, .ref a3, .int 1, .int 1, .ref a4, .int 6, .int 0, .int 1, .int 0])), (a1, .inl (cy 2, 2048, .inr (.inl (vp_updL f0 10 1536))))] H_4 := hP2
  replace hD : va_D A [(a0, .inr (5, [.ref cb, .int 81, .int 0, .ref a1, .int 11, .ref a2, .int 4, .ref a3, .int 1, .int 1, .ref a4, .int 6, .int 0, .int 1, .int 0])), (a1, .inl (cy 2, 2048, .inr (.inl (vp_updL f0 10 1536))))] := hD2
  replace hS := hS2
  clear hP2 hD2 hS2
  obtain ⟨g_3, eg_3⟩ : ∃ z, vp_updL f0 10 1536 = z := ⟨_, rfl⟩
  rw [eg_3] at hP hD
  have kg_3_0 : g_3 0 = 3 := by rw [← eg_3, pk_uLn (by decide)]; exact f0_0
  exact W.vret hx hb hr (fun t ht hW => ⟨⟨(g_3), rfl, kg_3_0, by rw [ht]; exact hP, va_K.moved hW.alike hK, hD⟩, hS.F ht⟩) hS.2.2 dX5_addType_29

set_option maxHeartbeats 4000000 in
set_option maxRecDepth 100000 in
theorem cc_206_X6_readByte (l : Launch) (dC : Nat → ClassId) (dI : Nat → Nat → Nat) (cy : Nat → ClassId) (sz : Nat) (cb : Nat) (a0 : Nat) (a1 : Nat) (a2 : Nat) (a3 : Nat) (a4 : Nat) (a5 : Nat) (a6 : Nat)  : Met l yX6_readByte wsX6_readByte ({ frames := 0, cells := 0, slots := 0, locals := 0 }) (va_Pc [.ref a0] (fun U => U.heap.size = sz ∧ va_P (dC, dI) vwCl [(a0, .inr (6, [.int 0, .int 0, .ref a1, .int 62, .int 0, .int 4, .int 2, .int 1, .ref a2])), (a1, .inr (5, [.ref cb, .int 81, .int 0, .ref a3, .int 11, .ref a4, .int 4, .ref a5, .int 1, .int 1, .ref a6, .int 6, .int 0, .int 1, .int 0]))] U.heap ∧ va_K (dC, dI) vwCl (TYS cy) U ∧ va_D (fun _ => True) [(a0, .inr (6, [.int 0, .int 0, .ref a1, .int 62, .int 0, .int 4, .int 2, .int 1, .ref a2])), (a1, .inr (5, [.ref cb, .int 81, .int 0, .ref a3, .int 11, .ref a4, .int 4, .ref a5, .int 1, .int 1, .ref a6, .int 6, .int 0, .int 1, .int 0]))] ∧ NK U ∧ SK cb (va_A [(a0, .inr (6, [.int 0, .int 0, .ref a1, .int 62, .int 0, .int 4, .int 2, .int 1, .ref a2])), (a1, .inr (5, [.ref cb, .int 81, .int 0, .ref a3, .int 11, .ref a4, .int 4, .ref a5, .int 1, .int 1, .ref a6, .int 6, .int 0, .int 1, .int 0]))] sz) U U.heap)) (va_Qi (fun (r : Int32) (u : Unit) => r = 3) (fun u t => va_P (dC, dI) vwCl [(a0, .inr (6, [.int 0, .int 0, .ref a1, .int 63, .int 0, .int 4, .int 2, .int 1, .ref a2])), (a1, .inr (5, [.ref cb, .int 81, .int 0, .ref a3, .int 11, .ref a4, .int 4, .ref a5, .int 1, .int 1, .ref a6, .int 6, .int 0, .int 1, .int 0]))] t.heap ∧ va_K (dC, dI) vwCl (TYS cy) t ∧ va_D (va_A [(a0, .inr (6, [.int 0, .int 0, .ref a1, .int 62, .int 0, .int 4, .int 2, .int 1, .ref a2])), (a1, .inr (5, [.ref cb, .int 81, .int 0, .ref a3, .int 11, .ref a4, .int 4, .ref a5, .int 1, .int 1, .ref a6, .int 6, .int 0, .int 1, .int 0]))] sz) [(a0, .inr (6, [.int 0, .int 0, .ref a1, .int 63, .int 0, .int 4, .int 2, .int 1, .ref a2])), (a1, .inr (5, [.ref cb, .int 81, .int 0, .ref a3, .int 11, .ref a4, .int 4, .ref a5, .int 1, .int 1, .ref a6, .int 6, .int 0, .int 1, .int 0]))]) (va_A [(a0, .inr (6, [.int 0, .int 0, .ref a1, .int 62, .int 0, .int 4, .int 2, .int 1, .ref a2])), (a1, .inr (5, [.ref cb, .int 81, .int 0, .ref a3, .int 11, .ref a4, .int 4, .ref a5, .int 1, .int 1, .ref a6, .int 6, .int 0, .int 1, .int 0]))] sz)) 0 0 (va_A [(a0, .inr (6, [.int 0, .int 0, .ref a1, .int 62, .int 0, .int 4, .int 2, .int 1, .ref a2])), (a1, .inr (5, [.ref cb, .int 81, .int 0, .ref a3, .int 11, .ref a4, .int 4, .ref a5, .int 1, .int 1, .ref a6, .int 6, .int 0, .int 1, .int 0]))] sz) := by
  refine Met.ofW (cc := cX6_readByte) (maxL := 1) (ret := (some .int)) (by decide) rfl ?_
  intro p e s m args below meth c s₁ B hml hv
  obtain ⟨rfl, hsz, hP, hK, hD0, hN, hSK⟩ := hv
  have hx := B.exec
  have hb := B.bytes
  have hr := B.returns
  have hts := atoms_spec (ws := wsX6_readByte) B.pre
  have hown : s.vm.findClass RX6 = some m.cls := findClass_of_methodNamed B.named
  have hlocks := B.notSynchronized
  subst hsz
  have hD := hD0.self (sz := s.heap.size)
  generalize hAe : va_A [(a0, .inr (6, [.int 0, .int 0, .ref a1, .int 62, .int 0, .int 4, .int 2, .int 1, .ref a2])), (a1, .inr (5, [.ref cb, .int 81, .int 0, .ref a3, .int 11, .ref a4, .int 4, .ref a5, .int 1, .int 1, .ref a6, .int 6, .int 0, .int 1, .int 0]))] s.heap.size = A at hD hSK ⊢
  have hA : ∀ q : Nat, s.heap.size ≤ q → A q := fun q h => by rw [← hAe]; exact Or.inr h
  have hS : va_S A s.heap s.heap [] := va_S.rf
  have hP : va_P (dC, dI) vwCl [(a0, .inr (6, [.int 0, .int 0, .ref a1, .int 62, .int 0, .int 4, .int 2, .int 1, .ref a2])), (a1, .inr (5, [.ref cb, .int 81, .int 0, .ref a3, .int 11, .ref a4, .int 4, .ref a5, .int 1, .int 1, .ref a6, .int 6, .int 0, .int 1, .int 0]))] s.heap := hP
  have hl := lv_entry ([.ref a0]) (n := 1) (Nat.le_of_ble_eq_true rfl)
  rw [lg_entry_eq]
  generalize (lg_sl ([.ref a0]) ++ List.replicate (1 - (lg_sl ([.ref a0])).length) Slot.unset).toArray = ls at hl ⊢
  replace hl : lv_has ls 1 [(0, .ref a0)] := hl
  refine lv_aload_n hx hb dX6_readByte_0 rfl (lv_at hl 0 rfl) ?_
  refine va_get (D := (dC, dI)) (ci := 6) (v := .int 0) (C := RX6) (T := TX6) (N := 9) hx hb hts iw_X6_readByte_X6 hown hK hP 0 rfl rfl 1 (by decide) (hts _ m_X6_readByte_1) (fun _ h9 => h9) rfl dX6_readByte_1 ?_
  refine lv_if_eq (tgt := 9) hx hb dX6_readByte_4 (by decide) (fun _ => ?_) (fun h => absurd (by decide) h)
  refine lv_aload_n hx hb dX6_readByte_9 rfl (lv_at hl 0 rfl) ?_
  refine va_get (D := (dC, dI)) (ci := 6) (v := .int 62) (C := RX6) (T := TX6) (N := 9) hx hb hts iw_X6_readByte_X6 hown hK hP 0 rfl rfl 3 (by decide) (hts _ m_X6_readByte_2) (fun _ h9 => h9) rfl dX6_readByte_10 ?_
  refine lv_aload_n hx hb dX6_readByte_13 rfl (lv_at hl 0 rfl) ?_
  refine va_get (D := (dC, dI)) (ci := 6) (v := .ref a1) (C := RX6) (T := TX6) (N := 9) hx hb hts iw_X6_readByte_X6 hown hK hP 0 rfl rfl 2 (by decide) (hts _ m_X6_readByte_3) (fun _ h9 => h9) rfl dX6_readByte_14 ?_
  refine va_get (D := (dC, dI)) (ci := 5) (v := .int 81) (C := RX5) (T := TX5) (N := 15) hx hb hts iw_X6_readByte_X5 hown hK hP 1 rfl rfl 1 (by decide) (hts _ m_X6_readByte_4) (fun _ h9 => h9) rfl dX6_readByte_17 ?_
  refine lv_icmp_lt (tgt := 41) hx hb dX6_readByte_20 (by decide) (fun _ => ?_) (fun h => absurd (by decide) h)
  refine lv_aload_n hx hb dX6_readByte_41 rfl (lv_at hl 0 rfl) ?_
  refine va_get (D := (dC, dI)) (ci := 6) (v := .ref a1) (C := RX6) (T := TX6) (N := 9) hx hb hts iw_X6_readByte_X6 hown hK hP 0 rfl rfl 2 (by decide) (hts _ m_X6_readByte_3) (fun _ h9 => h9) rfl dX6_readByte_42 ?_
  refine va_get (D := (dC, dI)) (ci := 5) (v := .ref cb) (C := RX5) (T := TX5) (N := 15) hx hb hts iw_X6_readByte_X5 hown hK hP 1 rfl rfl 0 (by decide) (hts _ m_X6_readByte_6) (fun _ h9 => h9) rfl dX6_readByte_45 ?_
  refine lv_aload_n hx hb dX6_readByte_48 rfl (lv_at hl 0 rfl) ?_
  refine lv_dup hx hb dX6_readByte_49 rfl ?_
  refine va_get (D := (dC, dI)) (ci := 6) (v := .int 62) (C := RX6) (T := TX6) (N := 9) hx hb hts iw_X6_readByte_X6 hown hK hP 0 rfl rfl 3 (by decide) (hts _ m_X6_readByte_2) (fun _ h9 => h9) rfl dX6_readByte_50 ?_
  refine lv_dup_x1 hx hb dX6_readByte_53 rfl rfl ?_
  refine lv_iconst (v := 1) hx hb dX6_readByte_54 (by decide) ?_
  refine lv_iadd hx hb dX6_readByte_55 ?_
  refine lv_topi (fun z_1 ez_1 => ?_)
  obtain rfl : z_1 = 63 := ez_1.trans (by decide)
  clear ez_1
  refine va_put (D := (dC, dI)) (ci := 6) (v := .int 63) (ty := .int) (C := RX6) (T := TX6) (N := 9) hx hb hts iw_X6_readByte_X6 tyX6 tyX6_ok nmX6 hown hK hP hD hS 0 rfl rfl 3 (by decide) (hts _ m_X6_readByte_2) (fun _ h9 => h9) rfl (by decide +kernel) rfl rfl (Nat.le_of_ble_eq_true rfl) dX6_readByte_56 (fun H_2 locs hP2 hD2 hS2 => ?_)
  replace hP : va_P (dC, dI) vwCl [(a0, .inr (6, [.int 0, .int 0, .ref a1, .int 63, .int 0, .int 4, .int 2, .int 1, .ref a2])), (a1, .inr (5, [.ref cb, .int 81, .int 0, .ref a3, .int 11, .ref a4, .int 4, .ref a5, .int 1, .int 1, .ref a6, .int 6, .int 0, .int 1, .int 0]))] H_2 := hP2
  replace hD : va_D A [(a0, .inr (6, [.int 0, .int 0, .ref a1, .int 63, .int 0, .int 4, .int 2, .int 1, .ref a2])), (a1, .inr (5, [.ref cb, .int 81, .int 0, .ref a3, .int 11, .ref a4, .int 4, .ref a5, .int 1, .int 1, .ref a6, .int 6, .int 0, .int 1, .int 0]))] := hD2
  replace hS := hS2
  clear hP2 hD2 hS2
  refine va_tb (v := .int 3) hx hb hSK.2 hS (by unfold vp_in; decide) rfl dX6_readByte_59 ?_
  refine lv_sipush (v := 255) hx hb dX6_readByte_60 (by decide) ?_
  refine lv_iand hx hb dX6_readByte_63 ?_
  refine lv_topi (fun z_3 ez_3 => ?_)
  obtain rfl : z_3 = 3 := ez_3.trans (by decide)
  clear ez_3
  exact W.iret hx hb hr (fun t ht hW => ⟨⟨3, (), rfl, rfl, by rw [ht]; exact hP, va_K.moved hW.alike hK, hD⟩, hS.F ht⟩) hS.2.2 dX6_readByte_64

set_option maxHeartbeats 4000000 in
set_option maxRecDepth 100000 in
theorem cc_205_X6_readOneType (l : Launch) (dC : Nat → ClassId) (dI : Nat → Nat → Nat) (cy : Nat → ClassId) (sz : Nat) (cb : Nat) (a0 : Nat) (a1 : Nat) (a2 : Nat) (a3 : Nat) (a4 : Nat) (a5 : Nat) (a6 : Nat)  : Met l yX6_readOneType wsX6_readOneType ({ frames := 1, cells := 0, slots := 0, locals := 20 }) (va_Pc [.ref a0, .int 1] (fun U => U.heap.size = sz ∧ va_P (dC, dI) vwCl [(a0, .inr (6, [.int 0, .int 0, .ref a1, .int 62, .int 0, .int 4, .int 2, .int 1, .ref a2])), (a1, .inr (5, [.ref cb, .int 81, .int 0, .ref a3, .int 11, .ref a4, .int 4, .ref a5, .int 1, .int 1, .ref a6, .int 6, .int 0, .int 1, .int 0]))] U.heap ∧ va_K (dC, dI) vwCl (TYS cy) U ∧ va_D (fun _ => True) [(a0, .inr (6, [.int 0, .int 0, .ref a1, .int 62, .int 0, .int 4, .int 2, .int 1, .ref a2])), (a1, .inr (5, [.ref cb, .int 81, .int 0, .ref a3, .int 11, .ref a4, .int 4, .ref a5, .int 1, .int 1, .ref a6, .int 6, .int 0, .int 1, .int 0]))] ∧ NK U ∧ SK cb (va_A [(a0, .inr (6, [.int 0, .int 0, .ref a1, .int 62, .int 0, .int 4, .int 2, .int 1, .ref a2])), (a1, .inr (5, [.ref cb, .int 81, .int 0, .ref a3, .int 11, .ref a4, .int 4, .ref a5, .int 1, .int 1, .ref a6, .int 6, .int 0, .int 1, .int 0]))] sz) U U.heap)) (va_Ql (fun (r : Int64) (u : Unit) => r = 3) (fun u t => va_P (dC, dI) vwCl [(a0, .inr (6, [.int 0, .int 0, .ref a1, .int 63, .int 0, .int 4, .int 2, .int 1, .ref a2])), (a1, .inr (5, [.ref cb, .int 81, .int 0, .ref a3, .int 11, .ref a4, .int 4, .ref a5, .int 1, .int 1, .ref a6, .int 6, .int 0, .int 1, .int 0]))] t.heap ∧ va_K (dC, dI) vwCl (TYS cy) t ∧ va_D (va_A [(a0, .inr (6, [.int 0, .int 0, .ref a1, .int 62, .int 0, .int 4, .int 2, .int 1, .ref a2])), (a1, .inr (5, [.ref cb, .int 81, .int 0, .ref a3, .int 11, .ref a4, .int 4, .ref a5, .int 1, .int 1, .ref a6, .int 6, .int 0, .int 1, .int 0]))] sz) [(a0, .inr (6, [.int 0, .int 0, .ref a1, .int 63, .int 0, .int 4, .int 2, .int 1, .ref a2])), (a1, .inr (5, [.ref cb, .int 81, .int 0, .ref a3, .int 11, .ref a4, .int 4, .ref a5, .int 1, .int 1, .ref a6, .int 6, .int 0, .int 1, .int 0]))]) (va_A [(a0, .inr (6, [.int 0, .int 0, .ref a1, .int 62, .int 0, .int 4, .int 2, .int 1, .ref a2])), (a1, .inr (5, [.ref cb, .int 81, .int 0, .ref a3, .int 11, .ref a4, .int 4, .ref a5, .int 1, .int 1, .ref a6, .int 6, .int 0, .int 1, .int 0]))] sz)) 0 0 (va_A [(a0, .inr (6, [.int 0, .int 0, .ref a1, .int 62, .int 0, .int 4, .int 2, .int 1, .ref a2])), (a1, .inr (5, [.ref cb, .int 81, .int 0, .ref a3, .int 11, .ref a4, .int 4, .ref a5, .int 1, .int 1, .ref a6, .int 6, .int 0, .int 1, .int 0]))] sz) := by
  refine Met.ofW (cc := cX6_readOneType) (maxL := 7) (ret := (some .long)) (by decide) rfl ?_
  intro p e s m args below meth c s₁ B hml hv
  obtain ⟨rfl, hsz, hP, hK, hD0, hN, hSK⟩ := hv
  have hx := B.exec
  have hb := B.bytes
  have hr := B.returns
  have hts := atoms_spec (ws := wsX6_readOneType) B.pre
  have hown : s.vm.findClass RX6 = some m.cls := findClass_of_methodNamed B.named
  have hlocks := B.notSynchronized
  subst hsz
  have hD := hD0.self (sz := s.heap.size)
  generalize hAe : va_A [(a0, .inr (6, [.int 0, .int 0, .ref a1, .int 62, .int 0, .int 4, .int 2, .int 1, .ref a2])), (a1, .inr (5, [.ref cb, .int 81, .int 0, .ref a3, .int 11, .ref a4, .int 4, .ref a5, .int 1, .int 1, .ref a6, .int 6, .int 0, .int 1, .int 0]))] s.heap.size = A at hD hSK ⊢
  have hA : ∀ q : Nat, s.heap.size ≤ q → A q := fun q h => by rw [← hAe]; exact Or.inr h
  have hS : va_S A s.heap s.heap [] := va_S.rf
  have hP : va_P (dC, dI) vwCl [(a0, .inr (6, [.int 0, .int 0, .ref a1, .int 62, .int 0, .int 4, .int 2, .int 1, .ref a2])), (a1, .inr (5, [.ref cb, .int 81, .int 0, .ref a3, .int 11, .ref a4, .int 4, .ref a5, .int 1, .int 1, .ref a6, .int 6, .int 0, .int 1, .int 0]))] s.heap := hP
  have hl := lv_entry ([.ref a0, .int 1]) (n := 7) (Nat.le_of_ble_eq_true rfl)
  rw [lg_entry_eq]
  generalize (lg_sl ([.ref a0, .int 1]) ++ List.replicate (7 - (lg_sl ([.ref a0, .int 1])).length) Slot.unset).toArray = ls at hl ⊢
  replace hl : lv_has ls 7 [(0, .ref a0), (1, .int 1)] := hl
  refine lv_lconst (v := 0) hx hb dX6_readOneType_0 (by decide) ?_
  refine lv_lstore_n (lv' := [(2, .long 0), (0, .ref a0), (1, .int 1)]) hx hb dX6_readOneType_1 rfl hl (by decide) rfl (fun ls hl2 => ?_)
  replace hl := hl2
  clear hl2
  refine lv_aload_n hx hb dX6_readOneType_2 rfl (lv_at hl 1 rfl) ?_
  refine va_get (D := (dC, dI)) (ci := 6) (v := .int 62) (C := RX6) (T := TX6) (N := 9) hx hb hts iw_X6_readOneType_X6 hown hK hP 0 rfl rfl 3 (by decide) (hts _ m_X6_readOneType_1) (fun _ h9 => h9) rfl dX6_readOneType_3 ?_
  refine lv_istore (lv' := [(4, .int 62), (2, .long 0), (0, .ref a0), (1, .int 1)]) hx hb dX6_readOneType_6 hl (by decide) rfl (fun ls hl2 => ?_)
  replace hl := hl2
  clear hl2
  refine lv_aload_n hx hb dX6_readOneType_8 rfl (lv_at hl 2 rfl) ?_
  have hPc := hP.sub (ws' := [(a0, .inr (6, [.int 0, .int 0, .ref a1, .int 62, .int 0, .int 4, .int 2, .int 1, .ref a2])), (a1, .inr (5, [.ref cb, .int 81, .int 0, .ref a3, .int 11, .ref a4, .int 4, .ref a5, .int 1, .int 1, .ref a6, .int 6, .int 0, .int 1, .int 0]))]) [0, 1] rfl
  have hDc := hD.sub (ws' := [(a0, .inr (6, [.int 0, .int 0, .ref a1, .int 62, .int 0, .int 4, .int 2, .int 1, .ref a2])), (a1, .inr (5, [.ref cb, .int 81, .int 0, .ref a3, .int 11, .ref a4, .int 4, .ref a5, .int 1, .int 1, .ref a6, .int 6, .int 0, .int 1, .int 0]))]) [0, 1] (by decide) rfl
  have hFc := va_free (wc := [(a0, .inr (6, [.int 0, .int 0, .ref a1, .int 62, .int 0, .int 4, .int 2, .int 1, .ref a2])), (a1, .inr (5, [.ref cb, .int 81, .int 0, .ref a3, .int 11, .ref a4, .int 4, .ref a5, .int 1, .int 1, .ref a6, .int 6, .int 0, .int 1, .int 0]))]) hD hS hA [0, 1] rfl
  refine va_calli (va_runV (As := []) (rest := []) ⟨hx, hb, hml, hown, hts⟩ (cc_206_X6_readByte l dC dI cy s.heap.size cb a0 a1 a2 a3 a4 a5 a6) (cwV 0 hts gX6_readOneType_X6_readByte rfl rfl rfl (by decide +kernel) ⟨Nat.le_of_ble_eq_true rfl, Nat.le_of_ble_eq_true rfl⟩) ⟨fun a U g mk q => by obtain ⟨q0, q1, qP, qK, qD, qN, qS⟩ := q; exact ⟨q0, q1, qP, va_K.moved (u := U) (U := U.calling g mk a) (Vm.Alike.refl U.vm) qK, qD, qN.same rfl, SK.moved (u := U) (U := U.calling g mk a) (Vm.Alike.refl U.vm) qS⟩, va_recv hK hPc (ci := 6) (q0 := 0) rfl rfl, fun U hU hW => ⟨rfl, by rw [hU], by rw [hU]; exact hPc, va_K.moved hW.alike hK, hDc.weaken (fun _ _ _ _ => trivial), hN.warm hW, by rw [hU]; exact ((hSK.kept hS.2.1).narrow hFc).moved hW.alike⟩⟩ rfl rfl hl.1 rfl (lv_room (Nat.le_of_ble_eq_true rfl)) dX6_readOneType_9 ⟨Nat.le_of_ble_eq_true rfl, Nat.le_of_ble_eq_true rfl⟩) hS (fun q _ h => hFc q h) hFc (fun r_1 u t H_2 locs ht hvm hw hB hz1 hk1 hS2 => ?_)
  obtain ⟨hP1, hK1, hD1⟩ := hB
  rw [ht] at hP1
  obtain rfl := hw
  obtain ⟨hP2, hD2⟩ := va_join (wr := []) (w1 := [(a0, .inr (6, [.int 0, .int 0, .ref a1, .int 63, .int 0, .int 4, .int 2, .int 1, .ref a2])), (a1, .inr (5, [.ref cb, .int 81, .int 0, .ref a3, .int 11, .ref a4, .int 4, .ref a5, .int 1, .int 1, .ref a6, .int 6, .int 0, .int 1, .int 0]))]) hP hD [0, 1] [] rfl rfl (by decide) (by decide) hk1 hFc hP1 hD1
  replace hP : va_P (dC, dI) vwCl [(a0, .inr (6, [.int 0, .int 0, .ref a1, .int 63, .int 0, .int 4, .int 2, .int 1, .ref a2])), (a1, .inr (5, [.ref cb, .int 81, .int 0, .ref a3, .int 11, .ref a4, .int 4, .ref a5, .int 1, .int 1, .ref a6, .int 6, .int 0, .int 1, .int 0]))] H_2 := hP2
  replace hD : va_D A [(a0, .inr (6, [.int 0, .int 0, .ref a1, .int 63, .int 0, .int 4, .int 2, .int 1, .ref a2])), (a1, .inr (5, [.ref cb, .int 81, .int 0, .ref a3, .int 11, .ref a4, .int 4, .ref a5, .int 1, .int 1, .ref a6, .int 6, .int 0, .int 1, .int 0]))] := hD2
  replace hS := hS2
  clear hP2 hD2 hS2
  clear hPc hDc hFc hP1 hD1 hK1 hk1 hz1 hvm ht
  refine W.widen (k := 0) (n := 0) (Nat.le_of_ble_eq_true rfl) (Nat.le_of_ble_eq_true rfl) ?_
  refine lv_istore (lv' := [(5, .int 3), (4, .int 62), (2, .long 0), (0, .ref a0), (1, .int 1)]) hx hb dX6_readOneType_12 hl (by decide) rfl (fun ls hl2 => ?_)
  replace hl := hl2
  clear hl2
  refine lv_iload_n hx hb dX6_readOneType_14 rfl (lv_at hl 4 rfl) ?_
  refine lv_if_eq (tgt := 48) hx hb dX6_readOneType_15 (by decide) (fun h => absurd h (by decide)) (fun _ => ?_)
  refine lv_iload hx hb dX6_readOneType_18 (lv_at hl 0 rfl) ?_
  refine lv_bipush (v := 8) hx hb dX6_readOneType_20 (by decide) ?_
  refine lv_icmp_eq (tgt := 32) hx hb dX6_readOneType_22 (by decide) (fun h => absurd h (by decide)) (fun _ => ?_)
  refine lv_iload hx hb dX6_readOneType_25 (lv_at hl 0 rfl) ?_
  refine lv_bipush (v := 9) hx hb dX6_readOneType_27 (by decide) ?_
  refine lv_icmp_ne (tgt := 48) hx hb dX6_readOneType_29 (by decide) (fun _ => ?_) (fun h => absurd h (by decide))
  refine lv_iconst (v := 0) hx hb dX6_readOneType_48 (by decide) ?_
  refine lv_istore (lv' := [(6, .int 0), (5, .int 3), (4, .int 62), (2, .long 0), (0, .ref a0), (1, .int 1)]) hx hb dX6_readOneType_49 hl (by decide) rfl (fun ls hl2 => ?_)
  replace hl := hl2
  clear hl2
  refine lv_iload hx hb dX6_readOneType_51 (lv_at hl 0 rfl) ?_
  refine lv_iconst (v := 4) hx hb dX6_readOneType_53 (by decide) ?_
  refine lv_icmp_ge (tgt := 91) hx hb dX6_readOneType_54 (by decide) (fun h => absurd h (by decide)) (fun _ => ?_)
  refine lv_iload hx hb dX6_readOneType_57 (lv_at hl 1 rfl) ?_
  refine lv_bipush (v := 7) hx hb dX6_readOneType_59 (by decide) ?_
  refine lv_icmp_ne (tgt := 91) hx hb dX6_readOneType_61 (by decide) (fun _ => ?_) (fun h => absurd h (by decide))
  refine lv_iload hx hb dX6_readOneType_91 (lv_at hl 1 rfl) ?_
  refine lv_iconst (v := 1) hx hb dX6_readOneType_93 (by decide) ?_
  refine lv_icmp_lt (tgt := 104) hx hb dX6_readOneType_94 (by decide) (fun h => absurd h (by decide)) (fun _ => ?_)
  refine lv_iload hx hb dX6_readOneType_97 (lv_at hl 1 rfl) ?_
  refine lv_bipush (v := 6) hx hb dX6_readOneType_99 (by decide) ?_
  refine lv_icmp_le (tgt := 111) hx hb dX6_readOneType_101 (by decide) (fun _ => ?_) (fun h => absurd (by decide) h)
  refine lv_lload_n hx hb dX6_readOneType_111 rfl (lv_at hl 3 rfl) ?_
  refine lv_bipush (v := 8) hx hb dX6_readOneType_112 (by decide) ?_
  refine lv_lshl (v := 0) hx hb dX6_readOneType_114 (by decide) ?_
  refine lv_iload hx hb dX6_readOneType_115 (lv_at hl 1 rfl) ?_
  refine lv_i2l (v := 3) hx hb dX6_readOneType_117 (by decide) ?_
  refine lv_lor hx hb dX6_readOneType_118 ?_
  refine lv_topl (fun z_3 ez_3 => ?_)
  obtain rfl : z_3 = 3 := ez_3.trans (by decide)
  clear ez_3
  refine lv_lstore_n (lv' := [(2, .long 3), (6, .int 0), (5, .int 3), (4, .int 62), (0, .ref a0), (1, .int 1)]) hx hb dX6_readOneType_119 rfl hl (by decide) rfl (fun ls hl2 => ?_)
  replace hl := hl2
  clear hl2
  refine lv_iload hx hb dX6_readOneType_120 (lv_at hl 2 rfl) ?_
  refine lv_bipush (v := 6) hx hb dX6_readOneType_122 (by decide) ?_
  refine lv_icmp_eq (tgt := 129) hx hb dX6_readOneType_124 (by decide) (fun h => absurd h (by decide)) (fun _ => ?_)
  refine lv_lload_n hx hb dX6_readOneType_127 rfl (lv_at hl 0 rfl) ?_
  exact W.lret hx hb hr (fun t ht hW => ⟨⟨3, (), rfl, rfl, by rw [ht]; exact hP, va_K.moved hW.alike hK, hD⟩, hS.F ht⟩) hS.2.2 dX6_readOneType_128

set_option maxHeartbeats 4000000 in
set_option maxRecDepth 100000 in
theorem cc_207_X5_addType (l : Launch) (dC : Nat → ClassId) (dI : Nat → Nat → Nat) (cy : Nat → ClassId) (sz : Nat) (cb : Nat) (a0 : Nat) (a1 : Nat) (a2 : Nat) (a3 : Nat) (a4 : Nat) (f0 : Nat → Int64) (f0_0 : f0 0 = 3) : Met l yX5_addType wsX5_addType ({ frames := 0, cells := 0, slots := 0, locals := 0 }) (va_Pc [.ref a0, .long 3] (fun U => U.heap.size = sz ∧ va_P (dC, dI) vwCl [(a0, .inr (5, [.ref cb, .int 81, .int 0, .ref a1, .int 11, .ref a2, .int 4, .ref a3, .int 1, .int 1, .ref a4, .int 6, .int 0, .int 1, .int 0])), (a1, .inl (cy 2, 2048, .inr (.inl f0)))] U.heap ∧ va_K (dC, dI) vwCl (TYS cy) U ∧ va_D (fun _ => True) [(a0, .inr (5, [.ref cb, .int 81, .int 0, .ref a1, .int 11, .ref a2, .int 4, .ref a3, .int 1, .int 1, .ref a4, .int 6, .int 0, .int 1, .int 0])), (a1, .inl (cy 2, 2048, .inr (.inl f0)))] ∧ NK U ∧ SK cb (va_A [(a0, .inr (5, [.ref cb, .int 81, .int 0, .ref a1, .int 11, .ref a2, .int 4, .ref a3, .int 1, .int 1, .ref a4, .int 6, .int 0, .int 1, .int 0])), (a1, .inl (cy 2, 2048, .inr (.inl f0)))] sz) U U.heap)) (va_Qv (fun u : (Nat → Int64) => match u with | (u0) => u0 0 = 3) (fun u t => match u with | (u0) => va_P (dC, dI) vwCl [(a0, .inr (5, [.ref cb, .int 81, .int 0, .ref a1, .int 12, .ref a2, .int 4, .ref a3, .int 1, .int 1, .ref a4, .int 6, .int 0, .int 1, .int 0])), (a1, .inl (cy 2, 2048, .inr (.inl u0)))] t.heap ∧ va_K (dC, dI) vwCl (TYS cy) t ∧ va_D (va_A [(a0, .inr (5, [.ref cb, .int 81, .int 0, .ref a1, .int 11, .ref a2, .int 4, .ref a3, .int 1, .int 1, .ref a4, .int 6, .int 0, .int 1, .int 0])), (a1, .inl (cy 2, 2048, .inr (.inl f0)))] sz) [(a0, .inr (5, [.ref cb, .int 81, .int 0, .ref a1, .int 12, .ref a2, .int 4, .ref a3, .int 1, .int 1, .ref a4, .int 6, .int 0, .int 1, .int 0])), (a1, .inl (cy 2, 2048, .inr (.inl u0)))]) (va_A [(a0, .inr (5, [.ref cb, .int 81, .int 0, .ref a1, .int 11, .ref a2, .int 4, .ref a3, .int 1, .int 1, .ref a4, .int 6, .int 0, .int 1, .int 0])), (a1, .inl (cy 2, 2048, .inr (.inl f0)))] sz)) 0 0 (va_A [(a0, .inr (5, [.ref cb, .int 81, .int 0, .ref a1, .int 11, .ref a2, .int 4, .ref a3, .int 1, .int 1, .ref a4, .int 6, .int 0, .int 1, .int 0])), (a1, .inl (cy 2, 2048, .inr (.inl f0)))] sz) := by
  refine Met.ofW (cc := cX5_addType) (maxL := 3) (ret := none) (by decide) rfl ?_
  intro p e s m args below meth c s₁ B hml hv
  obtain ⟨rfl, hsz, hP, hK, hD0, hN, hSK⟩ := hv
  have hx := B.exec
  have hb := B.bytes
  have hr := B.returns
  have hts := atoms_spec (ws := wsX5_addType) B.pre
  have hown : s.vm.findClass RX5 = some m.cls := findClass_of_methodNamed B.named
  have hlocks := B.notSynchronized
  subst hsz
  have hD := hD0.self (sz := s.heap.size)
  generalize hAe : va_A [(a0, .inr (5, [.ref cb, .int 81, .int 0, .ref a1, .int 11, .ref a2, .int 4, .ref a3, .int 1, .int 1, .ref a4, .int 6, .int 0, .int 1, .int 0])), (a1, .inl (cy 2, 2048, .inr (.inl f0)))] s.heap.size = A at hD hSK ⊢
  have hA : ∀ q : Nat, s.heap.size ≤ q → A q := fun q h => by rw [← hAe]; exact Or.inr h
  have hS : va_S A s.heap s.heap [] := va_S.rf
  have hP : va_P (dC, dI) vwCl [(a0, .inr (5, [.ref cb, .int 81, .int 0, .ref a1, .int 11, .ref a2, .int 4, .ref a3, .int 1, .int 1, .ref a4, .int 6, .int 0, .int 1, .int 0])), (a1, .inl (cy 2, 2048, .inr (.inl f0)))] s.heap := hP
  have hl := lv_entry ([.ref a0, .long 3]) (n := 3) (Nat.le_of_ble_eq_true rfl)
  rw [lg_entry_eq]
  generalize (lg_sl ([.ref a0, .long 3]) ++ List.replicate (3 - (lg_sl ([.ref a0, .long 3])).length) Slot.unset).toArray = ls at hl ⊢
  replace hl : lv_has ls 3 [(0, .ref a0), (1, .long 3)] := hl
  refine lv_aload_n hx hb dX5_addType_0 rfl (lv_at hl 0 rfl) ?_
  refine va_get (D := (dC, dI)) (ci := 5) (v := .int 11) (C := RX5) (T := TX5) (N := 15) hx hb hts iw_X5_addType_X5 hown hK hP 0 rfl rfl 4 (by decide) (hts _ m_X5_addType_1) (fun _ h9 => h9) rfl dX5_addType_1 ?_
  refine lv_aload_n hx hb dX5_addType_4 rfl (lv_at hl 0 rfl) ?_
  refine va_get (D := (dC, dI)) (ci := 5) (v := .ref a1) (C := RX5) (T := TX5) (N := 15) hx hb hts iw_X5_addType_X5 hown hK hP 0 rfl rfl 3 (by decide) (hts _ m_X5_addType_2) (fun _ h9 => h9) rfl dX5_addType_5 ?_
  refine va_alen (v := 2048) hx hb hK hP 1 2 rfl rfl rfl dX5_addType_8 ?_
  refine lv_icmp_ge (tgt := 29) hx hb dX5_addType_9 (by decide) (fun h => absurd h (by decide)) (fun _ => ?_)
  refine lv_aload_n hx hb dX5_addType_12 rfl (lv_at hl 0 rfl) ?_
  refine va_get (D := (dC, dI)) (ci := 5) (v := .ref a1) (C := RX5) (T := TX5) (N := 15) hx hb hts iw_X5_addType_X5 hown hK hP 0 rfl rfl 3 (by decide) (hts _ m_X5_addType_2) (fun _ h9 => h9) rfl dX5_addType_13 ?_
  refine lv_aload_n hx hb dX5_addType_16 rfl (lv_at hl 0 rfl) ?_
  refine lv_dup hx hb dX5_addType_17 rfl ?_
  refine va_get (D := (dC, dI)) (ci := 5) (v := .int 11) (C := RX5) (T := TX5) (N := 15) hx hb hts iw_X5_addType_X5 hown hK hP 0 rfl rfl 4 (by decide) (hts _ m_X5_addType_1) (fun _ h9 => h9) rfl dX5_addType_18 ?_
  refine lv_dup_x1 hx hb dX5_addType_21 rfl rfl ?_
  refine lv_iconst (v := 1) hx hb dX5_addType_22 (by decide) ?_
  refine lv_iadd hx hb dX5_addType_23 ?_
  refine lv_topi (fun z_1 ez_1 => ?_)
  obtain rfl : z_1 = 12 := ez_1.trans (by decide)
  clear ez_1
  refine va_put (D := (dC, dI)) (ci := 5) (v := .int 12) (ty := .int) (C := RX5) (T := TX5) (N := 15) hx hb hts iw_X5_addType_X5 tyX5 tyX5_ok nmX5 hown hK hP hD hS 0 rfl rfl 4 (by decide) (hts _ m_X5_addType_1) (fun _ h9 => h9) rfl (by decide +kernel) rfl rfl (Nat.le_of_ble_eq_true rfl) dX5_addType_24 (fun H_2 locs hP2 hD2 hS2 => ?_)
  replace hP : va_P (dC, dI) vwCl [(a0, .inr (5, [.ref cb, .int 81, .int 0, .ref a1, .int 12, .ref a2, .int 4, .ref a3, .int 1, .int 1, .ref a4, .int 6, .int 0, .int 1, .int 0])), (a1, .inl (cy 2, 2048, .inr (.inl f0)))] H_2 := hP2
  replace hD : va_D A [(a0, .inr (5, [.ref cb, .int 81, .int 0, .ref a1, .int 12, .ref a2, .int 4, .ref a3, .int 1, .int 1, .ref a4, .int 6, .int 0, .int 1, .int 0])), (a1, .inl (cy 2, 2048, .inr (.inl f0)))] := hD2
  replace hS := hS2
  clear hP2 hD2 hS2
  refine lv_lload_n hx hb dX5_addType_27 rfl (lv_at hl 1 rfl) ?_
  refine va_last hx hb hK hP hD hS 1 2 rfl rfl (by unfold vp_in; decide) dX5_addType_28 (fun H_4 locs hP2 hD2 hS2 => ?_)
  replace hP : va_P (dC, dI) vwCl [(a0, .inr (5, [.ref cb, .int 81, .int 0, .ref a1, .int 12, .ref a2, .int 4, .ref a3, .int 1, .int 1, .ref a4, .int 6, .int 0, .int 1, .int 0])), (a1, .inl (cy 2, 2048, .inr (.inl (vp_updL f0 11 3))))] H_4 := hP2
  replace hD : va_D A [(a0, .inr (5, [.ref cb, .int 81, .int 0, .ref a1, .int 12, .ref a2, .int 4, .ref a3, .int 1, .int 1, .ref a4, .int 6, .int 0, .int 1, .int 0])), (a1, .inl (cy 2, 2048, .inr (.inl (vp_updL f0 11 3))))] := hD2
  replace hS := hS2
  clear hP2 hD2 hS2
  obtain ⟨g_3, eg_3⟩ : ∃ z, vp_updL f0 11 3 = z := ⟨_, rfl⟩
  rw [eg_3] at hP hD
  have kg_3_0 : g_3 0 = 3 := by rw [← eg_3, pk_uLn (by decide)]; exact f0_0
  exact W.vret hx hb hr (fun t ht hW => ⟨⟨(g_3), rfl, kg_3_0, by rw [ht]; exact hP, va_K.moved hW.alike hK, hD⟩, hS.F ht⟩) hS.2.2 dX5_addType_29

set_option maxHeartbeats 4000000 in
set_option maxRecDepth 100000 in
theorem cc_200_X6_readTypes (l : Launch) (dC : Nat → ClassId) (dI : Nat → Nat → Nat) (cy : Nat → ClassId) (sz : Nat) (cb : Nat) (a0 : Nat) (a1 : Nat) (a2 : Nat) (a3 : Nat) (a4 : Nat) (a5 : Nat) (a6 : Nat) (f0 : Nat → Int64) (f0_0 : f0 0 = 3) : Met l yX6_readTypes wsX6_readTypes ({ frames := 2, cells := 0, slots := 0, locals := 46 }) (va_Pc [.ref a0, .int 2, .int 1] (fun U => U.heap.size = sz ∧ va_P (dC, dI) vwCl [(a0, .inr (6, [.int 0, .int 0, .ref a1, .int 60, .int 0, .int 4, .int 2, .int 1, .ref a3])), (a1, .inr (5, [.ref cb, .int 81, .int 0, .ref a2, .int 10, .ref a4, .int 4, .ref a5, .int 1, .int 1, .ref a6, .int 6, .int 0, .int 1, .int 0])), (a2, .inl (cy 2, 2048, .inr (.inl f0)))] U.heap ∧ va_K (dC, dI) vwCl (TYS cy) U ∧ va_D (fun _ => True) [(a0, .inr (6, [.int 0, .int 0, .ref a1, .int 60, .int 0, .int 4, .int 2, .int 1, .ref a3])), (a1, .inr (5, [.ref cb, .int 81, .int 0, .ref a2, .int 10, .ref a4, .int 4, .ref a5, .int 1, .int 1, .ref a6, .int 6, .int 0, .int 1, .int 0])), (a2, .inl (cy 2, 2048, .inr (.inl f0)))] ∧ NK U ∧ SK cb (va_A [(a0, .inr (6, [.int 0, .int 0, .ref a1, .int 60, .int 0, .int 4, .int 2, .int 1, .ref a3])), (a1, .inr (5, [.ref cb, .int 81, .int 0, .ref a2, .int 10, .ref a4, .int 4, .ref a5, .int 1, .int 1, .ref a6, .int 6, .int 0, .int 1, .int 0])), (a2, .inl (cy 2, 2048, .inr (.inl f0)))] sz) U U.heap)) (va_Qv (fun u : (Nat → Int64) => match u with | (u0) => u0 0 = 3) (fun u t => match u with | (u0) => va_P (dC, dI) vwCl [(a0, .inr (6, [.int 0, .int 0, .ref a1, .int 63, .int 0, .int 4, .int 2, .int 1, .ref a3])), (a1, .inr (5, [.ref cb, .int 81, .int 0, .ref a2, .int 12, .ref a4, .int 4, .ref a5, .int 1, .int 1, .ref a6, .int 6, .int 0, .int 1, .int 0])), (a2, .inl (cy 2, 2048, .inr (.inl u0)))] t.heap ∧ va_K (dC, dI) vwCl (TYS cy) t ∧ va_D (va_A [(a0, .inr (6, [.int 0, .int 0, .ref a1, .int 60, .int 0, .int 4, .int 2, .int 1, .ref a3])), (a1, .inr (5, [.ref cb, .int 81, .int 0, .ref a2, .int 10, .ref a4, .int 4, .ref a5, .int 1, .int 1, .ref a6, .int 6, .int 0, .int 1, .int 0])), (a2, .inl (cy 2, 2048, .inr (.inl f0)))] sz) [(a0, .inr (6, [.int 0, .int 0, .ref a1, .int 63, .int 0, .int 4, .int 2, .int 1, .ref a3])), (a1, .inr (5, [.ref cb, .int 81, .int 0, .ref a2, .int 12, .ref a4, .int 4, .ref a5, .int 1, .int 1, .ref a6, .int 6, .int 0, .int 1, .int 0])), (a2, .inl (cy 2, 2048, .inr (.inl u0)))]) (va_A [(a0, .inr (6, [.int 0, .int 0, .ref a1, .int 60, .int 0, .int 4, .int 2, .int 1, .ref a3])), (a1, .inr (5, [.ref cb, .int 81, .int 0, .ref a2, .int 10, .ref a4, .int 4, .ref a5, .int 1, .int 1, .ref a6, .int 6, .int 0, .int 1, .int 0])), (a2, .inl (cy 2, 2048, .inr (.inl f0)))] sz)) 0 0 (va_A [(a0, .inr (6, [.int 0, .int 0, .ref a1, .int 60, .int 0, .int 4, .int 2, .int 1, .ref a3])), (a1, .inr (5, [.ref cb, .int 81, .int 0, .ref a2, .int 10, .ref a4, .int 4, .ref a5, .int 1, .int 1, .ref a6, .int 6, .int 0, .int 1, .int 0])), (a2, .inl (cy 2, 2048, .inr (.inl f0)))] sz) := by
  refine Met.ofW (cc := cX6_readTypes) (maxL := 4) (ret := none) (by decide) rfl ?_
  intro p e s m args below meth c s₁ B hml hv
  obtain ⟨rfl, hsz, hP, hK, hD0, hN, hSK⟩ := hv
  have hx := B.exec
  have hb := B.bytes
  have hr := B.returns
  have hts := atoms_spec (ws := wsX6_readTypes) B.pre
  have hown : s.vm.findClass RX6 = some m.cls := findClass_of_methodNamed B.named
  have hlocks := B.notSynchronized
  subst hsz
  have hD := hD0.self (sz := s.heap.size)
  generalize hAe : va_A [(a0, .inr (6, [.int 0, .int 0, .ref a1, .int 60, .int 0, .int 4, .int 2, .int 1, .ref a3])), (a1, .inr (5, [.ref cb, .int 81, .int 0, .ref a2, .int 10, .ref a4, .int 4, .ref a5, .int 1, .int 1, .ref a6, .int 6, .int 0, .int 1, .int 0])), (a2, .inl (cy 2, 2048, .inr (.inl f0)))] s.heap.size = A at hD hSK ⊢
  have hA : ∀ q : Nat, s.heap.size ≤ q → A q := fun q h => by rw [← hAe]; exact Or.inr h
  have hS : va_S A s.heap s.heap [] := va_S.rf
  have hP : va_P (dC, dI) vwCl [(a0, .inr (6, [.int 0, .int 0, .ref a1, .int 60, .int 0, .int 4, .int 2, .int 1, .ref a3])), (a1, .inr (5, [.ref cb, .int 81, .int 0, .ref a2, .int 10, .ref a4, .int 4, .ref a5, .int 1, .int 1, .ref a6, .int 6, .int 0, .int 1, .int 0])), (a2, .inl (cy 2, 2048, .inr (.inl f0)))] s.heap := hP
  have hl := lv_entry ([.ref a0, .int 2, .int 1]) (n := 4) (Nat.le_of_ble_eq_true rfl)
  rw [lg_entry_eq]
  generalize (lg_sl ([.ref a0, .int 2, .int 1]) ++ List.replicate (4 - (lg_sl ([.ref a0, .int 2, .int 1])).length) Slot.unset).toArray = ls at hl ⊢
  replace hl : lv_has ls 4 [(0, .ref a0), (1, .int 2), (2, .int 1)] := hl
  refine lv_iconst (v := 0) hx hb dX6_readTypes_0 (by decide) ?_
  refine lv_istore_n (lv' := [(3, .int 0), (0, .ref a0), (1, .int 2), (2, .int 1)]) hx hb dX6_readTypes_1 rfl hl (by decide) rfl (fun ls hl2 => ?_)
  replace hl := hl2
  clear hl2
  refine lv_iload_n hx hb dX6_readTypes_2 rfl (lv_at hl 0 rfl) ?_
  refine lv_iload_n hx hb dX6_readTypes_3 rfl (lv_at hl 2 rfl) ?_
  refine lv_icmp_ge (tgt := 32) hx hb dX6_readTypes_4 (by decide) (fun h => absurd h (by decide)) (fun _ => ?_)
  refine lv_aload_n hx hb dX6_readTypes_7 rfl (lv_at hl 1 rfl) ?_
  refine va_get (D := (dC, dI)) (ci := 6) (v := .int 0) (C := RX6) (T := TX6) (N := 9) hx hb hts iw_X6_readTypes_X6 hown hK hP 0 rfl rfl 1 (by decide) (hts _ m_X6_readTypes_1) (fun _ h9 => h9) rfl dX6_readTypes_8 ?_
  refine lv_if_ne (tgt := 32) hx hb dX6_readTypes_11 (by decide) (fun h => absurd (by decide) h) (fun _ => ?_)
  refine lv_aload_n hx hb dX6_readTypes_14 rfl (lv_at hl 1 rfl) ?_
  refine va_get (D := (dC, dI)) (ci := 6) (v := .ref a1) (C := RX6) (T := TX6) (N := 9) hx hb hts iw_X6_readTypes_X6 hown hK hP 0 rfl rfl 2 (by decide) (hts _ m_X6_readTypes_2) (fun _ h9 => h9) rfl dX6_readTypes_15 ?_
  refine lv_aload_n hx hb dX6_readTypes_18 rfl (lv_at hl 1 rfl) ?_
  refine lv_iload_n hx hb dX6_readTypes_19 rfl (lv_at hl 3 rfl) ?_
  have hPc := hP.sub (ws' := [(a0, .inr (6, [.int 0, .int 0, .ref a1, .int 60, .int 0, .int 4, .int 2, .int 1, .ref a3])), (a1, .inr (5, [.ref cb, .int 81, .int 0, .ref a2, .int 10, .ref a4, .int 4, .ref a5, .int 1, .int 1, .ref a6, .int 6, .int 0, .int 1, .int 0]))]) [0, 1] rfl
  have hDc := hD.sub (ws' := [(a0, .inr (6, [.int 0, .int 0, .ref a1, .int 60, .int 0, .int 4, .int 2, .int 1, .ref a3])), (a1, .inr (5, [.ref cb, .int 81, .int 0, .ref a2, .int 10, .ref a4, .int 4, .ref a5, .int 1, .int 1, .ref a6, .int 6, .int 0, .int 1, .int 0]))]) [0, 1] (by decide) rfl
  have hFc := va_free (wc := [(a0, .inr (6, [.int 0, .int 0, .ref a1, .int 60, .int 0, .int 4, .int 2, .int 1, .ref a3])), (a1, .inr (5, [.ref cb, .int 81, .int 0, .ref a2, .int 10, .ref a4, .int 4, .ref a5, .int 1, .int 1, .ref a6, .int 6, .int 0, .int 1, .int 0]))]) hD hS hA [0, 1] rfl
  refine va_calll (va_runV (As := [.int 1]) (rest := [.ref a1]) ⟨hx, hb, hml, hown, hts⟩ (cc_201_X6_readOneType l dC dI cy s.heap.size cb a0 a1 a3 a2 a4 a5 a6) (cwV 1 hts gX6_readTypes_X6_readOneType rfl rfl rfl (by decide +kernel) ⟨Nat.le_of_ble_eq_true rfl, Nat.le_of_ble_eq_true rfl⟩) ⟨fun a U g mk q => by obtain ⟨q0, q1, qP, qK, qD, qN, qS⟩ := q; exact ⟨q0, q1, qP, va_K.moved (u := U) (U := U.calling g mk a) (Vm.Alike.refl U.vm) qK, qD, qN.same rfl, SK.moved (u := U) (U := U.calling g mk a) (Vm.Alike.refl U.vm) qS⟩, va_recv hK hPc (ci := 6) (q0 := 0) rfl rfl, fun U hU hW => ⟨rfl, by rw [hU], by rw [hU]; exact hPc, va_K.moved hW.alike hK, hDc.weaken (fun _ _ _ _ => trivial), hN.warm hW, by rw [hU]; exact ((hSK.kept hS.2.1).narrow hFc).moved hW.alike⟩⟩ rfl rfl hl.1 rfl (lv_room (Nat.le_of_ble_eq_true rfl)) dX6_readTypes_20 ⟨Nat.le_of_ble_eq_true rfl, Nat.le_of_ble_eq_true rfl⟩) hS (fun q _ h => hFc q h) hFc (fun r_1 u t H_2 locs ht hvm hw hB hz1 hk1 hS2 => ?_)
  obtain ⟨hP1, hK1, hD1⟩ := hB
  rw [ht] at hP1
  obtain rfl := hw
  obtain ⟨hP2, hD2⟩ := va_join (wr := [(a2, .inl (cy 2, 2048, .inr (.inl f0)))]) (w1 := [(a0, .inr (6, [.int 0, .int 0, .ref a1, .int 62, .int 0, .int 4, .int 2, .int 1, .ref a3])), (a1, .inr (5, [.ref cb, .int 81, .int 0, .ref a2, .int 10, .ref a4, .int 4, .ref a5, .int 1, .int 1, .ref a6, .int 6, .int 0, .int 1, .int 0]))]) hP hD [0, 1] [2] rfl rfl (by decide) (by decide) hk1 hFc hP1 hD1
  replace hP : va_P (dC, dI) vwCl [(a2, .inl (cy 2, 2048, .inr (.inl f0))), (a0, .inr (6, [.int 0, .int 0, .ref a1, .int 62, .int 0, .int 4, .int 2, .int 1, .ref a3])), (a1, .inr (5, [.ref cb, .int 81, .int 0, .ref a2, .int 10, .ref a4, .int 4, .ref a5, .int 1, .int 1, .ref a6, .int 6, .int 0, .int 1, .int 0]))] H_2 := hP2
  replace hD : va_D A [(a2, .inl (cy 2, 2048, .inr (.inl f0))), (a0, .inr (6, [.int 0, .int 0, .ref a1, .int 62, .int 0, .int 4, .int 2, .int 1, .ref a3])), (a1, .inr (5, [.ref cb, .int 81, .int 0, .ref a2, .int 10, .ref a4, .int 4, .ref a5, .int 1, .int 1, .ref a6, .int 6, .int 0, .int 1, .int 0]))] := hD2
  replace hS := hS2
  clear hP2 hD2 hS2
  clear hPc hDc hFc hP1 hD1 hK1 hk1 hz1 hvm ht
  refine W.widen (k := 0) (n := 0) (Nat.le_of_ble_eq_true rfl) (Nat.le_of_ble_eq_true rfl) ?_
  have hPc := hP.sub (ws' := [(a1, .inr (5, [.ref cb, .int 81, .int 0, .ref a2, .int 10, .ref a4, .int 4, .ref a5, .int 1, .int 1, .ref a6, .int 6, .int 0, .int 1, .int 0])), (a2, .inl (cy 2, 2048, .inr (.inl f0)))]) [2, 0] rfl
  have hDc := hD.sub (ws' := [(a1, .inr (5, [.ref cb, .int 81, .int 0, .ref a2, .int 10, .ref a4, .int 4, .ref a5, .int 1, .int 1, .ref a6, .int 6, .int 0, .int 1, .int 0])), (a2, .inl (cy 2, 2048, .inr (.inl f0)))]) [2, 0] (by decide) rfl
  have hFc := va_free (wc := [(a1, .inr (5, [.ref cb, .int 81, .int 0, .ref a2, .int 10, .ref a4, .int 4, .ref a5, .int 1, .int 1, .ref a6, .int 6, .int 0, .int 1, .int 0])), (a2, .inl (cy 2, 2048, .inr (.inl f0)))]) hD hS hA [2, 0] rfl
  refine va_callv (va_runV (As := [.long 1536]) (rest := []) ⟨hx, hb, hml, hown, hts⟩ (cc_204_X5_addType l dC dI cy H_2.size cb a1 a2 a4 a5 a6 f0 f0_0) (cwV 1 hts gX6_readTypes_X5_addType rfl rfl rfl (by decide +kernel) ⟨Nat.le_of_ble_eq_true rfl, Nat.le_of_ble_eq_true rfl⟩) ⟨fun a U g mk q => by obtain ⟨q0, q1, qP, qK, qD, qN, qS⟩ := q; exact ⟨q0, q1, qP, va_K.moved (u := U) (U := U.calling g mk a) (Vm.Alike.refl U.vm) qK, qD, qN.same rfl, SK.moved (u := U) (U := U.calling g mk a) (Vm.Alike.refl U.vm) qS⟩, va_recv hK hPc (ci := 5) (q0 := 0) rfl rfl, fun U hU hW => ⟨rfl, by rw [hU], by rw [hU]; exact hPc, va_K.moved hW.alike hK, hDc.weaken (fun _ _ _ _ => trivial), hN.warm hW, by rw [hU]; exact ((hSK.kept hS.2.1).narrow hFc).moved hW.alike⟩⟩ rfl rfl hl.1 rfl (lv_room (Nat.le_of_ble_eq_true rfl)) dX6_readTypes_23 ⟨Nat.le_of_ble_eq_true rfl, Nat.le_of_ble_eq_true rfl⟩) hS (fun q _ h => hFc q h) hFc (fun u t H_3 locs ht hvm hw hB hz1 hk1 hS2 => ?_)
  obtain ⟨g_4, rfl⟩ : ∃ z, z = u := ⟨_, rfl⟩
  obtain ⟨hP1, hK1, hD1⟩ := hB
  rw [ht] at hP1
  have kp_5 := hw
  obtain ⟨hP2, hD2⟩ := va_join (wr := [(a0, .inr (6, [.int 0, .int 0, .ref a1, .int 62, .int 0, .int 4, .int 2, .int 1, .ref a3]))]) (w1 := [(a1, .inr (5, [.ref cb, .int 81, .int 0, .ref a2, .int 11, .ref a4, .int 4, .ref a5, .int 1, .int 1, .ref a6, .int 6, .int 0, .int 1, .int 0])), (a2, .inl (cy 2, 2048, .inr (.inl g_4)))]) hP hD [2, 0] [1] rfl rfl (by decide) (by decide) hk1 hFc hP1 hD1
  replace hP : va_P (dC, dI) vwCl [(a0, .inr (6, [.int 0, .int 0, .ref a1, .int 62, .int 0, .int 4, .int 2, .int 1, .ref a3])), (a1, .inr (5, [.ref cb, .int 81, .int 0, .ref a2, .int 11, .ref a4, .int 4, .ref a5, .int 1, .int 1, .ref a6, .int 6, .int 0, .int 1, .int 0])), (a2, .inl (cy 2, 2048, .inr (.inl g_4)))] H_3 := hP2
  replace hD : va_D A [(a0, .inr (6, [.int 0, .int 0, .ref a1, .int 62, .int 0, .int 4, .int 2, .int 1, .ref a3])), (a1, .inr (5, [.ref cb, .int 81, .int 0, .ref a2, .int 11, .ref a4, .int 4, .ref a5, .int 1, .int 1, .ref a6, .int 6, .int 0, .int 1, .int 0])), (a2, .inl (cy 2, 2048, .inr (.inl g_4)))] := hD2
  replace hS := hS2
  clear hP2 hD2 hS2
  clear hPc hDc hFc hP1 hD1 hK1 hk1 hz1 hvm ht
  refine W.widen (k := 0) (n := 0) (Nat.le_of_ble_eq_true rfl) (Nat.le_of_ble_eq_true rfl) ?_
  refine lv_iinc (v := 1) (lv' := [(3, .int 1), (0, .ref a0), (1, .int 2), (2, .int 1)]) hx hb dX6_readTypes_26 hl (k := 0) rfl (by decide) (by decide) rfl (fun ls hl2 => ?_)
  replace hl := hl2
  clear hl2
  refine lv_goto (tgt := 2) hx hb dX6_readTypes_29 (by decide) ?_
  refine lv_iload_n hx hb dX6_readTypes_2 rfl (lv_at hl 0 rfl) ?_
  refine lv_iload_n hx hb dX6_readTypes_3 rfl (lv_at hl 2 rfl) ?_
  refine lv_icmp_ge (tgt := 32) hx hb dX6_readTypes_4 (by decide) (fun h => absurd h (by decide)) (fun _ => ?_)
  refine lv_aload_n hx hb dX6_readTypes_7 rfl (lv_at hl 1 rfl) ?_
  refine va_get (D := (dC, dI)) (ci := 6) (v := .int 0) (C := RX6) (T := TX6) (N := 9) hx hb hts iw_X6_readTypes_X6 hown hK hP 0 rfl rfl 1 (by decide) (hts _ m_X6_readTypes_1) (fun _ h9 => h9) rfl dX6_readTypes_8 ?_
  refine lv_if_ne (tgt := 32) hx hb dX6_readTypes_11 (by decide) (fun h => absurd (by decide) h) (fun _ => ?_)
  refine lv_aload_n hx hb dX6_readTypes_14 rfl (lv_at hl 1 rfl) ?_
  refine va_get (D := (dC, dI)) (ci := 6) (v := .ref a1) (C := RX6) (T := TX6) (N := 9) hx hb hts iw_X6_readTypes_X6 hown hK hP 0 rfl rfl 2 (by decide) (hts _ m_X6_readTypes_2) (fun _ h9 => h9) rfl dX6_readTypes_15 ?_
  refine lv_aload_n hx hb dX6_readTypes_18 rfl (lv_at hl 1 rfl) ?_
  refine lv_iload_n hx hb dX6_readTypes_19 rfl (lv_at hl 3 rfl) ?_
  have hPc := hP.sub (ws' := [(a0, .inr (6, [.int 0, .int 0, .ref a1, .int 62, .int 0, .int 4, .int 2, .int 1, .ref a3])), (a1, .inr (5, [.ref cb, .int 81, .int 0, .ref a2, .int 11, .ref a4, .int 4, .ref a5, .int 1, .int 1, .ref a6, .int 6, .int 0, .int 1, .int 0]))]) [0, 1] rfl
  have hDc := hD.sub (ws' := [(a0, .inr (6, [.int 0, .int 0, .ref a1, .int 62, .int 0, .int 4, .int 2, .int 1, .ref a3])), (a1, .inr (5, [.ref cb, .int 81, .int 0, .ref a2, .int 11, .ref a4, .int 4, .ref a5, .int 1, .int 1, .ref a6, .int 6, .int 0, .int 1, .int 0]))]) [0, 1] (by decide) rfl
  have hFc := va_free (wc := [(a0, .inr (6, [.int 0, .int 0, .ref a1, .int 62, .int 0, .int 4, .int 2, .int 1, .ref a3])), (a1, .inr (5, [.ref cb, .int 81, .int 0, .ref a2, .int 11, .ref a4, .int 4, .ref a5, .int 1, .int 1, .ref a6, .int 6, .int 0, .int 1, .int 0]))]) hD hS hA [0, 1] rfl
  refine va_calll (va_runV (As := [.int 1]) (rest := [.ref a1]) ⟨hx, hb, hml, hown, hts⟩ (cc_205_X6_readOneType l dC dI cy H_3.size cb a0 a1 a3 a2 a4 a5 a6) (cwV 1 hts gX6_readTypes_X6_readOneType rfl rfl rfl (by decide +kernel) ⟨Nat.le_of_ble_eq_true rfl, Nat.le_of_ble_eq_true rfl⟩) ⟨fun a U g mk q => by obtain ⟨q0, q1, qP, qK, qD, qN, qS⟩ := q; exact ⟨q0, q1, qP, va_K.moved (u := U) (U := U.calling g mk a) (Vm.Alike.refl U.vm) qK, qD, qN.same rfl, SK.moved (u := U) (U := U.calling g mk a) (Vm.Alike.refl U.vm) qS⟩, va_recv hK hPc (ci := 6) (q0 := 0) rfl rfl, fun U hU hW => ⟨rfl, by rw [hU], by rw [hU]; exact hPc, va_K.moved hW.alike hK, hDc.weaken (fun _ _ _ _ => trivial), hN.warm hW, by rw [hU]; exact ((hSK.kept hS.2.1).narrow hFc).moved hW.alike⟩⟩ rfl rfl hl.1 rfl (lv_room (Nat.le_of_ble_eq_true rfl)) dX6_readTypes_20 ⟨Nat.le_of_ble_eq_true rfl, Nat.le_of_ble_eq_true rfl⟩) hS (fun q _ h => hFc q h) hFc (fun r_6 u t H_7 locs ht hvm hw hB hz1 hk1 hS2 => ?_)
  obtain ⟨hP1, hK1, hD1⟩ := hB
  rw [ht] at hP1
  obtain rfl := hw
  obtain ⟨hP2, hD2⟩ := va_join (wr := [(a2, .inl (cy 2, 2048, .inr (.inl g_4)))]) (w1 := [(a0, .inr (6, [.int 0, .int 0, .ref a1, .int 63, .int 0, .int 4, .int 2, .int 1, .ref a3])), (a1, .inr (5, [.ref cb, .int 81, .int 0, .ref a2, .int 11, .ref a4, .int 4, .ref a5, .int 1, .int 1, .ref a6, .int 6, .int 0, .int 1, .int 0]))]) hP hD [0, 1] [2] rfl rfl (by decide) (by decide) hk1 hFc hP1 hD1
  replace hP : va_P (dC, dI) vwCl [(a2, .inl (cy 2, 2048, .inr (.inl g_4))), (a0, .inr (6, [.int 0, .int 0, .ref a1, .int 63, .int 0, .int 4, .int 2, .int 1, .ref a3])), (a1, .inr (5, [.ref cb, .int 81, .int 0, .ref a2, .int 11, .ref a4, .int 4, .ref a5, .int 1, .int 1, .ref a6, .int 6, .int 0, .int 1, .int 0]))] H_7 := hP2
  replace hD : va_D A [(a2, .inl (cy 2, 2048, .inr (.inl g_4))), (a0, .inr (6, [.int 0, .int 0, .ref a1, .int 63, .int 0, .int 4, .int 2, .int 1, .ref a3])), (a1, .inr (5, [.ref cb, .int 81, .int 0, .ref a2, .int 11, .ref a4, .int 4, .ref a5, .int 1, .int 1, .ref a6, .int 6, .int 0, .int 1, .int 0]))] := hD2
  replace hS := hS2
  clear hP2 hD2 hS2
  clear hPc hDc hFc hP1 hD1 hK1 hk1 hz1 hvm ht
  refine W.widen (k := 0) (n := 0) (Nat.le_of_ble_eq_true rfl) (Nat.le_of_ble_eq_true rfl) ?_
  have hPc := hP.sub (ws' := [(a1, .inr (5, [.ref cb, .int 81, .int 0, .ref a2, .int 11, .ref a4, .int 4, .ref a5, .int 1, .int 1, .ref a6, .int 6, .int 0, .int 1, .int 0])), (a2, .inl (cy 2, 2048, .inr (.inl g_4)))]) [2, 0] rfl
  have hDc := hD.sub (ws' := [(a1, .inr (5, [.ref cb, .int 81, .int 0, .ref a2, .int 11, .ref a4, .int 4, .ref a5, .int 1, .int 1, .ref a6, .int 6, .int 0, .int 1, .int 0])), (a2, .inl (cy 2, 2048, .inr (.inl g_4)))]) [2, 0] (by decide) rfl
  have hFc := va_free (wc := [(a1, .inr (5, [.ref cb, .int 81, .int 0, .ref a2, .int 11, .ref a4, .int 4, .ref a5, .int 1, .int 1, .ref a6, .int 6, .int 0, .int 1, .int 0])), (a2, .inl (cy 2, 2048, .inr (.inl g_4)))]) hD hS hA [2, 0] rfl
  refine va_callv (va_runV (As := [.long 3]) (rest := []) ⟨hx, hb, hml, hown, hts⟩ (cc_207_X5_addType l dC dI cy H_7.size cb a1 a2 a4 a5 a6 g_4 kp_5) (cwV 1 hts gX6_readTypes_X5_addType rfl rfl rfl (by decide +kernel) ⟨Nat.le_of_ble_eq_true rfl, Nat.le_of_ble_eq_true rfl⟩) ⟨fun a U g mk q => by obtain ⟨q0, q1, qP, qK, qD, qN, qS⟩ := q; exact ⟨q0, q1, qP, va_K.moved (u := U) (U := U.calling g mk a) (Vm.Alike.refl U.vm) qK, qD, qN.same rfl, SK.moved (u := U) (U := U.calling g mk a) (Vm.Alike.refl U.vm) qS⟩, va_recv hK hPc (ci := 5) (q0 := 0) rfl rfl, fun U hU hW => ⟨rfl, by rw [hU], by rw [hU]; exact hPc, va_K.moved hW.alike hK, hDc.weaken (fun _ _ _ _ => trivial), hN.warm hW, by rw [hU]; exact ((hSK.kept hS.2.1).narrow hFc).moved hW.alike⟩⟩ rfl rfl hl.1 rfl (lv_room (Nat.le_of_ble_eq_true rfl)) dX6_readTypes_23 ⟨Nat.le_of_ble_eq_true rfl, Nat.le_of_ble_eq_true rfl⟩) hS (fun q _ h => hFc q h) hFc (fun u t H_8 locs ht hvm hw hB hz1 hk1 hS2 => ?_)
  obtain ⟨g_9, rfl⟩ : ∃ z, z = u := ⟨_, rfl⟩
  obtain ⟨hP1, hK1, hD1⟩ := hB
  rw [ht] at hP1
  have kp_10 := hw
  obtain ⟨hP2, hD2⟩ := va_join (wr := [(a0, .inr (6, [.int 0, .int 0, .ref a1, .int 63, .int 0, .int 4, .int 2, .int 1, .ref a3]))]) (w1 := [(a1, .inr (5, [.ref cb, .int 81, .int 0, .ref a2, .int 12, .ref a4, .int 4, .ref a5, .int 1, .int 1, .ref a6, .int 6, .int 0, .int 1, .int 0])), (a2, .inl (cy 2, 2048, .inr (.inl g_9)))]) hP hD [2, 0] [1] rfl rfl (by decide) (by decide) hk1 hFc hP1 hD1
  replace hP : va_P (dC, dI) vwCl [(a0, .inr (6, [.int 0, .int 0, .ref a1, .int 63, .int 0, .int 4, .int 2, .int 1, .ref a3])), (a1, .inr (5, [.ref cb, .int 81, .int 0, .ref a2, .int 12, .ref a4, .int 4, .ref a5, .int 1, .int 1, .ref a6, .int 6, .int 0, .int 1, .int 0])), (a2, .inl (cy 2, 2048, .inr (.inl g_9)))] H_8 := hP2
  replace hD : va_D A [(a0, .inr (6, [.int 0, .int 0, .ref a1, .int 63, .int 0, .int 4, .int 2, .int 1, .ref a3])), (a1, .inr (5, [.ref cb, .int 81, .int 0, .ref a2, .int 12, .ref a4, .int 4, .ref a5, .int 1, .int 1, .ref a6, .int 6, .int 0, .int 1, .int 0])), (a2, .inl (cy 2, 2048, .inr (.inl g_9)))] := hD2
  replace hS := hS2
  clear hP2 hD2 hS2
  clear hPc hDc hFc hP1 hD1 hK1 hk1 hz1 hvm ht
  refine W.widen (k := 0) (n := 0) (Nat.le_of_ble_eq_true rfl) (Nat.le_of_ble_eq_true rfl) ?_
  refine lv_iinc (v := 2) (lv' := [(3, .int 2), (0, .ref a0), (1, .int 2), (2, .int 1)]) hx hb dX6_readTypes_26 hl (k := 0) rfl (by decide) (by decide) rfl (fun ls hl2 => ?_)
  replace hl := hl2
  clear hl2
  refine lv_goto (tgt := 2) hx hb dX6_readTypes_29 (by decide) ?_
  refine lv_iload_n hx hb dX6_readTypes_2 rfl (lv_at hl 0 rfl) ?_
  refine lv_iload_n hx hb dX6_readTypes_3 rfl (lv_at hl 2 rfl) ?_
  refine lv_icmp_ge (tgt := 32) hx hb dX6_readTypes_4 (by decide) (fun _ => ?_) (fun h => absurd (by decide) h)
  exact W.vret hx hb hr (fun t ht hW => ⟨⟨(g_9), rfl, kp_10, by rw [ht]; exact hP, va_K.moved hW.alike hK, hD⟩, hS.F ht⟩) hS.2.2 dX6_readTypes_32

set_option maxHeartbeats 4000000 in
set_option maxRecDepth 100000 in
theorem cc_197_X6_readList (l : Launch) (dC : Nat → ClassId) (dI : Nat → Nat → Nat) (cy : Nat → ClassId) (sz : Nat) (cb : Nat) (a0 : Nat) (a1 : Nat) (a2 : Nat) (a3 : Nat) (a4 : Nat) (a5 : Nat) (a6 : Nat) (f0 : Nat → Int64) (f0_0 : f0 0 = 3) : Met l yX6_readList wsX6_readList ({ frames := 3, cells := 0, slots := 0, locals := 69 }) (va_Pc [.ref a0, .int 8] (fun U => U.heap.size = sz ∧ va_P (dC, dI) vwCl [(a0, .inr (6, [.int 0, .int 0, .ref a1, .int 59, .int 0, .int 4, .int 2, .int 1, .ref a3])), (a1, .inr (5, [.ref cb, .int 81, .int 0, .ref a2, .int 10, .ref a4, .int 4, .ref a5, .int 1, .int 1, .ref a6, .int 6, .int 0, .int 1, .int 0])), (a2, .inl (cy 2, 2048, .inr (.inl f0)))] U.heap ∧ va_K (dC, dI) vwCl (TYS cy) U ∧ va_D (fun _ => True) [(a0, .inr (6, [.int 0, .int 0, .ref a1, .int 59, .int 0, .int 4, .int 2, .int 1, .ref a3])), (a1, .inr (5, [.ref cb, .int 81, .int 0, .ref a2, .int 10, .ref a4, .int 4, .ref a5, .int 1, .int 1, .ref a6, .int 6, .int 0, .int 1, .int 0])), (a2, .inl (cy 2, 2048, .inr (.inl f0)))] ∧ NK U ∧ SK cb (va_A [(a0, .inr (6, [.int 0, .int 0, .ref a1, .int 59, .int 0, .int 4, .int 2, .int 1, .ref a3])), (a1, .inr (5, [.ref cb, .int 81, .int 0, .ref a2, .int 10, .ref a4, .int 4, .ref a5, .int 1, .int 1, .ref a6, .int 6, .int 0, .int 1, .int 0])), (a2, .inl (cy 2, 2048, .inr (.inl f0)))] sz) U U.heap)) (va_Qi (fun (r : Int32) (u : (Nat → Int64)) => match u with | (u0) => r = 2 ∧ u0 0 = 3) (fun u t => match u with | (u0) => va_P (dC, dI) vwCl [(a0, .inr (6, [.int 0, .int 0, .ref a1, .int 63, .int 0, .int 4, .int 2, .int 1, .ref a3])), (a1, .inr (5, [.ref cb, .int 81, .int 0, .ref a2, .int 12, .ref a4, .int 4, .ref a5, .int 1, .int 1, .ref a6, .int 6, .int 0, .int 1, .int 0])), (a2, .inl (cy 2, 2048, .inr (.inl u0)))] t.heap ∧ va_K (dC, dI) vwCl (TYS cy) t ∧ va_D (va_A [(a0, .inr (6, [.int 0, .int 0, .ref a1, .int 59, .int 0, .int 4, .int 2, .int 1, .ref a3])), (a1, .inr (5, [.ref cb, .int 81, .int 0, .ref a2, .int 10, .ref a4, .int 4, .ref a5, .int 1, .int 1, .ref a6, .int 6, .int 0, .int 1, .int 0])), (a2, .inl (cy 2, 2048, .inr (.inl f0)))] sz) [(a0, .inr (6, [.int 0, .int 0, .ref a1, .int 63, .int 0, .int 4, .int 2, .int 1, .ref a3])), (a1, .inr (5, [.ref cb, .int 81, .int 0, .ref a2, .int 12, .ref a4, .int 4, .ref a5, .int 1, .int 1, .ref a6, .int 6, .int 0, .int 1, .int 0])), (a2, .inl (cy 2, 2048, .inr (.inl u0)))]) (va_A [(a0, .inr (6, [.int 0, .int 0, .ref a1, .int 59, .int 0, .int 4, .int 2, .int 1, .ref a3])), (a1, .inr (5, [.ref cb, .int 81, .int 0, .ref a2, .int 10, .ref a4, .int 4, .ref a5, .int 1, .int 1, .ref a6, .int 6, .int 0, .int 1, .int 0])), (a2, .inl (cy 2, 2048, .inr (.inl f0)))] sz)) 0 0 (va_A [(a0, .inr (6, [.int 0, .int 0, .ref a1, .int 59, .int 0, .int 4, .int 2, .int 1, .ref a3])), (a1, .inr (5, [.ref cb, .int 81, .int 0, .ref a2, .int 10, .ref a4, .int 4, .ref a5, .int 1, .int 1, .ref a6, .int 6, .int 0, .int 1, .int 0])), (a2, .inl (cy 2, 2048, .inr (.inl f0)))] sz) := by
  refine Met.ofW (cc := cX6_readList) (maxL := 3) (ret := (some .int)) (by decide) rfl ?_
  intro p e s m args below meth c s₁ B hml hv
  obtain ⟨rfl, hsz, hP, hK, hD0, hN, hSK⟩ := hv
  have hx := B.exec
  have hb := B.bytes
  have hr := B.returns
  have hts := atoms_spec (ws := wsX6_readList) B.pre
  have hown : s.vm.findClass RX6 = some m.cls := findClass_of_methodNamed B.named
  have hlocks := B.notSynchronized
  subst hsz
  have hD := hD0.self (sz := s.heap.size)
  generalize hAe : va_A [(a0, .inr (6, [.int 0, .int 0, .ref a1, .int 59, .int 0, .int 4, .int 2, .int 1, .ref a3])), (a1, .inr (5, [.ref cb, .int 81, .int 0, .ref a2, .int 10, .ref a4, .int 4, .ref a5, .int 1, .int 1, .ref a6, .int 6, .int 0, .int 1, .int 0])), (a2, .inl (cy 2, 2048, .inr (.inl f0)))] s.heap.size = A at hD hSK ⊢
  have hA : ∀ q : Nat, s.heap.size ≤ q → A q := fun q h => by rw [← hAe]; exact Or.inr h
  have hS : va_S A s.heap s.heap [] := va_S.rf
  have hP : va_P (dC, dI) vwCl [(a0, .inr (6, [.int 0, .int 0, .ref a1, .int 59, .int 0, .int 4, .int 2, .int 1, .ref a3])), (a1, .inr (5, [.ref cb, .int 81, .int 0, .ref a2, .int 10, .ref a4, .int 4, .ref a5, .int 1, .int 1, .ref a6, .int 6, .int 0, .int 1, .int 0])), (a2, .inl (cy 2, 2048, .inr (.inl f0)))] s.heap := hP
  have hl := lv_entry ([.ref a0, .int 8]) (n := 3) (Nat.le_of_ble_eq_true rfl)
  rw [lg_entry_eq]
  generalize (lg_sl ([.ref a0, .int 8]) ++ List.replicate (3 - (lg_sl ([.ref a0, .int 8])).length) Slot.unset).toArray = ls at hl ⊢
  replace hl : lv_has ls 3 [(0, .ref a0), (1, .int 8)] := hl
  refine lv_aload_n hx hb dX6_readList_0 rfl (lv_at hl 0 rfl) ?_
  refine lv_iconst (v := 0) hx hb dX6_readList_1 (by decide) ?_
  refine lv_iload_n hx hb dX6_readList_2 rfl (lv_at hl 1 rfl) ?_
  have hPc := hP.sub (ws' := [(a0, .inr (6, [.int 0, .int 0, .ref a1, .int 59, .int 0, .int 4, .int 2, .int 1, .ref a3])), (a1, .inr (5, [.ref cb, .int 81, .int 0, .ref a2, .int 10, .ref a4, .int 4, .ref a5, .int 1, .int 1, .ref a6, .int 6, .int 0, .int 1, .int 0]))]) [0, 1] rfl
  have hDc := hD.sub (ws' := [(a0, .inr (6, [.int 0, .int 0, .ref a1, .int 59, .int 0, .int 4, .int 2, .int 1, .ref a3])), (a1, .inr (5, [.ref cb, .int 81, .int 0, .ref a2, .int 10, .ref a4, .int 4, .ref a5, .int 1, .int 1, .ref a6, .int 6, .int 0, .int 1, .int 0]))]) [0, 1] (by decide) rfl
  have hFc := va_free (wc := [(a0, .inr (6, [.int 0, .int 0, .ref a1, .int 59, .int 0, .int 4, .int 2, .int 1, .ref a3])), (a1, .inr (5, [.ref cb, .int 81, .int 0, .ref a2, .int 10, .ref a4, .int 4, .ref a5, .int 1, .int 1, .ref a6, .int 6, .int 0, .int 1, .int 0]))]) hD hS hA [0, 1] rfl
  refine va_calli (va_runV (As := [.int 0, .int 8]) (rest := []) ⟨hx, hb, hml, hown, hts⟩ (cc_198_X6_readNumber l dC dI cy s.heap.size cb a0 a1 a3 a2 a4 a5 a6) (cwV 2 hts gX6_readList_X6_readNumber rfl rfl rfl (by decide +kernel) ⟨Nat.le_of_ble_eq_true rfl, Nat.le_of_ble_eq_true rfl⟩) ⟨fun a U g mk q => by obtain ⟨q0, q1, qP, qK, qD, qN, qS⟩ := q; exact ⟨q0, q1, qP, va_K.moved (u := U) (U := U.calling g mk a) (Vm.Alike.refl U.vm) qK, qD, qN.same rfl, SK.moved (u := U) (U := U.calling g mk a) (Vm.Alike.refl U.vm) qS⟩, va_recv hK hPc (ci := 6) (q0 := 0) rfl rfl, fun U hU hW => ⟨rfl, by rw [hU], by rw [hU]; exact hPc, va_K.moved hW.alike hK, hDc.weaken (fun _ _ _ _ => trivial), hN.warm hW, by rw [hU]; exact ((hSK.kept hS.2.1).narrow hFc).moved hW.alike⟩⟩ rfl rfl hl.1 rfl (lv_room (Nat.le_of_ble_eq_true rfl)) dX6_readList_3 ⟨Nat.le_of_ble_eq_true rfl, Nat.le_of_ble_eq_true rfl⟩) hS (fun q _ h => hFc q h) hFc (fun r_1 u t H_2 locs ht hvm hw hB hz1 hk1 hS2 => ?_)
  obtain ⟨hP1, hK1, hD1⟩ := hB
  rw [ht] at hP1
  obtain rfl := hw
  obtain ⟨hP2, hD2⟩ := va_join (wr := [(a2, .inl (cy 2, 2048, .inr (.inl f0)))]) (w1 := [(a0, .inr (6, [.int 0, .int 0, .ref a1, .int 60, .int 0, .int 4, .int 2, .int 1, .ref a3])), (a1, .inr (5, [.ref cb, .int 81, .int 0, .ref a2, .int 10, .ref a4, .int 4, .ref a5, .int 1, .int 1, .ref a6, .int 6, .int 0, .int 1, .int 0]))]) hP hD [0, 1] [2] rfl rfl (by decide) (by decide) hk1 hFc hP1 hD1
  replace hP : va_P (dC, dI) vwCl [(a2, .inl (cy 2, 2048, .inr (.inl f0))), (a0, .inr (6, [.int 0, .int 0, .ref a1, .int 60, .int 0, .int 4, .int 2, .int 1, .ref a3])), (a1, .inr (5, [.ref cb, .int 81, .int 0, .ref a2, .int 10, .ref a4, .int 4, .ref a5, .int 1, .int 1, .ref a6, .int 6, .int 0, .int 1, .int 0]))] H_2 := hP2
  replace hD : va_D A [(a2, .inl (cy 2, 2048, .inr (.inl f0))), (a0, .inr (6, [.int 0, .int 0, .ref a1, .int 60, .int 0, .int 4, .int 2, .int 1, .ref a3])), (a1, .inr (5, [.ref cb, .int 81, .int 0, .ref a2, .int 10, .ref a4, .int 4, .ref a5, .int 1, .int 1, .ref a6, .int 6, .int 0, .int 1, .int 0]))] := hD2
  replace hS := hS2
  clear hP2 hD2 hS2
  clear hPc hDc hFc hP1 hD1 hK1 hk1 hz1 hvm ht
  refine W.widen (k := 0) (n := 0) (Nat.le_of_ble_eq_true rfl) (Nat.le_of_ble_eq_true rfl) ?_
  refine lv_istore_n (lv' := [(2, .int 2), (0, .ref a0), (1, .int 8)]) hx hb dX6_readList_6 rfl hl (by decide) rfl (fun ls hl2 => ?_)
  replace hl := hl2
  clear hl2
  refine lv_aload_n hx hb dX6_readList_7 rfl (lv_at hl 1 rfl) ?_
  refine lv_iload_n hx hb dX6_readList_8 rfl (lv_at hl 0 rfl) ?_
  refine lv_iconst (v := 1) hx hb dX6_readList_9 (by decide) ?_
  have hPc := hP.sub (ws' := [(a0, .inr (6, [.int 0, .int 0, .ref a1, .int 60, .int 0, .int 4, .int 2, .int 1, .ref a3])), (a1, .inr (5, [.ref cb, .int 81, .int 0, .ref a2, .int 10, .ref a4, .int 4, .ref a5, .int 1, .int 1, .ref a6, .int 6, .int 0, .int 1, .int 0])), (a2, .inl (cy 2, 2048, .inr (.inl f0)))]) [1, 2, 0] rfl
  have hDc := hD.sub (ws' := [(a0, .inr (6, [.int 0, .int 0, .ref a1, .int 60, .int 0, .int 4, .int 2, .int 1, .ref a3])), (a1, .inr (5, [.ref cb, .int 81, .int 0, .ref a2, .int 10, .ref a4, .int 4, .ref a5, .int 1, .int 1, .ref a6, .int 6, .int 0, .int 1, .int 0])), (a2, .inl (cy 2, 2048, .inr (.inl f0)))]) [1, 2, 0] (by decide) rfl
  have hFc := va_free (wc := [(a0, .inr (6, [.int 0, .int 0, .ref a1, .int 60, .int 0, .int 4, .int 2, .int 1, .ref a3])), (a1, .inr (5, [.ref cb, .int 81, .int 0, .ref a2, .int 10, .ref a4, .int 4, .ref a5, .int 1, .int 1, .ref a6, .int 6, .int 0, .int 1, .int 0])), (a2, .inl (cy 2, 2048, .inr (.inl f0)))]) hD hS hA [1, 2, 0] rfl
  refine va_callv (va_runV (As := [.int 2, .int 1]) (rest := []) ⟨hx, hb, hml, hown, hts⟩ (cc_200_X6_readTypes l dC dI cy H_2.size cb a0 a1 a2 a3 a4 a5 a6 f0 f0_0) (cwV 2 hts gX6_readList_X6_readTypes rfl rfl rfl (by decide +kernel) ⟨Nat.le_of_ble_eq_true rfl, Nat.le_of_ble_eq_true rfl⟩) ⟨fun a U g mk q => by obtain ⟨q0, q1, qP, qK, qD, qN, qS⟩ := q; exact ⟨q0, q1, qP, va_K.moved (u := U) (U := U.calling g mk a) (Vm.Alike.refl U.vm) qK, qD, qN.same rfl, SK.moved (u := U) (U := U.calling g mk a) (Vm.Alike.refl U.vm) qS⟩, va_recv hK hPc (ci := 6) (q0 := 0) rfl rfl, fun U hU hW => ⟨rfl, by rw [hU], by rw [hU]; exact hPc, va_K.moved hW.alike hK, hDc.weaken (fun _ _ _ _ => trivial), hN.warm hW, by rw [hU]; exact ((hSK.kept hS.2.1).narrow hFc).moved hW.alike⟩⟩ rfl rfl hl.1 rfl (lv_room (Nat.le_of_ble_eq_true rfl)) dX6_readList_10 ⟨Nat.le_of_ble_eq_true rfl, Nat.le_of_ble_eq_true rfl⟩) hS (fun q _ h => hFc q h) hFc (fun u t H_3 locs ht hvm hw hB hz1 hk1 hS2 => ?_)
  obtain ⟨g_4, rfl⟩ : ∃ z, z = u := ⟨_, rfl⟩
  obtain ⟨hP1, hK1, hD1⟩ := hB
  rw [ht] at hP1
  have kp_5 := hw
  obtain ⟨hP2, hD2⟩ := va_join (wr := []) (w1 := [(a0, .inr (6, [.int 0, .int 0, .ref a1, .int 63, .int 0, .int 4, .int 2, .int 1, .ref a3])), (a1, .inr (5, [.ref cb, .int 81, .int 0, .ref a2, .int 12, .ref a4, .int 4, .ref a5, .int 1, .int 1, .ref a6, .int 6, .int 0, .int 1, .int 0])), (a2, .inl (cy 2, 2048, .inr (.inl g_4)))]) hP hD [1, 2, 0] [] rfl rfl (by decide) (by decide) hk1 hFc hP1 hD1
  replace hP : va_P (dC, dI) vwCl [(a0, .inr (6, [.int 0, .int 0, .ref a1, .int 63, .int 0, .int 4, .int 2, .int 1, .ref a3])), (a1, .inr (5, [.ref cb, .int 81, .int 0, .ref a2, .int 12, .ref a4, .int 4, .ref a5, .int 1, .int 1, .ref a6, .int 6, .int 0, .int 1, .int 0])), (a2, .inl (cy 2, 2048, .inr (.inl g_4)))] H_3 := hP2
  replace hD : va_D A [(a0, .inr (6, [.int 0, .int 0, .ref a1, .int 63, .int 0, .int 4, .int 2, .int 1, .ref a3])), (a1, .inr (5, [.ref cb, .int 81, .int 0, .ref a2, .int 12, .ref a4, .int 4, .ref a5, .int 1, .int 1, .ref a6, .int 6, .int 0, .int 1, .int 0])), (a2, .inl (cy 2, 2048, .inr (.inl g_4)))] := hD2
  replace hS := hS2
  clear hP2 hD2 hS2
  clear hPc hDc hFc hP1 hD1 hK1 hk1 hz1 hvm ht
  refine W.widen (k := 0) (n := 0) (Nat.le_of_ble_eq_true rfl) (Nat.le_of_ble_eq_true rfl) ?_
  refine lv_iload_n hx hb dX6_readList_13 rfl (lv_at hl 0 rfl) ?_
  exact W.iret hx hb hr (fun t ht hW => ⟨⟨2, (g_4), rfl, ⟨rfl, kp_5⟩, by rw [ht]; exact hP, va_K.moved hW.alike hK, hD⟩, hS.F ht⟩) hS.2.2 dX6_readList_14

set_option maxHeartbeats 4000000 in
set_option maxRecDepth 100000 in
theorem cc_208_X5_setFunction (l : Launch) (dC : Nat → ClassId) (dI : Nat → Nat → Nat) (cy : Nat → ClassId) (sz : Nat) (cb : Nat) (a0 : Nat) (a1 : Nat) (a2 : Nat) (a3 : Nat) (a4 : Nat) (f0 : Nat → Int32)  : Met l yX5_setFunction wsX5_setFunction ({ frames := 0, cells := 0, slots := 0, locals := 0 }) (va_Pc [.ref a0, .int 4, .int 2, .int 2] (fun U => U.heap.size = sz ∧ va_P (dC, dI) vwCl [(a0, .inr (5, [.ref cb, .int 81, .int 0, .ref a2, .int 12, .ref a3, .int 4, .ref a4, .int 1, .int 1, .ref a1, .int 6, .int 0, .int 1, .int 0])), (a1, .inl (cy 1, 864, .inl f0))] U.heap ∧ va_K (dC, dI) vwCl (TYS cy) U ∧ va_D (fun _ => True) [(a0, .inr (5, [.ref cb, .int 81, .int 0, .ref a2, .int 12, .ref a3, .int 4, .ref a4, .int 1, .int 1, .ref a1, .int 6, .int 0, .int 1, .int 0])), (a1, .inl (cy 1, 864, .inl f0))] ∧ NK U ∧ SK cb (va_A [(a0, .inr (5, [.ref cb, .int 81, .int 0, .ref a2, .int 12, .ref a3, .int 4, .ref a4, .int 1, .int 1, .ref a1, .int 6, .int 0, .int 1, .int 0])), (a1, .inl (cy 1, 864, .inl f0))] sz) U U.heap)) (va_Qv (fun u : (Nat → Int32) => True) (fun u t => match u with | (u0) => va_P (dC, dI) vwCl [(a0, .inr (5, [.ref cb, .int 81, .int 0, .ref a2, .int 12, .ref a3, .int 4, .ref a4, .int 1, .int 1, .ref a1, .int 6, .int 0, .int 1, .int 0])), (a1, .inl (cy 1, 864, .inl u0))] t.heap ∧ va_K (dC, dI) vwCl (TYS cy) t ∧ va_D (va_A [(a0, .inr (5, [.ref cb, .int 81, .int 0, .ref a2, .int 12, .ref a3, .int 4, .ref a4, .int 1, .int 1, .ref a1, .int 6, .int 0, .int 1, .int 0])), (a1, .inl (cy 1, 864, .inl f0))] sz) [(a0, .inr (5, [.ref cb, .int 81, .int 0, .ref a2, .int 12, .ref a3, .int 4, .ref a4, .int 1, .int 1, .ref a1, .int 6, .int 0, .int 1, .int 0])), (a1, .inl (cy 1, 864, .inl u0))]) (va_A [(a0, .inr (5, [.ref cb, .int 81, .int 0, .ref a2, .int 12, .ref a3, .int 4, .ref a4, .int 1, .int 1, .ref a1, .int 6, .int 0, .int 1, .int 0])), (a1, .inl (cy 1, 864, .inl f0))] sz)) 0 0 (va_A [(a0, .inr (5, [.ref cb, .int 81, .int 0, .ref a2, .int 12, .ref a3, .int 4, .ref a4, .int 1, .int 1, .ref a1, .int 6, .int 0, .int 1, .int 0])), (a1, .inl (cy 1, 864, .inl f0))] sz) := by
  refine Met.ofW (cc := cX5_setFunction) (maxL := 4) (ret := none) (by decide) rfl ?_
  intro p e s m args below meth c s₁ B hml hv
  obtain ⟨rfl, hsz, hP, hK, hD0, hN, hSK⟩ := hv
  have hx := B.exec
  have hb := B.bytes
  have hr := B.returns
  have hts := atoms_spec (ws := wsX5_setFunction) B.pre
  have hown : s.vm.findClass RX5 = some m.cls := findClass_of_methodNamed B.named
  have hlocks := B.notSynchronized
  subst hsz
  have hD := hD0.self (sz := s.heap.size)
  generalize hAe : va_A [(a0, .inr (5, [.ref cb, .int 81, .int 0, .ref a2, .int 12, .ref a3, .int 4, .ref a4, .int 1, .int 1, .ref a1, .int 6, .int 0, .int 1, .int 0])), (a1, .inl (cy 1, 864, .inl f0))] s.heap.size = A at hD hSK ⊢
  have hA : ∀ q : Nat, s.heap.size ≤ q → A q := fun q h => by rw [← hAe]; exact Or.inr h
  have hS : va_S A s.heap s.heap [] := va_S.rf
  have hP : va_P (dC, dI) vwCl [(a0, .inr (5, [.ref cb, .int 81, .int 0, .ref a2, .int 12, .ref a3, .int 4, .ref a4, .int 1, .int 1, .ref a1, .int 6, .int 0, .int 1, .int 0])), (a1, .inl (cy 1, 864, .inl f0))] s.heap := hP
  have hl := lv_entry ([.ref a0, .int 4, .int 2, .int 2]) (n := 4) (Nat.le_of_ble_eq_true rfl)
  rw [lg_entry_eq]
  generalize (lg_sl ([.ref a0, .int 4, .int 2, .int 2]) ++ List.replicate (4 - (lg_sl ([.ref a0, .int 4, .int 2, .int 2])).length) Slot.unset).toArray = ls at hl ⊢
  replace hl : lv_has ls 4 [(0, .ref a0), (1, .int 4), (2, .int 2), (3, .int 2)] := hl
  refine lv_iload_n hx hb dX5_setFunction_0 rfl (lv_at hl 1 rfl) ?_
  refine lv_if_lt (tgt := 22) hx hb dX5_setFunction_1 (by decide) (fun h => absurd h (by decide)) (fun _ => ?_)
  refine lv_iload_n hx hb dX5_setFunction_4 rfl (lv_at hl 1 rfl) ?_
  refine lv_bipush (v := 96) hx hb dX5_setFunction_5 (by decide) ?_
  refine lv_icmp_ge (tgt := 22) hx hb dX5_setFunction_7 (by decide) (fun h => absurd h (by decide)) (fun _ => ?_)
  refine lv_aload_n hx hb dX5_setFunction_10 rfl (lv_at hl 0 rfl) ?_
  refine va_get (D := (dC, dI)) (ci := 5) (v := .ref a1) (C := RX5) (T := TX5) (N := 15) hx hb hts iw_X5_setFunction_X5 hown hK hP 0 rfl rfl 10 (by decide) (hts _ m_X5_setFunction_1) (fun _ h9 => h9) rfl dX5_setFunction_11 ?_
  refine lv_iload_n hx hb dX5_setFunction_14 rfl (lv_at hl 1 rfl) ?_
  refine lv_bipush (v := 9) hx hb dX5_setFunction_15 (by decide) ?_
  refine lv_imul hx hb dX5_setFunction_17 ?_
  refine lv_topi (fun z_1 ez_1 => ?_)
  obtain rfl : z_1 = 36 := ez_1.trans (by decide)
  clear ez_1
  refine lv_iload_n hx hb dX5_setFunction_18 rfl (lv_at hl 2 rfl) ?_
  refine lv_iadd hx hb dX5_setFunction_19 ?_
  refine lv_topi (fun z_2 ez_2 => ?_)
  obtain rfl : z_2 = 38 := ez_2.trans (by decide)
  clear ez_2
  refine lv_iload_n hx hb dX5_setFunction_20 rfl (lv_at hl 3 rfl) ?_
  refine va_iast hx hb hK hP hD hS 1 1 rfl rfl (by unfold vp_in; decide) dX5_setFunction_21 (fun H_4 locs hP2 hD2 hS2 => ?_)
  replace hP : va_P (dC, dI) vwCl [(a0, .inr (5, [.ref cb, .int 81, .int 0, .ref a2, .int 12, .ref a3, .int 4, .ref a4, .int 1, .int 1, .ref a1, .int 6, .int 0, .int 1, .int 0])), (a1, .inl (cy 1, 864, .inl (upd f0 38 2)))] H_4 := hP2
  replace hD : va_D A [(a0, .inr (5, [.ref cb, .int 81, .int 0, .ref a2, .int 12, .ref a3, .int 4, .ref a4, .int 1, .int 1, .ref a1, .int 6, .int 0, .int 1, .int 0])), (a1, .inl (cy 1, 864, .inl (upd f0 38 2)))] := hD2
  replace hS := hS2
  clear hP2 hD2 hS2
  obtain ⟨g_3, eg_3⟩ : ∃ z, upd f0 38 2 = z := ⟨_, rfl⟩
  rw [eg_3] at hP hD
  exact W.vret hx hb hr (fun t ht hW => ⟨⟨(g_3), rfl, trivial, by rw [ht]; exact hP, va_K.moved hW.alike hK, hD⟩, hS.F ht⟩) hS.2.2 dX5_setFunction_22

set_option maxHeartbeats 4000000 in
set_option maxRecDepth 100000 in
theorem cc_211_X6_readByte (l : Launch) (dC : Nat → ClassId) (dI : Nat → Nat → Nat) (cy : Nat → ClassId) (sz : Nat) (cb : Nat) (a0 : Nat) (a1 : Nat) (a2 : Nat) (a3 : Nat) (a4 : Nat) (a5 : Nat) (a6 : Nat)  : Met l yX6_readByte wsX6_readByte ({ frames := 0, cells := 0, slots := 0, locals := 0 }) (va_Pc [.ref a0] (fun U => U.heap.size = sz ∧ va_P (dC, dI) vwCl [(a0, .inr (6, [.int 0, .int 0, .ref a1, .int 63, .int 0, .int 4, .int 2, .int 1, .ref a2])), (a1, .inr (5, [.ref cb, .int 81, .int 0, .ref a3, .int 12, .ref a4, .int 4, .ref a5, .int 1, .int 1, .ref a6, .int 6, .int 0, .int 1, .int 0]))] U.heap ∧ va_K (dC, dI) vwCl (TYS cy) U ∧ va_D (fun _ => True) [(a0, .inr (6, [.int 0, .int 0, .ref a1, .int 63, .int 0, .int 4, .int 2, .int 1, .ref a2])), (a1, .inr (5, [.ref cb, .int 81, .int 0, .ref a3, .int 12, .ref a4, .int 4, .ref a5, .int 1, .int 1, .ref a6, .int 6, .int 0, .int 1, .int 0]))] ∧ NK U ∧ SK cb (va_A [(a0, .inr (6, [.int 0, .int 0, .ref a1, .int 63, .int 0, .int 4, .int 2, .int 1, .ref a2])), (a1, .inr (5, [.ref cb, .int 81, .int 0, .ref a3, .int 12, .ref a4, .int 4, .ref a5, .int 1, .int 1, .ref a6, .int 6, .int 0, .int 1, .int 0]))] sz) U U.heap)) (va_Qi (fun (r : Int32) (u : Unit) => r = 2) (fun u t => va_P (dC, dI) vwCl [(a0, .inr (6, [.int 0, .int 0, .ref a1, .int 64, .int 0, .int 4, .int 2, .int 1, .ref a2])), (a1, .inr (5, [.ref cb, .int 81, .int 0, .ref a3, .int 12, .ref a4, .int 4, .ref a5, .int 1, .int 1, .ref a6, .int 6, .int 0, .int 1, .int 0]))] t.heap ∧ va_K (dC, dI) vwCl (TYS cy) t ∧ va_D (va_A [(a0, .inr (6, [.int 0, .int 0, .ref a1, .int 63, .int 0, .int 4, .int 2, .int 1, .ref a2])), (a1, .inr (5, [.ref cb, .int 81, .int 0, .ref a3, .int 12, .ref a4, .int 4, .ref a5, .int 1, .int 1, .ref a6, .int 6, .int 0, .int 1, .int 0]))] sz) [(a0, .inr (6, [.int 0, .int 0, .ref a1, .int 64, .int 0, .int 4, .int 2, .int 1, .ref a2])), (a1, .inr (5, [.ref cb, .int 81, .int 0, .ref a3, .int 12, .ref a4, .int 4, .ref a5, .int 1, .int 1, .ref a6, .int 6, .int 0, .int 1, .int 0]))]) (va_A [(a0, .inr (6, [.int 0, .int 0, .ref a1, .int 63, .int 0, .int 4, .int 2, .int 1, .ref a2])), (a1, .inr (5, [.ref cb, .int 81, .int 0, .ref a3, .int 12, .ref a4, .int 4, .ref a5, .int 1, .int 1, .ref a6, .int 6, .int 0, .int 1, .int 0]))] sz)) 0 0 (va_A [(a0, .inr (6, [.int 0, .int 0, .ref a1, .int 63, .int 0, .int 4, .int 2, .int 1, .ref a2])), (a1, .inr (5, [.ref cb, .int 81, .int 0, .ref a3, .int 12, .ref a4, .int 4, .ref a5, .int 1, .int 1, .ref a6, .int 6, .int 0, .int 1, .int 0]))] sz) := by
  refine Met.ofW (cc := cX6_readByte) (maxL := 1) (ret := (some .int)) (by decide) rfl ?_
  intro p e s m args below meth c s₁ B hml hv
  obtain ⟨rfl, hsz, hP, hK, hD0, hN, hSK⟩ := hv
  have hx := B.exec
  have hb := B.bytes
  have hr := B.returns
  have hts := atoms_spec (ws := wsX6_readByte) B.pre
  have hown : s.vm.findClass RX6 = some m.cls := findClass_of_methodNamed B.named
  have hlocks := B.notSynchronized
  subst hsz
  have hD := hD0.self (sz := s.heap.size)
  generalize hAe : va_A [(a0, .inr (6, [.int 0, .int 0, .ref a1, .int 63, .int 0, .int 4, .int 2, .int 1, .ref a2])), (a1, .inr (5, [.ref cb, .int 81, .int 0, .ref a3, .int 12, .ref a4, .int 4, .ref a5, .int 1, .int 1, .ref a6, .int 6, .int 0, .int 1, .int 0]))] s.heap.size = A at hD hSK ⊢
  have hA : ∀ q : Nat, s.heap.size ≤ q → A q := fun q h => by rw [← hAe]; exact Or.inr h
  have hS : va_S A s.heap s.heap [] := va_S.rf
  have hP : va_P (dC, dI) vwCl [(a0, .inr (6, [.int 0, .int 0, .ref a1, .int 63, .int 0, .int 4, .int 2, .int 1, .ref a2])), (a1, .inr (5, [.ref cb, .int 81, .int 0, .ref a3, .int 12, .ref a4, .int 4, .ref a5, .int 1, .int 1, .ref a6, .int 6, .int 0, .int 1, .int 0]))] s.heap := hP
  have hl := lv_entry ([.ref a0]) (n := 1) (Nat.le_of_ble_eq_true rfl)
  rw [lg_entry_eq]
  generalize (lg_sl ([.ref a0]) ++ List.replicate (1 - (lg_sl ([.ref a0])).length) Slot.unset).toArray = ls at hl ⊢
  replace hl : lv_has ls 1 [(0, .ref a0)] := hl
  refine lv_aload_n hx hb dX6_readByte_0 rfl (lv_at hl 0 rfl) ?_
  refine va_get (D := (dC, dI)) (ci := 6) (v := .int 0) (C := RX6) (T := TX6) (N := 9) hx hb hts iw_X6_readByte_X6 hown hK hP 0 rfl rfl 1 (by decide) (hts _ m_X6_readByte_1) (fun _ h9 => h9) rfl dX6_readByte_1 ?_
  refine lv_if_eq (tgt := 9) hx hb dX6_readByte_4 (by decide) (fun _ => ?_) (fun h => absurd (by decide) h)
  refine lv_aload_n hx hb dX6_readByte_9 rfl (lv_at hl 0 rfl) ?_
  refine va_get (D := (dC, dI)) (ci := 6) (v := .int 63) (C := RX6) (T := TX6) (N := 9) hx hb hts iw_X6_readByte_X6 hown hK hP 0 rfl rfl 3 (by decide) (hts _ m_X6_readByte_2) (fun _ h9 => h9) rfl dX6_readByte_10 ?_
  refine lv_aload_n hx hb dX6_readByte_13 rfl (lv_at hl 0 rfl) ?_
  refine va_get (D := (dC, dI)) (ci := 6) (v := .ref a1) (C := RX6) (T := TX6) (N := 9) hx hb hts iw_X6_readByte_X6 hown hK hP 0 rfl rfl 2 (by decide) (hts _ m_X6_readByte_3) (fun _ h9 => h9) rfl dX6_readByte_14 ?_
  refine va_get (D := (dC, dI)) (ci := 5) (v := .int 81) (C := RX5) (T := TX5) (N := 15) hx hb hts iw_X6_readByte_X5 hown hK hP 1 rfl rfl 1 (by decide) (hts _ m_X6_readByte_4) (fun _ h9 => h9) rfl dX6_readByte_17 ?_
  refine lv_icmp_lt (tgt := 41) hx hb dX6_readByte_20 (by decide) (fun _ => ?_) (fun h => absurd (by decide) h)
  refine lv_aload_n hx hb dX6_readByte_41 rfl (lv_at hl 0 rfl) ?_
  refine va_get (D := (dC, dI)) (ci := 6) (v := .ref a1) (C := RX6) (T := TX6) (N := 9) hx hb hts iw_X6_readByte_X6 hown hK hP 0 rfl rfl 2 (by decide) (hts _ m_X6_readByte_3) (fun _ h9 => h9) rfl dX6_readByte_42 ?_
  refine va_get (D := (dC, dI)) (ci := 5) (v := .ref cb) (C := RX5) (T := TX5) (N := 15) hx hb hts iw_X6_readByte_X5 hown hK hP 1 rfl rfl 0 (by decide) (hts _ m_X6_readByte_6) (fun _ h9 => h9) rfl dX6_readByte_45 ?_
  refine lv_aload_n hx hb dX6_readByte_48 rfl (lv_at hl 0 rfl) ?_
  refine lv_dup hx hb dX6_readByte_49 rfl ?_
  refine va_get (D := (dC, dI)) (ci := 6) (v := .int 63) (C := RX6) (T := TX6) (N := 9) hx hb hts iw_X6_readByte_X6 hown hK hP 0 rfl rfl 3 (by decide) (hts _ m_X6_readByte_2) (fun _ h9 => h9) rfl dX6_readByte_50 ?_
  refine lv_dup_x1 hx hb dX6_readByte_53 rfl rfl ?_
  refine lv_iconst (v := 1) hx hb dX6_readByte_54 (by decide) ?_
  refine lv_iadd hx hb dX6_readByte_55 ?_
  refine lv_topi (fun z_1 ez_1 => ?_)
  obtain rfl : z_1 = 64 := ez_1.trans (by decide)
  clear ez_1
  refine va_put (D := (dC, dI)) (ci := 6) (v := .int 64) (ty := .int) (C := RX6) (T := TX6) (N := 9) hx hb hts iw_X6_readByte_X6 tyX6 tyX6_ok nmX6 hown hK hP hD hS 0 rfl rfl 3 (by decide) (hts _ m_X6_readByte_2) (fun _ h9 => h9) rfl (by decide +kernel) rfl rfl (Nat.le_of_ble_eq_true rfl) dX6_readByte_56 (fun H_2 locs hP2 hD2 hS2 => ?_)
  replace hP : va_P (dC, dI) vwCl [(a0, .inr (6, [.int 0, .int 0, .ref a1, .int 64, .int 0, .int 4, .int 2, .int 1, .ref a2])), (a1, .inr (5, [.ref cb, .int 81, .int 0, .ref a3, .int 12, .ref a4, .int 4, .ref a5, .int 1, .int 1, .ref a6, .int 6, .int 0, .int 1, .int 0]))] H_2 := hP2
  replace hD : va_D A [(a0, .inr (6, [.int 0, .int 0, .ref a1, .int 64, .int 0, .int 4, .int 2, .int 1, .ref a2])), (a1, .inr (5, [.ref cb, .int 81, .int 0, .ref a3, .int 12, .ref a4, .int 4, .ref a5, .int 1, .int 1, .ref a6, .int 6, .int 0, .int 1, .int 0]))] := hD2
  replace hS := hS2
  clear hP2 hD2 hS2
  refine va_tb (v := .int 2) hx hb hSK.2 hS (by unfold vp_in; decide) rfl dX6_readByte_59 ?_
  refine lv_sipush (v := 255) hx hb dX6_readByte_60 (by decide) ?_
  refine lv_iand hx hb dX6_readByte_63 ?_
  refine lv_topi (fun z_3 ez_3 => ?_)
  obtain rfl : z_3 = 2 := ez_3.trans (by decide)
  clear ez_3
  exact W.iret hx hb hr (fun t ht hW => ⟨⟨2, (), rfl, rfl, by rw [ht]; exact hP, va_K.moved hW.alike hK, hD⟩, hS.F ht⟩) hS.2.2 dX6_readByte_64

set_option maxHeartbeats 4000000 in
set_option maxRecDepth 100000 in
theorem cc_210_X6_readNumber (l : Launch) (dC : Nat → ClassId) (dI : Nat → Nat → Nat) (cy : Nat → ClassId) (sz : Nat) (cb : Nat) (a0 : Nat) (a1 : Nat) (a2 : Nat) (a3 : Nat) (a4 : Nat) (a5 : Nat) (a6 : Nat)  : Met l yX6_readNumber wsX6_readNumber ({ frames := 1, cells := 0, slots := 0, locals := 20 }) (va_Pc [.ref a0, .int 0, .int 8] (fun U => U.heap.size = sz ∧ va_P (dC, dI) vwCl [(a0, .inr (6, [.int 0, .int 0, .ref a1, .int 63, .int 0, .int 4, .int 2, .int 1, .ref a2])), (a1, .inr (5, [.ref cb, .int 81, .int 0, .ref a3, .int 12, .ref a4, .int 4, .ref a5, .int 1, .int 1, .ref a6, .int 6, .int 0, .int 1, .int 0]))] U.heap ∧ va_K (dC, dI) vwCl (TYS cy) U ∧ va_D (fun _ => True) [(a0, .inr (6, [.int 0, .int 0, .ref a1, .int 63, .int 0, .int 4, .int 2, .int 1, .ref a2])), (a1, .inr (5, [.ref cb, .int 81, .int 0, .ref a3, .int 12, .ref a4, .int 4, .ref a5, .int 1, .int 1, .ref a6, .int 6, .int 0, .int 1, .int 0]))] ∧ NK U ∧ SK cb (va_A [(a0, .inr (6, [.int 0, .int 0, .ref a1, .int 63, .int 0, .int 4, .int 2, .int 1, .ref a2])), (a1, .inr (5, [.ref cb, .int 81, .int 0, .ref a3, .int 12, .ref a4, .int 4, .ref a5, .int 1, .int 1, .ref a6, .int 6, .int 0, .int 1, .int 0]))] sz) U U.heap)) (va_Qi (fun (r : Int32) (u : Unit) => r = 2) (fun u t => va_P (dC, dI) vwCl [(a0, .inr (6, [.int 0, .int 0, .ref a1, .int 64, .int 0, .int 4, .int 2, .int 1, .ref a2])), (a1, .inr (5, [.ref cb, .int 81, .int 0, .ref a3, .int 12, .ref a4, .int 4, .ref a5, .int 1, .int 1, .ref a6, .int 6, .int 0, .int 1, .int 0]))] t.heap ∧ va_K (dC, dI) vwCl (TYS cy) t ∧ va_D (va_A [(a0, .inr (6, [.int 0, .int 0, .ref a1, .int 63, .int 0, .int 4, .int 2, .int 1, .ref a2])), (a1, .inr (5, [.ref cb, .int 81, .int 0, .ref a3, .int 12, .ref a4, .int 4, .ref a5, .int 1, .int 1, .ref a6, .int 6, .int 0, .int 1, .int 0]))] sz) [(a0, .inr (6, [.int 0, .int 0, .ref a1, .int 64, .int 0, .int 4, .int 2, .int 1, .ref a2])), (a1, .inr (5, [.ref cb, .int 81, .int 0, .ref a3, .int 12, .ref a4, .int 4, .ref a5, .int 1, .int 1, .ref a6, .int 6, .int 0, .int 1, .int 0]))]) (va_A [(a0, .inr (6, [.int 0, .int 0, .ref a1, .int 63, .int 0, .int 4, .int 2, .int 1, .ref a2])), (a1, .inr (5, [.ref cb, .int 81, .int 0, .ref a3, .int 12, .ref a4, .int 4, .ref a5, .int 1, .int 1, .ref a6, .int 6, .int 0, .int 1, .int 0]))] sz)) 0 0 (va_A [(a0, .inr (6, [.int 0, .int 0, .ref a1, .int 63, .int 0, .int 4, .int 2, .int 1, .ref a2])), (a1, .inr (5, [.ref cb, .int 81, .int 0, .ref a3, .int 12, .ref a4, .int 4, .ref a5, .int 1, .int 1, .ref a6, .int 6, .int 0, .int 1, .int 0]))] sz) := by
  refine Met.ofW (cc := cX6_readNumber) (maxL := 5) (ret := (some .int)) (by decide) rfl ?_
  intro p e s m args below meth c s₁ B hml hv
  obtain ⟨rfl, hsz, hP, hK, hD0, hN, hSK⟩ := hv
  have hx := B.exec
  have hb := B.bytes
  have hr := B.returns
  have hts := atoms_spec (ws := wsX6_readNumber) B.pre
  have hown : s.vm.findClass RX6 = some m.cls := findClass_of_methodNamed B.named
  have hlocks := B.notSynchronized
  subst hsz
  have hD := hD0.self (sz := s.heap.size)
  generalize hAe : va_A [(a0, .inr (6, [.int 0, .int 0, .ref a1, .int 63, .int 0, .int 4, .int 2, .int 1, .ref a2])), (a1, .inr (5, [.ref cb, .int 81, .int 0, .ref a3, .int 12, .ref a4, .int 4, .ref a5, .int 1, .int 1, .ref a6, .int 6, .int 0, .int 1, .int 0]))] s.heap.size = A at hD hSK ⊢
  have hA : ∀ q : Nat, s.heap.size ≤ q → A q := fun q h => by rw [← hAe]; exact Or.inr h
  have hS : va_S A s.heap s.heap [] := va_S.rf
  have hP : va_P (dC, dI) vwCl [(a0, .inr (6, [.int 0, .int 0, .ref a1, .int 63, .int 0, .int 4, .int 2, .int 1, .ref a2])), (a1, .inr (5, [.ref cb, .int 81, .int 0, .ref a3, .int 12, .ref a4, .int 4, .ref a5, .int 1, .int 1, .ref a6, .int 6, .int 0, .int 1, .int 0]))] s.heap := hP
  have hl := lv_entry ([.ref a0, .int 0, .int 8]) (n := 5) (Nat.le_of_ble_eq_true rfl)
  rw [lg_entry_eq]
  generalize (lg_sl ([.ref a0, .int 0, .int 8]) ++ List.replicate (5 - (lg_sl ([.ref a0, .int 0, .int 8])).length) Slot.unset).toArray = ls at hl ⊢
  replace hl : lv_has ls 5 [(0, .ref a0), (1, .int 0), (2, .int 8)] := hl
  refine lv_aload_n hx hb dX6_readNumber_0 rfl (lv_at hl 0 rfl) ?_
  refine va_get (D := (dC, dI)) (ci := 6) (v := .int 63) (C := RX6) (T := TX6) (N := 9) hx hb hts iw_X6_readNumber_X6 hown hK hP 0 rfl rfl 3 (by decide) (hts _ m_X6_readNumber_1) (fun _ h9 => h9) rfl dX6_readNumber_1 ?_
  refine lv_istore_n (lv' := [(3, .int 63), (0, .ref a0), (1, .int 0), (2, .int 8)]) hx hb dX6_readNumber_4 rfl hl (by decide) rfl (fun ls hl2 => ?_)
  replace hl := hl2
  clear hl2
  refine lv_aload_n hx hb dX6_readNumber_5 rfl (lv_at hl 1 rfl) ?_
  have hPc := hP.sub (ws' := [(a0, .inr (6, [.int 0, .int 0, .ref a1, .int 63, .int 0, .int 4, .int 2, .int 1, .ref a2])), (a1, .inr (5, [.ref cb, .int 81, .int 0, .ref a3, .int 12, .ref a4, .int 4, .ref a5, .int 1, .int 1, .ref a6, .int 6, .int 0, .int 1, .int 0]))]) [0, 1] rfl
  have hDc := hD.sub (ws' := [(a0, .inr (6, [.int 0, .int 0, .ref a1, .int 63, .int 0, .int 4, .int 2, .int 1, .ref a2])), (a1, .inr (5, [.ref cb, .int 81, .int 0, .ref a3, .int 12, .ref a4, .int 4, .ref a5, .int 1, .int 1, .ref a6, .int 6, .int 0, .int 1, .int 0]))]) [0, 1] (by decide) rfl
  have hFc := va_free (wc := [(a0, .inr (6, [.int 0, .int 0, .ref a1, .int 63, .int 0, .int 4, .int 2, .int 1, .ref a2])), (a1, .inr (5, [.ref cb, .int 81, .int 0, .ref a3, .int 12, .ref a4, .int 4, .ref a5, .int 1, .int 1, .ref a6, .int 6, .int 0, .int 1, .int 0]))]) hD hS hA [0, 1] rfl
  refine va_calli (va_runV (As := []) (rest := []) ⟨hx, hb, hml, hown, hts⟩ (cc_211_X6_readByte l dC dI cy s.heap.size cb a0 a1 a2 a3 a4 a5 a6) (cwV 0 hts gX6_readNumber_X6_readByte rfl rfl rfl (by decide +kernel) ⟨Nat.le_of_ble_eq_true rfl, Nat.le_of_ble_eq_true rfl⟩) ⟨fun a U g mk q => by obtain ⟨q0, q1, qP, qK, qD, qN, qS⟩ := q; exact ⟨q0, q1, qP, va_K.moved (u := U) (U := U.calling g mk a) (Vm.Alike.refl U.vm) qK, qD, qN.same rfl, SK.moved (u := U) (U := U.calling g mk a) (Vm.Alike.refl U.vm) qS⟩, va_recv hK hPc (ci := 6) (q0 := 0) rfl rfl, fun U hU hW => ⟨rfl, by rw [hU], by rw [hU]; exact hPc, va_K.moved hW.alike hK, hDc.weaken (fun _ _ _ _ => trivial), hN.warm hW, by rw [hU]; exact ((hSK.kept hS.2.1).narrow hFc).moved hW.alike⟩⟩ rfl rfl hl.1 rfl (lv_room (Nat.le_of_ble_eq_true rfl)) dX6_readNumber_6 ⟨Nat.le_of_ble_eq_true rfl, Nat.le_of_ble_eq_true rfl⟩) hS (fun q _ h => hFc q h) hFc (fun r_1 u t H_2 locs ht hvm hw hB hz1 hk1 hS2 => ?_)
  obtain ⟨hP1, hK1, hD1⟩ := hB
  rw [ht] at hP1
  obtain rfl := hw
  obtain ⟨hP2, hD2⟩ := va_join (wr := []) (w1 := [(a0, .inr (6, [.int 0, .int 0, .ref a1, .int 64, .int 0, .int 4, .int 2, .int 1, .ref a2])), (a1, .inr (5, [.ref cb, .int 81, .int 0, .ref a3, .int 12, .ref a4, .int 4, .ref a5, .int 1, .int 1, .ref a6, .int 6, .int 0, .int 1, .int 0]))]) hP hD [0, 1] [] rfl rfl (by decide) (by decide) hk1 hFc hP1 hD1
  replace hP : va_P (dC, dI) vwCl [(a0, .inr (6, [.int 0, .int 0, .ref a1, .int 64, .int 0, .int 4, .int 2, .int 1, .ref a2])), (a1, .inr (5, [.ref cb, .int 81, .int 0, .ref a3, .int 12, .ref a4, .int 4, .ref a5, .int 1, .int 1, .ref a6, .int 6, .int 0, .int 1, .int 0]))] H_2 := hP2
  replace hD : va_D A [(a0, .inr (6, [.int 0, .int 0, .ref a1, .int 64, .int 0, .int 4, .int 2, .int 1, .ref a2])), (a1, .inr (5, [.ref cb, .int 81, .int 0, .ref a3, .int 12, .ref a4, .int 4, .ref a5, .int 1, .int 1, .ref a6, .int 6, .int 0, .int 1, .int 0]))] := hD2
  replace hS := hS2
  clear hP2 hD2 hS2
  clear hPc hDc hFc hP1 hD1 hK1 hk1 hz1 hvm ht
  refine W.widen (k := 0) (n := 0) (Nat.le_of_ble_eq_true rfl) (Nat.le_of_ble_eq_true rfl) ?_
  refine lv_istore (lv' := [(4, .int 2), (3, .int 63), (0, .ref a0), (1, .int 0), (2, .int 8)]) hx hb dX6_readNumber_9 hl (by decide) rfl (fun ls hl2 => ?_)
  replace hl := hl2
  clear hl2
  refine lv_iload hx hb dX6_readNumber_11 (lv_at hl 0 rfl) ?_
  refine lv_iload_n hx hb dX6_readNumber_13 rfl (lv_at hl 3 rfl) ?_
  refine lv_icmp_lt (tgt := 23) hx hb dX6_readNumber_14 (by decide) (fun h => absurd h (by decide)) (fun _ => ?_)
  refine lv_iload hx hb dX6_readNumber_17 (lv_at hl 0 rfl) ?_
  refine lv_iload_n hx hb dX6_readNumber_19 rfl (lv_at hl 4 rfl) ?_
  refine lv_icmp_le (tgt := 29) hx hb dX6_readNumber_20 (by decide) (fun _ => ?_) (fun h => absurd (by decide) h)
  refine lv_aload_n hx hb dX6_readNumber_29 rfl (lv_at hl 2 rfl) ?_
  refine va_get (D := (dC, dI)) (ci := 6) (v := .int 0) (C := RX6) (T := TX6) (N := 9) hx hb hts iw_X6_readNumber_X6 hown hK hP 0 rfl rfl 1 (by decide) (hts _ m_X6_readNumber_2) (fun _ h9 => h9) rfl dX6_readNumber_30 ?_
  refine lv_if_ne (tgt := 41) hx hb dX6_readNumber_33 (by decide) (fun h => absurd (by decide) h) (fun _ => ?_)
  refine lv_iload hx hb dX6_readNumber_36 (lv_at hl 0 rfl) ?_
  refine lv_goto (tgt := 42) hx hb dX6_readNumber_38 (by decide) ?_
  exact W.iret hx hb hr (fun t ht hW => ⟨⟨2, (), rfl, rfl, by rw [ht]; exact hP, va_K.moved hW.alike hK, hD⟩, hS.F ht⟩) hS.2.2 dX6_readNumber_42

set_option maxHeartbeats 4000000 in
set_option maxRecDepth 100000 in
theorem cc_214_X6_readByte (l : Launch) (dC : Nat → ClassId) (dI : Nat → Nat → Nat) (cy : Nat → ClassId) (sz : Nat) (cb : Nat) (a0 : Nat) (a1 : Nat) (a2 : Nat) (a3 : Nat) (a4 : Nat) (a5 : Nat) (a6 : Nat)  : Met l yX6_readByte wsX6_readByte ({ frames := 0, cells := 0, slots := 0, locals := 0 }) (va_Pc [.ref a0] (fun U => U.heap.size = sz ∧ va_P (dC, dI) vwCl [(a0, .inr (6, [.int 0, .int 0, .ref a1, .int 64, .int 0, .int 4, .int 2, .int 1, .ref a2])), (a1, .inr (5, [.ref cb, .int 81, .int 0, .ref a3, .int 12, .ref a4, .int 4, .ref a5, .int 1, .int 1, .ref a6, .int 6, .int 0, .int 1, .int 0]))] U.heap ∧ va_K (dC, dI) vwCl (TYS cy) U ∧ va_D (fun _ => True) [(a0, .inr (6, [.int 0, .int 0, .ref a1, .int 64, .int 0, .int 4, .int 2, .int 1, .ref a2])), (a1, .inr (5, [.ref cb, .int 81, .int 0, .ref a3, .int 12, .ref a4, .int 4, .ref a5, .int 1, .int 1, .ref a6, .int 6, .int 0, .int 1, .int 0]))] ∧ NK U ∧ SK cb (va_A [(a0, .inr (6, [.int 0, .int 0, .ref a1, .int 64, .int 0, .int 4, .int 2, .int 1, .ref a2])), (a1, .inr (5, [.ref cb, .int 81, .int 0, .ref a3, .int 12, .ref a4, .int 4, .ref a5, .int 1, .int 1, .ref a6, .int 6, .int 0, .int 1, .int 0]))] sz) U U.heap)) (va_Qi (fun (r : Int32) (u : Unit) => r = 6) (fun u t => va_P (dC, dI) vwCl [(a0, .inr (6, [.int 0, .int 0, .ref a1, .int 65, .int 0, .int 4, .int 2, .int 1, .ref a2])), (a1, .inr (5, [.ref cb, .int 81, .int 0, .ref a3, .int 12, .ref a4, .int 4, .ref a5, .int 1, .int 1, .ref a6, .int 6, .int 0, .int 1, .int 0]))] t.heap ∧ va_K (dC, dI) vwCl (TYS cy) t ∧ va_D (va_A [(a0, .inr (6, [.int 0, .int 0, .ref a1, .int 64, .int 0, .int 4, .int 2, .int 1, .ref a2])), (a1, .inr (5, [.ref cb, .int 81, .int 0, .ref a3, .int 12, .ref a4, .int 4, .ref a5, .int 1, .int 1, .ref a6, .int 6, .int 0, .int 1, .int 0]))] sz) [(a0, .inr (6, [.int 0, .int 0, .ref a1, .int 65, .int 0, .int 4, .int 2, .int 1, .ref a2])), (a1, .inr (5, [.ref cb, .int 81, .int 0, .ref a3, .int 12, .ref a4, .int 4, .ref a5, .int 1, .int 1, .ref a6, .int 6, .int 0, .int 1, .int 0]))]) (va_A [(a0, .inr (6, [.int 0, .int 0, .ref a1, .int 64, .int 0, .int 4, .int 2, .int 1, .ref a2])), (a1, .inr (5, [.ref cb, .int 81, .int 0, .ref a3, .int 12, .ref a4, .int 4, .ref a5, .int 1, .int 1, .ref a6, .int 6, .int 0, .int 1, .int 0]))] sz)) 0 0 (va_A [(a0, .inr (6, [.int 0, .int 0, .ref a1, .int 64, .int 0, .int 4, .int 2, .int 1, .ref a2])), (a1, .inr (5, [.ref cb, .int 81, .int 0, .ref a3, .int 12, .ref a4, .int 4, .ref a5, .int 1, .int 1, .ref a6, .int 6, .int 0, .int 1, .int 0]))] sz) := by
  refine Met.ofW (cc := cX6_readByte) (maxL := 1) (ret := (some .int)) (by decide) rfl ?_
  intro p e s m args below meth c s₁ B hml hv
  obtain ⟨rfl, hsz, hP, hK, hD0, hN, hSK⟩ := hv
  have hx := B.exec
  have hb := B.bytes
  have hr := B.returns
  have hts := atoms_spec (ws := wsX6_readByte) B.pre
  have hown : s.vm.findClass RX6 = some m.cls := findClass_of_methodNamed B.named
  have hlocks := B.notSynchronized
  subst hsz
  have hD := hD0.self (sz := s.heap.size)
  generalize hAe : va_A [(a0, .inr (6, [.int 0, .int 0, .ref a1, .int 64, .int 0, .int 4, .int 2, .int 1, .ref a2])), (a1, .inr (5, [.ref cb, .int 81, .int 0, .ref a3, .int 12, .ref a4, .int 4, .ref a5, .int 1, .int 1, .ref a6, .int 6, .int 0, .int 1, .int 0]))] s.heap.size = A at hD hSK ⊢
  have hA : ∀ q : Nat, s.heap.size ≤ q → A q := fun q h => by rw [← hAe]; exact Or.inr h
  have hS : va_S A s.heap s.heap [] := va_S.rf
  have hP : va_P (dC, dI) vwCl [(a0, .inr (6, [.int 0, .int 0, .ref a1, .int 64, .int 0, .int 4, .int 2, .int 1, .ref a2])), (a1, .inr (5, [.ref cb, .int 81, .int 0, .ref a3, .int 12, .ref a4, .int 4, .ref a5, .int 1, .int 1, .ref a6, .int 6, .int 0, .int 1, .int 0]))] s.heap := hP
  have hl := lv_entry ([.ref a0]) (n := 1) (Nat.le_of_ble_eq_true rfl)
  rw [lg_entry_eq]
  generalize (lg_sl ([.ref a0]) ++ List.replicate (1 - (lg_sl ([.ref a0])).length) Slot.unset).toArray = ls at hl ⊢
  replace hl : lv_has ls 1 [(0, .ref a0)] := hl
  refine lv_aload_n hx hb dX6_readByte_0 rfl (lv_at hl 0 rfl) ?_
  refine va_get (D := (dC, dI)) (ci := 6) (v := .int 0) (C := RX6) (T := TX6) (N := 9) hx hb hts iw_X6_readByte_X6 hown hK hP 0 rfl rfl 1 (by decide) (hts _ m_X6_readByte_1) (fun _ h9 => h9) rfl dX6_readByte_1 ?_
  refine lv_if_eq (tgt := 9) hx hb dX6_readByte_4 (by decide) (fun _ => ?_) (fun h => absurd (by decide) h)
  refine lv_aload_n hx hb dX6_readByte_9 rfl (lv_at hl 0 rfl) ?_
  refine va_get (D := (dC, dI)) (ci := 6) (v := .int 64) (C := RX6) (T := TX6) (N := 9) hx hb hts iw_X6_readByte_X6 hown hK hP 0 rfl rfl 3 (by decide) (hts _ m_X6_readByte_2) (fun _ h9 => h9) rfl dX6_readByte_10 ?_
  refine lv_aload_n hx hb dX6_readByte_13 rfl (lv_at hl 0 rfl) ?_
  refine va_get (D := (dC, dI)) (ci := 6) (v := .ref a1) (C := RX6) (T := TX6) (N := 9) hx hb hts iw_X6_readByte_X6 hown hK hP 0 rfl rfl 2 (by decide) (hts _ m_X6_readByte_3) (fun _ h9 => h9) rfl dX6_readByte_14 ?_
  refine va_get (D := (dC, dI)) (ci := 5) (v := .int 81) (C := RX5) (T := TX5) (N := 15) hx hb hts iw_X6_readByte_X5 hown hK hP 1 rfl rfl 1 (by decide) (hts _ m_X6_readByte_4) (fun _ h9 => h9) rfl dX6_readByte_17 ?_
  refine lv_icmp_lt (tgt := 41) hx hb dX6_readByte_20 (by decide) (fun _ => ?_) (fun h => absurd (by decide) h)
  refine lv_aload_n hx hb dX6_readByte_41 rfl (lv_at hl 0 rfl) ?_
  refine va_get (D := (dC, dI)) (ci := 6) (v := .ref a1) (C := RX6) (T := TX6) (N := 9) hx hb hts iw_X6_readByte_X6 hown hK hP 0 rfl rfl 2 (by decide) (hts _ m_X6_readByte_3) (fun _ h9 => h9) rfl dX6_readByte_42 ?_
  refine va_get (D := (dC, dI)) (ci := 5) (v := .ref cb) (C := RX5) (T := TX5) (N := 15) hx hb hts iw_X6_readByte_X5 hown hK hP 1 rfl rfl 0 (by decide) (hts _ m_X6_readByte_6) (fun _ h9 => h9) rfl dX6_readByte_45 ?_
  refine lv_aload_n hx hb dX6_readByte_48 rfl (lv_at hl 0 rfl) ?_
  refine lv_dup hx hb dX6_readByte_49 rfl ?_
  refine va_get (D := (dC, dI)) (ci := 6) (v := .int 64) (C := RX6) (T := TX6) (N := 9) hx hb hts iw_X6_readByte_X6 hown hK hP 0 rfl rfl 3 (by decide) (hts _ m_X6_readByte_2) (fun _ h9 => h9) rfl dX6_readByte_50 ?_
  refine lv_dup_x1 hx hb dX6_readByte_53 rfl rfl ?_
  refine lv_iconst (v := 1) hx hb dX6_readByte_54 (by decide) ?_
  refine lv_iadd hx hb dX6_readByte_55 ?_
  refine lv_topi (fun z_1 ez_1 => ?_)
  obtain rfl : z_1 = 65 := ez_1.trans (by decide)
  clear ez_1
  refine va_put (D := (dC, dI)) (ci := 6) (v := .int 65) (ty := .int) (C := RX6) (T := TX6) (N := 9) hx hb hts iw_X6_readByte_X6 tyX6 tyX6_ok nmX6 hown hK hP hD hS 0 rfl rfl 3 (by decide) (hts _ m_X6_readByte_2) (fun _ h9 => h9) rfl (by decide +kernel) rfl rfl (Nat.le_of_ble_eq_true rfl) dX6_readByte_56 (fun H_2 locs hP2 hD2 hS2 => ?_)
  replace hP : va_P (dC, dI) vwCl [(a0, .inr (6, [.int 0, .int 0, .ref a1, .int 65, .int 0, .int 4, .int 2, .int 1, .ref a2])), (a1, .inr (5, [.ref cb, .int 81, .int 0, .ref a3, .int 12, .ref a4, .int 4, .ref a5, .int 1, .int 1, .ref a6, .int 6, .int 0, .int 1, .int 0]))] H_2 := hP2
  replace hD : va_D A [(a0, .inr (6, [.int 0, .int 0, .ref a1, .int 65, .int 0, .int 4, .int 2, .int 1, .ref a2])), (a1, .inr (5, [.ref cb, .int 81, .int 0, .ref a3, .int 12, .ref a4, .int 4, .ref a5, .int 1, .int 1, .ref a6, .int 6, .int 0, .int 1, .int 0]))] := hD2
  replace hS := hS2
  clear hP2 hD2 hS2
  refine va_tb (v := .int 6) hx hb hSK.2 hS (by unfold vp_in; decide) rfl dX6_readByte_59 ?_
  refine lv_sipush (v := 255) hx hb dX6_readByte_60 (by decide) ?_
  refine lv_iand hx hb dX6_readByte_63 ?_
  refine lv_topi (fun z_3 ez_3 => ?_)
  obtain rfl : z_3 = 6 := ez_3.trans (by decide)
  clear ez_3
  exact W.iret hx hb hr (fun t ht hW => ⟨⟨6, (), rfl, rfl, by rw [ht]; exact hP, va_K.moved hW.alike hK, hD⟩, hS.F ht⟩) hS.2.2 dX6_readByte_64

set_option maxHeartbeats 4000000 in
set_option maxRecDepth 100000 in
theorem cc_215_X6_readByte (l : Launch) (dC : Nat → ClassId) (dI : Nat → Nat → Nat) (cy : Nat → ClassId) (sz : Nat) (cb : Nat) (a0 : Nat) (a1 : Nat) (a2 : Nat) (a3 : Nat) (a4 : Nat) (a5 : Nat) (a6 : Nat)  : Met l yX6_readByte wsX6_readByte ({ frames := 0, cells := 0, slots := 0, locals := 0 }) (va_Pc [.ref a0] (fun U => U.heap.size = sz ∧ va_P (dC, dI) vwCl [(a0, .inr (6, [.int 0, .int 0, .ref a1, .int 65, .int 0, .int 4, .int 2, .int 1, .ref a2])), (a1, .inr (5, [.ref cb, .int 81, .int 0, .ref a3, .int 12, .ref a4, .int 4, .ref a5, .int 1, .int 1, .ref a6, .int 6, .int 0, .int 1, .int 0]))] U.heap ∧ va_K (dC, dI) vwCl (TYS cy) U ∧ va_D (fun _ => True) [(a0, .inr (6, [.int 0, .int 0, .ref a1, .int 65, .int 0, .int 4, .int 2, .int 1, .ref a2])), (a1, .inr (5, [.ref cb, .int 81, .int 0, .ref a3, .int 12, .ref a4, .int 4, .ref a5, .int 1, .int 1, .ref a6, .int 6, .int 0, .int 1, .int 0]))] ∧ NK U ∧ SK cb (va_A [(a0, .inr (6, [.int 0, .int 0, .ref a1, .int 65, .int 0, .int 4, .int 2, .int 1, .ref a2])), (a1, .inr (5, [.ref cb, .int 81, .int 0, .ref a3, .int 12, .ref a4, .int 4, .ref a5, .int 1, .int 1, .ref a6, .int 6, .int 0, .int 1, .int 0]))] sz) U U.heap)) (va_Qi (fun (r : Int32) (u : Unit) => r = 0) (fun u t => va_P (dC, dI) vwCl [(a0, .inr (6, [.int 0, .int 0, .ref a1, .int 66, .int 0, .int 4, .int 2, .int 1, .ref a2])), (a1, .inr (5, [.ref cb, .int 81, .int 0, .ref a3, .int 12, .ref a4, .int 4, .ref a5, .int 1, .int 1, .ref a6, .int 6, .int 0, .int 1, .int 0]))] t.heap ∧ va_K (dC, dI) vwCl (TYS cy) t ∧ va_D (va_A [(a0, .inr (6, [.int 0, .int 0, .ref a1, .int 65, .int 0, .int 4, .int 2, .int 1, .ref a2])), (a1, .inr (5, [.ref cb, .int 81, .int 0, .ref a3, .int 12, .ref a4, .int 4, .ref a5, .int 1, .int 1, .ref a6, .int 6, .int 0, .int 1, .int 0]))] sz) [(a0, .inr (6, [.int 0, .int 0, .ref a1, .int 66, .int 0, .int 4, .int 2, .int 1, .ref a2])), (a1, .inr (5, [.ref cb, .int 81, .int 0, .ref a3, .int 12, .ref a4, .int 4, .ref a5, .int 1, .int 1, .ref a6, .int 6, .int 0, .int 1, .int 0]))]) (va_A [(a0, .inr (6, [.int 0, .int 0, .ref a1, .int 65, .int 0, .int 4, .int 2, .int 1, .ref a2])), (a1, .inr (5, [.ref cb, .int 81, .int 0, .ref a3, .int 12, .ref a4, .int 4, .ref a5, .int 1, .int 1, .ref a6, .int 6, .int 0, .int 1, .int 0]))] sz)) 0 0 (va_A [(a0, .inr (6, [.int 0, .int 0, .ref a1, .int 65, .int 0, .int 4, .int 2, .int 1, .ref a2])), (a1, .inr (5, [.ref cb, .int 81, .int 0, .ref a3, .int 12, .ref a4, .int 4, .ref a5, .int 1, .int 1, .ref a6, .int 6, .int 0, .int 1, .int 0]))] sz) := by
  refine Met.ofW (cc := cX6_readByte) (maxL := 1) (ret := (some .int)) (by decide) rfl ?_
  intro p e s m args below meth c s₁ B hml hv
  obtain ⟨rfl, hsz, hP, hK, hD0, hN, hSK⟩ := hv
  have hx := B.exec
  have hb := B.bytes
  have hr := B.returns
  have hts := atoms_spec (ws := wsX6_readByte) B.pre
  have hown : s.vm.findClass RX6 = some m.cls := findClass_of_methodNamed B.named
  have hlocks := B.notSynchronized
  subst hsz
  have hD := hD0.self (sz := s.heap.size)
  generalize hAe : va_A [(a0, .inr (6, [.int 0, .int 0, .ref a1, .int 65, .int 0, .int 4, .int 2, .int 1, .ref a2])), (a1, .inr (5, [.ref cb, .int 81, .int 0, .ref a3, .int 12, .ref a4, .int 4, .ref a5, .int 1, .int 1, .ref a6, .int 6, .int 0, .int 1, .int 0]))] s.heap.size = A at hD hSK ⊢
  have hA : ∀ q : Nat, s.heap.size ≤ q → A q := fun q h => by rw [← hAe]; exact Or.inr h
  have hS : va_S A s.heap s.heap [] := va_S.rf
  have hP : va_P (dC, dI) vwCl [(a0, .inr (6, [.int 0, .int 0, .ref a1, .int 65, .int 0, .int 4, .int 2, .int 1, .ref a2])), (a1, .inr (5, [.ref cb, .int 81, .int 0, .ref a3, .int 12, .ref a4, .int 4, .ref a5, .int 1, .int 1, .ref a6, .int 6, .int 0, .int 1, .int 0]))] s.heap := hP
  have hl := lv_entry ([.ref a0]) (n := 1) (Nat.le_of_ble_eq_true rfl)
  rw [lg_entry_eq]
  generalize (lg_sl ([.ref a0]) ++ List.replicate (1 - (lg_sl ([.ref a0])).length) Slot.unset).toArray = ls at hl ⊢
  replace hl : lv_has ls 1 [(0, .ref a0)] := hl
  refine lv_aload_n hx hb dX6_readByte_0 rfl (lv_at hl 0 rfl) ?_
  refine va_get (D := (dC, dI)) (ci := 6) (v := .int 0) (C := RX6) (T := TX6) (N := 9) hx hb hts iw_X6_readByte_X6 hown hK hP 0 rfl rfl 1 (by decide) (hts _ m_X6_readByte_1) (fun _ h9 => h9) rfl dX6_readByte_1 ?_
  refine lv_if_eq (tgt := 9) hx hb dX6_readByte_4 (by decide) (fun _ => ?_) (fun h => absurd (by decide) h)
  refine lv_aload_n hx hb dX6_readByte_9 rfl (lv_at hl 0 rfl) ?_
  refine va_get (D := (dC, dI)) (ci := 6) (v := .int 65) (C := RX6) (T := TX6) (N := 9) hx hb hts iw_X6_readByte_X6 hown hK hP 0 rfl rfl 3 (by decide) (hts _ m_X6_readByte_2) (fun _ h9 => h9) rfl dX6_readByte_10 ?_
  refine lv_aload_n hx hb dX6_readByte_13 rfl (lv_at hl 0 rfl) ?_
  refine va_get (D := (dC, dI)) (ci := 6) (v := .ref a1) (C := RX6) (T := TX6) (N := 9) hx hb hts iw_X6_readByte_X6 hown hK hP 0 rfl rfl 2 (by decide) (hts _ m_X6_readByte_3) (fun _ h9 => h9) rfl dX6_readByte_14 ?_
  refine va_get (D := (dC, dI)) (ci := 5) (v := .int 81) (C := RX5) (T := TX5) (N := 15) hx hb hts iw_X6_readByte_X5 hown hK hP 1 rfl rfl 1 (by decide) (hts _ m_X6_readByte_4) (fun _ h9 => h9) rfl dX6_readByte_17 ?_
  refine lv_icmp_lt (tgt := 41) hx hb dX6_readByte_20 (by decide) (fun _ => ?_) (fun h => absurd (by decide) h)
  refine lv_aload_n hx hb dX6_readByte_41 rfl (lv_at hl 0 rfl) ?_
  refine va_get (D := (dC, dI)) (ci := 6) (v := .ref a1) (C := RX6) (T := TX6) (N := 9) hx hb hts iw_X6_readByte_X6 hown hK hP 0 rfl rfl 2 (by decide) (hts _ m_X6_readByte_3) (fun _ h9 => h9) rfl dX6_readByte_42 ?_
  refine va_get (D := (dC, dI)) (ci := 5) (v := .ref cb) (C := RX5) (T := TX5) (N := 15) hx hb hts iw_X6_readByte_X5 hown hK hP 1 rfl rfl 0 (by decide) (hts _ m_X6_readByte_6) (fun _ h9 => h9) rfl dX6_readByte_45 ?_
  refine lv_aload_n hx hb dX6_readByte_48 rfl (lv_at hl 0 rfl) ?_
  refine lv_dup hx hb dX6_readByte_49 rfl ?_
  refine va_get (D := (dC, dI)) (ci := 6) (v := .int 65) (C := RX6) (T := TX6) (N := 9) hx hb hts iw_X6_readByte_X6 hown hK hP 0 rfl rfl 3 (by decide) (hts _ m_X6_readByte_2) (fun _ h9 => h9) rfl dX6_readByte_50 ?_
  refine lv_dup_x1 hx hb dX6_readByte_53 rfl rfl ?_
  refine lv_iconst (v := 1) hx hb dX6_readByte_54 (by decide) ?_
  refine lv_iadd hx hb dX6_readByte_55 ?_
  refine lv_topi (fun z_1 ez_1 => ?_)
  obtain rfl : z_1 = 66 := ez_1.trans (by decide)
  clear ez_1
  refine va_put (D := (dC, dI)) (ci := 6) (v := .int 66) (ty := .int) (C := RX6) (T := TX6) (N := 9) hx hb hts iw_X6_readByte_X6 tyX6 tyX6_ok nmX6 hown hK hP hD hS 0 rfl rfl 3 (by decide) (hts _ m_X6_readByte_2) (fun _ h9 => h9) rfl (by decide +kernel) rfl rfl (Nat.le_of_ble_eq_true rfl) dX6_readByte_56 (fun H_2 locs hP2 hD2 hS2 => ?_)
  replace hP : va_P (dC, dI) vwCl [(a0, .inr (6, [.int 0, .int 0, .ref a1, .int 66, .int 0, .int 4, .int 2, .int 1, .ref a2])), (a1, .inr (5, [.ref cb, .int 81, .int 0, .ref a3, .int 12, .ref a4, .int 4, .ref a5, .int 1, .int 1, .ref a6, .int 6, .int 0, .int 1, .int 0]))] H_2 := hP2
  replace hD : va_D A [(a0, .inr (6, [.int 0, .int 0, .ref a1, .int 66, .int 0, .int 4, .int 2, .int 1, .ref a2])), (a1, .inr (5, [.ref cb, .int 81, .int 0, .ref a3, .int 12, .ref a4, .int 4, .ref a5, .int 1, .int 1, .ref a6, .int 6, .int 0, .int 1, .int 0]))] := hD2
  replace hS := hS2
  clear hP2 hD2 hS2
  refine va_tb (v := .int 0) hx hb hSK.2 hS (by unfold vp_in; decide) rfl dX6_readByte_59 ?_
  refine lv_sipush (v := 255) hx hb dX6_readByte_60 (by decide) ?_
  refine lv_iand hx hb dX6_readByte_63 ?_
  refine lv_topi (fun z_3 ez_3 => ?_)
  obtain rfl : z_3 = 0 := ez_3.trans (by decide)
  clear ez_3
  exact W.iret hx hb hr (fun t ht hW => ⟨⟨0, (), rfl, rfl, by rw [ht]; exact hP, va_K.moved hW.alike hK, hD⟩, hS.F ht⟩) hS.2.2 dX6_readByte_64

set_option maxHeartbeats 4000000 in
set_option maxRecDepth 100000 in
theorem cc_213_X6_readOneType (l : Launch) (dC : Nat → ClassId) (dI : Nat → Nat → Nat) (cy : Nat → ClassId) (sz : Nat) (cb : Nat) (a0 : Nat) (a1 : Nat) (a2 : Nat) (a3 : Nat) (a4 : Nat) (a5 : Nat) (a6 : Nat)  : Met l yX6_readOneType wsX6_readOneType ({ frames := 1, cells := 0, slots := 0, locals := 20 }) (va_Pc [.ref a0, .int 1] (fun U => U.heap.size = sz ∧ va_P (dC, dI) vwCl [(a0, .inr (6, [.int 0, .int 0, .ref a1, .int 64, .int 0, .int 4, .int 2, .int 1, .ref a2])), (a1, .inr (5, [.ref cb, .int 81, .int 0, .ref a3, .int 12, .ref a4, .int 4, .ref a5, .int 1, .int 1, .ref a6, .int 6, .int 0, .int 1, .int 0]))] U.heap ∧ va_K (dC, dI) vwCl (TYS cy) U ∧ va_D (fun _ => True) [(a0, .inr (6, [.int 0, .int 0, .ref a1, .int 64, .int 0, .int 4, .int 2, .int 1, .ref a2])), (a1, .inr (5, [.ref cb, .int 81, .int 0, .ref a3, .int 12, .ref a4, .int 4, .ref a5, .int 1, .int 1, .ref a6, .int 6, .int 0, .int 1, .int 0]))] ∧ NK U ∧ SK cb (va_A [(a0, .inr (6, [.int 0, .int 0, .ref a1, .int 64, .int 0, .int 4, .int 2, .int 1, .ref a2])), (a1, .inr (5, [.ref cb, .int 81, .int 0, .ref a3, .int 12, .ref a4, .int 4, .ref a5, .int 1, .int 1, .ref a6, .int 6, .int 0, .int 1, .int 0]))] sz) U U.heap)) (va_Ql (fun (r : Int64) (u : Unit) => r = 1536) (fun u t => va_P (dC, dI) vwCl [(a0, .inr (6, [.int 0, .int 0, .ref a1, .int 66, .int 0, .int 4, .int 2, .int 1, .ref a2])), (a1, .inr (5, [.ref cb, .int 81, .int 0, .ref a3, .int 12, .ref a4, .int 4, .ref a5, .int 1, .int 1, .ref a6, .int 6, .int 0, .int 1, .int 0]))] t.heap ∧ va_K (dC, dI) vwCl (TYS cy) t ∧ va_D (va_A [(a0, .inr (6, [.int 0, .int 0, .ref a1, .int 64, .int 0, .int 4, .int 2, .int 1, .ref a2])), (a1, .inr (5, [.ref cb, .int 81, .int 0, .ref a3, .int 12, .ref a4, .int 4, .ref a5, .int 1, .int 1, .ref a6, .int 6, .int 0, .int 1, .int 0]))] sz) [(a0, .inr (6, [.int 0, .int 0, .ref a1, .int 66, .int 0, .int 4, .int 2, .int 1, .ref a2])), (a1, .inr (5, [.ref cb, .int 81, .int 0, .ref a3, .int 12, .ref a4, .int 4, .ref a5, .int 1, .int 1, .ref a6, .int 6, .int 0, .int 1, .int 0]))]) (va_A [(a0, .inr (6, [.int 0, .int 0, .ref a1, .int 64, .int 0, .int 4, .int 2, .int 1, .ref a2])), (a1, .inr (5, [.ref cb, .int 81, .int 0, .ref a3, .int 12, .ref a4, .int 4, .ref a5, .int 1, .int 1, .ref a6, .int 6, .int 0, .int 1, .int 0]))] sz)) 0 0 (va_A [(a0, .inr (6, [.int 0, .int 0, .ref a1, .int 64, .int 0, .int 4, .int 2, .int 1, .ref a2])), (a1, .inr (5, [.ref cb, .int 81, .int 0, .ref a3, .int 12, .ref a4, .int 4, .ref a5, .int 1, .int 1, .ref a6, .int 6, .int 0, .int 1, .int 0]))] sz) := by
  refine Met.ofW (cc := cX6_readOneType) (maxL := 7) (ret := (some .long)) (by decide) rfl ?_
  intro p e s m args below meth c s₁ B hml hv
  obtain ⟨rfl, hsz, hP, hK, hD0, hN, hSK⟩ := hv
  have hx := B.exec
  have hb := B.bytes
  have hr := B.returns
  have hts := atoms_spec (ws := wsX6_readOneType) B.pre
  have hown : s.vm.findClass RX6 = some m.cls := findClass_of_methodNamed B.named
  have hlocks := B.notSynchronized
  subst hsz
  have hD := hD0.self (sz := s.heap.size)
  generalize hAe : va_A [(a0, .inr (6, [.int 0, .int 0, .ref a1, .int 64, .int 0, .int 4, .int 2, .int 1, .ref a2])), (a1, .inr (5, [.ref cb, .int 81, .int 0, .ref a3, .int 12, .ref a4, .int 4, .ref a5, .int 1, .int 1, .ref a6, .int 6, .int 0, .int 1, .int 0]))] s.heap.size = A at hD hSK ⊢
  have hA : ∀ q : Nat, s.heap.size ≤ q → A q := fun q h => by rw [← hAe]; exact Or.inr h
  have hS : va_S A s.heap s.heap [] := va_S.rf
  have hP : va_P (dC, dI) vwCl [(a0, .inr (6, [.int 0, .int 0, .ref a1, .int 64, .int 0, .int 4, .int 2, .int 1, .ref a2])), (a1, .inr (5, [.ref cb, .int 81, .int 0, .ref a3, .int 12, .ref a4, .int 4, .ref a5, .int 1, .int 1, .ref a6, .int 6, .int 0, .int 1, .int 0]))] s.heap := hP
  have hl := lv_entry ([.ref a0, .int 1]) (n := 7) (Nat.le_of_ble_eq_true rfl)
  rw [lg_entry_eq]
  generalize (lg_sl ([.ref a0, .int 1]) ++ List.replicate (7 - (lg_sl ([.ref a0, .int 1])).length) Slot.unset).toArray = ls at hl ⊢
  replace hl : lv_has ls 7 [(0, .ref a0), (1, .int 1)] := hl
  refine lv_lconst (v := 0) hx hb dX6_readOneType_0 (by decide) ?_
  refine lv_lstore_n (lv' := [(2, .long 0), (0, .ref a0), (1, .int 1)]) hx hb dX6_readOneType_1 rfl hl (by decide) rfl (fun ls hl2 => ?_)
  replace hl := hl2
  clear hl2
  refine lv_aload_n hx hb dX6_readOneType_2 rfl (lv_at hl 1 rfl) ?_
  refine va_get (D := (dC, dI)) (ci := 6) (v := .int 64) (C := RX6) (T := TX6) (N := 9) hx hb hts iw_X6_readOneType_X6 hown hK hP 0 rfl rfl 3 (by decide) (hts _ m_X6_readOneType_1) (fun _ h9 => h9) rfl dX6_readOneType_3 ?_
  refine lv_istore (lv' := [(4, .int 64), (2, .long 0), (0, .ref a0), (1, .int 1)]) hx hb dX6_readOneType_6 hl (by decide) rfl (fun ls hl2 => ?_)
  replace hl := hl2
  clear hl2
  refine lv_aload_n hx hb dX6_readOneType_8 rfl (lv_at hl 2 rfl) ?_
  have hPc := hP.sub (ws' := [(a0, .inr (6, [.int 0, .int 0, .ref a1, .int 64, .int 0, .int 4, .int 2, .int 1, .ref a2])), (a1, .inr (5, [.ref cb, .int 81, .int 0, .ref a3, .int 12, .ref a4, .int 4, .ref a5, .int 1, .int 1, .ref a6, .int 6, .int 0, .int 1, .int 0]))]) [0, 1] rfl
  have hDc := hD.sub (ws' := [(a0, .inr (6, [.int 0, .int 0, .ref a1, .int 64, .int 0, .int 4, .int 2, .int 1, .ref a2])), (a1, .inr (5, [.ref cb, .int 81, .int 0, .ref a3, .int 12, .ref a4, .int 4, .ref a5, .int 1, .int 1, .ref a6, .int 6, .int 0, .int 1, .int 0]))]) [0, 1] (by decide) rfl
  have hFc := va_free (wc := [(a0, .inr (6, [.int 0, .int 0, .ref a1, .int 64, .int 0, .int 4, .int 2, .int 1, .ref a2])), (a1, .inr (5, [.ref cb, .int 81, .int 0, .ref a3, .int 12, .ref a4, .int 4, .ref a5, .int 1, .int 1, .ref a6, .int 6, .int 0, .int 1, .int 0]))]) hD hS hA [0, 1] rfl
  refine va_calli (va_runV (As := []) (rest := []) ⟨hx, hb, hml, hown, hts⟩ (cc_214_X6_readByte l dC dI cy s.heap.size cb a0 a1 a2 a3 a4 a5 a6) (cwV 0 hts gX6_readOneType_X6_readByte rfl rfl rfl (by decide +kernel) ⟨Nat.le_of_ble_eq_true rfl, Nat.le_of_ble_eq_true rfl⟩) ⟨fun a U g mk q => by obtain ⟨q0, q1, qP, qK, qD, qN, qS⟩ := q; exact ⟨q0, q1, qP, va_K.moved (u := U) (U := U.calling g mk a) (Vm.Alike.refl U.vm) qK, qD, qN.same rfl, SK.moved (u := U) (U := U.calling g mk a) (Vm.Alike.refl U.vm) qS⟩, va_recv hK hPc (ci := 6) (q0 := 0) rfl rfl, fun U hU hW => ⟨rfl, by rw [hU], by rw [hU]; exact hPc, va_K.moved hW.alike hK, hDc.weaken (fun _ _ _ _ => trivial), hN.warm hW, by rw [hU]; exact ((hSK.kept hS.2.1).narrow hFc).moved hW.alike⟩⟩ rfl rfl hl.1 rfl (lv_room (Nat.le_of_ble_eq_true rfl)) dX6_readOneType_9 ⟨Nat.le_of_ble_eq_true rfl, Nat.le_of_ble_eq_true rfl⟩) hS (fun q _ h => hFc q h) hFc (fun r_1 u t H_2 locs ht hvm hw hB hz1 hk1 hS2 => ?_)
  obtain ⟨hP1, hK1, hD1⟩ := hB
  rw [ht] at hP1
  obtain rfl := hw
  obtain ⟨hP2, hD2⟩ := va_join (wr := []) (w1 := [(a0, .inr (6, [.int 0, .int 0, .ref a1, .int 65, .int 0, .int 4, .int 2, .int 1, .ref a2])), (a1, .inr (5, [.ref cb, .int 81, .int 0, .ref a3, .int 12, .ref a4, .int 4, .ref a5, .int 1, .int 1, .ref a6, .int 6, .int 0, .int 1, .int 0]))]) hP hD [0, 1] [] rfl rfl (by decide) (by decide) hk1 hFc hP1 hD1
  replace hP : va_P (dC, dI) vwCl [(a0, .inr (6, [.int 0, .int 0, .ref a1, .int 65, .int 0, .int 4, .int 2, .int 1, .ref a2])), (a1, .inr (5, [.ref cb, .int 81, .int 0, .ref a3, .int 12, .ref a4, .int 4, .ref a5, .int 1, .int 1, .ref a6, .int 6, .int 0, .int 1, .int 0]))] H_2 := hP2
  replace hD : va_D A [(a0, .inr (6, [.int 0, .int 0, .ref a1, .int 65, .int 0, .int 4, .int 2, .int 1, .ref a2])), (a1, .inr (5, [.ref cb, .int 81, .int 0, .ref a3, .int 12, .ref a4, .int 4, .ref a5, .int 1, .int 1, .ref a6, .int 6, .int 0, .int 1, .int 0]))] := hD2
  replace hS := hS2
  clear hP2 hD2 hS2
  clear hPc hDc hFc hP1 hD1 hK1 hk1 hz1 hvm ht
  refine W.widen (k := 0) (n := 0) (Nat.le_of_ble_eq_true rfl) (Nat.le_of_ble_eq_true rfl) ?_
  refine lv_istore (lv' := [(5, .int 6), (4, .int 64), (2, .long 0), (0, .ref a0), (1, .int 1)]) hx hb dX6_readOneType_12 hl (by decide) rfl (fun ls hl2 => ?_)
  replace hl := hl2
  clear hl2
  refine lv_iload_n hx hb dX6_readOneType_14 rfl (lv_at hl 4 rfl) ?_
  refine lv_if_eq (tgt := 48) hx hb dX6_readOneType_15 (by decide) (fun h => absurd h (by decide)) (fun _ => ?_)
  refine lv_iload hx hb dX6_readOneType_18 (lv_at hl 0 rfl) ?_
  refine lv_bipush (v := 8) hx hb dX6_readOneType_20 (by decide) ?_
  refine lv_icmp_eq (tgt := 32) hx hb dX6_readOneType_22 (by decide) (fun h => absurd h (by decide)) (fun _ => ?_)
  refine lv_iload hx hb dX6_readOneType_25 (lv_at hl 0 rfl) ?_
  refine lv_bipush (v := 9) hx hb dX6_readOneType_27 (by decide) ?_
  refine lv_icmp_ne (tgt := 48) hx hb dX6_readOneType_29 (by decide) (fun _ => ?_) (fun h => absurd h (by decide))
  refine lv_iconst (v := 0) hx hb dX6_readOneType_48 (by decide) ?_
  refine lv_istore (lv' := [(6, .int 0), (5, .int 6), (4, .int 64), (2, .long 0), (0, .ref a0), (1, .int 1)]) hx hb dX6_readOneType_49 hl (by decide) rfl (fun ls hl2 => ?_)
  replace hl := hl2
  clear hl2
  refine lv_iload hx hb dX6_readOneType_51 (lv_at hl 0 rfl) ?_
  refine lv_iconst (v := 4) hx hb dX6_readOneType_53 (by decide) ?_
  refine lv_icmp_ge (tgt := 91) hx hb dX6_readOneType_54 (by decide) (fun h => absurd h (by decide)) (fun _ => ?_)
  refine lv_iload hx hb dX6_readOneType_57 (lv_at hl 1 rfl) ?_
  refine lv_bipush (v := 7) hx hb dX6_readOneType_59 (by decide) ?_
  refine lv_icmp_ne (tgt := 91) hx hb dX6_readOneType_61 (by decide) (fun _ => ?_) (fun h => absurd h (by decide))
  refine lv_iload hx hb dX6_readOneType_91 (lv_at hl 1 rfl) ?_
  refine lv_iconst (v := 1) hx hb dX6_readOneType_93 (by decide) ?_
  refine lv_icmp_lt (tgt := 104) hx hb dX6_readOneType_94 (by decide) (fun h => absurd h (by decide)) (fun _ => ?_)
  refine lv_iload hx hb dX6_readOneType_97 (lv_at hl 1 rfl) ?_
  refine lv_bipush (v := 6) hx hb dX6_readOneType_99 (by decide) ?_
  refine lv_icmp_le (tgt := 111) hx hb dX6_readOneType_101 (by decide) (fun _ => ?_) (fun h => absurd (by decide) h)
  refine lv_lload_n hx hb dX6_readOneType_111 rfl (lv_at hl 3 rfl) ?_
  refine lv_bipush (v := 8) hx hb dX6_readOneType_112 (by decide) ?_
  refine lv_lshl (v := 0) hx hb dX6_readOneType_114 (by decide) ?_
  refine lv_iload hx hb dX6_readOneType_115 (lv_at hl 1 rfl) ?_
  refine lv_i2l (v := 6) hx hb dX6_readOneType_117 (by decide) ?_
  refine lv_lor hx hb dX6_readOneType_118 ?_
  refine lv_topl (fun z_3 ez_3 => ?_)
  obtain rfl : z_3 = 6 := ez_3.trans (by decide)
  clear ez_3
  refine lv_lstore_n (lv' := [(2, .long 6), (6, .int 0), (5, .int 6), (4, .int 64), (0, .ref a0), (1, .int 1)]) hx hb dX6_readOneType_119 rfl hl (by decide) rfl (fun ls hl2 => ?_)
  replace hl := hl2
  clear hl2
  refine lv_iload hx hb dX6_readOneType_120 (lv_at hl 2 rfl) ?_
  refine lv_bipush (v := 6) hx hb dX6_readOneType_122 (by decide) ?_
  refine lv_icmp_eq (tgt := 129) hx hb dX6_readOneType_124 (by decide) (fun _ => ?_) (fun h => absurd (by decide) h)
  refine lv_aload_n hx hb dX6_readOneType_129 rfl (lv_at hl 4 rfl) ?_
  refine va_get (D := (dC, dI)) (ci := 6) (v := .int 65) (C := RX6) (T := TX6) (N := 9) hx hb hts iw_X6_readOneType_X6 hown hK hP 0 rfl rfl 3 (by decide) (hts _ m_X6_readOneType_1) (fun _ h9 => h9) rfl dX6_readOneType_130 ?_
  refine lv_istore (lv' := [(4, .int 65), (2, .long 6), (6, .int 0), (5, .int 6), (0, .ref a0), (1, .int 1)]) hx hb dX6_readOneType_133 hl (by decide) rfl (fun ls hl2 => ?_)
  replace hl := hl2
  clear hl2
  refine lv_aload_n hx hb dX6_readOneType_135 rfl (lv_at hl 4 rfl) ?_
  have hPc := hP.sub (ws' := [(a0, .inr (6, [.int 0, .int 0, .ref a1, .int 65, .int 0, .int 4, .int 2, .int 1, .ref a2])), (a1, .inr (5, [.ref cb, .int 81, .int 0, .ref a3, .int 12, .ref a4, .int 4, .ref a5, .int 1, .int 1, .ref a6, .int 6, .int 0, .int 1, .int 0]))]) [0, 1] rfl
  have hDc := hD.sub (ws' := [(a0, .inr (6, [.int 0, .int 0, .ref a1, .int 65, .int 0, .int 4, .int 2, .int 1, .ref a2])), (a1, .inr (5, [.ref cb, .int 81, .int 0, .ref a3, .int 12, .ref a4, .int 4, .ref a5, .int 1, .int 1, .ref a6, .int 6, .int 0, .int 1, .int 0]))]) [0, 1] (by decide) rfl
  have hFc := va_free (wc := [(a0, .inr (6, [.int 0, .int 0, .ref a1, .int 65, .int 0, .int 4, .int 2, .int 1, .ref a2])), (a1, .inr (5, [.ref cb, .int 81, .int 0, .ref a3, .int 12, .ref a4, .int 4, .ref a5, .int 1, .int 1, .ref a6, .int 6, .int 0, .int 1, .int 0]))]) hD hS hA [0, 1] rfl
  refine va_calli (va_runV (As := []) (rest := []) ⟨hx, hb, hml, hown, hts⟩ (cc_215_X6_readByte l dC dI cy H_2.size cb a0 a1 a2 a3 a4 a5 a6) (cwV 0 hts gX6_readOneType_X6_readByte rfl rfl rfl (by decide +kernel) ⟨Nat.le_of_ble_eq_true rfl, Nat.le_of_ble_eq_true rfl⟩) ⟨fun a U g mk q => by obtain ⟨q0, q1, qP, qK, qD, qN, qS⟩ := q; exact ⟨q0, q1, qP, va_K.moved (u := U) (U := U.calling g mk a) (Vm.Alike.refl U.vm) qK, qD, qN.same rfl, SK.moved (u := U) (U := U.calling g mk a) (Vm.Alike.refl U.vm) qS⟩, va_recv hK hPc (ci := 6) (q0 := 0) rfl rfl, fun U hU hW => ⟨rfl, by rw [hU], by rw [hU]; exact hPc, va_K.moved hW.alike hK, hDc.weaken (fun _ _ _ _ => trivial), hN.warm hW, by rw [hU]; exact ((hSK.kept hS.2.1).narrow hFc).moved hW.alike⟩⟩ rfl rfl hl.1 rfl (lv_room (Nat.le_of_ble_eq_true rfl)) dX6_readOneType_136 ⟨Nat.le_of_ble_eq_true rfl, Nat.le_of_ble_eq_true rfl⟩) hS (fun q _ h => hFc q h) hFc (fun r_4 u t H_5 locs ht hvm hw hB hz1 hk1 hS2 => ?_)
  obtain ⟨hP1, hK1, hD1⟩ := hB
  rw [ht] at hP1
  obtain rfl := hw
  obtain ⟨hP2, hD2⟩ := va_join (wr := []) (w1 := [(a0, .inr (6, [.int 0, .int 0, .ref a1, .int 66, .int 0, .int 4, .int 2, .int 1, .ref a2])), (a1, .inr (5, [.ref cb, .int 81, .int 0, .ref a3, .int 12, .ref a4, .int 4, .ref a5, .int 1, .int 1, .ref a6, .int 6, .int 0, .int 1, .int 0]))]) hP hD [0, 1] [] rfl rfl (by decide) (by decide) hk1 hFc hP1 hD1
  replace hP : va_P (dC, dI) vwCl [(a0, .inr (6, [.int 0, .int 0, .ref a1, .int 66, .int 0, .int 4, .int 2, .int 1, .ref a2])), (a1, .inr (5, [.ref cb, .int 81, .int 0, .ref a3, .int 12, .ref a4, .int 4, .ref a5, .int 1, .int 1, .ref a6, .int 6, .int 0, .int 1, .int 0]))] H_5 := hP2
  replace hD : va_D A [(a0, .inr (6, [.int 0, .int 0, .ref a1, .int 66, .int 0, .int 4, .int 2, .int 1, .ref a2])), (a1, .inr (5, [.ref cb, .int 81, .int 0, .ref a3, .int 12, .ref a4, .int 4, .ref a5, .int 1, .int 1, .ref a6, .int 6, .int 0, .int 1, .int 0]))] := hD2
  replace hS := hS2
  clear hP2 hD2 hS2
  clear hPc hDc hFc hP1 hD1 hK1 hk1 hz1 hvm ht
  refine W.widen (k := 0) (n := 0) (Nat.le_of_ble_eq_true rfl) (Nat.le_of_ble_eq_true rfl) ?_
  refine lv_istore (lv' := [(6, .int 0), (4, .int 65), (2, .long 6), (5, .int 6), (0, .ref a0), (1, .int 1)]) hx hb dX6_readOneType_139 hl (by decide) rfl (fun ls hl2 => ?_)
  replace hl := hl2
  clear hl2
  refine lv_aload_n hx hb dX6_readOneType_141 rfl (lv_at hl 4 rfl) ?_
  refine va_get (D := (dC, dI)) (ci := 6) (v := .int 0) (C := RX6) (T := TX6) (N := 9) hx hb hts iw_X6_readOneType_X6 hown hK hP 0 rfl rfl 4 (by decide) (hts _ m_X6_readOneType_2) (fun _ h9 => h9) rfl dX6_readOneType_142 ?_
  refine lv_if_eq (tgt := 168) hx hb dX6_readOneType_145 (by decide) (fun _ => ?_) (fun h => absurd (by decide) h)
  refine lv_lload_n hx hb dX6_readOneType_168 rfl (lv_at hl 2 rfl) ?_
  refine lv_bipush (v := 8) hx hb dX6_readOneType_169 (by decide) ?_
  refine lv_lshl (v := 1536) hx hb dX6_readOneType_171 (by decide) ?_
  refine lv_iload hx hb dX6_readOneType_172 (lv_at hl 0 rfl) ?_
  refine lv_i2l (v := 0) hx hb dX6_readOneType_174 (by decide) ?_
  refine lv_lor hx hb dX6_readOneType_175 ?_
  refine lv_topl (fun z_6 ez_6 => ?_)
  obtain rfl : z_6 = 1536 := ez_6.trans (by decide)
  clear ez_6
  exact W.lret hx hb hr (fun t ht hW => ⟨⟨1536, (), rfl, rfl, by rw [ht]; exact hP, va_K.moved hW.alike hK, hD⟩, hS.F ht⟩) hS.2.2 dX6_readOneType_176

set_option maxHeartbeats 4000000 in
set_option maxRecDepth 100000 in
theorem cc_216_X5_addType (l : Launch) (dC : Nat → ClassId) (dI : Nat → Nat → Nat) (cy : Nat → ClassId) (sz : Nat) (cb : Nat) (a0 : Nat) (a1 : Nat) (a2 : Nat) (a3 : Nat) (a4 : Nat) (f0 : Nat → Int64) (f0_0 : f0 0 = 3) : Met l yX5_addType wsX5_addType ({ frames := 0, cells := 0, slots := 0, locals := 0 }) (va_Pc [.ref a0, .long 1536] (fun U => U.heap.size = sz ∧ va_P (dC, dI) vwCl [(a0, .inr (5, [.ref cb, .int 81, .int 0, .ref a1, .int 12, .ref a2, .int 4, .ref a3, .int 1, .int 1, .ref a4, .int 6, .int 0, .int 1, .int 0])), (a1, .inl (cy 2, 2048, .inr (.inl f0)))] U.heap ∧ va_K (dC, dI) vwCl (TYS cy) U ∧ va_D (fun _ => True) [(a0, .inr (5, [.ref cb, .int 81, .int 0, .ref a1, .int 12, .ref a2, .int 4, .ref a3, .int 1, .int 1, .ref a4, .int 6, .int 0, .int 1, .int 0])), (a1, .inl (cy 2, 2048, .inr (.inl f0)))] ∧ NK U ∧ SK cb (va_A [(a0, .inr (5, [.ref cb, .int 81, .int 0, .ref a1, .int 12, .ref a2, .int 4, .ref a3, .int 1, .int 1, .ref a4, .int 6, .int 0, .int 1, .int 0])), (a1, .inl (cy 2, 2048, .inr (.inl f0)))] sz) U U.heap)) (va_Qv (fun u : (Nat → Int64) => match u with | (u0) => u0 0 = 3) (fun u t => match u with | (u0) => va_P (dC, dI) vwCl [(a0, .inr (5, [.ref cb, .int 81, .int 0, .ref a1, .int 13, .ref a2, .int 4, .ref a3, .int 1, .int 1, .ref a4, .int 6, .int 0, .int 1, .int 0])), (a1, .inl (cy 2, 2048, .inr (.inl u0)))] t.heap ∧ va_K (dC, dI) vwCl (TYS cy) t ∧ va_D (va_A [(a0, .inr (5, [.ref cb, .int 81, .int 0, .ref a1, .int 12, .ref a2, .int 4, .ref a3, .int 1, .int 1, .ref a4, .int 6, .int 0, .int 1, .int 0])), (a1, .inl (cy 2, 2048, .inr (.inl f0)))] sz) [(a0, .inr (5, [.ref cb, .int 81, .int 0, .ref a1, .int 13, .ref a2, .int 4, .ref a3, .int 1, .int 1, .ref a4, .int 6, .int 0, .int 1, .int 0])), (a1, .inl (cy 2, 2048, .inr (.inl u0)))]) (va_A [(a0, .inr (5, [.ref cb, .int 81, .int 0, .ref a1, .int 12, .ref a2, .int 4, .ref a3, .int 1, .int 1, .ref a4, .int 6, .int 0, .int 1, .int 0])), (a1, .inl (cy 2, 2048, .inr (.inl f0)))] sz)) 0 0 (va_A [(a0, .inr (5, [.ref cb, .int 81, .int 0, .ref a1, .int 12, .ref a2, .int 4, .ref a3, .int 1, .int 1, .ref a4, .int 6, .int 0, .int 1, .int 0])), (a1, .inl (cy 2, 2048, .inr (.inl f0)))] sz) := by
  refine Met.ofW (cc := cX5_addType) (maxL := 3) (ret := none) (by decide) rfl ?_
  intro p e s m args below meth c s₁ B hml hv
  obtain ⟨rfl, hsz, hP, hK, hD0, hN, hSK⟩ := hv
  have hx := B.exec
  have hb := B.bytes
  have hr := B.returns
  have hts := atoms_spec (ws := wsX5_addType) B.pre
  have hown : s.vm.findClass RX5 = some m.cls := findClass_of_methodNamed B.named
  have hlocks := B.notSynchronized
  subst hsz
  have hD := hD0.self (sz := s.heap.size)
  generalize hAe : va_A [(a0, .inr (5, [.ref cb, .int 81, .int 0, .ref a1, .int 12, .ref a2, .int 4, .ref a3, .int 1, .int 1, .ref a4, .int 6, .int 0, .int 1, .int 0])), (a1, .inl (cy 2, 2048, .inr (.inl f0)))] s.heap.size = A at hD hSK ⊢
  have hA : ∀ q : Nat, s.heap.size ≤ q → A q := fun q h => by rw [← hAe]; exact Or.inr h
  have hS : va_S A s.heap s.heap [] := va_S.rf
  have hP : va_P (dC, dI) vwCl [(a0, .inr (5, [.ref cb, .int 81, .int 0, .ref a1, .int 12, .ref a2, .int 4, .ref a3, .int 1, .int 1, .ref a4, .int 6, .int 0, .int 1, .int 0])), (a1, .inl (cy 2, 2048, .inr (.inl f0)))] s.heap := hP
  have hl := lv_entry ([.ref a0, .long 1536]) (n := 3) (Nat.le_of_ble_eq_true rfl)
  rw [lg_entry_eq]
  generalize (lg_sl ([.ref a0, .long 1536]) ++ List.replicate (3 - (lg_sl ([.ref a0, .long 1536])).length) Slot.unset).toArray = ls at hl ⊢
  replace hl : lv_has ls 3 [(0, .ref a0), (1, .long 1536)] := hl
  refine lv_aload_n hx hb dX5_addType_0 rfl (lv_at hl 0 rfl) ?_
  refine va_get (D := (dC, dI)) (ci := 5) (v := .int 12) (C := RX5) (T := TX5) (N := 15) hx hb hts iw_X5_addType_X5 hown hK hP 0 rfl rfl 4 (by decide) (hts _ m_X5_addType_1) (fun _ h9 => h9) rfl dX5_addType_1 ?_
  refine lv_aload_n hx hb dX5_addType_4 rfl (lv_at hl 0 rfl) ?_
  refine va_get (D := (dC, dI)) (ci := 5) (v := .ref a1) (C := RX5) (T := TX5) (N := 15) hx hb hts iw_X5_addType_X5 hown hK hP 0 rfl rfl 3 (by decide) (hts _ m_X5_addType_2) (fun _ h9 => h9) rfl dX5_addType_5 ?_
  refine va_alen (v := 2048) hx hb hK hP 1 2 rfl rfl rfl dX5_addType_8 ?_
  refine lv_icmp_ge (tgt := 29) hx hb dX5_addType_9 (by decide) (fun h => absurd h (by decide)) (fun _ => ?_)
  refine lv_aload_n hx hb dX5_addType_12 rfl (lv_at hl 0 rfl) ?_
  refine va_get (D := (dC, dI)) (ci := 5) (v := .ref a1) (C := RX5) (T := TX5) (N := 15) hx hb hts iw_X5_addType_X5 hown hK hP 0 rfl rfl 3 (by decide) (hts _ m_X5_addType_2) (fun _ h9 => h9) rfl dX5_addType_13 ?_
  refine lv_aload_n hx hb dX5_addType_16 rfl (lv_at hl 0 rfl) ?_
  refine lv_dup hx hb dX5_addType_17 rfl ?_
  refine va_get (D := (dC, dI)) (ci := 5) (v := .int 12) (C := RX5) (T := TX5) (N := 15) hx hb hts iw_X5_addType_X5 hown hK hP 0 rfl rfl 4 (by decide) (hts _ m_X5_addType_1) (fun _ h9 => h9) rfl dX5_addType_18 ?_
  refine lv_dup_x1 hx hb dX5_addType_21 rfl rfl ?_
  refine lv_iconst (v := 1) hx hb dX5_addType_22 (by decide) ?_
  refine lv_iadd hx hb dX5_addType_23 ?_
  refine lv_topi (fun z_1 ez_1 => ?_)
  obtain rfl : z_1 = 13 := ez_1.trans (by decide)
  clear ez_1
  refine va_put (D := (dC, dI)) (ci := 5) (v := .int 13) (ty := .int) (C := RX5) (T := TX5) (N := 15) hx hb hts iw_X5_addType_X5 tyX5 tyX5_ok nmX5 hown hK hP hD hS 0 rfl rfl 4 (by decide) (hts _ m_X5_addType_1) (fun _ h9 => h9) rfl (by decide +kernel) rfl rfl (Nat.le_of_ble_eq_true rfl) dX5_addType_24 (fun H_2 locs hP2 hD2 hS2 => ?_)
  replace hP : va_P (dC, dI) vwCl [(a0, .inr (5, [.ref cb, .int 81, .int 0, .ref a1, .int 13, .ref a2, .int 4, .ref a3, .int 1, .int 1, .ref a4, .int 6, .int 0, .int 1, .int 0])), (a1, .inl (cy 2, 2048, .inr (.inl f0)))] H_2 := hP2
  replace hD : va_D A [(a0, .inr (5, [.ref cb, .int 81, .int 0, .ref a1, .int 13, .ref a2, .int 4, .ref a3, .int 1, .int 1, .ref a4, .int 6, .int 0, .int 1, .int 0])), (a1, .inl (cy 2, 2048, .inr (.inl f0)))] := hD2
  replace hS := hS2
  clear hP2 hD2 hS2
  refine lv_lload_n hx hb dX5_addType_27 rfl (lv_at hl 1 rfl) ?_
  refine va_last hx hb hK hP hD hS 1 2 rfl rfl (by unfold vp_in; decide) dX5_addType_28 (fun H_4 locs hP2 hD2 hS2 => ?_)
  replace hP : va_P (dC, dI) vwCl [(a0, .inr (5, [.ref cb, .int 81, .int 0, .ref a1, .int 13, .ref a2, .int 4, .ref a3, .int 1, .int 1, .ref a4, .int 6, .int 0, .int 1, .int 0])), (a1, .inl (cy 2, 2048, .inr (.inl (vp_updL f0 12 1536))))] H_4 := hP2
  replace hD : va_D A [(a0, .inr (5, [.ref cb, .int 81, .int 0, .ref a1, .int 13, .ref a2, .int 4, .ref a3, .int 1, .int 1, .ref a4, .int 6, .int 0, .int 1, .int 0])), (a1, .inl (cy 2, 2048, .inr (.inl (vp_updL f0 12 1536))))] := hD2
  replace hS := hS2
  clear hP2 hD2 hS2
  obtain ⟨g_3, eg_3⟩ : ∃ z, vp_updL f0 12 1536 = z := ⟨_, rfl⟩
  rw [eg_3] at hP hD
  have kg_3_0 : g_3 0 = 3 := by rw [← eg_3, pk_uLn (by decide)]; exact f0_0
  exact W.vret hx hb hr (fun t ht hW => ⟨⟨(g_3), rfl, kg_3_0, by rw [ht]; exact hP, va_K.moved hW.alike hK, hD⟩, hS.F ht⟩) hS.2.2 dX5_addType_29

set_option maxHeartbeats 4000000 in
set_option maxRecDepth 100000 in
theorem cc_218_X6_readByte (l : Launch) (dC : Nat → ClassId) (dI : Nat → Nat → Nat) (cy : Nat → ClassId) (sz : Nat) (cb : Nat) (a0 : Nat) (a1 : Nat) (a2 : Nat) (a3 : Nat) (a4 : Nat) (a5 : Nat) (a6 : Nat)  : Met l yX6_readByte wsX6_readByte ({ frames := 0, cells := 0, slots := 0, locals := 0 }) (va_Pc [.ref a0] (fun U => U.heap.size = sz ∧ va_P (dC, dI) vwCl [(a0, .inr (6, [.int 0, .int 0, .ref a1, .int 66, .int 0, .int 4, .int 2, .int 1, .ref a2])), (a1, .inr (5, [.ref cb, .int 81, .int 0, .ref a3, .int 13, .ref a4, .int 4, .ref a5, .int 1, .int 1, .ref a6, .int 6, .int 0, .int 1, .int 0]))] U.heap ∧ va_K (dC, dI) vwCl (TYS cy) U ∧ va_D (fun _ => True) [(a0, .inr (6, [.int 0, .int 0, .ref a1, .int 66, .int 0, .int 4, .int 2, .int 1, .ref a2])), (a1, .inr (5, [.ref cb, .int 81, .int 0, .ref a3, .int 13, .ref a4, .int 4, .ref a5, .int 1, .int 1, .ref a6, .int 6, .int 0, .int 1, .int 0]))] ∧ NK U ∧ SK cb (va_A [(a0, .inr (6, [.int 0, .int 0, .ref a1, .int 66, .int 0, .int 4, .int 2, .int 1, .ref a2])), (a1, .inr (5, [.ref cb, .int 81, .int 0, .ref a3, .int 13, .ref a4, .int 4, .ref a5, .int 1, .int 1, .ref a6, .int 6, .int 0, .int 1, .int 0]))] sz) U U.heap)) (va_Qi (fun (r : Int32) (u : Unit) => r = 6) (fun u t => va_P (dC, dI) vwCl [(a0, .inr (6, [.int 0, .int 0, .ref a1, .int 67, .int 0, .int 4, .int 2, .int 1, .ref a2])), (a1, .inr (5, [.ref cb, .int 81, .int 0, .ref a3, .int 13, .ref a4, .int 4, .ref a5, .int 1, .int 1, .ref a6, .int 6, .int 0, .int 1, .int 0]))] t.heap ∧ va_K (dC, dI) vwCl (TYS cy) t ∧ va_D (va_A [(a0, .inr (6, [.int 0, .int 0, .ref a1, .int 66, .int 0, .int 4, .int 2, .int 1, .ref a2])), (a1, .inr (5, [.ref cb, .int 81, .int 0, .ref a3, .int 13, .ref a4, .int 4, .ref a5, .int 1, .int 1, .ref a6, .int 6, .int 0, .int 1, .int 0]))] sz) [(a0, .inr (6, [.int 0, .int 0, .ref a1, .int 67, .int 0, .int 4, .int 2, .int 1, .ref a2])), (a1, .inr (5, [.ref cb, .int 81, .int 0, .ref a3, .int 13, .ref a4, .int 4, .ref a5, .int 1, .int 1, .ref a6, .int 6, .int 0, .int 1, .int 0]))]) (va_A [(a0, .inr (6, [.int 0, .int 0, .ref a1, .int 66, .int 0, .int 4, .int 2, .int 1, .ref a2])), (a1, .inr (5, [.ref cb, .int 81, .int 0, .ref a3, .int 13, .ref a4, .int 4, .ref a5, .int 1, .int 1, .ref a6, .int 6, .int 0, .int 1, .int 0]))] sz)) 0 0 (va_A [(a0, .inr (6, [.int 0, .int 0, .ref a1, .int 66, .int 0, .int 4, .int 2, .int 1, .ref a2])), (a1, .inr (5, [.ref cb, .int 81, .int 0, .ref a3, .int 13, .ref a4, .int 4, .ref a5, .int 1, .int 1, .ref a6, .int 6, .int 0, .int 1, .int 0]))] sz) := by
  refine Met.ofW (cc := cX6_readByte) (maxL := 1) (ret := (some .int)) (by decide) rfl ?_
  intro p e s m args below meth c s₁ B hml hv
  obtain ⟨rfl, hsz, hP, hK, hD0, hN, hSK⟩ := hv
  have hx := B.exec
  have hb := B.bytes
  have hr := B.returns
  have hts := atoms_spec (ws := wsX6_readByte) B.pre
  have hown : s.vm.findClass RX6 = some m.cls := findClass_of_methodNamed B.named
  have hlocks := B.notSynchronized
  subst hsz
  have hD := hD0.self (sz := s.heap.size)
  generalize hAe : va_A [(a0, .inr (6, [.int 0, .int 0, .ref a1, .int 66, .int 0, .int 4, .int 2, .int 1, .ref a2])), (a1, .inr (5, [.ref cb, .int 81, .int 0, .ref a3, .int 13, .ref a4, .int 4, .ref a5, .int 1, .int 1, .ref a6, .int 6, .int 0, .int 1, .int 0]))] s.heap.size = A at hD hSK ⊢
  have hA : ∀ q : Nat, s.heap.size ≤ q → A q := fun q h => by rw [← hAe]; exact Or.inr h
  have hS : va_S A s.heap s.heap [] := va_S.rf
  have hP : va_P (dC, dI) vwCl [(a0, .inr (6, [.int 0, .int 0, .ref a1, .int 66, .int 0, .int 4, .int 2, .int 1, .ref a2])), (a1, .inr (5, [.ref cb, .int 81, .int 0, .ref a3, .int 13, .ref a4, .int 4, .ref a5, .int 1, .int 1, .ref a6, .int 6, .int 0, .int 1, .int 0]))] s.heap := hP
  have hl := lv_entry ([.ref a0]) (n := 1) (Nat.le_of_ble_eq_true rfl)
  rw [lg_entry_eq]
  generalize (lg_sl ([.ref a0]) ++ List.replicate (1 - (lg_sl ([.ref a0])).length) Slot.unset).toArray = ls at hl ⊢
  replace hl : lv_has ls 1 [(0, .ref a0)] := hl
  refine lv_aload_n hx hb dX6_readByte_0 rfl (lv_at hl 0 rfl) ?_
  refine va_get (D := (dC, dI)) (ci := 6) (v := .int 0) (C := RX6) (T := TX6) (N := 9) hx hb hts iw_X6_readByte_X6 hown hK hP 0 rfl rfl 1 (by decide) (hts _ m_X6_readByte_1) (fun _ h9 => h9) rfl dX6_readByte_1 ?_
  refine lv_if_eq (tgt := 9) hx hb dX6_readByte_4 (by decide) (fun _ => ?_) (fun h => absurd (by decide) h)
  refine lv_aload_n hx hb dX6_readByte_9 rfl (lv_at hl 0 rfl) ?_
  refine va_get (D := (dC, dI)) (ci := 6) (v := .int 66) (C := RX6) (T := TX6) (N := 9) hx hb hts iw_X6_readByte_X6 hown hK hP 0 rfl rfl 3 (by decide) (hts _ m_X6_readByte_2) (fun _ h9 => h9) rfl dX6_readByte_10 ?_
  refine lv_aload_n hx hb dX6_readByte_13 rfl (lv_at hl 0 rfl) ?_
  refine va_get (D := (dC, dI)) (ci := 6) (v := .ref a1) (C := RX6) (T := TX6) (N := 9) hx hb hts iw_X6_readByte_X6 hown hK hP 0 rfl rfl 2 (by decide) (hts _ m_X6_readByte_3) (fun _ h9 => h9) rfl dX6_readByte_14 ?_
  refine va_get (D := (dC, dI)) (ci := 5) (v := .int 81) (C := RX5) (T := TX5) (N := 15) hx hb hts iw_X6_readByte_X5 hown hK hP 1 rfl rfl 1 (by decide) (hts _ m_X6_readByte_4) (fun _ h9 => h9) rfl dX6_readByte_17 ?_
  refine lv_icmp_lt (tgt := 41) hx hb dX6_readByte_20 (by decide) (fun _ => ?_) (fun h => absurd (by decide) h)
  refine lv_aload_n hx hb dX6_readByte_41 rfl (lv_at hl 0 rfl) ?_
  refine va_get (D := (dC, dI)) (ci := 6) (v := .ref a1) (C := RX6) (T := TX6) (N := 9) hx hb hts iw_X6_readByte_X6 hown hK hP 0 rfl rfl 2 (by decide) (hts _ m_X6_readByte_3) (fun _ h9 => h9) rfl dX6_readByte_42 ?_
  refine va_get (D := (dC, dI)) (ci := 5) (v := .ref cb) (C := RX5) (T := TX5) (N := 15) hx hb hts iw_X6_readByte_X5 hown hK hP 1 rfl rfl 0 (by decide) (hts _ m_X6_readByte_6) (fun _ h9 => h9) rfl dX6_readByte_45 ?_
  refine lv_aload_n hx hb dX6_readByte_48 rfl (lv_at hl 0 rfl) ?_
  refine lv_dup hx hb dX6_readByte_49 rfl ?_
  refine va_get (D := (dC, dI)) (ci := 6) (v := .int 66) (C := RX6) (T := TX6) (N := 9) hx hb hts iw_X6_readByte_X6 hown hK hP 0 rfl rfl 3 (by decide) (hts _ m_X6_readByte_2) (fun _ h9 => h9) rfl dX6_readByte_50 ?_
  refine lv_dup_x1 hx hb dX6_readByte_53 rfl rfl ?_
  refine lv_iconst (v := 1) hx hb dX6_readByte_54 (by decide) ?_
  refine lv_iadd hx hb dX6_readByte_55 ?_
  refine lv_topi (fun z_1 ez_1 => ?_)
  obtain rfl : z_1 = 67 := ez_1.trans (by decide)
  clear ez_1
  refine va_put (D := (dC, dI)) (ci := 6) (v := .int 67) (ty := .int) (C := RX6) (T := TX6) (N := 9) hx hb hts iw_X6_readByte_X6 tyX6 tyX6_ok nmX6 hown hK hP hD hS 0 rfl rfl 3 (by decide) (hts _ m_X6_readByte_2) (fun _ h9 => h9) rfl (by decide +kernel) rfl rfl (Nat.le_of_ble_eq_true rfl) dX6_readByte_56 (fun H_2 locs hP2 hD2 hS2 => ?_)
  replace hP : va_P (dC, dI) vwCl [(a0, .inr (6, [.int 0, .int 0, .ref a1, .int 67, .int 0, .int 4, .int 2, .int 1, .ref a2])), (a1, .inr (5, [.ref cb, .int 81, .int 0, .ref a3, .int 13, .ref a4, .int 4, .ref a5, .int 1, .int 1, .ref a6, .int 6, .int 0, .int 1, .int 0]))] H_2 := hP2
  replace hD : va_D A [(a0, .inr (6, [.int 0, .int 0, .ref a1, .int 67, .int 0, .int 4, .int 2, .int 1, .ref a2])), (a1, .inr (5, [.ref cb, .int 81, .int 0, .ref a3, .int 13, .ref a4, .int 4, .ref a5, .int 1, .int 1, .ref a6, .int 6, .int 0, .int 1, .int 0]))] := hD2
  replace hS := hS2
  clear hP2 hD2 hS2
  refine va_tb (v := .int 6) hx hb hSK.2 hS (by unfold vp_in; decide) rfl dX6_readByte_59 ?_
  refine lv_sipush (v := 255) hx hb dX6_readByte_60 (by decide) ?_
  refine lv_iand hx hb dX6_readByte_63 ?_
  refine lv_topi (fun z_3 ez_3 => ?_)
  obtain rfl : z_3 = 6 := ez_3.trans (by decide)
  clear ez_3
  exact W.iret hx hb hr (fun t ht hW => ⟨⟨6, (), rfl, rfl, by rw [ht]; exact hP, va_K.moved hW.alike hK, hD⟩, hS.F ht⟩) hS.2.2 dX6_readByte_64

set_option maxHeartbeats 4000000 in
set_option maxRecDepth 100000 in
theorem cc_219_X6_readByte (l : Launch) (dC : Nat → ClassId) (dI : Nat → Nat → Nat) (cy : Nat → ClassId) (sz : Nat) (cb : Nat) (a0 : Nat) (a1 : Nat) (a2 : Nat) (a3 : Nat) (a4 : Nat) (a5 : Nat) (a6 : Nat)  : Met l yX6_readByte wsX6_readByte ({ frames := 0, cells := 0, slots := 0, locals := 0 }) (va_Pc [.ref a0] (fun U => U.heap.size = sz ∧ va_P (dC, dI) vwCl [(a0, .inr (6, [.int 0, .int 0, .ref a1, .int 67, .int 0, .int 4, .int 2, .int 1, .ref a2])), (a1, .inr (5, [.ref cb, .int 81, .int 0, .ref a3, .int 13, .ref a4, .int 4, .ref a5, .int 1, .int 1, .ref a6, .int 6, .int 0, .int 1, .int 0]))] U.heap ∧ va_K (dC, dI) vwCl (TYS cy) U ∧ va_D (fun _ => True) [(a0, .inr (6, [.int 0, .int 0, .ref a1, .int 67, .int 0, .int 4, .int 2, .int 1, .ref a2])), (a1, .inr (5, [.ref cb, .int 81, .int 0, .ref a3, .int 13, .ref a4, .int 4, .ref a5, .int 1, .int 1, .ref a6, .int 6, .int 0, .int 1, .int 0]))] ∧ NK U ∧ SK cb (va_A [(a0, .inr (6, [.int 0, .int 0, .ref a1, .int 67, .int 0, .int 4, .int 2, .int 1, .ref a2])), (a1, .inr (5, [.ref cb, .int 81, .int 0, .ref a3, .int 13, .ref a4, .int 4, .ref a5, .int 1, .int 1, .ref a6, .int 6, .int 0, .int 1, .int 0]))] sz) U U.heap)) (va_Qi (fun (r : Int32) (u : Unit) => r = 0) (fun u t => va_P (dC, dI) vwCl [(a0, .inr (6, [.int 0, .int 0, .ref a1, .int 68, .int 0, .int 4, .int 2, .int 1, .ref a2])), (a1, .inr (5, [.ref cb, .int 81, .int 0, .ref a3, .int 13, .ref a4, .int 4, .ref a5, .int 1, .int 1, .ref a6, .int 6, .int 0, .int 1, .int 0]))] t.heap ∧ va_K (dC, dI) vwCl (TYS cy) t ∧ va_D (va_A [(a0, .inr (6, [.int 0, .int 0, .ref a1, .int 67, .int 0, .int 4, .int 2, .int 1, .ref a2])), (a1, .inr (5, [.ref cb, .int 81, .int 0, .ref a3, .int 13, .ref a4, .int 4, .ref a5, .int 1, .int 1, .ref a6, .int 6, .int 0, .int 1, .int 0]))] sz) [(a0, .inr (6, [.int 0, .int 0, .ref a1, .int 68, .int 0, .int 4, .int 2, .int 1, .ref a2])), (a1, .inr (5, [.ref cb, .int 81, .int 0, .ref a3, .int 13, .ref a4, .int 4, .ref a5, .int 1, .int 1, .ref a6, .int 6, .int 0, .int 1, .int 0]))]) (va_A [(a0, .inr (6, [.int 0, .int 0, .ref a1, .int 67, .int 0, .int 4, .int 2, .int 1, .ref a2])), (a1, .inr (5, [.ref cb, .int 81, .int 0, .ref a3, .int 13, .ref a4, .int 4, .ref a5, .int 1, .int 1, .ref a6, .int 6, .int 0, .int 1, .int 0]))] sz)) 0 0 (va_A [(a0, .inr (6, [.int 0, .int 0, .ref a1, .int 67, .int 0, .int 4, .int 2, .int 1, .ref a2])), (a1, .inr (5, [.ref cb, .int 81, .int 0, .ref a3, .int 13, .ref a4, .int 4, .ref a5, .int 1, .int 1, .ref a6, .int 6, .int 0, .int 1, .int 0]))] sz) := by
  refine Met.ofW (cc := cX6_readByte) (maxL := 1) (ret := (some .int)) (by decide) rfl ?_
  intro p e s m args below meth c s₁ B hml hv
  obtain ⟨rfl, hsz, hP, hK, hD0, hN, hSK⟩ := hv
  have hx := B.exec
  have hb := B.bytes
  have hr := B.returns
  have hts := atoms_spec (ws := wsX6_readByte) B.pre
  have hown : s.vm.findClass RX6 = some m.cls := findClass_of_methodNamed B.named
  have hlocks := B.notSynchronized
  subst hsz
  have hD := hD0.self (sz := s.heap.size)
  generalize hAe : va_A [(a0, .inr (6, [.int 0, .int 0, .ref a1, .int 67, .int 0, .int 4, .int 2, .int 1, .ref a2])), (a1, .inr (5, [.ref cb, .int 81, .int 0, .ref a3, .int 13, .ref a4, .int 4, .ref a5, .int 1, .int 1, .ref a6, .int 6, .int 0, .int 1, .int 0]))] s.heap.size = A at hD hSK ⊢
  have hA : ∀ q : Nat, s.heap.size ≤ q → A q := fun q h => by rw [← hAe]; exact Or.inr h
  have hS : va_S A s.heap s.heap [] := va_S.rf
  have hP : va_P (dC, dI) vwCl [(a0, .inr (6, [.int 0, .int 0, .ref a1, .int 67, .int 0, .int 4, .int 2, .int 1, .ref a2])), (a1, .inr (5, [.ref cb, .int 81, .int 0, .ref a3, .int 13, .ref a4, .int 4, .ref a5, .int 1, .int 1, .ref a6, .int 6, .int 0, .int 1, .int 0]))] s.heap := hP
  have hl := lv_entry ([.ref a0]) (n := 1) (Nat.le_of_ble_eq_true rfl)
  rw [lg_entry_eq]
  generalize (lg_sl ([.ref a0]) ++ List.replicate (1 - (lg_sl ([.ref a0])).length) Slot.unset).toArray = ls at hl ⊢
  replace hl : lv_has ls 1 [(0, .ref a0)] := hl
  refine lv_aload_n hx hb dX6_readByte_0 rfl (lv_at hl 0 rfl) ?_
  refine va_get (D := (dC, dI)) (ci := 6) (v := .int 0) (C := RX6) (T := TX6) (N := 9) hx hb hts iw_X6_readByte_X6 hown hK hP 0 rfl rfl 1 (by decide) (hts _ m_X6_readByte_1) (fun _ h9 => h9) rfl dX6_readByte_1 ?_
  refine lv_if_eq (tgt := 9) hx hb dX6_readByte_4 (by decide) (fun _ => ?_) (fun h => absurd (by decide) h)
  refine lv_aload_n hx hb dX6_readByte_9 rfl (lv_at hl 0 rfl) ?_
  refine va_get (D := (dC, dI)) (ci := 6) (v := .int 67) (C := RX6) (T := TX6) (N := 9) hx hb hts iw_X6_readByte_X6 hown hK hP 0 rfl rfl 3 (by decide) (hts _ m_X6_readByte_2) (fun _ h9 => h9) rfl dX6_readByte_10 ?_
  refine lv_aload_n hx hb dX6_readByte_13 rfl (lv_at hl 0 rfl) ?_
  refine va_get (D := (dC, dI)) (ci := 6) (v := .ref a1) (C := RX6) (T := TX6) (N := 9) hx hb hts iw_X6_readByte_X6 hown hK hP 0 rfl rfl 2 (by decide) (hts _ m_X6_readByte_3) (fun _ h9 => h9) rfl dX6_readByte_14 ?_
  refine va_get (D := (dC, dI)) (ci := 5) (v := .int 81) (C := RX5) (T := TX5) (N := 15) hx hb hts iw_X6_readByte_X5 hown hK hP 1 rfl rfl 1 (by decide) (hts _ m_X6_readByte_4) (fun _ h9 => h9) rfl dX6_readByte_17 ?_
  refine lv_icmp_lt (tgt := 41) hx hb dX6_readByte_20 (by decide) (fun _ => ?_) (fun h => absurd (by decide) h)
  refine lv_aload_n hx hb dX6_readByte_41 rfl (lv_at hl 0 rfl) ?_
  refine va_get (D := (dC, dI)) (ci := 6) (v := .ref a1) (C := RX6) (T := TX6) (N := 9) hx hb hts iw_X6_readByte_X6 hown hK hP 0 rfl rfl 2 (by decide) (hts _ m_X6_readByte_3) (fun _ h9 => h9) rfl dX6_readByte_42 ?_
  refine va_get (D := (dC, dI)) (ci := 5) (v := .ref cb) (C := RX5) (T := TX5) (N := 15) hx hb hts iw_X6_readByte_X5 hown hK hP 1 rfl rfl 0 (by decide) (hts _ m_X6_readByte_6) (fun _ h9 => h9) rfl dX6_readByte_45 ?_
  refine lv_aload_n hx hb dX6_readByte_48 rfl (lv_at hl 0 rfl) ?_
  refine lv_dup hx hb dX6_readByte_49 rfl ?_
  refine va_get (D := (dC, dI)) (ci := 6) (v := .int 67) (C := RX6) (T := TX6) (N := 9) hx hb hts iw_X6_readByte_X6 hown hK hP 0 rfl rfl 3 (by decide) (hts _ m_X6_readByte_2) (fun _ h9 => h9) rfl dX6_readByte_50 ?_
  refine lv_dup_x1 hx hb dX6_readByte_53 rfl rfl ?_
  refine lv_iconst (v := 1) hx hb dX6_readByte_54 (by decide) ?_
  refine lv_iadd hx hb dX6_readByte_55 ?_
  refine lv_topi (fun z_1 ez_1 => ?_)
  obtain rfl : z_1 = 68 := ez_1.trans (by decide)
  clear ez_1
  refine va_put (D := (dC, dI)) (ci := 6) (v := .int 68) (ty := .int) (C := RX6) (T := TX6) (N := 9) hx hb hts iw_X6_readByte_X6 tyX6 tyX6_ok nmX6 hown hK hP hD hS 0 rfl rfl 3 (by decide) (hts _ m_X6_readByte_2) (fun _ h9 => h9) rfl (by decide +kernel) rfl rfl (Nat.le_of_ble_eq_true rfl) dX6_readByte_56 (fun H_2 locs hP2 hD2 hS2 => ?_)
  replace hP : va_P (dC, dI) vwCl [(a0, .inr (6, [.int 0, .int 0, .ref a1, .int 68, .int 0, .int 4, .int 2, .int 1, .ref a2])), (a1, .inr (5, [.ref cb, .int 81, .int 0, .ref a3, .int 13, .ref a4, .int 4, .ref a5, .int 1, .int 1, .ref a6, .int 6, .int 0, .int 1, .int 0]))] H_2 := hP2
  replace hD : va_D A [(a0, .inr (6, [.int 0, .int 0, .ref a1, .int 68, .int 0, .int 4, .int 2, .int 1, .ref a2])), (a1, .inr (5, [.ref cb, .int 81, .int 0, .ref a3, .int 13, .ref a4, .int 4, .ref a5, .int 1, .int 1, .ref a6, .int 6, .int 0, .int 1, .int 0]))] := hD2
  replace hS := hS2
  clear hP2 hD2 hS2
  refine va_tb (v := .int 0) hx hb hSK.2 hS (by unfold vp_in; decide) rfl dX6_readByte_59 ?_
  refine lv_sipush (v := 255) hx hb dX6_readByte_60 (by decide) ?_
  refine lv_iand hx hb dX6_readByte_63 ?_
  refine lv_topi (fun z_3 ez_3 => ?_)
  obtain rfl : z_3 = 0 := ez_3.trans (by decide)
  clear ez_3
  exact W.iret hx hb hr (fun t ht hW => ⟨⟨0, (), rfl, rfl, by rw [ht]; exact hP, va_K.moved hW.alike hK, hD⟩, hS.F ht⟩) hS.2.2 dX6_readByte_64

set_option maxHeartbeats 4000000 in
set_option maxRecDepth 100000 in
theorem cc_217_X6_readOneType (l : Launch) (dC : Nat → ClassId) (dI : Nat → Nat → Nat) (cy : Nat → ClassId) (sz : Nat) (cb : Nat) (a0 : Nat) (a1 : Nat) (a2 : Nat) (a3 : Nat) (a4 : Nat) (a5 : Nat) (a6 : Nat)  : Met l yX6_readOneType wsX6_readOneType ({ frames := 1, cells := 0, slots := 0, locals := 20 }) (va_Pc [.ref a0, .int 1] (fun U => U.heap.size = sz ∧ va_P (dC, dI) vwCl [(a0, .inr (6, [.int 0, .int 0, .ref a1, .int 66, .int 0, .int 4, .int 2, .int 1, .ref a2])), (a1, .inr (5, [.ref cb, .int 81, .int 0, .ref a3, .int 13, .ref a4, .int 4, .ref a5, .int 1, .int 1, .ref a6, .int 6, .int 0, .int 1, .int 0]))] U.heap ∧ va_K (dC, dI) vwCl (TYS cy) U ∧ va_D (fun _ => True) [(a0, .inr (6, [.int 0, .int 0, .ref a1, .int 66, .int 0, .int 4, .int 2, .int 1, .ref a2])), (a1, .inr (5, [.ref cb, .int 81, .int 0, .ref a3, .int 13, .ref a4, .int 4, .ref a5, .int 1, .int 1, .ref a6, .int 6, .int 0, .int 1, .int 0]))] ∧ NK U ∧ SK cb (va_A [(a0, .inr (6, [.int 0, .int 0, .ref a1, .int 66, .int 0, .int 4, .int 2, .int 1, .ref a2])), (a1, .inr (5, [.ref cb, .int 81, .int 0, .ref a3, .int 13, .ref a4, .int 4, .ref a5, .int 1, .int 1, .ref a6, .int 6, .int 0, .int 1, .int 0]))] sz) U U.heap)) (va_Ql (fun (r : Int64) (u : Unit) => r = 1536) (fun u t => va_P (dC, dI) vwCl [(a0, .inr (6, [.int 0, .int 0, .ref a1, .int 68, .int 0, .int 4, .int 2, .int 1, .ref a2])), (a1, .inr (5, [.ref cb, .int 81, .int 0, .ref a3, .int 13, .ref a4, .int 4, .ref a5, .int 1, .int 1, .ref a6, .int 6, .int 0, .int 1, .int 0]))] t.heap ∧ va_K (dC, dI) vwCl (TYS cy) t ∧ va_D (va_A [(a0, .inr (6, [.int 0, .int 0, .ref a1, .int 66, .int 0, .int 4, .int 2, .int 1, .ref a2])), (a1, .inr (5, [.ref cb, .int 81, .int 0, .ref a3, .int 13, .ref a4, .int 4, .ref a5, .int 1, .int 1, .ref a6, .int 6, .int 0, .int 1, .int 0]))] sz) [(a0, .inr (6, [.int 0, .int 0, .ref a1, .int 68, .int 0, .int 4, .int 2, .int 1, .ref a2])), (a1, .inr (5, [.ref cb, .int 81, .int 0, .ref a3, .int 13, .ref a4, .int 4, .ref a5, .int 1, .int 1, .ref a6, .int 6, .int 0, .int 1, .int 0]))]) (va_A [(a0, .inr (6, [.int 0, .int 0, .ref a1, .int 66, .int 0, .int 4, .int 2, .int 1, .ref a2])), (a1, .inr (5, [.ref cb, .int 81, .int 0, .ref a3, .int 13, .ref a4, .int 4, .ref a5, .int 1, .int 1, .ref a6, .int 6, .int 0, .int 1, .int 0]))] sz)) 0 0 (va_A [(a0, .inr (6, [.int 0, .int 0, .ref a1, .int 66, .int 0, .int 4, .int 2, .int 1, .ref a2])), (a1, .inr (5, [.ref cb, .int 81, .int 0, .ref a3, .int 13, .ref a4, .int 4, .ref a5, .int 1, .int 1, .ref a6, .int 6, .int 0, .int 1, .int 0]))] sz) := by
  refine Met.ofW (cc := cX6_readOneType) (maxL := 7) (ret := (some .long)) (by decide) rfl ?_
  intro p e s m args below meth c s₁ B hml hv
  obtain ⟨rfl, hsz, hP, hK, hD0, hN, hSK⟩ := hv
  have hx := B.exec
  have hb := B.bytes
  have hr := B.returns
  have hts := atoms_spec (ws := wsX6_readOneType) B.pre
  have hown : s.vm.findClass RX6 = some m.cls := findClass_of_methodNamed B.named
  have hlocks := B.notSynchronized
  subst hsz
  have hD := hD0.self (sz := s.heap.size)
  generalize hAe : va_A [(a0, .inr (6, [.int 0, .int 0, .ref a1, .int 66, .int 0, .int 4, .int 2, .int 1, .ref a2])), (a1, .inr (5, [.ref cb, .int 81, .int 0, .ref a3, .int 13, .ref a4, .int 4, .ref a5, .int 1, .int 1, .ref a6, .int 6, .int 0, .int 1, .int 0]))] s.heap.size = A at hD hSK ⊢
  have hA : ∀ q : Nat, s.heap.size ≤ q → A q := fun q h => by rw [← hAe]; exact Or.inr h
  have hS : va_S A s.heap s.heap [] := va_S.rf
  have hP : va_P (dC, dI) vwCl [(a0, .inr (6, [.int 0, .int 0, .ref a1, .int 66, .int 0, .int 4, .int 2, .int 1, .ref a2])), (a1, .inr (5, [.ref cb, .int 81, .int 0, .ref a3, .int 13, .ref a4, .int 4, .ref a5, .int 1, .int 1, .ref a6, .int 6, .int 0, .int 1, .int 0]))] s.heap := hP
  have hl := lv_entry ([.ref a0, .int 1]) (n := 7) (Nat.le_of_ble_eq_true rfl)
  rw [lg_entry_eq]
  generalize (lg_sl ([.ref a0, .int 1]) ++ List.replicate (7 - (lg_sl ([.ref a0, .int 1])).length) Slot.unset).toArray = ls at hl ⊢
  replace hl : lv_has ls 7 [(0, .ref a0), (1, .int 1)] := hl
  refine lv_lconst (v := 0) hx hb dX6_readOneType_0 (by decide) ?_
  refine lv_lstore_n (lv' := [(2, .long 0), (0, .ref a0), (1, .int 1)]) hx hb dX6_readOneType_1 rfl hl (by decide) rfl (fun ls hl2 => ?_)
  replace hl := hl2
  clear hl2
  refine lv_aload_n hx hb dX6_readOneType_2 rfl (lv_at hl 1 rfl) ?_
  refine va_get (D := (dC, dI)) (ci := 6) (v := .int 66) (C := RX6) (T := TX6) (N := 9) hx hb hts iw_X6_readOneType_X6 hown hK hP 0 rfl rfl 3 (by decide) (hts _ m_X6_readOneType_1) (fun _ h9 => h9) rfl dX6_readOneType_3 ?_
  refine lv_istore (lv' := [(4, .int 66), (2, .long 0), (0, .ref a0), (1, .int 1)]) hx hb dX6_readOneType_6 hl (by decide) rfl (fun ls hl2 => ?_)
  replace hl := hl2
  clear hl2
  refine lv_aload_n hx hb dX6_readOneType_8 rfl (lv_at hl 2 rfl) ?_
  have hPc := hP.sub (ws' := [(a0, .inr (6, [.int 0, .int 0, .ref a1, .int 66, .int 0, .int 4, .int 2, .int 1, .ref a2])), (a1, .inr (5, [.ref cb, .int 81, .int 0, .ref a3, .int 13, .ref a4, .int 4, .ref a5, .int 1, .int 1, .ref a6, .int 6, .int 0, .int 1, .int 0]))]) [0, 1] rfl
  have hDc := hD.sub (ws' := [(a0, .inr (6, [.int 0, .int 0, .ref a1, .int 66, .int 0, .int 4, .int 2, .int 1, .ref a2])), (a1, .inr (5, [.ref cb, .int 81, .int 0, .ref a3, .int 13, .ref a4, .int 4, .ref a5, .int 1, .int 1, .ref a6, .int 6, .int 0, .int 1, .int 0]))]) [0, 1] (by decide) rfl
  have hFc := va_free (wc := [(a0, .inr (6, [.int 0, .int 0, .ref a1, .int 66, .int 0, .int 4, .int 2, .int 1, .ref a2])), (a1, .inr (5, [.ref cb, .int 81, .int 0, .ref a3, .int 13, .ref a4, .int 4, .ref a5, .int 1, .int 1, .ref a6, .int 6, .int 0, .int 1, .int 0]))]) hD hS hA [0, 1] rfl
  refine va_calli (va_runV (As := []) (rest := []) ⟨hx, hb, hml, hown, hts⟩ (cc_218_X6_readByte l dC dI cy s.heap.size cb a0 a1 a2 a3 a4 a5 a6) (cwV 0 hts gX6_readOneType_X6_readByte rfl rfl rfl (by decide +kernel) ⟨Nat.le_of_ble_eq_true rfl, Nat.le_of_ble_eq_true rfl⟩) ⟨fun a U g mk q => by obtain ⟨q0, q1, qP, qK, qD, qN, qS⟩ := q; exact ⟨q0, q1, qP, va_K.moved (u := U) (U := U.calling g mk a) (Vm.Alike.refl U.vm) qK, qD, qN.same rfl, SK.moved (u := U) (U := U.calling g mk a) (Vm.Alike.refl U.vm) qS⟩, va_recv hK hPc (ci := 6) (q0 := 0) rfl rfl, fun U hU hW => ⟨rfl, by rw [hU], by rw [hU]; exact hPc, va_K.moved hW.alike hK, hDc.weaken (fun _ _ _ _ => trivial), hN.warm hW, by rw [hU]; exact ((hSK.kept hS.2.1).narrow hFc).moved hW.alike⟩⟩ rfl rfl hl.1 rfl (lv_room (Nat.le_of_ble_eq_true rfl)) dX6_readOneType_9 ⟨Nat.le_of_ble_eq_true rfl, Nat.le_of_ble_eq_true rfl⟩) hS (fun q _ h => hFc q h) hFc (fun r_1 u t H_2 locs ht hvm hw hB hz1 hk1 hS2 => ?_)
  obtain ⟨hP1, hK1, hD1⟩ := hB
  rw [ht] at hP1
  obtain rfl := hw
  obtain ⟨hP2, hD2⟩ := va_join (wr := []) (w1 := [(a0, .inr (6, [.int 0, .int 0, .ref a1, .int 67, .int 0, .int 4, .int 2, .int 1, .ref a2])), (a1, .inr (5, [.ref cb, .int 81, .int 0, .ref a3, .int 13, .ref a4, .int 4, .ref a5, .int 1, .int 1, .ref a6, .int 6, .int 0, .int 1, .int 0]))]) hP hD [0, 1] [] rfl rfl (by decide) (by decide) hk1 hFc hP1 hD1
  replace hP : va_P (dC, dI) vwCl [(a0, .inr (6, [.int 0, .int 0, .ref a1, .int 67, .int 0, .int 4, .int 2, .int 1, .ref a2])), (a1, .inr (5, [.ref cb, .int 81, .int 0, .ref a3, .int 13, .ref a4, .int 4, .ref a5, .int 1, .int 1, .ref a6, .int 6, .int 0, .int 1, .int 0]))] H_2 := hP2
  replace hD : va_D A [(a0, .inr (6, [.int 0, .int 0, .ref a1, .int 67, .int 0, .int 4, .int 2, .int 1, .ref a2])), (a1, .inr (5, [.ref cb, .int 81, .int 0, .ref a3, .int 13, .ref a4, .int 4, .ref a5, .int 1, .int 1, .ref a6, .int 6, .int 0, .int 1, .int 0]))] := hD2
  replace hS := hS2
  clear hP2 hD2 hS2
  clear hPc hDc hFc hP1 hD1 hK1 hk1 hz1 hvm ht
  refine W.widen (k := 0) (n := 0) (Nat.le_of_ble_eq_true rfl) (Nat.le_of_ble_eq_true rfl) ?_
  refine lv_istore (lv' := [(5, .int 6), (4, .int 66), (2, .long 0), (0, .ref a0), (1, .int 1)]) hx hb dX6_readOneType_12 hl (by decide) rfl (fun ls hl2 => ?_)
  replace hl := hl2
  clear hl2
  refine lv_iload_n hx hb dX6_readOneType_14 rfl (lv_at hl 4 rfl) ?_
  refine lv_if_eq (tgt := 48) hx hb dX6_readOneType_15 (by decide) (fun h => absurd h (by decide)) (fun _ => ?_)
  refine lv_iload hx hb dX6_readOneType_18 (lv_at hl 0 rfl) ?_
  refine lv_bipush (v := 8) hx hb dX6_readOneType_20 (by decide) ?_
  refine lv_icmp_eq (tgt := 32) hx hb dX6_readOneType_22 (by decide) (fun h => absurd h (by decide)) (fun _ => ?_)
  refine lv_iload hx hb dX6_readOneType_25 (lv_at hl 0 rfl) ?_
  refine lv_bipush (v := 9) hx hb dX6_readOneType_27 (by decide) ?_
  refine lv_icmp_ne (tgt := 48) hx hb dX6_readOneType_29 (by decide) (fun _ => ?_) (fun h => absurd h (by decide))
  refine lv_iconst (v := 0) hx hb dX6_readOneType_48 (by decide) ?_
  refine lv_istore (lv' := [(6, .int 0), (5, .int 6), (4, .int 66), (2, .long 0), (0, .ref a0), (1, .int 1)]) hx hb dX6_readOneType_49 hl (by decide) rfl (fun ls hl2 => ?_)
  replace hl := hl2
  clear hl2
  refine lv_iload hx hb dX6_readOneType_51 (lv_at hl 0 rfl) ?_
  refine lv_iconst (v := 4) hx hb dX6_readOneType_53 (by decide) ?_
  refine lv_icmp_ge (tgt := 91) hx hb dX6_readOneType_54 (by decide) (fun h => absurd h (by decide)) (fun _ => ?_)
  refine lv_iload hx hb dX6_readOneType_57 (lv_at hl 1 rfl) ?_
  refine lv_bipush (v := 7) hx hb dX6_readOneType_59 (by decide) ?_
  refine lv_icmp_ne (tgt := 91) hx hb dX6_readOneType_61 (by decide) (fun _ => ?_) (fun h => absurd h (by decide))
  refine lv_iload hx hb dX6_readOneType_91 (lv_at hl 1 rfl) ?_
  refine lv_iconst (v := 1) hx hb dX6_readOneType_93 (by decide) ?_
  refine lv_icmp_lt (tgt := 104) hx hb dX6_readOneType_94 (by decide) (fun h => absurd h (by decide)) (fun _ => ?_)
  refine lv_iload hx hb dX6_readOneType_97 (lv_at hl 1 rfl) ?_
  refine lv_bipush (v := 6) hx hb dX6_readOneType_99 (by decide) ?_
  refine lv_icmp_le (tgt := 111) hx hb dX6_readOneType_101 (by decide) (fun _ => ?_) (fun h => absurd (by decide) h)
  refine lv_lload_n hx hb dX6_readOneType_111 rfl (lv_at hl 3 rfl) ?_
  refine lv_bipush (v := 8) hx hb dX6_readOneType_112 (by decide) ?_
  refine lv_lshl (v := 0) hx hb dX6_readOneType_114 (by decide) ?_
  refine lv_iload hx hb dX6_readOneType_115 (lv_at hl 1 rfl) ?_
  refine lv_i2l (v := 6) hx hb dX6_readOneType_117 (by decide) ?_
  refine lv_lor hx hb dX6_readOneType_118 ?_
  refine lv_topl (fun z_3 ez_3 => ?_)
  obtain rfl : z_3 = 6 := ez_3.trans (by decide)
  clear ez_3
  refine lv_lstore_n (lv' := [(2, .long 6), (6, .int 0), (5, .int 6), (4, .int 66), (0, .ref a0), (1, .int 1)]) hx hb dX6_readOneType_119 rfl hl (by decide) rfl (fun ls hl2 => ?_)
  replace hl := hl2
  clear hl2
  refine lv_iload hx hb dX6_readOneType_120 (lv_at hl 2 rfl) ?_
  refine lv_bipush (v := 6) hx hb dX6_readOneType_122 (by decide) ?_
  refine lv_icmp_eq (tgt := 129) hx hb dX6_readOneType_124 (by decide) (fun _ => ?_) (fun h => absurd (by decide) h)
  refine lv_aload_n hx hb dX6_readOneType_129 rfl (lv_at hl 4 rfl) ?_
  refine va_get (D := (dC, dI)) (ci := 6) (v := .int 67) (C := RX6) (T := TX6) (N := 9) hx hb hts iw_X6_readOneType_X6 hown hK hP 0 rfl rfl 3 (by decide) (hts _ m_X6_readOneType_1) (fun _ h9 => h9) rfl dX6_readOneType_130 ?_
  refine lv_istore (lv' := [(4, .int 67), (2, .long 6), (6, .int 0), (5, .int 6), (0, .ref a0), (1, .int 1)]) hx hb dX6_readOneType_133 hl (by decide) rfl (fun ls hl2 => ?_)
  replace hl := hl2
  clear hl2
  refine lv_aload_n hx hb dX6_readOneType_135 rfl (lv_at hl 4 rfl) ?_
  have hPc := hP.sub (ws' := [(a0, .inr (6, [.int 0, .int 0, .ref a1, .int 67, .int 0, .int 4, .int 2, .int 1, .ref a2])), (a1, .inr (5, [.ref cb, .int 81, .int 0, .ref a3, .int 13, .ref a4, .int 4, .ref a5, .int 1, .int 1, .ref a6, .int 6, .int 0, .int 1, .int 0]))]) [0, 1] rfl
  have hDc := hD.sub (ws' := [(a0, .inr (6, [.int 0, .int 0, .ref a1, .int 67, .int 0, .int 4, .int 2, .int 1, .ref a2])), (a1, .inr (5, [.ref cb, .int 81, .int 0, .ref a3, .int 13, .ref a4, .int 4, .ref a5, .int 1, .int 1, .ref a6, .int 6, .int 0, .int 1, .int 0]))]) [0, 1] (by decide) rfl
  have hFc := va_free (wc := [(a0, .inr (6, [.int 0, .int 0, .ref a1, .int 67, .int 0, .int 4, .int 2, .int 1, .ref a2])), (a1, .inr (5, [.ref cb, .int 81, .int 0, .ref a3, .int 13, .ref a4, .int 4, .ref a5, .int 1, .int 1, .ref a6, .int 6, .int 0, .int 1, .int 0]))]) hD hS hA [0, 1] rfl
  refine va_calli (va_runV (As := []) (rest := []) ⟨hx, hb, hml, hown, hts⟩ (cc_219_X6_readByte l dC dI cy H_2.size cb a0 a1 a2 a3 a4 a5 a6) (cwV 0 hts gX6_readOneType_X6_readByte rfl rfl rfl (by decide +kernel) ⟨Nat.le_of_ble_eq_true rfl, Nat.le_of_ble_eq_true rfl⟩) ⟨fun a U g mk q => by obtain ⟨q0, q1, qP, qK, qD, qN, qS⟩ := q; exact ⟨q0, q1, qP, va_K.moved (u := U) (U := U.calling g mk a) (Vm.Alike.refl U.vm) qK, qD, qN.same rfl, SK.moved (u := U) (U := U.calling g mk a) (Vm.Alike.refl U.vm) qS⟩, va_recv hK hPc (ci := 6) (q0 := 0) rfl rfl, fun U hU hW => ⟨rfl, by rw [hU], by rw [hU]; exact hPc, va_K.moved hW.alike hK, hDc.weaken (fun _ _ _ _ => trivial), hN.warm hW, by rw [hU]; exact ((hSK.kept hS.2.1).narrow hFc).moved hW.alike⟩⟩ rfl rfl hl.1 rfl (lv_room (Nat.le_of_ble_eq_true rfl)) dX6_readOneType_136 ⟨Nat.le_of_ble_eq_true rfl, Nat.le_of_ble_eq_true rfl⟩) hS (fun q _ h => hFc q h) hFc (fun r_4 u t H_5 locs ht hvm hw hB hz1 hk1 hS2 => ?_)
  obtain ⟨hP1, hK1, hD1⟩ := hB
  rw [ht] at hP1
  obtain rfl := hw
  obtain ⟨hP2, hD2⟩ := va_join (wr := []) (w1 := [(a0, .inr (6, [.int 0, .int 0, .ref a1, .int 68, .int 0, .int 4, .int 2, .int 1, .ref a2])), (a1, .inr (5, [.ref cb, .int 81, .int 0, .ref a3, .int 13, .ref a4, .int 4, .ref a5, .int 1, .int 1, .ref a6, .int 6, .int 0, .int 1, .int 0]))]) hP hD [0, 1] [] rfl rfl (by decide) (by decide) hk1 hFc hP1 hD1
  replace hP : va_P (dC, dI) vwCl [(a0, .inr (6, [.int 0, .int 0, .ref a1, .int 68, .int 0, .int 4, .int 2, .int 1, .ref a2])), (a1, .inr (5, [.ref cb, .int 81, .int 0, .ref a3, .int 13, .ref a4, .int 4, .ref a5, .int 1, .int 1, .ref a6, .int 6, .int 0, .int 1, .int 0]))] H_5 := hP2
  replace hD : va_D A [(a0, .inr (6, [.int 0, .int 0, .ref a1, .int 68, .int 0, .int 4, .int 2, .int 1, .ref a2])), (a1, .inr (5, [.ref cb, .int 81, .int 0, .ref a3, .int 13, .ref a4, .int 4, .ref a5, .int 1, .int 1, .ref a6, .int 6, .int 0, .int 1, .int 0]))] := hD2
  replace hS := hS2
  clear hP2 hD2 hS2
  clear hPc hDc hFc hP1 hD1 hK1 hk1 hz1 hvm ht
  refine W.widen (k := 0) (n := 0) (Nat.le_of_ble_eq_true rfl) (Nat.le_of_ble_eq_true rfl) ?_
  refine lv_istore (lv' := [(6, .int 0), (4, .int 67), (2, .long 6), (5, .int 6), (0, .ref a0), (1, .int 1)]) hx hb dX6_readOneType_139 hl (by decide) rfl (fun ls hl2 => ?_)
  replace hl := hl2
  clear hl2
  refine lv_aload_n hx hb dX6_readOneType_141 rfl (lv_at hl 4 rfl) ?_
  refine va_get (D := (dC, dI)) (ci := 6) (v := .int 0) (C := RX6) (T := TX6) (N := 9) hx hb hts iw_X6_readOneType_X6 hown hK hP 0 rfl rfl 4 (by decide) (hts _ m_X6_readOneType_2) (fun _ h9 => h9) rfl dX6_readOneType_142 ?_
  refine lv_if_eq (tgt := 168) hx hb dX6_readOneType_145 (by decide) (fun _ => ?_) (fun h => absurd (by decide) h)
  refine lv_lload_n hx hb dX6_readOneType_168 rfl (lv_at hl 2 rfl) ?_
  refine lv_bipush (v := 8) hx hb dX6_readOneType_169 (by decide) ?_
  refine lv_lshl (v := 1536) hx hb dX6_readOneType_171 (by decide) ?_
  refine lv_iload hx hb dX6_readOneType_172 (lv_at hl 0 rfl) ?_
  refine lv_i2l (v := 0) hx hb dX6_readOneType_174 (by decide) ?_
  refine lv_lor hx hb dX6_readOneType_175 ?_
  refine lv_topl (fun z_6 ez_6 => ?_)
  obtain rfl : z_6 = 1536 := ez_6.trans (by decide)
  clear ez_6
  exact W.lret hx hb hr (fun t ht hW => ⟨⟨1536, (), rfl, rfl, by rw [ht]; exact hP, va_K.moved hW.alike hK, hD⟩, hS.F ht⟩) hS.2.2 dX6_readOneType_176

set_option maxHeartbeats 4000000 in
set_option maxRecDepth 100000 in
theorem cc_220_X5_addType (l : Launch) (dC : Nat → ClassId) (dI : Nat → Nat → Nat) (cy : Nat → ClassId) (sz : Nat) (cb : Nat) (a0 : Nat) (a1 : Nat) (a2 : Nat) (a3 : Nat) (a4 : Nat) (f0 : Nat → Int64) (f0_0 : f0 0 = 3) : Met l yX5_addType wsX5_addType ({ frames := 0, cells := 0, slots := 0, locals := 0 }) (va_Pc [.ref a0, .long 1536] (fun U => U.heap.size = sz ∧ va_P (dC, dI) vwCl [(a0, .inr (5, [.ref cb, .int 81, .int 0, .ref a1, .int 13, .ref a2, .int 4, .ref a3, .int 1, .int 1, .ref a4, .int 6, .int 0, .int 1, .int 0])), (a1, .inl (cy 2, 2048, .inr (.inl f0)))] U.heap ∧ va_K (dC, dI) vwCl (TYS cy) U ∧ va_D (fun _ => True) [(a0, .inr (5, [.ref cb, .int 81, .int 0, .ref a1, .int 13, .ref a2, .int 4, .ref a3, .int 1, .int 1, .ref a4, .int 6, .int 0, .int 1, .int 0])), (a1, .inl (cy 2, 2048, .inr (.inl f0)))] ∧ NK U ∧ SK cb (va_A [(a0, .inr (5, [.ref cb, .int 81, .int 0, .ref a1, .int 13, .ref a2, .int 4, .ref a3, .int 1, .int 1, .ref a4, .int 6, .int 0, .int 1, .int 0])), (a1, .inl (cy 2, 2048, .inr (.inl f0)))] sz) U U.heap)) (va_Qv (fun u : (Nat → Int64) => match u with | (u0) => u0 0 = 3) (fun u t => match u with | (u0) => va_P (dC, dI) vwCl [(a0, .inr (5, [.ref cb, .int 81, .int 0, .ref a1, .int 14, .ref a2, .int 4, .ref a3, .int 1, .int 1, .ref a4, .int 6, .int 0, .int 1, .int 0])), (a1, .inl (cy 2, 2048, .inr (.inl u0)))] t.heap ∧ va_K (dC, dI) vwCl (TYS cy) t ∧ va_D (va_A [(a0, .inr (5, [.ref cb, .int 81, .int 0, .ref a1, .int 13, .ref a2, .int 4, .ref a3, .int 1, .int 1, .ref a4, .int 6, .int 0, .int 1, .int 0])), (a1, .inl (cy 2, 2048, .inr (.inl f0)))] sz) [(a0, .inr (5, [.ref cb, .int 81, .int 0, .ref a1, .int 14, .ref a2, .int 4, .ref a3, .int 1, .int 1, .ref a4, .int 6, .int 0, .int 1, .int 0])), (a1, .inl (cy 2, 2048, .inr (.inl u0)))]) (va_A [(a0, .inr (5, [.ref cb, .int 81, .int 0, .ref a1, .int 13, .ref a2, .int 4, .ref a3, .int 1, .int 1, .ref a4, .int 6, .int 0, .int 1, .int 0])), (a1, .inl (cy 2, 2048, .inr (.inl f0)))] sz)) 0 0 (va_A [(a0, .inr (5, [.ref cb, .int 81, .int 0, .ref a1, .int 13, .ref a2, .int 4, .ref a3, .int 1, .int 1, .ref a4, .int 6, .int 0, .int 1, .int 0])), (a1, .inl (cy 2, 2048, .inr (.inl f0)))] sz) := by
  refine Met.ofW (cc := cX5_addType) (maxL := 3) (ret := none) (by decide) rfl ?_
  intro p e s m args below meth c s₁ B hml hv
  obtain ⟨rfl, hsz, hP, hK, hD0, hN, hSK⟩ := hv
  have hx := B.exec
  have hb := B.bytes
  have hr := B.returns
  have hts := atoms_spec (ws := wsX5_addType) B.pre
  have hown : s.vm.findClass RX5 = some m.cls := findClass_of_methodNamed B.named
  have hlocks := B.notSynchronized
  subst hsz
  have hD := hD0.self (sz := s.heap.size)
  generalize hAe : va_A [(a0, .inr (5, [.ref cb, .int 81, .int 0, .ref a1, .int 13, .ref a2, .int 4, .ref a3, .int 1, .int 1, .ref a4, .int 6, .int 0, .int 1, .int 0])), (a1, .inl (cy 2, 2048, .inr (.inl f0)))] s.heap.size = A at hD hSK ⊢
  have hA : ∀ q : Nat, s.heap.size ≤ q → A q := fun q h => by rw [← hAe]; exact Or.inr h
  have hS : va_S A s.heap s.heap [] := va_S.rf
  have hP : va_P (dC, dI) vwCl [(a0, .inr (5, [.ref cb, .int 81, .int 0, .ref a1, .int 13, .ref a2, .int 4, .ref a3, .int 1, .int 1, .ref a4, .int 6, .int 0, .int 1, .int 0])), (a1, .inl (cy 2, 2048, .inr (.inl f0)))] s.heap := hP
  have hl := lv_entry ([.ref a0, .long 1536]) (n := 3) (Nat.le_of_ble_eq_true rfl)
  rw [lg_entry_eq]
  generalize (lg_sl ([.ref a0, .long 1536]) ++ List.replicate (3 - (lg_sl ([.ref a0, .long 1536])).length) Slot.unset).toArray = ls at hl ⊢
  replace hl : lv_has ls 3 [(0, .ref a0), (1, .long 1536)] := hl
  refine lv_aload_n hx hb dX5_addType_0 rfl (lv_at hl 0 rfl) ?_
  refine va_get (D := (dC, dI)) (ci := 5) (v := .int 13) (C := RX5) (T := TX5) (N := 15) hx hb hts iw_X5_addType_X5 hown hK hP 0 rfl rfl 4 (by decide) (hts _ m_X5_addType_1) (fun _ h9 => h9) rfl dX5_addType_1 ?_
  refine lv_aload_n hx hb dX5_addType_4 rfl (lv_at hl 0 rfl) ?_
  refine va_get (D := (dC, dI)) (ci := 5) (v := .ref a1) (C := RX5) (T := TX5) (N := 15) hx hb hts iw_X5_addType_X5 hown hK hP 0 rfl rfl 3 (by decide) (hts _ m_X5_addType_2) (fun _ h9 => h9) rfl dX5_addType_5 ?_
  refine va_alen (v := 2048) hx hb hK hP 1 2 rfl rfl rfl dX5_addType_8 ?_
  refine lv_icmp_ge (tgt := 29) hx hb dX5_addType_9 (by decide) (fun h => absurd h (by decide)) (fun _ => ?_)
  refine lv_aload_n hx hb dX5_addType_12 rfl (lv_at hl 0 rfl) ?_
  refine va_get (D := (dC, dI)) (ci := 5) (v := .ref a1) (C := RX5) (T := TX5) (N := 15) hx hb hts iw_X5_addType_X5 hown hK hP 0 rfl rfl 3 (by decide) (hts _ m_X5_addType_2) (fun _ h9 => h9) rfl dX5_addType_13 ?_
  refine lv_aload_n hx hb dX5_addType_16 rfl (lv_at hl 0 rfl) ?_
  refine lv_dup hx hb dX5_addType_17 rfl ?_
  refine va_get (D := (dC, dI)) (ci := 5) (v := .int 13) (C := RX5) (T := TX5) (N := 15) hx hb hts iw_X5_addType_X5 hown hK hP 0 rfl rfl 4 (by decide) (hts _ m_X5_addType_1) (fun _ h9 => h9) rfl dX5_addType_18 ?_
  refine lv_dup_x1 hx hb dX5_addType_21 rfl rfl ?_
  refine lv_iconst (v := 1) hx hb dX5_addType_22 (by decide) ?_
  refine lv_iadd hx hb dX5_addType_23 ?_
  refine lv_topi (fun z_1 ez_1 => ?_)
  obtain rfl : z_1 = 14 := ez_1.trans (by decide)
  clear ez_1
  refine va_put (D := (dC, dI)) (ci := 5) (v := .int 14) (ty := .int) (C := RX5) (T := TX5) (N := 15) hx hb hts iw_X5_addType_X5 tyX5 tyX5_ok nmX5 hown hK hP hD hS 0 rfl rfl 4 (by decide) (hts _ m_X5_addType_1) (fun _ h9 => h9) rfl (by decide +kernel) rfl rfl (Nat.le_of_ble_eq_true rfl) dX5_addType_24 (fun H_2 locs hP2 hD2 hS2 => ?_)
  replace hP : va_P (dC, dI) vwCl [(a0, .inr (5, [.ref cb, .int 81, .int 0, .ref a1, .int 14, .ref a2, .int 4, .ref a3, .int 1, .int 1, .ref a4, .int 6, .int 0, .int 1, .int 0])), (a1, .inl (cy 2, 2048, .inr (.inl f0)))] H_2 := hP2
  replace hD : va_D A [(a0, .inr (5, [.ref cb, .int 81, .int 0, .ref a1, .int 14, .ref a2, .int 4, .ref a3, .int 1, .int 1, .ref a4, .int 6, .int 0, .int 1, .int 0])), (a1, .inl (cy 2, 2048, .inr (.inl f0)))] := hD2
  replace hS := hS2
  clear hP2 hD2 hS2
  refine lv_lload_n hx hb dX5_addType_27 rfl (lv_at hl 1 rfl) ?_
  refine va_last hx hb hK hP hD hS 1 2 rfl rfl (by unfold vp_in; decide) dX5_addType_28 (fun H_4 locs hP2 hD2 hS2 => ?_)
  replace hP : va_P (dC, dI) vwCl [(a0, .inr (5, [.ref cb, .int 81, .int 0, .ref a1, .int 14, .ref a2, .int 4, .ref a3, .int 1, .int 1, .ref a4, .int 6, .int 0, .int 1, .int 0])), (a1, .inl (cy 2, 2048, .inr (.inl (vp_updL f0 13 1536))))] H_4 := hP2
  replace hD : va_D A [(a0, .inr (5, [.ref cb, .int 81, .int 0, .ref a1, .int 14, .ref a2, .int 4, .ref a3, .int 1, .int 1, .ref a4, .int 6, .int 0, .int 1, .int 0])), (a1, .inl (cy 2, 2048, .inr (.inl (vp_updL f0 13 1536))))] := hD2
  replace hS := hS2
  clear hP2 hD2 hS2
  obtain ⟨g_3, eg_3⟩ : ∃ z, vp_updL f0 13 1536 = z := ⟨_, rfl⟩
  rw [eg_3] at hP hD
  have kg_3_0 : g_3 0 = 3 := by rw [← eg_3, pk_uLn (by decide)]; exact f0_0
  exact W.vret hx hb hr (fun t ht hW => ⟨⟨(g_3), rfl, kg_3_0, by rw [ht]; exact hP, va_K.moved hW.alike hK, hD⟩, hS.F ht⟩) hS.2.2 dX5_addType_29

set_option maxHeartbeats 4000000 in
set_option maxRecDepth 100000 in
theorem cc_212_X6_readTypes (l : Launch) (dC : Nat → ClassId) (dI : Nat → Nat → Nat) (cy : Nat → ClassId) (sz : Nat) (cb : Nat) (a0 : Nat) (a1 : Nat) (a2 : Nat) (a3 : Nat) (a4 : Nat) (a5 : Nat) (a6 : Nat) (f0 : Nat → Int64) (f0_0 : f0 0 = 3) : Met l yX6_readTypes wsX6_readTypes ({ frames := 2, cells := 0, slots := 0, locals := 46 }) (va_Pc [.ref a0, .int 2, .int 1] (fun U => U.heap.size = sz ∧ va_P (dC, dI) vwCl [(a0, .inr (6, [.int 0, .int 0, .ref a1, .int 64, .int 0, .int 4, .int 2, .int 1, .ref a3])), (a1, .inr (5, [.ref cb, .int 81, .int 0, .ref a2, .int 12, .ref a4, .int 4, .ref a5, .int 1, .int 1, .ref a6, .int 6, .int 0, .int 1, .int 0])), (a2, .inl (cy 2, 2048, .inr (.inl f0)))] U.heap ∧ va_K (dC, dI) vwCl (TYS cy) U ∧ va_D (fun _ => True) [(a0, .inr (6, [.int 0, .int 0, .ref a1, .int 64, .int 0, .int 4, .int 2, .int 1, .ref a3])), (a1, .inr (5, [.ref cb, .int 81, .int 0, .ref a2, .int 12, .ref a4, .int 4, .ref a5, .int 1, .int 1, .ref a6, .int 6, .int 0, .int 1, .int 0])), (a2, .inl (cy 2, 2048, .inr (.inl f0)))] ∧ NK U ∧ SK cb (va_A [(a0, .inr (6, [.int 0, .int 0, .ref a1, .int 64, .int 0, .int 4, .int 2, .int 1, .ref a3])), (a1, .inr (5, [.ref cb, .int 81, .int 0, .ref a2, .int 12, .ref a4, .int 4, .ref a5, .int 1, .int 1, .ref a6, .int 6, .int 0, .int 1, .int 0])), (a2, .inl (cy 2, 2048, .inr (.inl f0)))] sz) U U.heap)) (va_Qv (fun u : (Nat → Int64) => match u with | (u0) => u0 0 = 3) (fun u t => match u with | (u0) => va_P (dC, dI) vwCl [(a0, .inr (6, [.int 0, .int 0, .ref a1, .int 68, .int 0, .int 4, .int 2, .int 1, .ref a3])), (a1, .inr (5, [.ref cb, .int 81, .int 0, .ref a2, .int 14, .ref a4, .int 4, .ref a5, .int 1, .int 1, .ref a6, .int 6, .int 0, .int 1, .int 0])), (a2, .inl (cy 2, 2048, .inr (.inl u0)))] t.heap ∧ va_K (dC, dI) vwCl (TYS cy) t ∧ va_D (va_A [(a0, .inr (6, [.int 0, .int 0, .ref a1, .int 64, .int 0, .int 4, .int 2, .int 1, .ref a3])), (a1, .inr (5, [.ref cb, .int 81, .int 0, .ref a2, .int 12, .ref a4, .int 4, .ref a5, .int 1, .int 1, .ref a6, .int 6, .int 0, .int 1, .int 0])), (a2, .inl (cy 2, 2048, .inr (.inl f0)))] sz) [(a0, .inr (6, [.int 0, .int 0, .ref a1, .int 68, .int 0, .int 4, .int 2, .int 1, .ref a3])), (a1, .inr (5, [.ref cb, .int 81, .int 0, .ref a2, .int 14, .ref a4, .int 4, .ref a5, .int 1, .int 1, .ref a6, .int 6, .int 0, .int 1, .int 0])), (a2, .inl (cy 2, 2048, .inr (.inl u0)))]) (va_A [(a0, .inr (6, [.int 0, .int 0, .ref a1, .int 64, .int 0, .int 4, .int 2, .int 1, .ref a3])), (a1, .inr (5, [.ref cb, .int 81, .int 0, .ref a2, .int 12, .ref a4, .int 4, .ref a5, .int 1, .int 1, .ref a6, .int 6, .int 0, .int 1, .int 0])), (a2, .inl (cy 2, 2048, .inr (.inl f0)))] sz)) 0 0 (va_A [(a0, .inr (6, [.int 0, .int 0, .ref a1, .int 64, .int 0, .int 4, .int 2, .int 1, .ref a3])), (a1, .inr (5, [.ref cb, .int 81, .int 0, .ref a2, .int 12, .ref a4, .int 4, .ref a5, .int 1, .int 1, .ref a6, .int 6, .int 0, .int 1, .int 0])), (a2, .inl (cy 2, 2048, .inr (.inl f0)))] sz) := by
  refine Met.ofW (cc := cX6_readTypes) (maxL := 4) (ret := none) (by decide) rfl ?_
  intro p e s m args below meth c s₁ B hml hv
  obtain ⟨rfl, hsz, hP, hK, hD0, hN, hSK⟩ := hv
  have hx := B.exec
  have hb := B.bytes
  have hr := B.returns
  have hts := atoms_spec (ws := wsX6_readTypes) B.pre
  have hown : s.vm.findClass RX6 = some m.cls := findClass_of_methodNamed B.named
  have hlocks := B.notSynchronized
  subst hsz
  have hD := hD0.self (sz := s.heap.size)
  generalize hAe : va_A [(a0, .inr (6, [.int 0, .int 0, .ref a1, .int 64, .int 0, .int 4, .int 2, .int 1, .ref a3])), (a1, .inr (5, [.ref cb, .int 81, .int 0, .ref a2, .int 12, .ref a4, .int 4, .ref a5, .int 1, .int 1, .ref a6, .int 6, .int 0, .int 1, .int 0])), (a2, .inl (cy 2, 2048, .inr (.inl f0)))] s.heap.size = A at hD hSK ⊢
  have hA : ∀ q : Nat, s.heap.size ≤ q → A q := fun q h => by rw [← hAe]; exact Or.inr h
  have hS : va_S A s.heap s.heap [] := va_S.rf
  have hP : va_P (dC, dI) vwCl [(a0, .inr (6, [.int 0, .int 0, .ref a1, .int 64, .int 0, .int 4, .int 2, .int 1, .ref a3])), (a1, .inr (5, [.ref cb, .int 81, .int 0, .ref a2, .int 12, .ref a4, .int 4, .ref a5, .int 1, .int 1, .ref a6, .int 6, .int 0, .int 1, .int 0])), (a2, .inl (cy 2, 2048, .inr (.inl f0)))] s.heap := hP
  have hl := lv_entry ([.ref a0, .int 2, .int 1]) (n := 4) (Nat.le_of_ble_eq_true rfl)
  rw [lg_entry_eq]
  generalize (lg_sl ([.ref a0, .int 2, .int 1]) ++ List.replicate (4 - (lg_sl ([.ref a0, .int 2, .int 1])).length) Slot.unset).toArray = ls at hl ⊢
  replace hl : lv_has ls 4 [(0, .ref a0), (1, .int 2), (2, .int 1)] := hl
  refine lv_iconst (v := 0) hx hb dX6_readTypes_0 (by decide) ?_
  refine lv_istore_n (lv' := [(3, .int 0), (0, .ref a0), (1, .int 2), (2, .int 1)]) hx hb dX6_readTypes_1 rfl hl (by decide) rfl (fun ls hl2 => ?_)
  replace hl := hl2
  clear hl2
  refine lv_iload_n hx hb dX6_readTypes_2 rfl (lv_at hl 0 rfl) ?_
  refine lv_iload_n hx hb dX6_readTypes_3 rfl (lv_at hl 2 rfl) ?_
  refine lv_icmp_ge (tgt := 32) hx hb dX6_readTypes_4 (by decide) (fun h => absurd h (by decide)) (fun _ => ?_)
  refine lv_aload_n hx hb dX6_readTypes_7 rfl (lv_at hl 1 rfl) ?_
  refine va_get (D := (dC, dI)) (ci := 6) (v := .int 0) (C := RX6) (T := TX6) (N := 9) hx hb hts iw_X6_readTypes_X6 hown hK hP 0 rfl rfl 1 (by decide) (hts _ m_X6_readTypes_1) (fun _ h9 => h9) rfl dX6_readTypes_8 ?_
  refine lv_if_ne (tgt := 32) hx hb dX6_readTypes_11 (by decide) (fun h => absurd (by decide) h) (fun _ => ?_)
  refine lv_aload_n hx hb dX6_readTypes_14 rfl (lv_at hl 1 rfl) ?_
  refine va_get (D := (dC, dI)) (ci := 6) (v := .ref a1) (C := RX6) (T := TX6) (N := 9) hx hb hts iw_X6_readTypes_X6 hown hK hP 0 rfl rfl 2 (by decide) (hts _ m_X6_readTypes_2) (fun _ h9 => h9) rfl dX6_readTypes_15 ?_
  refine lv_aload_n hx hb dX6_readTypes_18 rfl (lv_at hl 1 rfl) ?_
  refine lv_iload_n hx hb dX6_readTypes_19 rfl (lv_at hl 3 rfl) ?_
  have hPc := hP.sub (ws' := [(a0, .inr (6, [.int 0, .int 0, .ref a1, .int 64, .int 0, .int 4, .int 2, .int 1, .ref a3])), (a1, .inr (5, [.ref cb, .int 81, .int 0, .ref a2, .int 12, .ref a4, .int 4, .ref a5, .int 1, .int 1, .ref a6, .int 6, .int 0, .int 1, .int 0]))]) [0, 1] rfl
  have hDc := hD.sub (ws' := [(a0, .inr (6, [.int 0, .int 0, .ref a1, .int 64, .int 0, .int 4, .int 2, .int 1, .ref a3])), (a1, .inr (5, [.ref cb, .int 81, .int 0, .ref a2, .int 12, .ref a4, .int 4, .ref a5, .int 1, .int 1, .ref a6, .int 6, .int 0, .int 1, .int 0]))]) [0, 1] (by decide) rfl
  have hFc := va_free (wc := [(a0, .inr (6, [.int 0, .int 0, .ref a1, .int 64, .int 0, .int 4, .int 2, .int 1, .ref a3])), (a1, .inr (5, [.ref cb, .int 81, .int 0, .ref a2, .int 12, .ref a4, .int 4, .ref a5, .int 1, .int 1, .ref a6, .int 6, .int 0, .int 1, .int 0]))]) hD hS hA [0, 1] rfl
  refine va_calll (va_runV (As := [.int 1]) (rest := [.ref a1]) ⟨hx, hb, hml, hown, hts⟩ (cc_213_X6_readOneType l dC dI cy s.heap.size cb a0 a1 a3 a2 a4 a5 a6) (cwV 1 hts gX6_readTypes_X6_readOneType rfl rfl rfl (by decide +kernel) ⟨Nat.le_of_ble_eq_true rfl, Nat.le_of_ble_eq_true rfl⟩) ⟨fun a U g mk q => by obtain ⟨q0, q1, qP, qK, qD, qN, qS⟩ := q; exact ⟨q0, q1, qP, va_K.moved (u := U) (U := U.calling g mk a) (Vm.Alike.refl U.vm) qK, qD, qN.same rfl, SK.moved (u := U) (U := U.calling g mk a) (Vm.Alike.refl U.vm) qS⟩, va_recv hK hPc (ci := 6) (q0 := 0) rfl rfl, fun U hU hW => ⟨rfl, by rw [hU], by rw [hU]; exact hPc, va_K.moved hW.alike hK, hDc.weaken (fun _ _ _ _ => trivial), hN.warm hW, by rw [hU]; exact ((hSK.kept hS.2.1).narrow hFc).moved hW.alike⟩⟩ rfl rfl hl.1 rfl (lv_room (Nat.le_of_ble_eq_true rfl)) dX6_readTypes_20 ⟨Nat.le_of_ble_eq_true rfl, Nat.le_of_ble_eq_true rfl⟩) hS (fun q _ h => hFc q h) hFc (fun r_1 u t H_2 locs ht hvm hw hB hz1 hk1 hS2 => ?_)
  obtain ⟨hP1, hK1, hD1⟩ := hB
  rw [ht] at hP1
  obtain rfl := hw
  obtain ⟨hP2, hD2⟩ := va_join (wr := [(a2, .inl (cy 2, 2048, .inr (.inl f0)))]) (w1 := [(a0, .inr (6, [.int 0, .int 0, .ref a1, .int 66, .int 0, .int 4, .int 2, .int 1, .ref a3])), (a1, .inr (5, [.ref cb, .int 81, .int 0, .ref a2, .int 12, .ref a4, .int 4, .ref a5, .int 1, .int 1, .ref a6, .int 6, .int 0, .int 1, .int 0]))]) hP hD [0, 1] [2] rfl rfl (by decide) (by decide) hk1 hFc hP1 hD1
  replace hP : va_P (dC, dI) vwCl [(a2, .inl (cy 2, 2048, .inr (.inl f0))), (a0, .inr (6, [.int 0, .int 0, .ref a1, .int 66, .int 0, .int 4, .int 2, .int 1, .ref a3])), (a1, .inr (5, [.ref cb, .int 81, .int 0, .ref a2, .int 12, .ref a4, .int 4, .ref a5, .int 1, .int 1, .ref a6, .int 6, .int 0, .int 1, .int 0]))] H_2 := hP2
  replace hD : va_D A [(a2, .inl (cy 2, 2048, .inr (.inl f0))), (a0, .inr (6, [.int 0, .int 0, .ref a1, .int 66, .int 0, .int 4, .int 2, .int 1, .ref a3])), (a1, .inr (5, [.ref cb, .int 81, .int 0, .ref a2, .int 12, .ref a4, .int 4, .ref a5, .int 1, .int 1, .ref a6, .int 6, .int 0, .int 1, .int 0]))] := hD2
  replace hS := hS2
  clear hP2 hD2 hS2
  clear hPc hDc hFc hP1 hD1 hK1 hk1 hz1 hvm ht
  refine W.widen (k := 0) (n := 0) (Nat.le_of_ble_eq_true rfl) (Nat.le_of_ble_eq_true rfl) ?_
  have hPc := hP.sub (ws' := [(a1, .inr (5, [.ref cb, .int 81, .int 0, .ref a2, .int 12, .ref a4, .int 4, .ref a5, .int 1, .int 1, .ref a6, .int 6, .int 0, .int 1, .int 0])), (a2, .inl (cy 2, 2048, .inr (.inl f0)))]) [2, 0] rfl
  have hDc := hD.sub (ws' := [(a1, .inr (5, [.ref cb, .int 81, .int 0, .ref a2, .int 12, .ref a4, .int 4, .ref a5, .int 1, .int 1, .ref a6, .int 6, .int 0, .int 1, .int 0])), (a2, .inl (cy 2, 2048, .inr (.inl f0)))]) [2, 0] (by decide) rfl
  have hFc := va_free (wc := [(a1, .inr (5, [.ref cb, .int 81, .int 0, .ref a2, .int 12, .ref a4, .int 4, .ref a5, .int 1, .int 1, .ref a6, .int 6, .int 0, .int 1, .int 0])), (a2, .inl (cy 2, 2048, .inr (.inl f0)))]) hD hS hA [2, 0] rfl
  refine va_callv (va_runV (As := [.long 1536]) (rest := []) ⟨hx, hb, hml, hown, hts⟩ (cc_216_X5_addType l dC dI cy H_2.size cb a1 a2 a4 a5 a6 f0 f0_0) (cwV 1 hts gX6_readTypes_X5_addType rfl rfl rfl (by decide +kernel) ⟨Nat.le_of_ble_eq_true rfl, Nat.le_of_ble_eq_true rfl⟩) ⟨fun a U g mk q => by obtain ⟨q0, q1, qP, qK, qD, qN, qS⟩ := q; exact ⟨q0, q1, qP, va_K.moved (u := U) (U := U.calling g mk a) (Vm.Alike.refl U.vm) qK, qD, qN.same rfl, SK.moved (u := U) (U := U.calling g mk a) (Vm.Alike.refl U.vm) qS⟩, va_recv hK hPc (ci := 5) (q0 := 0) rfl rfl, fun U hU hW => ⟨rfl, by rw [hU], by rw [hU]; exact hPc, va_K.moved hW.alike hK, hDc.weaken (fun _ _ _ _ => trivial), hN.warm hW, by rw [hU]; exact ((hSK.kept hS.2.1).narrow hFc).moved hW.alike⟩⟩ rfl rfl hl.1 rfl (lv_room (Nat.le_of_ble_eq_true rfl)) dX6_readTypes_23 ⟨Nat.le_of_ble_eq_true rfl, Nat.le_of_ble_eq_true rfl⟩) hS (fun q _ h => hFc q h) hFc (fun u t H_3 locs ht hvm hw hB hz1 hk1 hS2 => ?_)
  obtain ⟨g_4, rfl⟩ : ∃ z, z = u := ⟨_, rfl⟩
  obtain ⟨hP1, hK1, hD1⟩ := hB
  rw [ht] at hP1
  have kp_5 := hw
  obtain ⟨hP2, hD2⟩ := va_join (wr := [(a0, .inr (6, [.int 0, .int 0, .ref a1, .int 66, .int 0, .int 4, .int 2, .int 1, .ref a3]))]) (w1 := [(a1, .inr (5, [.ref cb, .int 81, .int 0, .ref a2, .int 13, .ref a4, .int 4, .ref a5, .int 1, .int 1, .ref a6, .int 6, .int 0, .int 1, .int 0])), (a2, .inl (cy 2, 2048, .inr (.inl g_4)))]) hP hD [2, 0] [1] rfl rfl (by decide) (by decide) hk1 hFc hP1 hD1
  replace hP : va_P (dC, dI) vwCl [(a0, .inr (6, [.int 0, .int 0, .ref a1, .int 66, .int 0, .int 4, .int 2, .int 1, .ref a3])), (a1, .inr (5, [.ref cb, .int 81, .int 0, .ref a2, .int 13, .ref a4, .int 4, .ref a5, .int 1, .int 1, .ref a6, .int 6, .int 0, .int 1, .int 0])), (a2, .inl (cy 2, 2048, .inr (.inl g_4)))] H_3 := hP2
  replace hD : va_D A [(a0, .inr (6, [.int 0, .int 0, .ref a1, .int 66, .int 0, .int 4, .int 2, .int 1, .ref a3])), (a1, .inr (5, [.ref cb, .int 81, .int 0, .ref a2, .int 13, .ref a4, .int 4, .ref a5, .int 1, .int 1, .ref a6, .int 6, .int 0, .int 1, .int 0])), (a2, .inl (cy 2, 2048, .inr (.inl g_4)))] := hD2
  replace hS := hS2
  clear hP2 hD2 hS2
  clear hPc hDc hFc hP1 hD1 hK1 hk1 hz1 hvm ht
  refine W.widen (k := 0) (n := 0) (Nat.le_of_ble_eq_true rfl) (Nat.le_of_ble_eq_true rfl) ?_
  refine lv_iinc (v := 1) (lv' := [(3, .int 1), (0, .ref a0), (1, .int 2), (2, .int 1)]) hx hb dX6_readTypes_26 hl (k := 0) rfl (by decide) (by decide) rfl (fun ls hl2 => ?_)
  replace hl := hl2
  clear hl2
  refine lv_goto (tgt := 2) hx hb dX6_readTypes_29 (by decide) ?_
  refine lv_iload_n hx hb dX6_readTypes_2 rfl (lv_at hl 0 rfl) ?_
  refine lv_iload_n hx hb dX6_readTypes_3 rfl (lv_at hl 2 rfl) ?_
  refine lv_icmp_ge (tgt := 32) hx hb dX6_readTypes_4 (by decide) (fun h => absurd h (by decide)) (fun _ => ?_)
  refine lv_aload_n hx hb dX6_readTypes_7 rfl (lv_at hl 1 rfl) ?_
  refine va_get (D := (dC, dI)) (ci := 6) (v := .int 0) (C := RX6) (T := TX6) (N := 9) hx hb hts iw_X6_readTypes_X6 hown hK hP 0 rfl rfl 1 (by decide) (hts _ m_X6_readTypes_1) (fun _ h9 => h9) rfl dX6_readTypes_8 ?_
  refine lv_if_ne (tgt := 32) hx hb dX6_readTypes_11 (by decide) (fun h => absurd (by decide) h) (fun _ => ?_)
  refine lv_aload_n hx hb dX6_readTypes_14 rfl (lv_at hl 1 rfl) ?_
  refine va_get (D := (dC, dI)) (ci := 6) (v := .ref a1) (C := RX6) (T := TX6) (N := 9) hx hb hts iw_X6_readTypes_X6 hown hK hP 0 rfl rfl 2 (by decide) (hts _ m_X6_readTypes_2) (fun _ h9 => h9) rfl dX6_readTypes_15 ?_
  refine lv_aload_n hx hb dX6_readTypes_18 rfl (lv_at hl 1 rfl) ?_
  refine lv_iload_n hx hb dX6_readTypes_19 rfl (lv_at hl 3 rfl) ?_
  have hPc := hP.sub (ws' := [(a0, .inr (6, [.int 0, .int 0, .ref a1, .int 66, .int 0, .int 4, .int 2, .int 1, .ref a3])), (a1, .inr (5, [.ref cb, .int 81, .int 0, .ref a2, .int 13, .ref a4, .int 4, .ref a5, .int 1, .int 1, .ref a6, .int 6, .int 0, .int 1, .int 0]))]) [0, 1] rfl
  have hDc := hD.sub (ws' := [(a0, .inr (6, [.int 0, .int 0, .ref a1, .int 66, .int 0, .int 4, .int 2, .int 1, .ref a3])), (a1, .inr (5, [.ref cb, .int 81, .int 0, .ref a2, .int 13, .ref a4, .int 4, .ref a5, .int 1, .int 1, .ref a6, .int 6, .int 0, .int 1, .int 0]))]) [0, 1] (by decide) rfl
  have hFc := va_free (wc := [(a0, .inr (6, [.int 0, .int 0, .ref a1, .int 66, .int 0, .int 4, .int 2, .int 1, .ref a3])), (a1, .inr (5, [.ref cb, .int 81, .int 0, .ref a2, .int 13, .ref a4, .int 4, .ref a5, .int 1, .int 1, .ref a6, .int 6, .int 0, .int 1, .int 0]))]) hD hS hA [0, 1] rfl
  refine va_calll (va_runV (As := [.int 1]) (rest := [.ref a1]) ⟨hx, hb, hml, hown, hts⟩ (cc_217_X6_readOneType l dC dI cy H_3.size cb a0 a1 a3 a2 a4 a5 a6) (cwV 1 hts gX6_readTypes_X6_readOneType rfl rfl rfl (by decide +kernel) ⟨Nat.le_of_ble_eq_true rfl, Nat.le_of_ble_eq_true rfl⟩) ⟨fun a U g mk q => by obtain ⟨q0, q1, qP, qK, qD, qN, qS⟩ := q; exact ⟨q0, q1, qP, va_K.moved (u := U) (U := U.calling g mk a) (Vm.Alike.refl U.vm) qK, qD, qN.same rfl, SK.moved (u := U) (U := U.calling g mk a) (Vm.Alike.refl U.vm) qS⟩, va_recv hK hPc (ci := 6) (q0 := 0) rfl rfl, fun U hU hW => ⟨rfl, by rw [hU], by rw [hU]; exact hPc, va_K.moved hW.alike hK, hDc.weaken (fun _ _ _ _ => trivial), hN.warm hW, by rw [hU]; exact ((hSK.kept hS.2.1).narrow hFc).moved hW.alike⟩⟩ rfl rfl hl.1 rfl (lv_room (Nat.le_of_ble_eq_true rfl)) dX6_readTypes_20 ⟨Nat.le_of_ble_eq_true rfl, Nat.le_of_ble_eq_true rfl⟩) hS (fun q _ h => hFc q h) hFc (fun r_6 u t H_7 locs ht hvm hw hB hz1 hk1 hS2 => ?_)
  obtain ⟨hP1, hK1, hD1⟩ := hB
  rw [ht] at hP1
  obtain rfl := hw
  obtain ⟨hP2, hD2⟩ := va_join (wr := [(a2, .inl (cy 2, 2048, .inr (.inl g_4)))]) (w1 := [(a0, .inr (6, [.int 0, .int 0, .ref a1, .int 68, .int 0, .int 4, .int 2, .int 1, .ref a3])), (a1, .inr (5, [.ref cb, .int 81, .int 0, .ref a2, .int 13, .ref a4, .int 4, .ref a5, .int 1, .int 1, .ref a6, .int 6, .int 0, .int 1, .int 0]))]) hP hD [0, 1] [2] rfl rfl (by decide) (by decide) hk1 hFc hP1 hD1
  replace hP : va_P (dC, dI) vwCl [(a2, .inl (cy 2, 2048, .inr (.inl g_4))), (a0, .inr (6, [.int 0, .int 0, .ref a1, .int 68, .int 0, .int 4, .int 2, .int 1, .ref a3])), (a1, .inr (5, [.ref cb, .int 81, .int 0, .ref a2, .int 13, .ref a4, .int 4, .ref a5, .int 1, .int 1, .ref a6, .int 6, .int 0, .int 1, .int 0]))] H_7 := hP2
  replace hD : va_D A [(a2, .inl (cy 2, 2048, .inr (.inl g_4))), (a0, .inr (6, [.int 0, .int 0, .ref a1, .int 68, .int 0, .int 4, .int 2, .int 1, .ref a3])), (a1, .inr (5, [.ref cb, .int 81, .int 0, .ref a2, .int 13, .ref a4, .int 4, .ref a5, .int 1, .int 1, .ref a6, .int 6, .int 0, .int 1, .int 0]))] := hD2
  replace hS := hS2
  clear hP2 hD2 hS2
  clear hPc hDc hFc hP1 hD1 hK1 hk1 hz1 hvm ht
  refine W.widen (k := 0) (n := 0) (Nat.le_of_ble_eq_true rfl) (Nat.le_of_ble_eq_true rfl) ?_
  have hPc := hP.sub (ws' := [(a1, .inr (5, [.ref cb, .int 81, .int 0, .ref a2, .int 13, .ref a4, .int 4, .ref a5, .int 1, .int 1, .ref a6, .int 6, .int 0, .int 1, .int 0])), (a2, .inl (cy 2, 2048, .inr (.inl g_4)))]) [2, 0] rfl
  have hDc := hD.sub (ws' := [(a1, .inr (5, [.ref cb, .int 81, .int 0, .ref a2, .int 13, .ref a4, .int 4, .ref a5, .int 1, .int 1, .ref a6, .int 6, .int 0, .int 1, .int 0])), (a2, .inl (cy 2, 2048, .inr (.inl g_4)))]) [2, 0] (by decide) rfl
  have hFc := va_free (wc := [(a1, .inr (5, [.ref cb, .int 81, .int 0, .ref a2, .int 13, .ref a4, .int 4, .ref a5, .int 1, .int 1, .ref a6, .int 6, .int 0, .int 1, .int 0])), (a2, .inl (cy 2, 2048, .inr (.inl g_4)))]) hD hS hA [2, 0] rfl
  refine va_callv (va_runV (As := [.long 1536]) (rest := []) ⟨hx, hb, hml, hown, hts⟩ (cc_220_X5_addType l dC dI cy H_7.size cb a1 a2 a4 a5 a6 g_4 kp_5) (cwV 1 hts gX6_readTypes_X5_addType rfl rfl rfl (by decide +kernel) ⟨Nat.le_of_ble_eq_true rfl, Nat.le_of_ble_eq_true rfl⟩) ⟨fun a U g mk q => by obtain ⟨q0, q1, qP, qK, qD, qN, qS⟩ := q; exact ⟨q0, q1, qP, va_K.moved (u := U) (U := U.calling g mk a) (Vm.Alike.refl U.vm) qK, qD, qN.same rfl, SK.moved (u := U) (U := U.calling g mk a) (Vm.Alike.refl U.vm) qS⟩, va_recv hK hPc (ci := 5) (q0 := 0) rfl rfl, fun U hU hW => ⟨rfl, by rw [hU], by rw [hU]; exact hPc, va_K.moved hW.alike hK, hDc.weaken (fun _ _ _ _ => trivial), hN.warm hW, by rw [hU]; exact ((hSK.kept hS.2.1).narrow hFc).moved hW.alike⟩⟩ rfl rfl hl.1 rfl (lv_room (Nat.le_of_ble_eq_true rfl)) dX6_readTypes_23 ⟨Nat.le_of_ble_eq_true rfl, Nat.le_of_ble_eq_true rfl⟩) hS (fun q _ h => hFc q h) hFc (fun u t H_8 locs ht hvm hw hB hz1 hk1 hS2 => ?_)
  obtain ⟨g_9, rfl⟩ : ∃ z, z = u := ⟨_, rfl⟩
  obtain ⟨hP1, hK1, hD1⟩ := hB
  rw [ht] at hP1
  have kp_10 := hw
  obtain ⟨hP2, hD2⟩ := va_join (wr := [(a0, .inr (6, [.int 0, .int 0, .ref a1, .int 68, .int 0, .int 4, .int 2, .int 1, .ref a3]))]) (w1 := [(a1, .inr (5, [.ref cb, .int 81, .int 0, .ref a2, .int 14, .ref a4, .int 4, .ref a5, .int 1, .int 1, .ref a6, .int 6, .int 0, .int 1, .int 0])), (a2, .inl (cy 2, 2048, .inr (.inl g_9)))]) hP hD [2, 0] [1] rfl rfl (by decide) (by decide) hk1 hFc hP1 hD1
  replace hP : va_P (dC, dI) vwCl [(a0, .inr (6, [.int 0, .int 0, .ref a1, .int 68, .int 0, .int 4, .int 2, .int 1, .ref a3])), (a1, .inr (5, [.ref cb, .int 81, .int 0, .ref a2, .int 14, .ref a4, .int 4, .ref a5, .int 1, .int 1, .ref a6, .int 6, .int 0, .int 1, .int 0])), (a2, .inl (cy 2, 2048, .inr (.inl g_9)))] H_8 := hP2
  replace hD : va_D A [(a0, .inr (6, [.int 0, .int 0, .ref a1, .int 68, .int 0, .int 4, .int 2, .int 1, .ref a3])), (a1, .inr (5, [.ref cb, .int 81, .int 0, .ref a2, .int 14, .ref a4, .int 4, .ref a5, .int 1, .int 1, .ref a6, .int 6, .int 0, .int 1, .int 0])), (a2, .inl (cy 2, 2048, .inr (.inl g_9)))] := hD2
  replace hS := hS2
  clear hP2 hD2 hS2
  clear hPc hDc hFc hP1 hD1 hK1 hk1 hz1 hvm ht
  refine W.widen (k := 0) (n := 0) (Nat.le_of_ble_eq_true rfl) (Nat.le_of_ble_eq_true rfl) ?_
  refine lv_iinc (v := 2) (lv' := [(3, .int 2), (0, .ref a0), (1, .int 2), (2, .int 1)]) hx hb dX6_readTypes_26 hl (k := 0) rfl (by decide) (by decide) rfl (fun ls hl2 => ?_)
  replace hl := hl2
  clear hl2
  refine lv_goto (tgt := 2) hx hb dX6_readTypes_29 (by decide) ?_
  refine lv_iload_n hx hb dX6_readTypes_2 rfl (lv_at hl 0 rfl) ?_
  refine lv_iload_n hx hb dX6_readTypes_3 rfl (lv_at hl 2 rfl) ?_
  refine lv_icmp_ge (tgt := 32) hx hb dX6_readTypes_4 (by decide) (fun _ => ?_) (fun h => absurd (by decide) h)
  exact W.vret hx hb hr (fun t ht hW => ⟨⟨(g_9), rfl, kp_10, by rw [ht]; exact hP, va_K.moved hW.alike hK, hD⟩, hS.F ht⟩) hS.2.2 dX6_readTypes_32

set_option maxHeartbeats 4000000 in
set_option maxRecDepth 100000 in
theorem cc_209_X6_readList (l : Launch) (dC : Nat → ClassId) (dI : Nat → Nat → Nat) (cy : Nat → ClassId) (sz : Nat) (cb : Nat) (a0 : Nat) (a1 : Nat) (a2 : Nat) (a3 : Nat) (a4 : Nat) (a5 : Nat) (a6 : Nat) (f0 : Nat → Int64) (f0_0 : f0 0 = 3) : Met l yX6_readList wsX6_readList ({ frames := 3, cells := 0, slots := 0, locals := 69 }) (va_Pc [.ref a0, .int 8] (fun U => U.heap.size = sz ∧ va_P (dC, dI) vwCl [(a0, .inr (6, [.int 0, .int 0, .ref a1, .int 63, .int 0, .int 4, .int 2, .int 1, .ref a3])), (a1, .inr (5, [.ref cb, .int 81, .int 0, .ref a2, .int 12, .ref a4, .int 4, .ref a5, .int 1, .int 1, .ref a6, .int 6, .int 0, .int 1, .int 0])), (a2, .inl (cy 2, 2048, .inr (.inl f0)))] U.heap ∧ va_K (dC, dI) vwCl (TYS cy) U ∧ va_D (fun _ => True) [(a0, .inr (6, [.int 0, .int 0, .ref a1, .int 63, .int 0, .int 4, .int 2, .int 1, .ref a3])), (a1, .inr (5, [.ref cb, .int 81, .int 0, .ref a2, .int 12, .ref a4, .int 4, .ref a5, .int 1, .int 1, .ref a6, .int 6, .int 0, .int 1, .int 0])), (a2, .inl (cy 2, 2048, .inr (.inl f0)))] ∧ NK U ∧ SK cb (va_A [(a0, .inr (6, [.int 0, .int 0, .ref a1, .int 63, .int 0, .int 4, .int 2, .int 1, .ref a3])), (a1, .inr (5, [.ref cb, .int 81, .int 0, .ref a2, .int 12, .ref a4, .int 4, .ref a5, .int 1, .int 1, .ref a6, .int 6, .int 0, .int 1, .int 0])), (a2, .inl (cy 2, 2048, .inr (.inl f0)))] sz) U U.heap)) (va_Qi (fun (r : Int32) (u : (Nat → Int64)) => match u with | (u0) => r = 2 ∧ u0 0 = 3) (fun u t => match u with | (u0) => va_P (dC, dI) vwCl [(a0, .inr (6, [.int 0, .int 0, .ref a1, .int 68, .int 0, .int 4, .int 2, .int 1, .ref a3])), (a1, .inr (5, [.ref cb, .int 81, .int 0, .ref a2, .int 14, .ref a4, .int 4, .ref a5, .int 1, .int 1, .ref a6, .int 6, .int 0, .int 1, .int 0])), (a2, .inl (cy 2, 2048, .inr (.inl u0)))] t.heap ∧ va_K (dC, dI) vwCl (TYS cy) t ∧ va_D (va_A [(a0, .inr (6, [.int 0, .int 0, .ref a1, .int 63, .int 0, .int 4, .int 2, .int 1, .ref a3])), (a1, .inr (5, [.ref cb, .int 81, .int 0, .ref a2, .int 12, .ref a4, .int 4, .ref a5, .int 1, .int 1, .ref a6, .int 6, .int 0, .int 1, .int 0])), (a2, .inl (cy 2, 2048, .inr (.inl f0)))] sz) [(a0, .inr (6, [.int 0, .int 0, .ref a1, .int 68, .int 0, .int 4, .int 2, .int 1, .ref a3])), (a1, .inr (5, [.ref cb, .int 81, .int 0, .ref a2, .int 14, .ref a4, .int 4, .ref a5, .int 1, .int 1, .ref a6, .int 6, .int 0, .int 1, .int 0])), (a2, .inl (cy 2, 2048, .inr (.inl u0)))]) (va_A [(a0, .inr (6, [.int 0, .int 0, .ref a1, .int 63, .int 0, .int 4, .int 2, .int 1, .ref a3])), (a1, .inr (5, [.ref cb, .int 81, .int 0, .ref a2, .int 12, .ref a4, .int 4, .ref a5, .int 1, .int 1, .ref a6, .int 6, .int 0, .int 1, .int 0])), (a2, .inl (cy 2, 2048, .inr (.inl f0)))] sz)) 0 0 (va_A [(a0, .inr (6, [.int 0, .int 0, .ref a1, .int 63, .int 0, .int 4, .int 2, .int 1, .ref a3])), (a1, .inr (5, [.ref cb, .int 81, .int 0, .ref a2, .int 12, .ref a4, .int 4, .ref a5, .int 1, .int 1, .ref a6, .int 6, .int 0, .int 1, .int 0])), (a2, .inl (cy 2, 2048, .inr (.inl f0)))] sz) := by
  refine Met.ofW (cc := cX6_readList) (maxL := 3) (ret := (some .int)) (by decide) rfl ?_
  intro p e s m args below meth c s₁ B hml hv
  obtain ⟨rfl, hsz, hP, hK, hD0, hN, hSK⟩ := hv
  have hx := B.exec
  have hb := B.bytes
  have hr := B.returns
  have hts := atoms_spec (ws := wsX6_readList) B.pre
  have hown : s.vm.findClass RX6 = some m.cls := findClass_of_methodNamed B.named
  have hlocks := B.notSynchronized
  subst hsz
  have hD := hD0.self (sz := s.heap.size)
  generalize hAe : va_A [(a0, .inr (6, [.int 0, .int 0, .ref a1, .int 63, .int 0, .int 4, .int 2, .int 1, .ref a3])), (a1, .inr (5, [.ref cb, .int 81, .int 0, .ref a2, .int 12, .ref a4, .int 4, .ref a5, .int 1, .int 1, .ref a6, .int 6, .int 0, .int 1, .int 0])), (a2, .inl (cy 2, 2048, .inr (.inl f0)))] s.heap.size = A at hD hSK ⊢
  have hA : ∀ q : Nat, s.heap.size ≤ q → A q := fun q h => by rw [← hAe]; exact Or.inr h
  have hS : va_S A s.heap s.heap [] := va_S.rf
  have hP : va_P (dC, dI) vwCl [(a0, .inr (6, [.int 0, .int 0, .ref a1, .int 63, .int 0, .int 4, .int 2, .int 1, .ref a3])), (a1, .inr (5, [.ref cb, .int 81, .int 0, .ref a2, .int 12, .ref a4, .int 4, .ref a5, .int 1, .int 1, .ref a6, .int 6, .int 0, .int 1, .int 0])), (a2, .inl (cy 2, 2048, .inr (.inl f0)))] s.heap := hP
  have hl := lv_entry ([.ref a0, .int 8]) (n := 3) (Nat.le_of_ble_eq_true rfl)
  rw [lg_entry_eq]
  generalize (lg_sl ([.ref a0, .int 8]) ++ List.replicate (3 - (lg_sl ([.ref a0, .int 8])).length) Slot.unset).toArray = ls at hl ⊢
  replace hl : lv_has ls 3 [(0, .ref a0), (1, .int 8)] := hl
  refine lv_aload_n hx hb dX6_readList_0 rfl (lv_at hl 0 rfl) ?_
  refine lv_iconst (v := 0) hx hb dX6_readList_1 (by decide) ?_
  refine lv_iload_n hx hb dX6_readList_2 rfl (lv_at hl 1 rfl) ?_
  have hPc := hP.sub (ws' := [(a0, .inr (6, [.int 0, .int 0, .ref a1, .int 63, .int 0, .int 4, .int 2, .int 1, .ref a3])), (a1, .inr (5, [.ref cb, .int 81, .int 0, .ref a2, .int 12, .ref a4, .int 4, .ref a5, .int 1, .int 1, .ref a6, .int 6, .int 0, .int 1, .int 0]))]) [0, 1] rfl
  have hDc := hD.sub (ws' := [(a0, .inr (6, [.int 0, .int 0, .ref a1, .int 63, .int 0, .int 4, .int 2, .int 1, .ref a3])), (a1, .inr (5, [.ref cb, .int 81, .int 0, .ref a2, .int 12, .ref a4, .int 4, .ref a5, .int 1, .int 1, .ref a6, .int 6, .int 0, .int 1, .int 0]))]) [0, 1] (by decide) rfl
  have hFc := va_free (wc := [(a0, .inr (6, [.int 0, .int 0, .ref a1, .int 63, .int 0, .int 4, .int 2, .int 1, .ref a3])), (a1, .inr (5, [.ref cb, .int 81, .int 0, .ref a2, .int 12, .ref a4, .int 4, .ref a5, .int 1, .int 1, .ref a6, .int 6, .int 0, .int 1, .int 0]))]) hD hS hA [0, 1] rfl
  refine va_calli (va_runV (As := [.int 0, .int 8]) (rest := []) ⟨hx, hb, hml, hown, hts⟩ (cc_210_X6_readNumber l dC dI cy s.heap.size cb a0 a1 a3 a2 a4 a5 a6) (cwV 2 hts gX6_readList_X6_readNumber rfl rfl rfl (by decide +kernel) ⟨Nat.le_of_ble_eq_true rfl, Nat.le_of_ble_eq_true rfl⟩) ⟨fun a U g mk q => by obtain ⟨q0, q1, qP, qK, qD, qN, qS⟩ := q; exact ⟨q0, q1, qP, va_K.moved (u := U) (U := U.calling g mk a) (Vm.Alike.refl U.vm) qK, qD, qN.same rfl, SK.moved (u := U) (U := U.calling g mk a) (Vm.Alike.refl U.vm) qS⟩, va_recv hK hPc (ci := 6) (q0 := 0) rfl rfl, fun U hU hW => ⟨rfl, by rw [hU], by rw [hU]; exact hPc, va_K.moved hW.alike hK, hDc.weaken (fun _ _ _ _ => trivial), hN.warm hW, by rw [hU]; exact ((hSK.kept hS.2.1).narrow hFc).moved hW.alike⟩⟩ rfl rfl hl.1 rfl (lv_room (Nat.le_of_ble_eq_true rfl)) dX6_readList_3 ⟨Nat.le_of_ble_eq_true rfl, Nat.le_of_ble_eq_true rfl⟩) hS (fun q _ h => hFc q h) hFc (fun r_1 u t H_2 locs ht hvm hw hB hz1 hk1 hS2 => ?_)
  obtain ⟨hP1, hK1, hD1⟩ := hB
  rw [ht] at hP1
  obtain rfl := hw
  obtain ⟨hP2, hD2⟩ := va_join (wr := [(a2, .inl (cy 2, 2048, .inr (.inl f0)))]) (w1 := [(a0, .inr (6, [.int 0, .int 0, .ref a1, .int 64, .int 0, .int 4, .int 2, .int 1, .ref a3])), (a1, .inr (5, [.ref cb, .int 81, .int 0, .ref a2, .int 12, .ref a4, .int 4, .ref a5, .int 1, .int 1, .ref a6, .int 6, .int 0, .int 1, .int 0]))]) hP hD [0, 1] [2] rfl rfl (by decide) (by decide) hk1 hFc hP1 hD1
  replace hP : va_P (dC, dI) vwCl [(a2, .inl (cy 2, 2048, .inr (.inl f0))), (a0, .inr (6, [.int 0, .int 0, .ref a1, .int 64, .int 0, .int 4, .int 2, .int 1, .ref a3])), (a1, .inr (5, [.ref cb, .int 81, .int 0, .ref a2, .int 12, .ref a4, .int 4, .ref a5, .int 1, .int 1, .ref a6, .int 6, .int 0, .int 1, .int 0]))] H_2 := hP2
  replace hD : va_D A [(a2, .inl (cy 2, 2048, .inr (.inl f0))), (a0, .inr (6, [.int 0, .int 0, .ref a1, .int 64, .int 0, .int 4, .int 2, .int 1, .ref a3])), (a1, .inr (5, [.ref cb, .int 81, .int 0, .ref a2, .int 12, .ref a4, .int 4, .ref a5, .int 1, .int 1, .ref a6, .int 6, .int 0, .int 1, .int 0]))] := hD2
  replace hS := hS2
  clear hP2 hD2 hS2
  clear hPc hDc hFc hP1 hD1 hK1 hk1 hz1 hvm ht
  refine W.widen (k := 0) (n := 0) (Nat.le_of_ble_eq_true rfl) (Nat.le_of_ble_eq_true rfl) ?_
  refine lv_istore_n (lv' := [(2, .int 2), (0, .ref a0), (1, .int 8)]) hx hb dX6_readList_6 rfl hl (by decide) rfl (fun ls hl2 => ?_)
  replace hl := hl2
  clear hl2
  refine lv_aload_n hx hb dX6_readList_7 rfl (lv_at hl 1 rfl) ?_
  refine lv_iload_n hx hb dX6_readList_8 rfl (lv_at hl 0 rfl) ?_
  refine lv_iconst (v := 1) hx hb dX6_readList_9 (by decide) ?_
  have hPc := hP.sub (ws' := [(a0, .inr (6, [.int 0, .int 0, .ref a1, .int 64, .int 0, .int 4, .int 2, .int 1, .ref a3])), (a1, .inr (5, [.ref cb, .int 81, .int 0, .ref a2, .int 12, .ref a4, .int 4, .ref a5, .int 1, .int 1, .ref a6, .int 6, .int 0, .int 1, .int 0])), (a2, .inl (cy 2, 2048, .inr (.inl f0)))]) [1, 2, 0] rfl
  have hDc := hD.sub (ws' := [(a0, .inr (6, [.int 0, .int 0, .ref a1, .int 64, .int 0, .int 4, .int 2, .int 1, .ref a3])), (a1, .inr (5, [.ref cb, .int 81, .int 0, .ref a2, .int 12, .ref a4, .int 4, .ref a5, .int 1, .int 1, .ref a6, .int 6, .int 0, .int 1, .int 0])), (a2, .inl (cy 2, 2048, .inr (.inl f0)))]) [1, 2, 0] (by decide) rfl
  have hFc := va_free (wc := [(a0, .inr (6, [.int 0, .int 0, .ref a1, .int 64, .int 0, .int 4, .int 2, .int 1, .ref a3])), (a1, .inr (5, [.ref cb, .int 81, .int 0, .ref a2, .int 12, .ref a4, .int 4, .ref a5, .int 1, .int 1, .ref a6, .int 6, .int 0, .int 1, .int 0])), (a2, .inl (cy 2, 2048, .inr (.inl f0)))]) hD hS hA [1, 2, 0] rfl
  refine va_callv (va_runV (As := [.int 2, .int 1]) (rest := []) ⟨hx, hb, hml, hown, hts⟩ (cc_212_X6_readTypes l dC dI cy H_2.size cb a0 a1 a2 a3 a4 a5 a6 f0 f0_0) (cwV 2 hts gX6_readList_X6_readTypes rfl rfl rfl (by decide +kernel) ⟨Nat.le_of_ble_eq_true rfl, Nat.le_of_ble_eq_true rfl⟩) ⟨fun a U g mk q => by obtain ⟨q0, q1, qP, qK, qD, qN, qS⟩ := q; exact ⟨q0, q1, qP, va_K.moved (u := U) (U := U.calling g mk a) (Vm.Alike.refl U.vm) qK, qD, qN.same rfl, SK.moved (u := U) (U := U.calling g mk a) (Vm.Alike.refl U.vm) qS⟩, va_recv hK hPc (ci := 6) (q0 := 0) rfl rfl, fun U hU hW => ⟨rfl, by rw [hU], by rw [hU]; exact hPc, va_K.moved hW.alike hK, hDc.weaken (fun _ _ _ _ => trivial), hN.warm hW, by rw [hU]; exact ((hSK.kept hS.2.1).narrow hFc).moved hW.alike⟩⟩ rfl rfl hl.1 rfl (lv_room (Nat.le_of_ble_eq_true rfl)) dX6_readList_10 ⟨Nat.le_of_ble_eq_true rfl, Nat.le_of_ble_eq_true rfl⟩) hS (fun q _ h => hFc q h) hFc (fun u t H_3 locs ht hvm hw hB hz1 hk1 hS2 => ?_)
  obtain ⟨g_4, rfl⟩ : ∃ z, z = u := ⟨_, rfl⟩
  obtain ⟨hP1, hK1, hD1⟩ := hB
  rw [ht] at hP1
  have kp_5 := hw
  obtain ⟨hP2, hD2⟩ := va_join (wr := []) (w1 := [(a0, .inr (6, [.int 0, .int 0, .ref a1, .int 68, .int 0, .int 4, .int 2, .int 1, .ref a3])), (a1, .inr (5, [.ref cb, .int 81, .int 0, .ref a2, .int 14, .ref a4, .int 4, .ref a5, .int 1, .int 1, .ref a6, .int 6, .int 0, .int 1, .int 0])), (a2, .inl (cy 2, 2048, .inr (.inl g_4)))]) hP hD [1, 2, 0] [] rfl rfl (by decide) (by decide) hk1 hFc hP1 hD1
  replace hP : va_P (dC, dI) vwCl [(a0, .inr (6, [.int 0, .int 0, .ref a1, .int 68, .int 0, .int 4, .int 2, .int 1, .ref a3])), (a1, .inr (5, [.ref cb, .int 81, .int 0, .ref a2, .int 14, .ref a4, .int 4, .ref a5, .int 1, .int 1, .ref a6, .int 6, .int 0, .int 1, .int 0])), (a2, .inl (cy 2, 2048, .inr (.inl g_4)))] H_3 := hP2
  replace hD : va_D A [(a0, .inr (6, [.int 0, .int 0, .ref a1, .int 68, .int 0, .int 4, .int 2, .int 1, .ref a3])), (a1, .inr (5, [.ref cb, .int 81, .int 0, .ref a2, .int 14, .ref a4, .int 4, .ref a5, .int 1, .int 1, .ref a6, .int 6, .int 0, .int 1, .int 0])), (a2, .inl (cy 2, 2048, .inr (.inl g_4)))] := hD2
  replace hS := hS2
  clear hP2 hD2 hS2
  clear hPc hDc hFc hP1 hD1 hK1 hk1 hz1 hvm ht
  refine W.widen (k := 0) (n := 0) (Nat.le_of_ble_eq_true rfl) (Nat.le_of_ble_eq_true rfl) ?_
  refine lv_iload_n hx hb dX6_readList_13 rfl (lv_at hl 0 rfl) ?_
  exact W.iret hx hb hr (fun t ht hW => ⟨⟨2, (g_4), rfl, ⟨rfl, kp_5⟩, by rw [ht]; exact hP, va_K.moved hW.alike hK, hD⟩, hS.F ht⟩) hS.2.2 dX6_readList_14

set_option maxHeartbeats 4000000 in
set_option maxRecDepth 100000 in
theorem cc_221_X5_setFunction (l : Launch) (dC : Nat → ClassId) (dI : Nat → Nat → Nat) (cy : Nat → ClassId) (sz : Nat) (cb : Nat) (a0 : Nat) (a1 : Nat) (a2 : Nat) (a3 : Nat) (a4 : Nat) (f0 : Nat → Int32)  : Met l yX5_setFunction wsX5_setFunction ({ frames := 0, cells := 0, slots := 0, locals := 0 }) (va_Pc [.ref a0, .int 4, .int 3, .int 2] (fun U => U.heap.size = sz ∧ va_P (dC, dI) vwCl [(a0, .inr (5, [.ref cb, .int 81, .int 0, .ref a2, .int 14, .ref a3, .int 4, .ref a4, .int 1, .int 1, .ref a1, .int 6, .int 0, .int 1, .int 0])), (a1, .inl (cy 1, 864, .inl f0))] U.heap ∧ va_K (dC, dI) vwCl (TYS cy) U ∧ va_D (fun _ => True) [(a0, .inr (5, [.ref cb, .int 81, .int 0, .ref a2, .int 14, .ref a3, .int 4, .ref a4, .int 1, .int 1, .ref a1, .int 6, .int 0, .int 1, .int 0])), (a1, .inl (cy 1, 864, .inl f0))] ∧ NK U ∧ SK cb (va_A [(a0, .inr (5, [.ref cb, .int 81, .int 0, .ref a2, .int 14, .ref a3, .int 4, .ref a4, .int 1, .int 1, .ref a1, .int 6, .int 0, .int 1, .int 0])), (a1, .inl (cy 1, 864, .inl f0))] sz) U U.heap)) (va_Qv (fun u : (Nat → Int32) => True) (fun u t => match u with | (u0) => va_P (dC, dI) vwCl [(a0, .inr (5, [.ref cb, .int 81, .int 0, .ref a2, .int 14, .ref a3, .int 4, .ref a4, .int 1, .int 1, .ref a1, .int 6, .int 0, .int 1, .int 0])), (a1, .inl (cy 1, 864, .inl u0))] t.heap ∧ va_K (dC, dI) vwCl (TYS cy) t ∧ va_D (va_A [(a0, .inr (5, [.ref cb, .int 81, .int 0, .ref a2, .int 14, .ref a3, .int 4, .ref a4, .int 1, .int 1, .ref a1, .int 6, .int 0, .int 1, .int 0])), (a1, .inl (cy 1, 864, .inl f0))] sz) [(a0, .inr (5, [.ref cb, .int 81, .int 0, .ref a2, .int 14, .ref a3, .int 4, .ref a4, .int 1, .int 1, .ref a1, .int 6, .int 0, .int 1, .int 0])), (a1, .inl (cy 1, 864, .inl u0))]) (va_A [(a0, .inr (5, [.ref cb, .int 81, .int 0, .ref a2, .int 14, .ref a3, .int 4, .ref a4, .int 1, .int 1, .ref a1, .int 6, .int 0, .int 1, .int 0])), (a1, .inl (cy 1, 864, .inl f0))] sz)) 0 0 (va_A [(a0, .inr (5, [.ref cb, .int 81, .int 0, .ref a2, .int 14, .ref a3, .int 4, .ref a4, .int 1, .int 1, .ref a1, .int 6, .int 0, .int 1, .int 0])), (a1, .inl (cy 1, 864, .inl f0))] sz) := by
  refine Met.ofW (cc := cX5_setFunction) (maxL := 4) (ret := none) (by decide) rfl ?_
  intro p e s m args below meth c s₁ B hml hv
  obtain ⟨rfl, hsz, hP, hK, hD0, hN, hSK⟩ := hv
  have hx := B.exec
  have hb := B.bytes
  have hr := B.returns
  have hts := atoms_spec (ws := wsX5_setFunction) B.pre
  have hown : s.vm.findClass RX5 = some m.cls := findClass_of_methodNamed B.named
  have hlocks := B.notSynchronized
  subst hsz
  have hD := hD0.self (sz := s.heap.size)
  generalize hAe : va_A [(a0, .inr (5, [.ref cb, .int 81, .int 0, .ref a2, .int 14, .ref a3, .int 4, .ref a4, .int 1, .int 1, .ref a1, .int 6, .int 0, .int 1, .int 0])), (a1, .inl (cy 1, 864, .inl f0))] s.heap.size = A at hD hSK ⊢
  have hA : ∀ q : Nat, s.heap.size ≤ q → A q := fun q h => by rw [← hAe]; exact Or.inr h
  have hS : va_S A s.heap s.heap [] := va_S.rf
  have hP : va_P (dC, dI) vwCl [(a0, .inr (5, [.ref cb, .int 81, .int 0, .ref a2, .int 14, .ref a3, .int 4, .ref a4, .int 1, .int 1, .ref a1, .int 6, .int 0, .int 1, .int 0])), (a1, .inl (cy 1, 864, .inl f0))] s.heap := hP
  have hl := lv_entry ([.ref a0, .int 4, .int 3, .int 2]) (n := 4) (Nat.le_of_ble_eq_true rfl)
  rw [lg_entry_eq]
  generalize (lg_sl ([.ref a0, .int 4, .int 3, .int 2]) ++ List.replicate (4 - (lg_sl ([.ref a0, .int 4, .int 3, .int 2])).length) Slot.unset).toArray = ls at hl ⊢
  replace hl : lv_has ls 4 [(0, .ref a0), (1, .int 4), (2, .int 3), (3, .int 2)] := hl
  refine lv_iload_n hx hb dX5_setFunction_0 rfl (lv_at hl 1 rfl) ?_
  refine lv_if_lt (tgt := 22) hx hb dX5_setFunction_1 (by decide) (fun h => absurd h (by decide)) (fun _ => ?_)
  refine lv_iload_n hx hb dX5_setFunction_4 rfl (lv_at hl 1 rfl) ?_
  refine lv_bipush (v := 96) hx hb dX5_setFunction_5 (by decide) ?_
  refine lv_icmp_ge (tgt := 22) hx hb dX5_setFunction_7 (by decide) (fun h => absurd h (by decide)) (fun _ => ?_)
  refine lv_aload_n hx hb dX5_setFunction_10 rfl (lv_at hl 0 rfl) ?_
  refine va_get (D := (dC, dI)) (ci := 5) (v := .ref a1) (C := RX5) (T := TX5) (N := 15) hx hb hts iw_X5_setFunction_X5 hown hK hP 0 rfl rfl 10 (by decide) (hts _ m_X5_setFunction_1) (fun _ h9 => h9) rfl dX5_setFunction_11 ?_
  refine lv_iload_n hx hb dX5_setFunction_14 rfl (lv_at hl 1 rfl) ?_
  refine lv_bipush (v := 9) hx hb dX5_setFunction_15 (by decide) ?_
  refine lv_imul hx hb dX5_setFunction_17 ?_
  refine lv_topi (fun z_1 ez_1 => ?_)
  obtain rfl : z_1 = 36 := ez_1.trans (by decide)
  clear ez_1
  refine lv_iload_n hx hb dX5_setFunction_18 rfl (lv_at hl 2 rfl) ?_
  refine lv_iadd hx hb dX5_setFunction_19 ?_
  refine lv_topi (fun z_2 ez_2 => ?_)
  obtain rfl : z_2 = 39 := ez_2.trans (by decide)
  clear ez_2
  refine lv_iload_n hx hb dX5_setFunction_20 rfl (lv_at hl 3 rfl) ?_
  refine va_iast hx hb hK hP hD hS 1 1 rfl rfl (by unfold vp_in; decide) dX5_setFunction_21 (fun H_4 locs hP2 hD2 hS2 => ?_)
  replace hP : va_P (dC, dI) vwCl [(a0, .inr (5, [.ref cb, .int 81, .int 0, .ref a2, .int 14, .ref a3, .int 4, .ref a4, .int 1, .int 1, .ref a1, .int 6, .int 0, .int 1, .int 0])), (a1, .inl (cy 1, 864, .inl (upd f0 39 2)))] H_4 := hP2
  replace hD : va_D A [(a0, .inr (5, [.ref cb, .int 81, .int 0, .ref a2, .int 14, .ref a3, .int 4, .ref a4, .int 1, .int 1, .ref a1, .int 6, .int 0, .int 1, .int 0])), (a1, .inl (cy 1, 864, .inl (upd f0 39 2)))] := hD2
  replace hS := hS2
  clear hP2 hD2 hS2
  obtain ⟨g_3, eg_3⟩ : ∃ z, upd f0 39 2 = z := ⟨_, rfl⟩
  rw [eg_3] at hP hD
  exact W.vret hx hb hr (fun t ht hW => ⟨⟨(g_3), rfl, trivial, by rw [ht]; exact hP, va_K.moved hW.alike hK, hD⟩, hS.F ht⟩) hS.2.2 dX5_setFunction_22

set_option maxHeartbeats 4000000 in
set_option maxRecDepth 100000 in
theorem cc_224_X6_readByte (l : Launch) (dC : Nat → ClassId) (dI : Nat → Nat → Nat) (cy : Nat → ClassId) (sz : Nat) (cb : Nat) (a0 : Nat) (a1 : Nat) (a2 : Nat) (a3 : Nat) (a4 : Nat) (a5 : Nat) (a6 : Nat)  : Met l yX6_readByte wsX6_readByte ({ frames := 0, cells := 0, slots := 0, locals := 0 }) (va_Pc [.ref a0] (fun U => U.heap.size = sz ∧ va_P (dC, dI) vwCl [(a0, .inr (6, [.int 0, .int 0, .ref a1, .int 68, .int 0, .int 4, .int 2, .int 1, .ref a2])), (a1, .inr (5, [.ref cb, .int 81, .int 0, .ref a3, .int 14, .ref a4, .int 4, .ref a5, .int 1, .int 1, .ref a6, .int 6, .int 0, .int 1, .int 0]))] U.heap ∧ va_K (dC, dI) vwCl (TYS cy) U ∧ va_D (fun _ => True) [(a0, .inr (6, [.int 0, .int 0, .ref a1, .int 68, .int 0, .int 4, .int 2, .int 1, .ref a2])), (a1, .inr (5, [.ref cb, .int 81, .int 0, .ref a3, .int 14, .ref a4, .int 4, .ref a5, .int 1, .int 1, .ref a6, .int 6, .int 0, .int 1, .int 0]))] ∧ NK U ∧ SK cb (va_A [(a0, .inr (6, [.int 0, .int 0, .ref a1, .int 68, .int 0, .int 4, .int 2, .int 1, .ref a2])), (a1, .inr (5, [.ref cb, .int 81, .int 0, .ref a3, .int 14, .ref a4, .int 4, .ref a5, .int 1, .int 1, .ref a6, .int 6, .int 0, .int 1, .int 0]))] sz) U U.heap)) (va_Qi (fun (r : Int32) (u : Unit) => r = 0) (fun u t => va_P (dC, dI) vwCl [(a0, .inr (6, [.int 0, .int 0, .ref a1, .int 69, .int 0, .int 4, .int 2, .int 1, .ref a2])), (a1, .inr (5, [.ref cb, .int 81, .int 0, .ref a3, .int 14, .ref a4, .int 4, .ref a5, .int 1, .int 1, .ref a6, .int 6, .int 0, .int 1, .int 0]))] t.heap ∧ va_K (dC, dI) vwCl (TYS cy) t ∧ va_D (va_A [(a0, .inr (6, [.int 0, .int 0, .ref a1, .int 68, .int 0, .int 4, .int 2, .int 1, .ref a2])), (a1, .inr (5, [.ref cb, .int 81, .int 0, .ref a3, .int 14, .ref a4, .int 4, .ref a5, .int 1, .int 1, .ref a6, .int 6, .int 0, .int 1, .int 0]))] sz) [(a0, .inr (6, [.int 0, .int 0, .ref a1, .int 69, .int 0, .int 4, .int 2, .int 1, .ref a2])), (a1, .inr (5, [.ref cb, .int 81, .int 0, .ref a3, .int 14, .ref a4, .int 4, .ref a5, .int 1, .int 1, .ref a6, .int 6, .int 0, .int 1, .int 0]))]) (va_A [(a0, .inr (6, [.int 0, .int 0, .ref a1, .int 68, .int 0, .int 4, .int 2, .int 1, .ref a2])), (a1, .inr (5, [.ref cb, .int 81, .int 0, .ref a3, .int 14, .ref a4, .int 4, .ref a5, .int 1, .int 1, .ref a6, .int 6, .int 0, .int 1, .int 0]))] sz)) 0 0 (va_A [(a0, .inr (6, [.int 0, .int 0, .ref a1, .int 68, .int 0, .int 4, .int 2, .int 1, .ref a2])), (a1, .inr (5, [.ref cb, .int 81, .int 0, .ref a3, .int 14, .ref a4, .int 4, .ref a5, .int 1, .int 1, .ref a6, .int 6, .int 0, .int 1, .int 0]))] sz) := by
  refine Met.ofW (cc := cX6_readByte) (maxL := 1) (ret := (some .int)) (by decide) rfl ?_
  intro p e s m args below meth c s₁ B hml hv
  obtain ⟨rfl, hsz, hP, hK, hD0, hN, hSK⟩ := hv
  have hx := B.exec
  have hb := B.bytes
  have hr := B.returns
  have hts := atoms_spec (ws := wsX6_readByte) B.pre
  have hown : s.vm.findClass RX6 = some m.cls := findClass_of_methodNamed B.named
  have hlocks := B.notSynchronized
  subst hsz
  have hD := hD0.self (sz := s.heap.size)
  generalize hAe : va_A [(a0, .inr (6, [.int 0, .int 0, .ref a1, .int 68, .int 0, .int 4, .int 2, .int 1, .ref a2])), (a1, .inr (5, [.ref cb, .int 81, .int 0, .ref a3, .int 14, .ref a4, .int 4, .ref a5, .int 1, .int 1, .ref a6, .int 6, .int 0, .int 1, .int 0]))] s.heap.size = A at hD hSK ⊢
  have hA : ∀ q : Nat, s.heap.size ≤ q → A q := fun q h => by rw [← hAe]; exact Or.inr h
  have hS : va_S A s.heap s.heap [] := va_S.rf
  have hP : va_P (dC, dI) vwCl [(a0, .inr (6, [.int 0, .int 0, .ref a1, .int 68, .int 0, .int 4, .int 2, .int 1, .ref a2])), (a1, .inr (5, [.ref cb, .int 81, .int 0, .ref a3, .int 14, .ref a4, .int 4, .ref a5, .int 1, .int 1, .ref a6, .int 6, .int 0, .int 1, .int 0]))] s.heap := hP
  have hl := lv_entry ([.ref a0]) (n := 1) (Nat.le_of_ble_eq_true rfl)
  rw [lg_entry_eq]
  generalize (lg_sl ([.ref a0]) ++ List.replicate (1 - (lg_sl ([.ref a0])).length) Slot.unset).toArray = ls at hl ⊢
  replace hl : lv_has ls 1 [(0, .ref a0)] := hl
  refine lv_aload_n hx hb dX6_readByte_0 rfl (lv_at hl 0 rfl) ?_
  refine va_get (D := (dC, dI)) (ci := 6) (v := .int 0) (C := RX6) (T := TX6) (N := 9) hx hb hts iw_X6_readByte_X6 hown hK hP 0 rfl rfl 1 (by decide) (hts _ m_X6_readByte_1) (fun _ h9 => h9) rfl dX6_readByte_1 ?_
  refine lv_if_eq (tgt := 9) hx hb dX6_readByte_4 (by decide) (fun _ => ?_) (fun h => absurd (by decide) h)
  refine lv_aload_n hx hb dX6_readByte_9 rfl (lv_at hl 0 rfl) ?_
  refine va_get (D := (dC, dI)) (ci := 6) (v := .int 68) (C := RX6) (T := TX6) (N := 9) hx hb hts iw_X6_readByte_X6 hown hK hP 0 rfl rfl 3 (by decide) (hts _ m_X6_readByte_2) (fun _ h9 => h9) rfl dX6_readByte_10 ?_
  refine lv_aload_n hx hb dX6_readByte_13 rfl (lv_at hl 0 rfl) ?_
  refine va_get (D := (dC, dI)) (ci := 6) (v := .ref a1) (C := RX6) (T := TX6) (N := 9) hx hb hts iw_X6_readByte_X6 hown hK hP 0 rfl rfl 2 (by decide) (hts _ m_X6_readByte_3) (fun _ h9 => h9) rfl dX6_readByte_14 ?_
  refine va_get (D := (dC, dI)) (ci := 5) (v := .int 81) (C := RX5) (T := TX5) (N := 15) hx hb hts iw_X6_readByte_X5 hown hK hP 1 rfl rfl 1 (by decide) (hts _ m_X6_readByte_4) (fun _ h9 => h9) rfl dX6_readByte_17 ?_
  refine lv_icmp_lt (tgt := 41) hx hb dX6_readByte_20 (by decide) (fun _ => ?_) (fun h => absurd (by decide) h)
  refine lv_aload_n hx hb dX6_readByte_41 rfl (lv_at hl 0 rfl) ?_
  refine va_get (D := (dC, dI)) (ci := 6) (v := .ref a1) (C := RX6) (T := TX6) (N := 9) hx hb hts iw_X6_readByte_X6 hown hK hP 0 rfl rfl 2 (by decide) (hts _ m_X6_readByte_3) (fun _ h9 => h9) rfl dX6_readByte_42 ?_
  refine va_get (D := (dC, dI)) (ci := 5) (v := .ref cb) (C := RX5) (T := TX5) (N := 15) hx hb hts iw_X6_readByte_X5 hown hK hP 1 rfl rfl 0 (by decide) (hts _ m_X6_readByte_6) (fun _ h9 => h9) rfl dX6_readByte_45 ?_
  refine lv_aload_n hx hb dX6_readByte_48 rfl (lv_at hl 0 rfl) ?_
  refine lv_dup hx hb dX6_readByte_49 rfl ?_
  refine va_get (D := (dC, dI)) (ci := 6) (v := .int 68) (C := RX6) (T := TX6) (N := 9) hx hb hts iw_X6_readByte_X6 hown hK hP 0 rfl rfl 3 (by decide) (hts _ m_X6_readByte_2) (fun _ h9 => h9) rfl dX6_readByte_50 ?_
  refine lv_dup_x1 hx hb dX6_readByte_53 rfl rfl ?_
  refine lv_iconst (v := 1) hx hb dX6_readByte_54 (by decide) ?_
  refine lv_iadd hx hb dX6_readByte_55 ?_
  refine lv_topi (fun z_1 ez_1 => ?_)
  obtain rfl : z_1 = 69 := ez_1.trans (by decide)
  clear ez_1
  refine va_put (D := (dC, dI)) (ci := 6) (v := .int 69) (ty := .int) (C := RX6) (T := TX6) (N := 9) hx hb hts iw_X6_readByte_X6 tyX6 tyX6_ok nmX6 hown hK hP hD hS 0 rfl rfl 3 (by decide) (hts _ m_X6_readByte_2) (fun _ h9 => h9) rfl (by decide +kernel) rfl rfl (Nat.le_of_ble_eq_true rfl) dX6_readByte_56 (fun H_2 locs hP2 hD2 hS2 => ?_)
  replace hP : va_P (dC, dI) vwCl [(a0, .inr (6, [.int 0, .int 0, .ref a1, .int 69, .int 0, .int 4, .int 2, .int 1, .ref a2])), (a1, .inr (5, [.ref cb, .int 81, .int 0, .ref a3, .int 14, .ref a4, .int 4, .ref a5, .int 1, .int 1, .ref a6, .int 6, .int 0, .int 1, .int 0]))] H_2 := hP2
  replace hD : va_D A [(a0, .inr (6, [.int 0, .int 0, .ref a1, .int 69, .int 0, .int 4, .int 2, .int 1, .ref a2])), (a1, .inr (5, [.ref cb, .int 81, .int 0, .ref a3, .int 14, .ref a4, .int 4, .ref a5, .int 1, .int 1, .ref a6, .int 6, .int 0, .int 1, .int 0]))] := hD2
  replace hS := hS2
  clear hP2 hD2 hS2
  refine va_tb (v := .int 0) hx hb hSK.2 hS (by unfold vp_in; decide) rfl dX6_readByte_59 ?_
  refine lv_sipush (v := 255) hx hb dX6_readByte_60 (by decide) ?_
  refine lv_iand hx hb dX6_readByte_63 ?_
  refine lv_topi (fun z_3 ez_3 => ?_)
  obtain rfl : z_3 = 0 := ez_3.trans (by decide)
  clear ez_3
  exact W.iret hx hb hr (fun t ht hW => ⟨⟨0, (), rfl, rfl, by rw [ht]; exact hP, va_K.moved hW.alike hK, hD⟩, hS.F ht⟩) hS.2.2 dX6_readByte_64

set_option maxHeartbeats 4000000 in
set_option maxRecDepth 100000 in
theorem cc_223_X6_readNumber (l : Launch) (dC : Nat → ClassId) (dI : Nat → Nat → Nat) (cy : Nat → ClassId) (sz : Nat) (cb : Nat) (a0 : Nat) (a1 : Nat) (a2 : Nat) (a3 : Nat) (a4 : Nat) (a5 : Nat) (a6 : Nat)  : Met l yX6_readNumber wsX6_readNumber ({ frames := 1, cells := 0, slots := 0, locals := 20 }) (va_Pc [.ref a0, .int 0, .int 32] (fun U => U.heap.size = sz ∧ va_P (dC, dI) vwCl [(a0, .inr (6, [.int 0, .int 0, .ref a1, .int 68, .int 0, .int 4, .int 2, .int 1, .ref a2])), (a1, .inr (5, [.ref cb, .int 81, .int 0, .ref a3, .int 14, .ref a4, .int 4, .ref a5, .int 1, .int 1, .ref a6, .int 6, .int 0, .int 1, .int 0]))] U.heap ∧ va_K (dC, dI) vwCl (TYS cy) U ∧ va_D (fun _ => True) [(a0, .inr (6, [.int 0, .int 0, .ref a1, .int 68, .int 0, .int 4, .int 2, .int 1, .ref a2])), (a1, .inr (5, [.ref cb, .int 81, .int 0, .ref a3, .int 14, .ref a4, .int 4, .ref a5, .int 1, .int 1, .ref a6, .int 6, .int 0, .int 1, .int 0]))] ∧ NK U ∧ SK cb (va_A [(a0, .inr (6, [.int 0, .int 0, .ref a1, .int 68, .int 0, .int 4, .int 2, .int 1, .ref a2])), (a1, .inr (5, [.ref cb, .int 81, .int 0, .ref a3, .int 14, .ref a4, .int 4, .ref a5, .int 1, .int 1, .ref a6, .int 6, .int 0, .int 1, .int 0]))] sz) U U.heap)) (va_Qi (fun (r : Int32) (u : Unit) => r = 0) (fun u t => va_P (dC, dI) vwCl [(a0, .inr (6, [.int 0, .int 0, .ref a1, .int 69, .int 0, .int 4, .int 2, .int 1, .ref a2])), (a1, .inr (5, [.ref cb, .int 81, .int 0, .ref a3, .int 14, .ref a4, .int 4, .ref a5, .int 1, .int 1, .ref a6, .int 6, .int 0, .int 1, .int 0]))] t.heap ∧ va_K (dC, dI) vwCl (TYS cy) t ∧ va_D (va_A [(a0, .inr (6, [.int 0, .int 0, .ref a1, .int 68, .int 0, .int 4, .int 2, .int 1, .ref a2])), (a1, .inr (5, [.ref cb, .int 81, .int 0, .ref a3, .int 14, .ref a4, .int 4, .ref a5, .int 1, .int 1, .ref a6, .int 6, .int 0, .int 1, .int 0]))] sz) [(a0, .inr (6, [.int 0, .int 0, .ref a1, .int 69, .int 0, .int 4, .int 2, .int 1, .ref a2])), (a1, .inr (5, [.ref cb, .int 81, .int 0, .ref a3, .int 14, .ref a4, .int 4, .ref a5, .int 1, .int 1, .ref a6, .int 6, .int 0, .int 1, .int 0]))]) (va_A [(a0, .inr (6, [.int 0, .int 0, .ref a1, .int 68, .int 0, .int 4, .int 2, .int 1, .ref a2])), (a1, .inr (5, [.ref cb, .int 81, .int 0, .ref a3, .int 14, .ref a4, .int 4, .ref a5, .int 1, .int 1, .ref a6, .int 6, .int 0, .int 1, .int 0]))] sz)) 0 0 (va_A [(a0, .inr (6, [.int 0, .int 0, .ref a1, .int 68, .int 0, .int 4, .int 2, .int 1, .ref a2])), (a1, .inr (5, [.ref cb, .int 81, .int 0, .ref a3, .int 14, .ref a4, .int 4, .ref a5, .int 1, .int 1, .ref a6, .int 6, .int 0, .int 1, .int 0]))] sz) := by
  refine Met.ofW (cc := cX6_readNumber) (maxL := 5) (ret := (some .int)) (by decide) rfl ?_
  intro p e s m args below meth c s₁ B hml hv
  obtain ⟨rfl, hsz, hP, hK, hD0, hN, hSK⟩ := hv
  have hx := B.exec
  have hb := B.bytes
  have hr := B.returns
  have hts := atoms_spec (ws := wsX6_readNumber) B.pre
  have hown : s.vm.findClass RX6 = some m.cls := findClass_of_methodNamed B.named
  have hlocks := B.notSynchronized
  subst hsz
  have hD := hD0.self (sz := s.heap.size)
  generalize hAe : va_A [(a0, .inr (6, [.int 0, .int 0, .ref a1, .int 68, .int 0, .int 4, .int 2, .int 1, .ref a2])), (a1, .inr (5, [.ref cb, .int 81, .int 0, .ref a3, .int 14, .ref a4, .int 4, .ref a5, .int 1, .int 1, .ref a6, .int 6, .int 0, .int 1, .int 0]))] s.heap.size = A at hD hSK ⊢
  have hA : ∀ q : Nat, s.heap.size ≤ q → A q := fun q h => by rw [← hAe]; exact Or.inr h
  have hS : va_S A s.heap s.heap [] := va_S.rf
  have hP : va_P (dC, dI) vwCl [(a0, .inr (6, [.int 0, .int 0, .ref a1, .int 68, .int 0, .int 4, .int 2, .int 1, .ref a2])), (a1, .inr (5, [.ref cb, .int 81, .int 0, .ref a3, .int 14, .ref a4, .int 4, .ref a5, .int 1, .int 1, .ref a6, .int 6, .int 0, .int 1, .int 0]))] s.heap := hP
  have hl := lv_entry ([.ref a0, .int 0, .int 32]) (n := 5) (Nat.le_of_ble_eq_true rfl)
  rw [lg_entry_eq]
  generalize (lg_sl ([.ref a0, .int 0, .int 32]) ++ List.replicate (5 - (lg_sl ([.ref a0, .int 0, .int 32])).length) Slot.unset).toArray = ls at hl ⊢
  replace hl : lv_has ls 5 [(0, .ref a0), (1, .int 0), (2, .int 32)] := hl
  refine lv_aload_n hx hb dX6_readNumber_0 rfl (lv_at hl 0 rfl) ?_
  refine va_get (D := (dC, dI)) (ci := 6) (v := .int 68) (C := RX6) (T := TX6) (N := 9) hx hb hts iw_X6_readNumber_X6 hown hK hP 0 rfl rfl 3 (by decide) (hts _ m_X6_readNumber_1) (fun _ h9 => h9) rfl dX6_readNumber_1 ?_
  refine lv_istore_n (lv' := [(3, .int 68), (0, .ref a0), (1, .int 0), (2, .int 32)]) hx hb dX6_readNumber_4 rfl hl (by decide) rfl (fun ls hl2 => ?_)
  replace hl := hl2
  clear hl2
  refine lv_aload_n hx hb dX6_readNumber_5 rfl (lv_at hl 1 rfl) ?_
  have hPc := hP.sub (ws' := [(a0, .inr (6, [.int 0, .int 0, .ref a1, .int 68, .int 0, .int 4, .int 2, .int 1, .ref a2])), (a1, .inr (5, [.ref cb, .int 81, .int 0, .ref a3, .int 14, .ref a4, .int 4, .ref a5, .int 1, .int 1, .ref a6, .int 6, .int 0, .int 1, .int 0]))]) [0, 1] rfl
  have hDc := hD.sub (ws' := [(a0, .inr (6, [.int 0, .int 0, .ref a1, .int 68, .int 0, .int 4, .int 2, .int 1, .ref a2])), (a1, .inr (5, [.ref cb, .int 81, .int 0, .ref a3, .int 14, .ref a4, .int 4, .ref a5, .int 1, .int 1, .ref a6, .int 6, .int 0, .int 1, .int 0]))]) [0, 1] (by decide) rfl
  have hFc := va_free (wc := [(a0, .inr (6, [.int 0, .int 0, .ref a1, .int 68, .int 0, .int 4, .int 2, .int 1, .ref a2])), (a1, .inr (5, [.ref cb, .int 81, .int 0, .ref a3, .int 14, .ref a4, .int 4, .ref a5, .int 1, .int 1, .ref a6, .int 6, .int 0, .int 1, .int 0]))]) hD hS hA [0, 1] rfl
  refine va_calli (va_runV (As := []) (rest := []) ⟨hx, hb, hml, hown, hts⟩ (cc_224_X6_readByte l dC dI cy s.heap.size cb a0 a1 a2 a3 a4 a5 a6) (cwV 0 hts gX6_readNumber_X6_readByte rfl rfl rfl (by decide +kernel) ⟨Nat.le_of_ble_eq_true rfl, Nat.le_of_ble_eq_true rfl⟩) ⟨fun a U g mk q => by obtain ⟨q0, q1, qP, qK, qD, qN, qS⟩ := q; exact ⟨q0, q1, qP, va_K.moved (u := U) (U := U.calling g mk a) (Vm.Alike.refl U.vm) qK, qD, qN.same rfl, SK.moved (u := U) (U := U.calling g mk a) (Vm.Alike.refl U.vm) qS⟩, va_recv hK hPc (ci := 6) (q0 := 0) rfl rfl, fun U hU hW => ⟨rfl, by rw [hU], by rw [hU]; exact hPc, va_K.moved hW.alike hK, hDc.weaken (fun _ _ _ _ => trivial), hN.warm hW, by rw [hU]; exact ((hSK.kept hS.2.1).narrow hFc).moved hW.alike⟩⟩ rfl rfl hl.1 rfl (lv_room (Nat.le_of_ble_eq_true rfl)) dX6_readNumber_6 ⟨Nat.le_of_ble_eq_true rfl, Nat.le_of_ble_eq_true rfl⟩) hS (fun q _ h => hFc q h) hFc (fun r_1 u t H_2 locs ht hvm hw hB hz1 hk1 hS2 => ?_)
  obtain ⟨hP1, hK1, hD1⟩ := hB
  rw [ht] at hP1
  obtain rfl := hw
  obtain ⟨hP2, hD2⟩ := va_join (wr := []) (w1 := [(a0, .inr (6, [.int 0, .int 0, .ref a1, .int 69, .int 0, .int 4, .int 2, .int 1, .ref a2])), (a1, .inr (5, [.ref cb, .int 81, .int 0, .ref a3, .int 14, .ref a4, .int 4, .ref a5, .int 1, .int 1, .ref a6, .int 6, .int 0, .int 1, .int 0]))]) hP hD [0, 1] [] rfl rfl (by decide) (by decide) hk1 hFc hP1 hD1
  replace hP : va_P (dC, dI) vwCl [(a0, .inr (6, [.int 0, .int 0, .ref a1, .int 69, .int 0, .int 4, .int 2, .int 1, .ref a2])), (a1, .inr (5, [.ref cb, .int 81, .int 0, .ref a3, .int 14, .ref a4, .int 4, .ref a5, .int 1, .int 1, .ref a6, .int 6, .int 0, .int 1, .int 0]))] H_2 := hP2
  replace hD : va_D A [(a0, .inr (6, [.int 0, .int 0, .ref a1, .int 69, .int 0, .int 4, .int 2, .int 1, .ref a2])), (a1, .inr (5, [.ref cb, .int 81, .int 0, .ref a3, .int 14, .ref a4, .int 4, .ref a5, .int 1, .int 1, .ref a6, .int 6, .int 0, .int 1, .int 0]))] := hD2
  replace hS := hS2
  clear hP2 hD2 hS2
  clear hPc hDc hFc hP1 hD1 hK1 hk1 hz1 hvm ht
  refine W.widen (k := 0) (n := 0) (Nat.le_of_ble_eq_true rfl) (Nat.le_of_ble_eq_true rfl) ?_
  refine lv_istore (lv' := [(4, .int 0), (3, .int 68), (0, .ref a0), (1, .int 0), (2, .int 32)]) hx hb dX6_readNumber_9 hl (by decide) rfl (fun ls hl2 => ?_)
  replace hl := hl2
  clear hl2
  refine lv_iload hx hb dX6_readNumber_11 (lv_at hl 0 rfl) ?_
  refine lv_iload_n hx hb dX6_readNumber_13 rfl (lv_at hl 3 rfl) ?_
  refine lv_icmp_lt (tgt := 23) hx hb dX6_readNumber_14 (by decide) (fun h => absurd h (by decide)) (fun _ => ?_)
  refine lv_iload hx hb dX6_readNumber_17 (lv_at hl 0 rfl) ?_
  refine lv_iload_n hx hb dX6_readNumber_19 rfl (lv_at hl 4 rfl) ?_
  refine lv_icmp_le (tgt := 29) hx hb dX6_readNumber_20 (by decide) (fun _ => ?_) (fun h => absurd (by decide) h)
  refine lv_aload_n hx hb dX6_readNumber_29 rfl (lv_at hl 2 rfl) ?_
  refine va_get (D := (dC, dI)) (ci := 6) (v := .int 0) (C := RX6) (T := TX6) (N := 9) hx hb hts iw_X6_readNumber_X6 hown hK hP 0 rfl rfl 1 (by decide) (hts _ m_X6_readNumber_2) (fun _ h9 => h9) rfl dX6_readNumber_30 ?_
  refine lv_if_ne (tgt := 41) hx hb dX6_readNumber_33 (by decide) (fun h => absurd (by decide) h) (fun _ => ?_)
  refine lv_iload hx hb dX6_readNumber_36 (lv_at hl 0 rfl) ?_
  refine lv_goto (tgt := 42) hx hb dX6_readNumber_38 (by decide) ?_
  exact W.iret hx hb hr (fun t ht hW => ⟨⟨0, (), rfl, rfl, by rw [ht]; exact hP, va_K.moved hW.alike hK, hD⟩, hS.F ht⟩) hS.2.2 dX6_readNumber_42

set_option maxHeartbeats 4000000 in
set_option maxRecDepth 100000 in
theorem cc_225_X6_readTypes (l : Launch) (dC : Nat → ClassId) (dI : Nat → Nat → Nat) (cy : Nat → ClassId) (sz : Nat) (cb : Nat) (a0 : Nat) (a1 : Nat) (a2 : Nat)  : Met l yX6_readTypes wsX6_readTypes ({ frames := 0, cells := 0, slots := 0, locals := 0 }) (va_Pc [.ref a0, .int 0, .int 1] (fun U => U.heap.size = sz ∧ va_P (dC, dI) vwCl [(a0, .inr (6, [.int 0, .int 0, .ref a1, .int 69, .int 0, .int 4, .int 2, .int 1, .ref a2]))] U.heap ∧ va_K (dC, dI) vwCl (TYS cy) U ∧ va_D (fun _ => True) [(a0, .inr (6, [.int 0, .int 0, .ref a1, .int 69, .int 0, .int 4, .int 2, .int 1, .ref a2]))] ∧ NK U ∧ SK cb (va_A [(a0, .inr (6, [.int 0, .int 0, .ref a1, .int 69, .int 0, .int 4, .int 2, .int 1, .ref a2]))] sz) U U.heap)) (va_Qv (fun u : Unit => True) (fun u t => va_P (dC, dI) vwCl [(a0, .inr (6, [.int 0, .int 0, .ref a1, .int 69, .int 0, .int 4, .int 2, .int 1, .ref a2]))] t.heap ∧ va_K (dC, dI) vwCl (TYS cy) t ∧ va_D (va_A [(a0, .inr (6, [.int 0, .int 0, .ref a1, .int 69, .int 0, .int 4, .int 2, .int 1, .ref a2]))] sz) [(a0, .inr (6, [.int 0, .int 0, .ref a1, .int 69, .int 0, .int 4, .int 2, .int 1, .ref a2]))]) (va_A [(a0, .inr (6, [.int 0, .int 0, .ref a1, .int 69, .int 0, .int 4, .int 2, .int 1, .ref a2]))] sz)) 0 0 (va_A [(a0, .inr (6, [.int 0, .int 0, .ref a1, .int 69, .int 0, .int 4, .int 2, .int 1, .ref a2]))] sz) := by
  refine Met.ofW (cc := cX6_readTypes) (maxL := 4) (ret := none) (by decide) rfl ?_
  intro p e s m args below meth c s₁ B hml hv
  obtain ⟨rfl, hsz, hP, hK, hD0, hN, hSK⟩ := hv
  have hx := B.exec
  have hb := B.bytes
  have hr := B.returns
  have hts := atoms_spec (ws := wsX6_readTypes) B.pre
  have hown : s.vm.findClass RX6 = some m.cls := findClass_of_methodNamed B.named
  have hlocks := B.notSynchronized
  subst hsz
  have hD := hD0.self (sz := s.heap.size)
  generalize hAe : va_A [(a0, .inr (6, [.int 0, .int 0, .ref a1, .int 69, .int 0, .int 4, .int 2, .int 1, .ref a2]))] s.heap.size = A at hD hSK ⊢
  have hA : ∀ q : Nat, s.heap.size ≤ q → A q := fun q h => by rw [← hAe]; exact Or.inr h
  have hS : va_S A s.heap s.heap [] := va_S.rf
  have hP : va_P (dC, dI) vwCl [(a0, .inr (6, [.int 0, .int 0, .ref a1, .int 69, .int 0, .int 4, .int 2, .int 1, .ref a2]))] s.heap := hP
  have hl := lv_entry ([.ref a0, .int 0, .int 1]) (n := 4) (Nat.le_of_ble_eq_true rfl)
  rw [lg_entry_eq]
  generalize (lg_sl ([.ref a0, .int 0, .int 1]) ++ List.replicate (4 - (lg_sl ([.ref a0, .int 0, .int 1])).length) Slot.unset).toArray = ls at hl ⊢
  replace hl : lv_has ls 4 [(0, .ref a0), (1, .int 0), (2, .int 1)] := hl
  refine lv_iconst (v := 0) hx hb dX6_readTypes_0 (by decide) ?_
  refine lv_istore_n (lv' := [(3, .int 0), (0, .ref a0), (1, .int 0), (2, .int 1)]) hx hb dX6_readTypes_1 rfl hl (by decide) rfl (fun ls hl2 => ?_)
  replace hl := hl2
  clear hl2
  refine lv_iload_n hx hb dX6_readTypes_2 rfl (lv_at hl 0 rfl) ?_
  refine lv_iload_n hx hb dX6_readTypes_3 rfl (lv_at hl 2 rfl) ?_
  refine lv_icmp_ge (tgt := 32) hx hb dX6_readTypes_4 (by decide) (fun _ => ?_) (fun h => absurd (by decide) h)
  exact W.vret hx hb hr (fun t ht hW => ⟨⟨(), rfl, trivial, by rw [ht]; exact hP, va_K.moved hW.alike hK, hD⟩, hS.F ht⟩) hS.2.2 dX6_readTypes_32

set_option maxHeartbeats 4000000 in
set_option maxRecDepth 100000 in
theorem cc_222_X6_readList (l : Launch) (dC : Nat → ClassId) (dI : Nat → Nat → Nat) (cy : Nat → ClassId) (sz : Nat) (cb : Nat) (a0 : Nat) (a1 : Nat) (a2 : Nat) (a3 : Nat) (a4 : Nat) (a5 : Nat) (a6 : Nat)  : Met l yX6_readList wsX6_readList ({ frames := 2, cells := 0, slots := 0, locals := 44 }) (va_Pc [.ref a0, .int 32] (fun U => U.heap.size = sz ∧ va_P (dC, dI) vwCl [(a0, .inr (6, [.int 0, .int 0, .ref a1, .int 68, .int 0, .int 4, .int 2, .int 1, .ref a2])), (a1, .inr (5, [.ref cb, .int 81, .int 0, .ref a3, .int 14, .ref a4, .int 4, .ref a5, .int 1, .int 1, .ref a6, .int 6, .int 0, .int 1, .int 0]))] U.heap ∧ va_K (dC, dI) vwCl (TYS cy) U ∧ va_D (fun _ => True) [(a0, .inr (6, [.int 0, .int 0, .ref a1, .int 68, .int 0, .int 4, .int 2, .int 1, .ref a2])), (a1, .inr (5, [.ref cb, .int 81, .int 0, .ref a3, .int 14, .ref a4, .int 4, .ref a5, .int 1, .int 1, .ref a6, .int 6, .int 0, .int 1, .int 0]))] ∧ NK U ∧ SK cb (va_A [(a0, .inr (6, [.int 0, .int 0, .ref a1, .int 68, .int 0, .int 4, .int 2, .int 1, .ref a2])), (a1, .inr (5, [.ref cb, .int 81, .int 0, .ref a3, .int 14, .ref a4, .int 4, .ref a5, .int 1, .int 1, .ref a6, .int 6, .int 0, .int 1, .int 0]))] sz) U U.heap)) (va_Qi (fun (r : Int32) (u : Unit) => r = 0) (fun u t => va_P (dC, dI) vwCl [(a0, .inr (6, [.int 0, .int 0, .ref a1, .int 69, .int 0, .int 4, .int 2, .int 1, .ref a2])), (a1, .inr (5, [.ref cb, .int 81, .int 0, .ref a3, .int 14, .ref a4, .int 4, .ref a5, .int 1, .int 1, .ref a6, .int 6, .int 0, .int 1, .int 0]))] t.heap ∧ va_K (dC, dI) vwCl (TYS cy) t ∧ va_D (va_A [(a0, .inr (6, [.int 0, .int 0, .ref a1, .int 68, .int 0, .int 4, .int 2, .int 1, .ref a2])), (a1, .inr (5, [.ref cb, .int 81, .int 0, .ref a3, .int 14, .ref a4, .int 4, .ref a5, .int 1, .int 1, .ref a6, .int 6, .int 0, .int 1, .int 0]))] sz) [(a0, .inr (6, [.int 0, .int 0, .ref a1, .int 69, .int 0, .int 4, .int 2, .int 1, .ref a2])), (a1, .inr (5, [.ref cb, .int 81, .int 0, .ref a3, .int 14, .ref a4, .int 4, .ref a5, .int 1, .int 1, .ref a6, .int 6, .int 0, .int 1, .int 0]))]) (va_A [(a0, .inr (6, [.int 0, .int 0, .ref a1, .int 68, .int 0, .int 4, .int 2, .int 1, .ref a2])), (a1, .inr (5, [.ref cb, .int 81, .int 0, .ref a3, .int 14, .ref a4, .int 4, .ref a5, .int 1, .int 1, .ref a6, .int 6, .int 0, .int 1, .int 0]))] sz)) 0 0 (va_A [(a0, .inr (6, [.int 0, .int 0, .ref a1, .int 68, .int 0, .int 4, .int 2, .int 1, .ref a2])), (a1, .inr (5, [.ref cb, .int 81, .int 0, .ref a3, .int 14, .ref a4, .int 4, .ref a5, .int 1, .int 1, .ref a6, .int 6, .int 0, .int 1, .int 0]))] sz) := by
  refine Met.ofW (cc := cX6_readList) (maxL := 3) (ret := (some .int)) (by decide) rfl ?_
  intro p e s m args below meth c s₁ B hml hv
  obtain ⟨rfl, hsz, hP, hK, hD0, hN, hSK⟩ := hv
  have hx := B.exec
  have hb := B.bytes
  have hr := B.returns
  have hts := atoms_spec (ws := wsX6_readList) B.pre
  have hown : s.vm.findClass RX6 = some m.cls := findClass_of_methodNamed B.named
  have hlocks := B.notSynchronized
  subst hsz
  have hD := hD0.self (sz := s.heap.size)
  generalize hAe : va_A [(a0, .inr (6, [.int 0, .int 0, .ref a1, .int 68, .int 0, .int 4, .int 2, .int 1, .ref a2])), (a1, .inr (5, [.ref cb, .int 81, .int 0, .ref a3, .int 14, .ref a4, .int 4, .ref a5, .int 1, .int 1, .ref a6, .int 6, .int 0, .int 1, .int 0]))] s.heap.size = A at hD hSK ⊢
  have hA : ∀ q : Nat, s.heap.size ≤ q → A q := fun q h => by rw [← hAe]; exact Or.inr h
  have hS : va_S A s.heap s.heap [] := va_S.rf
  have hP : va_P (dC, dI) vwCl [(a0, .inr (6, [.int 0, .int 0, .ref a1, .int 68, .int 0, .int 4, .int 2, .int 1, .ref a2])), (a1, .inr (5, [.ref cb, .int 81, .int 0, .ref a3, .int 14, .ref a4, .int 4, .ref a5, .int 1, .int 1, .ref a6, .int 6, .int 0, .int 1, .int 0]))] s.heap := hP
  have hl := lv_entry ([.ref a0, .int 32]) (n := 3) (Nat.le_of_ble_eq_true rfl)
  rw [lg_entry_eq]
  generalize (lg_sl ([.ref a0, .int 32]) ++ List.replicate (3 - (lg_sl ([.ref a0, .int 32])).length) Slot.unset).toArray = ls at hl ⊢
  replace hl : lv_has ls 3 [(0, .ref a0), (1, .int 32)] := hl
  refine lv_aload_n hx hb dX6_readList_0 rfl (lv_at hl 0 rfl) ?_
  refine lv_iconst (v := 0) hx hb dX6_readList_1 (by decide) ?_
  refine lv_iload_n hx hb dX6_readList_2 rfl (lv_at hl 1 rfl) ?_
  have hPc := hP.sub (ws' := [(a0, .inr (6, [.int 0, .int 0, .ref a1, .int 68, .int 0, .int 4, .int 2, .int 1, .ref a2])), (a1, .inr (5, [.ref cb, .int 81, .int 0, .ref a3, .int 14, .ref a4, .int 4, .ref a5, .int 1, .int 1, .ref a6, .int 6, .int 0, .int 1, .int 0]))]) [0, 1] rfl
  have hDc := hD.sub (ws' := [(a0, .inr (6, [.int 0, .int 0, .ref a1, .int 68, .int 0, .int 4, .int 2, .int 1, .ref a2])), (a1, .inr (5, [.ref cb, .int 81, .int 0, .ref a3, .int 14, .ref a4, .int 4, .ref a5, .int 1, .int 1, .ref a6, .int 6, .int 0, .int 1, .int 0]))]) [0, 1] (by decide) rfl
  have hFc := va_free (wc := [(a0, .inr (6, [.int 0, .int 0, .ref a1, .int 68, .int 0, .int 4, .int 2, .int 1, .ref a2])), (a1, .inr (5, [.ref cb, .int 81, .int 0, .ref a3, .int 14, .ref a4, .int 4, .ref a5, .int 1, .int 1, .ref a6, .int 6, .int 0, .int 1, .int 0]))]) hD hS hA [0, 1] rfl
  refine va_calli (va_runV (As := [.int 0, .int 32]) (rest := []) ⟨hx, hb, hml, hown, hts⟩ (cc_223_X6_readNumber l dC dI cy s.heap.size cb a0 a1 a2 a3 a4 a5 a6) (cwV 2 hts gX6_readList_X6_readNumber rfl rfl rfl (by decide +kernel) ⟨Nat.le_of_ble_eq_true rfl, Nat.le_of_ble_eq_true rfl⟩) ⟨fun a U g mk q => by obtain ⟨q0, q1, qP, qK, qD, qN, qS⟩ := q; exact ⟨q0, q1, qP, va_K.moved (u := U) (U := U.calling g mk a) (Vm.Alike.refl U.vm) qK, qD, qN.same rfl, SK.moved (u := U) (U := U.calling g mk a) (Vm.Alike.refl U.vm) qS⟩, va_recv hK hPc (ci := 6) (q0 := 0) rfl rfl, fun U hU hW => ⟨rfl, by rw [hU], by rw [hU]; exact hPc, va_K.moved hW.alike hK, hDc.weaken (fun _ _ _ _ => trivial), hN.warm hW, by rw [hU]; exact ((hSK.kept hS.2.1).narrow hFc).moved hW.alike⟩⟩ rfl rfl hl.1 rfl (lv_room (Nat.le_of_ble_eq_true rfl)) dX6_readList_3 ⟨Nat.le_of_ble_eq_true rfl, Nat.le_of_ble_eq_true rfl⟩) hS (fun q _ h => hFc q h) hFc (fun r_1 u t H_2 locs ht hvm hw hB hz1 hk1 hS2 => ?_)
  obtain ⟨hP1, hK1, hD1⟩ := hB
  rw [ht] at hP1
  obtain rfl := hw
  obtain ⟨hP2, hD2⟩ := va_join (wr := []) (w1 := [(a0, .inr (6, [.int 0, .int 0, .ref a1, .int 69, .int 0, .int 4, .int 2, .int 1, .ref a2])), (a1, .inr (5, [.ref cb, .int 81, .int 0, .ref a3, .int 14, .ref a4, .int 4, .ref a5, .int 1, .int 1, .ref a6, .int 6, .int 0, .int 1, .int 0]))]) hP hD [0, 1] [] rfl rfl (by decide) (by decide) hk1 hFc hP1 hD1
  replace hP : va_P (dC, dI) vwCl [(a0, .inr (6, [.int 0, .int 0, .ref a1, .int 69, .int 0, .int 4, .int 2, .int 1, .ref a2])), (a1, .inr (5, [.ref cb, .int 81, .int 0, .ref a3, .int 14, .ref a4, .int 4, .ref a5, .int 1, .int 1, .ref a6, .int 6, .int 0, .int 1, .int 0]))] H_2 := hP2
  replace hD : va_D A [(a0, .inr (6, [.int 0, .int 0, .ref a1, .int 69, .int 0, .int 4, .int 2, .int 1, .ref a2])), (a1, .inr (5, [.ref cb, .int 81, .int 0, .ref a3, .int 14, .ref a4, .int 4, .ref a5, .int 1, .int 1, .ref a6, .int 6, .int 0, .int 1, .int 0]))] := hD2
  replace hS := hS2
  clear hP2 hD2 hS2
  clear hPc hDc hFc hP1 hD1 hK1 hk1 hz1 hvm ht
  refine W.widen (k := 0) (n := 0) (Nat.le_of_ble_eq_true rfl) (Nat.le_of_ble_eq_true rfl) ?_
  refine lv_istore_n (lv' := [(2, .int 0), (0, .ref a0), (1, .int 32)]) hx hb dX6_readList_6 rfl hl (by decide) rfl (fun ls hl2 => ?_)
  replace hl := hl2
  clear hl2
  refine lv_aload_n hx hb dX6_readList_7 rfl (lv_at hl 1 rfl) ?_
  refine lv_iload_n hx hb dX6_readList_8 rfl (lv_at hl 0 rfl) ?_
  refine lv_iconst (v := 1) hx hb dX6_readList_9 (by decide) ?_
  have hPc := hP.sub (ws' := [(a0, .inr (6, [.int 0, .int 0, .ref a1, .int 69, .int 0, .int 4, .int 2, .int 1, .ref a2]))]) [0] rfl
  have hDc := hD.sub (ws' := [(a0, .inr (6, [.int 0, .int 0, .ref a1, .int 69, .int 0, .int 4, .int 2, .int 1, .ref a2]))]) [0] (by decide) rfl
  have hFc := va_free (wc := [(a0, .inr (6, [.int 0, .int 0, .ref a1, .int 69, .int 0, .int 4, .int 2, .int 1, .ref a2]))]) hD hS hA [0] rfl
  refine va_callv (va_runV (As := [.int 0, .int 1]) (rest := []) ⟨hx, hb, hml, hown, hts⟩ (cc_225_X6_readTypes l dC dI cy H_2.size cb a0 a1 a2) (cwV 2 hts gX6_readList_X6_readTypes rfl rfl rfl (by decide +kernel) ⟨Nat.le_of_ble_eq_true rfl, Nat.le_of_ble_eq_true rfl⟩) ⟨fun a U g mk q => by obtain ⟨q0, q1, qP, qK, qD, qN, qS⟩ := q; exact ⟨q0, q1, qP, va_K.moved (u := U) (U := U.calling g mk a) (Vm.Alike.refl U.vm) qK, qD, qN.same rfl, SK.moved (u := U) (U := U.calling g mk a) (Vm.Alike.refl U.vm) qS⟩, va_recv hK hPc (ci := 6) (q0 := 0) rfl rfl, fun U hU hW => ⟨rfl, by rw [hU], by rw [hU]; exact hPc, va_K.moved hW.alike hK, hDc.weaken (fun _ _ _ _ => trivial), hN.warm hW, by rw [hU]; exact ((hSK.kept hS.2.1).narrow hFc).moved hW.alike⟩⟩ rfl rfl hl.1 rfl (lv_room (Nat.le_of_ble_eq_true rfl)) dX6_readList_10 ⟨Nat.le_of_ble_eq_true rfl, Nat.le_of_ble_eq_true rfl⟩) hS (fun q _ h => hFc q h) hFc (fun u t H_3 locs ht hvm hw hB hz1 hk1 hS2 => ?_)
  obtain ⟨hP1, hK1, hD1⟩ := hB
  rw [ht] at hP1
  obtain ⟨hP2, hD2⟩ := va_join (wr := [(a1, .inr (5, [.ref cb, .int 81, .int 0, .ref a3, .int 14, .ref a4, .int 4, .ref a5, .int 1, .int 1, .ref a6, .int 6, .int 0, .int 1, .int 0]))]) (w1 := [(a0, .inr (6, [.int 0, .int 0, .ref a1, .int 69, .int 0, .int 4, .int 2, .int 1, .ref a2]))]) hP hD [0] [1] rfl rfl (by decide) (by decide) hk1 hFc hP1 hD1
  replace hP : va_P (dC, dI) vwCl [(a1, .inr (5, [.ref cb, .int 81, .int 0, .ref a3, .int 14, .ref a4, .int 4, .ref a5, .int 1, .int 1, .ref a6, .int 6, .int 0, .int 1, .int 0])), (a0, .inr (6, [.int 0, .int 0, .ref a1, .int 69, .int 0, .int 4, .int 2, .int 1, .ref a2]))] H_3 := hP2
  replace hD : va_D A [(a1, .inr (5, [.ref cb, .int 81, .int 0, .ref a3, .int 14, .ref a4, .int 4, .ref a5, .int 1, .int 1, .ref a6, .int 6, .int 0, .int 1, .int 0])), (a0, .inr (6, [.int 0, .int 0, .ref a1, .int 69, .int 0, .int 4, .int 2, .int 1, .ref a2]))] := hD2
  replace hS := hS2
  clear hP2 hD2 hS2
  clear hPc hDc hFc hP1 hD1 hK1 hk1 hz1 hvm ht
  refine W.widen (k := 0) (n := 0) (Nat.le_of_ble_eq_true rfl) (Nat.le_of_ble_eq_true rfl) ?_
  refine lv_iload_n hx hb dX6_readList_13 rfl (lv_at hl 0 rfl) ?_
  have hP := hP.sub (ws' := [(a0, .inr (6, [.int 0, .int 0, .ref a1, .int 69, .int 0, .int 4, .int 2, .int 1, .ref a2])), (a1, .inr (5, [.ref cb, .int 81, .int 0, .ref a3, .int 14, .ref a4, .int 4, .ref a5, .int 1, .int 1, .ref a6, .int 6, .int 0, .int 1, .int 0]))]) [1, 0] rfl
  have hD := hD.sub (ws' := [(a0, .inr (6, [.int 0, .int 0, .ref a1, .int 69, .int 0, .int 4, .int 2, .int 1, .ref a2])), (a1, .inr (5, [.ref cb, .int 81, .int 0, .ref a3, .int 14, .ref a4, .int 4, .ref a5, .int 1, .int 1, .ref a6, .int 6, .int 0, .int 1, .int 0]))]) [1, 0] (by decide) rfl
  exact W.iret hx hb hr (fun t ht hW => ⟨⟨0, (), rfl, rfl, by rw [ht]; exact hP, va_K.moved hW.alike hK, hD⟩, hS.F ht⟩) hS.2.2 dX6_readList_14

set_option maxHeartbeats 4000000 in
set_option maxRecDepth 100000 in
theorem cc_226_X5_setFunction (l : Launch) (dC : Nat → ClassId) (dI : Nat → Nat → Nat) (cy : Nat → ClassId) (sz : Nat) (cb : Nat) (a0 : Nat) (a1 : Nat) (a2 : Nat) (a3 : Nat) (a4 : Nat) (f0 : Nat → Int32)  : Met l yX5_setFunction wsX5_setFunction ({ frames := 0, cells := 0, slots := 0, locals := 0 }) (va_Pc [.ref a0, .int 4, .int 4, .int 0] (fun U => U.heap.size = sz ∧ va_P (dC, dI) vwCl [(a0, .inr (5, [.ref cb, .int 81, .int 0, .ref a2, .int 14, .ref a3, .int 4, .ref a4, .int 1, .int 1, .ref a1, .int 6, .int 0, .int 1, .int 0])), (a1, .inl (cy 1, 864, .inl f0))] U.heap ∧ va_K (dC, dI) vwCl (TYS cy) U ∧ va_D (fun _ => True) [(a0, .inr (5, [.ref cb, .int 81, .int 0, .ref a2, .int 14, .ref a3, .int 4, .ref a4, .int 1, .int 1, .ref a1, .int 6, .int 0, .int 1, .int 0])), (a1, .inl (cy 1, 864, .inl f0))] ∧ NK U ∧ SK cb (va_A [(a0, .inr (5, [.ref cb, .int 81, .int 0, .ref a2, .int 14, .ref a3, .int 4, .ref a4, .int 1, .int 1, .ref a1, .int 6, .int 0, .int 1, .int 0])), (a1, .inl (cy 1, 864, .inl f0))] sz) U U.heap)) (va_Qv (fun u : (Nat → Int32) => True) (fun u t => match u with | (u0) => va_P (dC, dI) vwCl [(a0, .inr (5, [.ref cb, .int 81, .int 0, .ref a2, .int 14, .ref a3, .int 4, .ref a4, .int 1, .int 1, .ref a1, .int 6, .int 0, .int 1, .int 0])), (a1, .inl (cy 1, 864, .inl u0))] t.heap ∧ va_K (dC, dI) vwCl (TYS cy) t ∧ va_D (va_A [(a0, .inr (5, [.ref cb, .int 81, .int 0, .ref a2, .int 14, .ref a3, .int 4, .ref a4, .int 1, .int 1, .ref a1, .int 6, .int 0, .int 1, .int 0])), (a1, .inl (cy 1, 864, .inl f0))] sz) [(a0, .inr (5, [.ref cb, .int 81, .int 0, .ref a2, .int 14, .ref a3, .int 4, .ref a4, .int 1, .int 1, .ref a1, .int 6, .int 0, .int 1, .int 0])), (a1, .inl (cy 1, 864, .inl u0))]) (va_A [(a0, .inr (5, [.ref cb, .int 81, .int 0, .ref a2, .int 14, .ref a3, .int 4, .ref a4, .int 1, .int 1, .ref a1, .int 6, .int 0, .int 1, .int 0])), (a1, .inl (cy 1, 864, .inl f0))] sz)) 0 0 (va_A [(a0, .inr (5, [.ref cb, .int 81, .int 0, .ref a2, .int 14, .ref a3, .int 4, .ref a4, .int 1, .int 1, .ref a1, .int 6, .int 0, .int 1, .int 0])), (a1, .inl (cy 1, 864, .inl f0))] sz) := by
  refine Met.ofW (cc := cX5_setFunction) (maxL := 4) (ret := none) (by decide) rfl ?_
  intro p e s m args below meth c s₁ B hml hv
  obtain ⟨rfl, hsz, hP, hK, hD0, hN, hSK⟩ := hv
  have hx := B.exec
  have hb := B.bytes
  have hr := B.returns
  have hts := atoms_spec (ws := wsX5_setFunction) B.pre
  have hown : s.vm.findClass RX5 = some m.cls := findClass_of_methodNamed B.named
  have hlocks := B.notSynchronized
  subst hsz
  have hD := hD0.self (sz := s.heap.size)
  generalize hAe : va_A [(a0, .inr (5, [.ref cb, .int 81, .int 0, .ref a2, .int 14, .ref a3, .int 4, .ref a4, .int 1, .int 1, .ref a1, .int 6, .int 0, .int 1, .int 0])), (a1, .inl (cy 1, 864, .inl f0))] s.heap.size = A at hD hSK ⊢
  have hA : ∀ q : Nat, s.heap.size ≤ q → A q := fun q h => by rw [← hAe]; exact Or.inr h
  have hS : va_S A s.heap s.heap [] := va_S.rf
  have hP : va_P (dC, dI) vwCl [(a0, .inr (5, [.ref cb, .int 81, .int 0, .ref a2, .int 14, .ref a3, .int 4, .ref a4, .int 1, .int 1, .ref a1, .int 6, .int 0, .int 1, .int 0])), (a1, .inl (cy 1, 864, .inl f0))] s.heap := hP
  have hl := lv_entry ([.ref a0, .int 4, .int 4, .int 0]) (n := 4) (Nat.le_of_ble_eq_true rfl)
  rw [lg_entry_eq]
  generalize (lg_sl ([.ref a0, .int 4, .int 4, .int 0]) ++ List.replicate (4 - (lg_sl ([.ref a0, .int 4, .int 4, .int 0])).length) Slot.unset).toArray = ls at hl ⊢
  replace hl : lv_has ls 4 [(0, .ref a0), (1, .int 4), (2, .int 4), (3, .int 0)] := hl
  refine lv_iload_n hx hb dX5_setFunction_0 rfl (lv_at hl 1 rfl) ?_
  refine lv_if_lt (tgt := 22) hx hb dX5_setFunction_1 (by decide) (fun h => absurd h (by decide)) (fun _ => ?_)
  refine lv_iload_n hx hb dX5_setFunction_4 rfl (lv_at hl 1 rfl) ?_
  refine lv_bipush (v := 96) hx hb dX5_setFunction_5 (by decide) ?_
  refine lv_icmp_ge (tgt := 22) hx hb dX5_setFunction_7 (by decide) (fun h => absurd h (by decide)) (fun _ => ?_)
  refine lv_aload_n hx hb dX5_setFunction_10 rfl (lv_at hl 0 rfl) ?_
  refine va_get (D := (dC, dI)) (ci := 5) (v := .ref a1) (C := RX5) (T := TX5) (N := 15) hx hb hts iw_X5_setFunction_X5 hown hK hP 0 rfl rfl 10 (by decide) (hts _ m_X5_setFunction_1) (fun _ h9 => h9) rfl dX5_setFunction_11 ?_
  refine lv_iload_n hx hb dX5_setFunction_14 rfl (lv_at hl 1 rfl) ?_
  refine lv_bipush (v := 9) hx hb dX5_setFunction_15 (by decide) ?_
  refine lv_imul hx hb dX5_setFunction_17 ?_
  refine lv_topi (fun z_1 ez_1 => ?_)
  obtain rfl : z_1 = 36 := ez_1.trans (by decide)
  clear ez_1
  refine lv_iload_n hx hb dX5_setFunction_18 rfl (lv_at hl 2 rfl) ?_
  refine lv_iadd hx hb dX5_setFunction_19 ?_
  refine lv_topi (fun z_2 ez_2 => ?_)
  obtain rfl : z_2 = 40 := ez_2.trans (by decide)
  clear ez_2
  refine lv_iload_n hx hb dX5_setFunction_20 rfl (lv_at hl 3 rfl) ?_
  refine va_iast hx hb hK hP hD hS 1 1 rfl rfl (by unfold vp_in; decide) dX5_setFunction_21 (fun H_4 locs hP2 hD2 hS2 => ?_)
  replace hP : va_P (dC, dI) vwCl [(a0, .inr (5, [.ref cb, .int 81, .int 0, .ref a2, .int 14, .ref a3, .int 4, .ref a4, .int 1, .int 1, .ref a1, .int 6, .int 0, .int 1, .int 0])), (a1, .inl (cy 1, 864, .inl (upd f0 40 0)))] H_4 := hP2
  replace hD : va_D A [(a0, .inr (5, [.ref cb, .int 81, .int 0, .ref a2, .int 14, .ref a3, .int 4, .ref a4, .int 1, .int 1, .ref a1, .int 6, .int 0, .int 1, .int 0])), (a1, .inl (cy 1, 864, .inl (upd f0 40 0)))] := hD2
  replace hS := hS2
  clear hP2 hD2 hS2
  obtain ⟨g_3, eg_3⟩ : ∃ z, upd f0 40 0 = z := ⟨_, rfl⟩
  rw [eg_3] at hP hD
  exact W.vret hx hb hr (fun t ht hW => ⟨⟨(g_3), rfl, trivial, by rw [ht]; exact hP, va_K.moved hW.alike hK, hD⟩, hS.F ht⟩) hS.2.2 dX5_setFunction_22

set_option maxHeartbeats 4000000 in
set_option maxRecDepth 100000 in
theorem cc_228_X6_readByte (l : Launch) (dC : Nat → ClassId) (dI : Nat → Nat → Nat) (cy : Nat → ClassId) (sz : Nat) (cb : Nat) (a0 : Nat) (a1 : Nat) (a2 : Nat) (a3 : Nat) (a4 : Nat) (a5 : Nat) (a6 : Nat)  : Met l yX6_readByte wsX6_readByte ({ frames := 0, cells := 0, slots := 0, locals := 0 }) (va_Pc [.ref a0] (fun U => U.heap.size = sz ∧ va_P (dC, dI) vwCl [(a0, .inr (6, [.int 0, .int 0, .ref a1, .int 69, .int 0, .int 4, .int 2, .int 1, .ref a2])), (a1, .inr (5, [.ref cb, .int 81, .int 0, .ref a3, .int 14, .ref a4, .int 4, .ref a5, .int 1, .int 1, .ref a6, .int 6, .int 0, .int 1, .int 0]))] U.heap ∧ va_K (dC, dI) vwCl (TYS cy) U ∧ va_D (fun _ => True) [(a0, .inr (6, [.int 0, .int 0, .ref a1, .int 69, .int 0, .int 4, .int 2, .int 1, .ref a2])), (a1, .inr (5, [.ref cb, .int 81, .int 0, .ref a3, .int 14, .ref a4, .int 4, .ref a5, .int 1, .int 1, .ref a6, .int 6, .int 0, .int 1, .int 0]))] ∧ NK U ∧ SK cb (va_A [(a0, .inr (6, [.int 0, .int 0, .ref a1, .int 69, .int 0, .int 4, .int 2, .int 1, .ref a2])), (a1, .inr (5, [.ref cb, .int 81, .int 0, .ref a3, .int 14, .ref a4, .int 4, .ref a5, .int 1, .int 1, .ref a6, .int 6, .int 0, .int 1, .int 0]))] sz) U U.heap)) (va_Qi (fun (r : Int32) (u : Unit) => r = 0) (fun u t => va_P (dC, dI) vwCl [(a0, .inr (6, [.int 0, .int 0, .ref a1, .int 70, .int 0, .int 4, .int 2, .int 1, .ref a2])), (a1, .inr (5, [.ref cb, .int 81, .int 0, .ref a3, .int 14, .ref a4, .int 4, .ref a5, .int 1, .int 1, .ref a6, .int 6, .int 0, .int 1, .int 0]))] t.heap ∧ va_K (dC, dI) vwCl (TYS cy) t ∧ va_D (va_A [(a0, .inr (6, [.int 0, .int 0, .ref a1, .int 69, .int 0, .int 4, .int 2, .int 1, .ref a2])), (a1, .inr (5, [.ref cb, .int 81, .int 0, .ref a3, .int 14, .ref a4, .int 4, .ref a5, .int 1, .int 1, .ref a6, .int 6, .int 0, .int 1, .int 0]))] sz) [(a0, .inr (6, [.int 0, .int 0, .ref a1, .int 70, .int 0, .int 4, .int 2, .int 1, .ref a2])), (a1, .inr (5, [.ref cb, .int 81, .int 0, .ref a3, .int 14, .ref a4, .int 4, .ref a5, .int 1, .int 1, .ref a6, .int 6, .int 0, .int 1, .int 0]))]) (va_A [(a0, .inr (6, [.int 0, .int 0, .ref a1, .int 69, .int 0, .int 4, .int 2, .int 1, .ref a2])), (a1, .inr (5, [.ref cb, .int 81, .int 0, .ref a3, .int 14, .ref a4, .int 4, .ref a5, .int 1, .int 1, .ref a6, .int 6, .int 0, .int 1, .int 0]))] sz)) 0 0 (va_A [(a0, .inr (6, [.int 0, .int 0, .ref a1, .int 69, .int 0, .int 4, .int 2, .int 1, .ref a2])), (a1, .inr (5, [.ref cb, .int 81, .int 0, .ref a3, .int 14, .ref a4, .int 4, .ref a5, .int 1, .int 1, .ref a6, .int 6, .int 0, .int 1, .int 0]))] sz) := by
  refine Met.ofW (cc := cX6_readByte) (maxL := 1) (ret := (some .int)) (by decide) rfl ?_
  intro p e s m args below meth c s₁ B hml hv
  obtain ⟨rfl, hsz, hP, hK, hD0, hN, hSK⟩ := hv
  have hx := B.exec
  have hb := B.bytes
  have hr := B.returns
  have hts := atoms_spec (ws := wsX6_readByte) B.pre
  have hown : s.vm.findClass RX6 = some m.cls := findClass_of_methodNamed B.named
  have hlocks := B.notSynchronized
  subst hsz
  have hD := hD0.self (sz := s.heap.size)
  generalize hAe : va_A [(a0, .inr (6, [.int 0, .int 0, .ref a1, .int 69, .int 0, .int 4, .int 2, .int 1, .ref a2])), (a1, .inr (5, [.ref cb, .int 81, .int 0, .ref a3, .int 14, .ref a4, .int 4, .ref a5, .int 1, .int 1, .ref a6, .int 6, .int 0, .int 1, .int 0]))] s.heap.size = A at hD hSK ⊢
  have hA : ∀ q : Nat, s.heap.size ≤ q → A q := fun q h => by rw [← hAe]; exact Or.inr h
  have hS : va_S A s.heap s.heap [] := va_S.rf
  have hP : va_P (dC, dI) vwCl [(a0, .inr (6, [.int 0, .int 0, .ref a1, .int 69, .int 0, .int 4, .int 2, .int 1, .ref a2])), (a1, .inr (5, [.ref cb, .int 81, .int 0, .ref a3, .int 14, .ref a4, .int 4, .ref a5, .int 1, .int 1, .ref a6, .int 6, .int 0, .int 1, .int 0]))] s.heap := hP
  have hl := lv_entry ([.ref a0]) (n := 1) (Nat.le_of_ble_eq_true rfl)
  rw [lg_entry_eq]
  generalize (lg_sl ([.ref a0]) ++ List.replicate (1 - (lg_sl ([.ref a0])).length) Slot.unset).toArray = ls at hl ⊢
  replace hl : lv_has ls 1 [(0, .ref a0)] := hl
  refine lv_aload_n hx hb dX6_readByte_0 rfl (lv_at hl 0 rfl) ?_
  refine va_get (D := (dC, dI)) (ci := 6) (v := .int 0) (C := RX6) (T := TX6) (N := 9) hx hb hts iw_X6_readByte_X6 hown hK hP 0 rfl rfl 1 (by decide) (hts _ m_X6_readByte_1) (fun _ h9 => h9) rfl dX6_readByte_1 ?_
  refine lv_if_eq (tgt := 9) hx hb dX6_readByte_4 (by decide) (fun _ => ?_) (fun h => absurd (by decide) h)
  refine lv_aload_n hx hb dX6_readByte_9 rfl (lv_at hl 0 rfl) ?_
  refine va_get (D := (dC, dI)) (ci := 6) (v := .int 69) (C := RX6) (T := TX6) (N := 9) hx hb hts iw_X6_readByte_X6 hown hK hP 0 rfl rfl 3 (by decide) (hts _ m_X6_readByte_2) (fun _ h9 => h9) rfl dX6_readByte_10 ?_
  refine lv_aload_n hx hb dX6_readByte_13 rfl (lv_at hl 0 rfl) ?_
  refine va_get (D := (dC, dI)) (ci := 6) (v := .ref a1) (C := RX6) (T := TX6) (N := 9) hx hb hts iw_X6_readByte_X6 hown hK hP 0 rfl rfl 2 (by decide) (hts _ m_X6_readByte_3) (fun _ h9 => h9) rfl dX6_readByte_14 ?_
  refine va_get (D := (dC, dI)) (ci := 5) (v := .int 81) (C := RX5) (T := TX5) (N := 15) hx hb hts iw_X6_readByte_X5 hown hK hP 1 rfl rfl 1 (by decide) (hts _ m_X6_readByte_4) (fun _ h9 => h9) rfl dX6_readByte_17 ?_
  refine lv_icmp_lt (tgt := 41) hx hb dX6_readByte_20 (by decide) (fun _ => ?_) (fun h => absurd (by decide) h)
  refine lv_aload_n hx hb dX6_readByte_41 rfl (lv_at hl 0 rfl) ?_
  refine va_get (D := (dC, dI)) (ci := 6) (v := .ref a1) (C := RX6) (T := TX6) (N := 9) hx hb hts iw_X6_readByte_X6 hown hK hP 0 rfl rfl 2 (by decide) (hts _ m_X6_readByte_3) (fun _ h9 => h9) rfl dX6_readByte_42 ?_
  refine va_get (D := (dC, dI)) (ci := 5) (v := .ref cb) (C := RX5) (T := TX5) (N := 15) hx hb hts iw_X6_readByte_X5 hown hK hP 1 rfl rfl 0 (by decide) (hts _ m_X6_readByte_6) (fun _ h9 => h9) rfl dX6_readByte_45 ?_
  refine lv_aload_n hx hb dX6_readByte_48 rfl (lv_at hl 0 rfl) ?_
  refine lv_dup hx hb dX6_readByte_49 rfl ?_
  refine va_get (D := (dC, dI)) (ci := 6) (v := .int 69) (C := RX6) (T := TX6) (N := 9) hx hb hts iw_X6_readByte_X6 hown hK hP 0 rfl rfl 3 (by decide) (hts _ m_X6_readByte_2) (fun _ h9 => h9) rfl dX6_readByte_50 ?_
  refine lv_dup_x1 hx hb dX6_readByte_53 rfl rfl ?_
  refine lv_iconst (v := 1) hx hb dX6_readByte_54 (by decide) ?_
  refine lv_iadd hx hb dX6_readByte_55 ?_
  refine lv_topi (fun z_1 ez_1 => ?_)
  obtain rfl : z_1 = 70 := ez_1.trans (by decide)
  clear ez_1
  refine va_put (D := (dC, dI)) (ci := 6) (v := .int 70) (ty := .int) (C := RX6) (T := TX6) (N := 9) hx hb hts iw_X6_readByte_X6 tyX6 tyX6_ok nmX6 hown hK hP hD hS 0 rfl rfl 3 (by decide) (hts _ m_X6_readByte_2) (fun _ h9 => h9) rfl (by decide +kernel) rfl rfl (Nat.le_of_ble_eq_true rfl) dX6_readByte_56 (fun H_2 locs hP2 hD2 hS2 => ?_)
  replace hP : va_P (dC, dI) vwCl [(a0, .inr (6, [.int 0, .int 0, .ref a1, .int 70, .int 0, .int 4, .int 2, .int 1, .ref a2])), (a1, .inr (5, [.ref cb, .int 81, .int 0, .ref a3, .int 14, .ref a4, .int 4, .ref a5, .int 1, .int 1, .ref a6, .int 6, .int 0, .int 1, .int 0]))] H_2 := hP2
  replace hD : va_D A [(a0, .inr (6, [.int 0, .int 0, .ref a1, .int 70, .int 0, .int 4, .int 2, .int 1, .ref a2])), (a1, .inr (5, [.ref cb, .int 81, .int 0, .ref a3, .int 14, .ref a4, .int 4, .ref a5, .int 1, .int 1, .ref a6, .int 6, .int 0, .int 1, .int 0]))] := hD2
  replace hS := hS2
  clear hP2 hD2 hS2
  refine va_tb (v := .int 0) hx hb hSK.2 hS (by unfold vp_in; decide) rfl dX6_readByte_59 ?_
  refine lv_sipush (v := 255) hx hb dX6_readByte_60 (by decide) ?_
  refine lv_iand hx hb dX6_readByte_63 ?_
  refine lv_topi (fun z_3 ez_3 => ?_)
  obtain rfl : z_3 = 0 := ez_3.trans (by decide)
  clear ez_3
  exact W.iret hx hb hr (fun t ht hW => ⟨⟨0, (), rfl, rfl, by rw [ht]; exact hP, va_K.moved hW.alike hK, hD⟩, hS.F ht⟩) hS.2.2 dX6_readByte_64

set_option maxHeartbeats 4000000 in
set_option maxRecDepth 100000 in
theorem cc_229_X6_readByte (l : Launch) (dC : Nat → ClassId) (dI : Nat → Nat → Nat) (cy : Nat → ClassId) (sz : Nat) (cb : Nat) (a0 : Nat) (a1 : Nat) (a2 : Nat) (a3 : Nat) (a4 : Nat) (a5 : Nat) (a6 : Nat)  : Met l yX6_readByte wsX6_readByte ({ frames := 0, cells := 0, slots := 0, locals := 0 }) (va_Pc [.ref a0] (fun U => U.heap.size = sz ∧ va_P (dC, dI) vwCl [(a0, .inr (6, [.int 0, .int 0, .ref a1, .int 70, .int 0, .int 4, .int 2, .int 1, .ref a2])), (a1, .inr (5, [.ref cb, .int 81, .int 0, .ref a3, .int 14, .ref a4, .int 4, .ref a5, .int 1, .int 1, .ref a6, .int 6, .int 0, .int 1, .int 0]))] U.heap ∧ va_K (dC, dI) vwCl (TYS cy) U ∧ va_D (fun _ => True) [(a0, .inr (6, [.int 0, .int 0, .ref a1, .int 70, .int 0, .int 4, .int 2, .int 1, .ref a2])), (a1, .inr (5, [.ref cb, .int 81, .int 0, .ref a3, .int 14, .ref a4, .int 4, .ref a5, .int 1, .int 1, .ref a6, .int 6, .int 0, .int 1, .int 0]))] ∧ NK U ∧ SK cb (va_A [(a0, .inr (6, [.int 0, .int 0, .ref a1, .int 70, .int 0, .int 4, .int 2, .int 1, .ref a2])), (a1, .inr (5, [.ref cb, .int 81, .int 0, .ref a3, .int 14, .ref a4, .int 4, .ref a5, .int 1, .int 1, .ref a6, .int 6, .int 0, .int 1, .int 0]))] sz) U U.heap)) (va_Qi (fun (r : Int32) (u : Unit) => r = 1) (fun u t => va_P (dC, dI) vwCl [(a0, .inr (6, [.int 0, .int 0, .ref a1, .int 71, .int 0, .int 4, .int 2, .int 1, .ref a2])), (a1, .inr (5, [.ref cb, .int 81, .int 0, .ref a3, .int 14, .ref a4, .int 4, .ref a5, .int 1, .int 1, .ref a6, .int 6, .int 0, .int 1, .int 0]))] t.heap ∧ va_K (dC, dI) vwCl (TYS cy) t ∧ va_D (va_A [(a0, .inr (6, [.int 0, .int 0, .ref a1, .int 70, .int 0, .int 4, .int 2, .int 1, .ref a2])), (a1, .inr (5, [.ref cb, .int 81, .int 0, .ref a3, .int 14, .ref a4, .int 4, .ref a5, .int 1, .int 1, .ref a6, .int 6, .int 0, .int 1, .int 0]))] sz) [(a0, .inr (6, [.int 0, .int 0, .ref a1, .int 71, .int 0, .int 4, .int 2, .int 1, .ref a2])), (a1, .inr (5, [.ref cb, .int 81, .int 0, .ref a3, .int 14, .ref a4, .int 4, .ref a5, .int 1, .int 1, .ref a6, .int 6, .int 0, .int 1, .int 0]))]) (va_A [(a0, .inr (6, [.int 0, .int 0, .ref a1, .int 70, .int 0, .int 4, .int 2, .int 1, .ref a2])), (a1, .inr (5, [.ref cb, .int 81, .int 0, .ref a3, .int 14, .ref a4, .int 4, .ref a5, .int 1, .int 1, .ref a6, .int 6, .int 0, .int 1, .int 0]))] sz)) 0 0 (va_A [(a0, .inr (6, [.int 0, .int 0, .ref a1, .int 70, .int 0, .int 4, .int 2, .int 1, .ref a2])), (a1, .inr (5, [.ref cb, .int 81, .int 0, .ref a3, .int 14, .ref a4, .int 4, .ref a5, .int 1, .int 1, .ref a6, .int 6, .int 0, .int 1, .int 0]))] sz) := by
  refine Met.ofW (cc := cX6_readByte) (maxL := 1) (ret := (some .int)) (by decide) rfl ?_
  intro p e s m args below meth c s₁ B hml hv
  obtain ⟨rfl, hsz, hP, hK, hD0, hN, hSK⟩ := hv
  have hx := B.exec
  have hb := B.bytes
  have hr := B.returns
  have hts := atoms_spec (ws := wsX6_readByte) B.pre
  have hown : s.vm.findClass RX6 = some m.cls := findClass_of_methodNamed B.named
  have hlocks := B.notSynchronized
  subst hsz
  have hD := hD0.self (sz := s.heap.size)
  generalize hAe : va_A [(a0, .inr (6, [.int 0, .int 0, .ref a1, .int 70, .int 0, .int 4, .int 2, .int 1, .ref a2])), (a1, .inr (5, [.ref cb, .int 81, .int 0, .ref a3, .int 14, .ref a4, .int 4, .ref a5, .int 1, .int 1, .ref a6, .int 6, .int 0, .int 1, .int 0]))] s.heap.size = A at hD hSK ⊢
  have hA : ∀ q : Nat, s.heap.size ≤ q → A q := fun q h => by rw [← hAe]; exact Or.inr h
  have hS : va_S A s.heap s.heap [] := va_S.rf
  have hP : va_P (dC, dI) vwCl [(a0, .inr (6, [.int 0, .int 0, .ref a1, .int 70, .int 0, .int 4, .int 2, .int 1, .ref a2])), (a1, .inr (5, [.ref cb, .int 81, .int 0, .ref a3, .int 14, .ref a4, .int 4, .ref a5, .int 1, .int 1, .ref a6, .int 6, .int 0, .int 1, .int 0]))] s.heap := hP
  have hl := lv_entry ([.ref a0]) (n := 1) (Nat.le_of_ble_eq_true rfl)
  rw [lg_entry_eq]
  generalize (lg_sl ([.ref a0]) ++ List.replicate (1 - (lg_sl ([.ref a0])).length) Slot.unset).toArray = ls at hl ⊢
  replace hl : lv_has ls 1 [(0, .ref a0)] := hl
  refine lv_aload_n hx hb dX6_readByte_0 rfl (lv_at hl 0 rfl) ?_
  refine va_get (D := (dC, dI)) (ci := 6) (v := .int 0) (C := RX6) (T := TX6) (N := 9) hx hb hts iw_X6_readByte_X6 hown hK hP 0 rfl rfl 1 (by decide) (hts _ m_X6_readByte_1) (fun _ h9 => h9) rfl dX6_readByte_1 ?_
  refine lv_if_eq (tgt := 9) hx hb dX6_readByte_4 (by decide) (fun _ => ?_) (fun h => absurd (by decide) h)
  refine lv_aload_n hx hb dX6_readByte_9 rfl (lv_at hl 0 rfl) ?_
  refine va_get (D := (dC, dI)) (ci := 6) (v := .int 70) (C := RX6) (T := TX6) (N := 9) hx hb hts iw_X6_readByte_X6 hown hK hP 0 rfl rfl 3 (by decide) (hts _ m_X6_readByte_2) (fun _ h9 => h9) rfl dX6_readByte_10 ?_
  refine lv_aload_n hx hb dX6_readByte_13 rfl (lv_at hl 0 rfl) ?_
  refine va_get (D := (dC, dI)) (ci := 6) (v := .ref a1) (C := RX6) (T := TX6) (N := 9) hx hb hts iw_X6_readByte_X6 hown hK hP 0 rfl rfl 2 (by decide) (hts _ m_X6_readByte_3) (fun _ h9 => h9) rfl dX6_readByte_14 ?_
  refine va_get (D := (dC, dI)) (ci := 5) (v := .int 81) (C := RX5) (T := TX5) (N := 15) hx hb hts iw_X6_readByte_X5 hown hK hP 1 rfl rfl 1 (by decide) (hts _ m_X6_readByte_4) (fun _ h9 => h9) rfl dX6_readByte_17 ?_
  refine lv_icmp_lt (tgt := 41) hx hb dX6_readByte_20 (by decide) (fun _ => ?_) (fun h => absurd (by decide) h)
  refine lv_aload_n hx hb dX6_readByte_41 rfl (lv_at hl 0 rfl) ?_
  refine va_get (D := (dC, dI)) (ci := 6) (v := .ref a1) (C := RX6) (T := TX6) (N := 9) hx hb hts iw_X6_readByte_X6 hown hK hP 0 rfl rfl 2 (by decide) (hts _ m_X6_readByte_3) (fun _ h9 => h9) rfl dX6_readByte_42 ?_
  refine va_get (D := (dC, dI)) (ci := 5) (v := .ref cb) (C := RX5) (T := TX5) (N := 15) hx hb hts iw_X6_readByte_X5 hown hK hP 1 rfl rfl 0 (by decide) (hts _ m_X6_readByte_6) (fun _ h9 => h9) rfl dX6_readByte_45 ?_
  refine lv_aload_n hx hb dX6_readByte_48 rfl (lv_at hl 0 rfl) ?_
  refine lv_dup hx hb dX6_readByte_49 rfl ?_
  refine va_get (D := (dC, dI)) (ci := 6) (v := .int 70) (C := RX6) (T := TX6) (N := 9) hx hb hts iw_X6_readByte_X6 hown hK hP 0 rfl rfl 3 (by decide) (hts _ m_X6_readByte_2) (fun _ h9 => h9) rfl dX6_readByte_50 ?_
  refine lv_dup_x1 hx hb dX6_readByte_53 rfl rfl ?_
  refine lv_iconst (v := 1) hx hb dX6_readByte_54 (by decide) ?_
  refine lv_iadd hx hb dX6_readByte_55 ?_
  refine lv_topi (fun z_1 ez_1 => ?_)
  obtain rfl : z_1 = 71 := ez_1.trans (by decide)
  clear ez_1
  refine va_put (D := (dC, dI)) (ci := 6) (v := .int 71) (ty := .int) (C := RX6) (T := TX6) (N := 9) hx hb hts iw_X6_readByte_X6 tyX6 tyX6_ok nmX6 hown hK hP hD hS 0 rfl rfl 3 (by decide) (hts _ m_X6_readByte_2) (fun _ h9 => h9) rfl (by decide +kernel) rfl rfl (Nat.le_of_ble_eq_true rfl) dX6_readByte_56 (fun H_2 locs hP2 hD2 hS2 => ?_)
  replace hP : va_P (dC, dI) vwCl [(a0, .inr (6, [.int 0, .int 0, .ref a1, .int 71, .int 0, .int 4, .int 2, .int 1, .ref a2])), (a1, .inr (5, [.ref cb, .int 81, .int 0, .ref a3, .int 14, .ref a4, .int 4, .ref a5, .int 1, .int 1, .ref a6, .int 6, .int 0, .int 1, .int 0]))] H_2 := hP2
  replace hD : va_D A [(a0, .inr (6, [.int 0, .int 0, .ref a1, .int 71, .int 0, .int 4, .int 2, .int 1, .ref a2])), (a1, .inr (5, [.ref cb, .int 81, .int 0, .ref a3, .int 14, .ref a4, .int 4, .ref a5, .int 1, .int 1, .ref a6, .int 6, .int 0, .int 1, .int 0]))] := hD2
  replace hS := hS2
  clear hP2 hD2 hS2
  refine va_tb (v := .int 1) hx hb hSK.2 hS (by unfold vp_in; decide) rfl dX6_readByte_59 ?_
  refine lv_sipush (v := 255) hx hb dX6_readByte_60 (by decide) ?_
  refine lv_iand hx hb dX6_readByte_63 ?_
  refine lv_topi (fun z_3 ez_3 => ?_)
  obtain rfl : z_3 = 1 := ez_3.trans (by decide)
  clear ez_3
  exact W.iret hx hb hr (fun t ht hW => ⟨⟨1, (), rfl, rfl, by rw [ht]; exact hP, va_K.moved hW.alike hK, hD⟩, hS.F ht⟩) hS.2.2 dX6_readByte_64

set_option maxHeartbeats 4000000 in
set_option maxRecDepth 100000 in
theorem cc_227_X6_readShort (l : Launch) (dC : Nat → ClassId) (dI : Nat → Nat → Nat) (cy : Nat → ClassId) (sz : Nat) (cb : Nat) (a0 : Nat) (a1 : Nat) (a2 : Nat) (a3 : Nat) (a4 : Nat) (a5 : Nat) (a6 : Nat)  : Met l yX6_readShort wsX6_readShort ({ frames := 1, cells := 0, slots := 0, locals := 20 }) (va_Pc [.ref a0] (fun U => U.heap.size = sz ∧ va_P (dC, dI) vwCl [(a0, .inr (6, [.int 0, .int 0, .ref a1, .int 69, .int 0, .int 4, .int 2, .int 1, .ref a2])), (a1, .inr (5, [.ref cb, .int 81, .int 0, .ref a3, .int 14, .ref a4, .int 4, .ref a5, .int 1, .int 1, .ref a6, .int 6, .int 0, .int 1, .int 0]))] U.heap ∧ va_K (dC, dI) vwCl (TYS cy) U ∧ va_D (fun _ => True) [(a0, .inr (6, [.int 0, .int 0, .ref a1, .int 69, .int 0, .int 4, .int 2, .int 1, .ref a2])), (a1, .inr (5, [.ref cb, .int 81, .int 0, .ref a3, .int 14, .ref a4, .int 4, .ref a5, .int 1, .int 1, .ref a6, .int 6, .int 0, .int 1, .int 0]))] ∧ NK U ∧ SK cb (va_A [(a0, .inr (6, [.int 0, .int 0, .ref a1, .int 69, .int 0, .int 4, .int 2, .int 1, .ref a2])), (a1, .inr (5, [.ref cb, .int 81, .int 0, .ref a3, .int 14, .ref a4, .int 4, .ref a5, .int 1, .int 1, .ref a6, .int 6, .int 0, .int 1, .int 0]))] sz) U U.heap)) (va_Qi (fun (r : Int32) (u : Unit) => r = 1) (fun u t => va_P (dC, dI) vwCl [(a0, .inr (6, [.int 0, .int 0, .ref a1, .int 71, .int 0, .int 4, .int 2, .int 1, .ref a2])), (a1, .inr (5, [.ref cb, .int 81, .int 0, .ref a3, .int 14, .ref a4, .int 4, .ref a5, .int 1, .int 1, .ref a6, .int 6, .int 0, .int 1, .int 0]))] t.heap ∧ va_K (dC, dI) vwCl (TYS cy) t ∧ va_D (va_A [(a0, .inr (6, [.int 0, .int 0, .ref a1, .int 69, .int 0, .int 4, .int 2, .int 1, .ref a2])), (a1, .inr (5, [.ref cb, .int 81, .int 0, .ref a3, .int 14, .ref a4, .int 4, .ref a5, .int 1, .int 1, .ref a6, .int 6, .int 0, .int 1, .int 0]))] sz) [(a0, .inr (6, [.int 0, .int 0, .ref a1, .int 71, .int 0, .int 4, .int 2, .int 1, .ref a2])), (a1, .inr (5, [.ref cb, .int 81, .int 0, .ref a3, .int 14, .ref a4, .int 4, .ref a5, .int 1, .int 1, .ref a6, .int 6, .int 0, .int 1, .int 0]))]) (va_A [(a0, .inr (6, [.int 0, .int 0, .ref a1, .int 69, .int 0, .int 4, .int 2, .int 1, .ref a2])), (a1, .inr (5, [.ref cb, .int 81, .int 0, .ref a3, .int 14, .ref a4, .int 4, .ref a5, .int 1, .int 1, .ref a6, .int 6, .int 0, .int 1, .int 0]))] sz)) 0 0 (va_A [(a0, .inr (6, [.int 0, .int 0, .ref a1, .int 69, .int 0, .int 4, .int 2, .int 1, .ref a2])), (a1, .inr (5, [.ref cb, .int 81, .int 0, .ref a3, .int 14, .ref a4, .int 4, .ref a5, .int 1, .int 1, .ref a6, .int 6, .int 0, .int 1, .int 0]))] sz) := by
  refine Met.ofW (cc := cX6_readShort) (maxL := 2) (ret := (some .int)) (by decide) rfl ?_
  intro p e s m args below meth c s₁ B hml hv
  obtain ⟨rfl, hsz, hP, hK, hD0, hN, hSK⟩ := hv
  have hx := B.exec
  have hb := B.bytes
  have hr := B.returns
  have hts := atoms_spec (ws := wsX6_readShort) B.pre
  have hown : s.vm.findClass RX6 = some m.cls := findClass_of_methodNamed B.named
  have hlocks := B.notSynchronized
  subst hsz
  have hD := hD0.self (sz := s.heap.size)
  generalize hAe : va_A [(a0, .inr (6, [.int 0, .int 0, .ref a1, .int 69, .int 0, .int 4, .int 2, .int 1, .ref a2])), (a1, .inr (5, [.ref cb, .int 81, .int 0, .ref a3, .int 14, .ref a4, .int 4, .ref a5, .int 1, .int 1, .ref a6, .int 6, .int 0, .int 1, .int 0]))] s.heap.size = A at hD hSK ⊢
  have hA : ∀ q : Nat, s.heap.size ≤ q → A q := fun q h => by rw [← hAe]; exact Or.inr h
  have hS : va_S A s.heap s.heap [] := va_S.rf
  have hP : va_P (dC, dI) vwCl [(a0, .inr (6, [.int 0, .int 0, .ref a1, .int 69, .int 0, .int 4, .int 2, .int 1, .ref a2])), (a1, .inr (5, [.ref cb, .int 81, .int 0, .ref a3, .int 14, .ref a4, .int 4, .ref a5, .int 1, .int 1, .ref a6, .int 6, .int 0, .int 1, .int 0]))] s.heap := hP
  have hl := lv_entry ([.ref a0]) (n := 2) (Nat.le_of_ble_eq_true rfl)
  rw [lg_entry_eq]
  generalize (lg_sl ([.ref a0]) ++ List.replicate (2 - (lg_sl ([.ref a0])).length) Slot.unset).toArray = ls at hl ⊢
  replace hl : lv_has ls 2 [(0, .ref a0)] := hl
  refine lv_aload_n hx hb dX6_readShort_0 rfl (lv_at hl 0 rfl) ?_
  have hPc := hP.sub (ws' := [(a0, .inr (6, [.int 0, .int 0, .ref a1, .int 69, .int 0, .int 4, .int 2, .int 1, .ref a2])), (a1, .inr (5, [.ref cb, .int 81, .int 0, .ref a3, .int 14, .ref a4, .int 4, .ref a5, .int 1, .int 1, .ref a6, .int 6, .int 0, .int 1, .int 0]))]) [0, 1] rfl
  have hDc := hD.sub (ws' := [(a0, .inr (6, [.int 0, .int 0, .ref a1, .int 69, .int 0, .int 4, .int 2, .int 1, .ref a2])), (a1, .inr (5, [.ref cb, .int 81, .int 0, .ref a3, .int 14, .ref a4, .int 4, .ref a5, .int 1, .int 1, .ref a6, .int 6, .int 0, .int 1, .int 0]))]) [0, 1] (by decide) rfl
  have hFc := va_free (wc := [(a0, .inr (6, [.int 0, .int 0, .ref a1, .int 69, .int 0, .int 4, .int 2, .int 1, .ref a2])), (a1, .inr (5, [.ref cb, .int 81, .int 0, .ref a3, .int 14, .ref a4, .int 4, .ref a5, .int 1, .int 1, .ref a6, .int 6, .int 0, .int 1, .int 0]))]) hD hS hA [0, 1] rfl
  refine va_calli (va_runV (As := []) (rest := []) ⟨hx, hb, hml, hown, hts⟩ (cc_228_X6_readByte l dC dI cy s.heap.size cb a0 a1 a2 a3 a4 a5 a6) (cwV 0 hts gX6_readShort_X6_readByte rfl rfl rfl (by decide +kernel) ⟨Nat.le_of_ble_eq_true rfl, Nat.le_of_ble_eq_true rfl⟩) ⟨fun a U g mk q => by obtain ⟨q0, q1, qP, qK, qD, qN, qS⟩ := q; exact ⟨q0, q1, qP, va_K.moved (u := U) (U := U.calling g mk a) (Vm.Alike.refl U.vm) qK, qD, qN.same rfl, SK.moved (u := U) (U := U.calling g mk a) (Vm.Alike.refl U.vm) qS⟩, va_recv hK hPc (ci := 6) (q0 := 0) rfl rfl, fun U hU hW => ⟨rfl, by rw [hU], by rw [hU]; exact hPc, va_K.moved hW.alike hK, hDc.weaken (fun _ _ _ _ => trivial), hN.warm hW, by rw [hU]; exact ((hSK.kept hS.2.1).narrow hFc).moved hW.alike⟩⟩ rfl rfl hl.1 rfl (lv_room (Nat.le_of_ble_eq_true rfl)) dX6_readShort_1 ⟨Nat.le_of_ble_eq_true rfl, Nat.le_of_ble_eq_true rfl⟩) hS (fun q _ h => hFc q h) hFc (fun r_1 u t H_2 locs ht hvm hw hB hz1 hk1 hS2 => ?_)
  obtain ⟨hP1, hK1, hD1⟩ := hB
  rw [ht] at hP1
  obtain rfl := hw
  obtain ⟨hP2, hD2⟩ := va_join (wr := []) (w1 := [(a0, .inr (6, [.int 0, .int 0, .ref a1, .int 70, .int 0, .int 4, .int 2, .int 1, .ref a2])), (a1, .inr (5, [.ref cb, .int 81, .int 0, .ref a3, .int 14, .ref a4, .int 4, .ref a5, .int 1, .int 1, .ref a6, .int 6, .int 0, .int 1, .int 0]))]) hP hD [0, 1] [] rfl rfl (by decide) (by decide) hk1 hFc hP1 hD1
  replace hP : va_P (dC, dI) vwCl [(a0, .inr (6, [.int 0, .int 0, .ref a1, .int 70, .int 0, .int 4, .int 2, .int 1, .ref a2])), (a1, .inr (5, [.ref cb, .int 81, .int 0, .ref a3, .int 14, .ref a4, .int 4, .ref a5, .int 1, .int 1, .ref a6, .int 6, .int 0, .int 1, .int 0]))] H_2 := hP2
  replace hD : va_D A [(a0, .inr (6, [.int 0, .int 0, .ref a1, .int 70, .int 0, .int 4, .int 2, .int 1, .ref a2])), (a1, .inr (5, [.ref cb, .int 81, .int 0, .ref a3, .int 14, .ref a4, .int 4, .ref a5, .int 1, .int 1, .ref a6, .int 6, .int 0, .int 1, .int 0]))] := hD2
  replace hS := hS2
  clear hP2 hD2 hS2
  clear hPc hDc hFc hP1 hD1 hK1 hk1 hz1 hvm ht
  refine W.widen (k := 0) (n := 0) (Nat.le_of_ble_eq_true rfl) (Nat.le_of_ble_eq_true rfl) ?_
  refine lv_istore_n (lv' := [(1, .int 0), (0, .ref a0)]) hx hb dX6_readShort_4 rfl hl (by decide) rfl (fun ls hl2 => ?_)
  replace hl := hl2
  clear hl2
  refine lv_iload_n hx hb dX6_readShort_5 rfl (lv_at hl 0 rfl) ?_
  refine lv_bipush (v := 8) hx hb dX6_readShort_6 (by decide) ?_
  refine lv_ishl hx hb dX6_readShort_8 ?_
  refine lv_topi (fun z_3 ez_3 => ?_)
  obtain rfl : z_3 = 0 := ez_3.trans (by decide)
  clear ez_3
  refine lv_aload_n hx hb dX6_readShort_9 rfl (lv_at hl 1 rfl) ?_
  have hPc := hP.sub (ws' := [(a0, .inr (6, [.int 0, .int 0, .ref a1, .int 70, .int 0, .int 4, .int 2, .int 1, .ref a2])), (a1, .inr (5, [.ref cb, .int 81, .int 0, .ref a3, .int 14, .ref a4, .int 4, .ref a5, .int 1, .int 1, .ref a6, .int 6, .int 0, .int 1, .int 0]))]) [0, 1] rfl
  have hDc := hD.sub (ws' := [(a0, .inr (6, [.int 0, .int 0, .ref a1, .int 70, .int 0, .int 4, .int 2, .int 1, .ref a2])), (a1, .inr (5, [.ref cb, .int 81, .int 0, .ref a3, .int 14, .ref a4, .int 4, .ref a5, .int 1, .int 1, .ref a6, .int 6, .int 0, .int 1, .int 0]))]) [0, 1] (by decide) rfl
  have hFc := va_free (wc := [(a0, .inr (6, [.int 0, .int 0, .ref a1, .int 70, .int 0, .int 4, .int 2, .int 1, .ref a2])), (a1, .inr (5, [.ref cb, .int 81, .int 0, .ref a3, .int 14, .ref a4, .int 4, .ref a5, .int 1, .int 1, .ref a6, .int 6, .int 0, .int 1, .int 0]))]) hD hS hA [0, 1] rfl
  refine va_calli (va_runV (As := []) (rest := [.int 0]) ⟨hx, hb, hml, hown, hts⟩ (cc_229_X6_readByte l dC dI cy H_2.size cb a0 a1 a2 a3 a4 a5 a6) (cwV 0 hts gX6_readShort_X6_readByte rfl rfl rfl (by decide +kernel) ⟨Nat.le_of_ble_eq_true rfl, Nat.le_of_ble_eq_true rfl⟩) ⟨fun a U g mk q => by obtain ⟨q0, q1, qP, qK, qD, qN, qS⟩ := q; exact ⟨q0, q1, qP, va_K.moved (u := U) (U := U.calling g mk a) (Vm.Alike.refl U.vm) qK, qD, qN.same rfl, SK.moved (u := U) (U := U.calling g mk a) (Vm.Alike.refl U.vm) qS⟩, va_recv hK hPc (ci := 6) (q0 := 0) rfl rfl, fun U hU hW => ⟨rfl, by rw [hU], by rw [hU]; exact hPc, va_K.moved hW.alike hK, hDc.weaken (fun _ _ _ _ => trivial), hN.warm hW, by rw [hU]; exact ((hSK.kept hS.2.1).narrow hFc).moved hW.alike⟩⟩ rfl rfl hl.1 rfl (lv_room (Nat.le_of_ble_eq_true rfl)) dX6_readShort_10 ⟨Nat.le_of_ble_eq_true rfl, Nat.le_of_ble_eq_true rfl⟩) hS (fun q _ h => hFc q h) hFc (fun r_4 u t H_5 locs ht hvm hw hB hz1 hk1 hS2 => ?_)
  obtain ⟨hP1, hK1, hD1⟩ := hB
  rw [ht] at hP1
  obtain rfl := hw
  obtain ⟨hP2, hD2⟩ := va_join (wr := []) (w1 := [(a0, .inr (6, [.int 0, .int 0, .ref a1, .int 71, .int 0, .int 4, .int 2, .int 1, .ref a2])), (a1, .inr (5, [.ref cb, .int 81, .int 0, .ref a3, .int 14, .ref a4, .int 4, .ref a5, .int 1, .int 1, .ref a6, .int 6, .int 0, .int 1, .int 0]))]) hP hD [0, 1] [] rfl rfl (by decide) (by decide) hk1 hFc hP1 hD1
  replace hP : va_P (dC, dI) vwCl [(a0, .inr (6, [.int 0, .int 0, .ref a1, .int 71, .int 0, .int 4, .int 2, .int 1, .ref a2])), (a1, .inr (5, [.ref cb, .int 81, .int 0, .ref a3, .int 14, .ref a4, .int 4, .ref a5, .int 1, .int 1, .ref a6, .int 6, .int 0, .int 1, .int 0]))] H_5 := hP2
  replace hD : va_D A [(a0, .inr (6, [.int 0, .int 0, .ref a1, .int 71, .int 0, .int 4, .int 2, .int 1, .ref a2])), (a1, .inr (5, [.ref cb, .int 81, .int 0, .ref a3, .int 14, .ref a4, .int 4, .ref a5, .int 1, .int 1, .ref a6, .int 6, .int 0, .int 1, .int 0]))] := hD2
  replace hS := hS2
  clear hP2 hD2 hS2
  clear hPc hDc hFc hP1 hD1 hK1 hk1 hz1 hvm ht
  refine W.widen (k := 0) (n := 0) (Nat.le_of_ble_eq_true rfl) (Nat.le_of_ble_eq_true rfl) ?_
  refine lv_ior hx hb dX6_readShort_13 ?_
  refine lv_topi (fun z_6 ez_6 => ?_)
  obtain rfl : z_6 = 1 := ez_6.trans (by decide)
  clear ez_6
  exact W.iret hx hb hr (fun t ht hW => ⟨⟨1, (), rfl, rfl, by rw [ht]; exact hP, va_K.moved hW.alike hK, hD⟩, hS.F ht⟩) hS.2.2 dX6_readShort_14

set_option maxHeartbeats 4000000 in
set_option maxRecDepth 100000 in
theorem cc_230_X5_setFunction (l : Launch) (dC : Nat → ClassId) (dI : Nat → Nat → Nat) (cy : Nat → ClassId) (sz : Nat) (cb : Nat) (a0 : Nat) (a1 : Nat) (a2 : Nat) (a3 : Nat) (a4 : Nat) (f0 : Nat → Int32)  : Met l yX5_setFunction wsX5_setFunction ({ frames := 0, cells := 0, slots := 0, locals := 0 }) (va_Pc [.ref a0, .int 4, .int 5, .int 4] (fun U => U.heap.size = sz ∧ va_P (dC, dI) vwCl [(a0, .inr (5, [.ref cb, .int 81, .int 0, .ref a2, .int 14, .ref a3, .int 4, .ref a4, .int 1, .int 1, .ref a1, .int 6, .int 0, .int 1, .int 0])), (a1, .inl (cy 1, 864, .inl f0))] U.heap ∧ va_K (dC, dI) vwCl (TYS cy) U ∧ va_D (fun _ => True) [(a0, .inr (5, [.ref cb, .int 81, .int 0, .ref a2, .int 14, .ref a3, .int 4, .ref a4, .int 1, .int 1, .ref a1, .int 6, .int 0, .int 1, .int 0])), (a1, .inl (cy 1, 864, .inl f0))] ∧ NK U ∧ SK cb (va_A [(a0, .inr (5, [.ref cb, .int 81, .int 0, .ref a2, .int 14, .ref a3, .int 4, .ref a4, .int 1, .int 1, .ref a1, .int 6, .int 0, .int 1, .int 0])), (a1, .inl (cy 1, 864, .inl f0))] sz) U U.heap)) (va_Qv (fun u : (Nat → Int32) => True) (fun u t => match u with | (u0) => va_P (dC, dI) vwCl [(a0, .inr (5, [.ref cb, .int 81, .int 0, .ref a2, .int 14, .ref a3, .int 4, .ref a4, .int 1, .int 1, .ref a1, .int 6, .int 0, .int 1, .int 0])), (a1, .inl (cy 1, 864, .inl u0))] t.heap ∧ va_K (dC, dI) vwCl (TYS cy) t ∧ va_D (va_A [(a0, .inr (5, [.ref cb, .int 81, .int 0, .ref a2, .int 14, .ref a3, .int 4, .ref a4, .int 1, .int 1, .ref a1, .int 6, .int 0, .int 1, .int 0])), (a1, .inl (cy 1, 864, .inl f0))] sz) [(a0, .inr (5, [.ref cb, .int 81, .int 0, .ref a2, .int 14, .ref a3, .int 4, .ref a4, .int 1, .int 1, .ref a1, .int 6, .int 0, .int 1, .int 0])), (a1, .inl (cy 1, 864, .inl u0))]) (va_A [(a0, .inr (5, [.ref cb, .int 81, .int 0, .ref a2, .int 14, .ref a3, .int 4, .ref a4, .int 1, .int 1, .ref a1, .int 6, .int 0, .int 1, .int 0])), (a1, .inl (cy 1, 864, .inl f0))] sz)) 0 0 (va_A [(a0, .inr (5, [.ref cb, .int 81, .int 0, .ref a2, .int 14, .ref a3, .int 4, .ref a4, .int 1, .int 1, .ref a1, .int 6, .int 0, .int 1, .int 0])), (a1, .inl (cy 1, 864, .inl f0))] sz) := by
  refine Met.ofW (cc := cX5_setFunction) (maxL := 4) (ret := none) (by decide) rfl ?_
  intro p e s m args below meth c s₁ B hml hv
  obtain ⟨rfl, hsz, hP, hK, hD0, hN, hSK⟩ := hv
  have hx := B.exec
  have hb := B.bytes
  have hr := B.returns
  have hts := atoms_spec (ws := wsX5_setFunction) B.pre
  have hown : s.vm.findClass RX5 = some m.cls := findClass_of_methodNamed B.named
  have hlocks := B.notSynchronized
  subst hsz
  have hD := hD0.self (sz := s.heap.size)
  generalize hAe : va_A [(a0, .inr (5, [.ref cb, .int 81, .int 0, .ref a2, .int 14, .ref a3, .int 4, .ref a4, .int 1, .int 1, .ref a1, .int 6, .int 0, .int 1, .int 0])), (a1, .inl (cy 1, 864, .inl f0))] s.heap.size = A at hD hSK ⊢
  have hA : ∀ q : Nat, s.heap.size ≤ q → A q := fun q h => by rw [← hAe]; exact Or.inr h
  have hS : va_S A s.heap s.heap [] := va_S.rf
  have hP : va_P (dC, dI) vwCl [(a0, .inr (5, [.ref cb, .int 81, .int 0, .ref a2, .int 14, .ref a3, .int 4, .ref a4, .int 1, .int 1, .ref a1, .int 6, .int 0, .int 1, .int 0])), (a1, .inl (cy 1, 864, .inl f0))] s.heap := hP
  have hl := lv_entry ([.ref a0, .int 4, .int 5, .int 4]) (n := 4) (Nat.le_of_ble_eq_true rfl)
  rw [lg_entry_eq]
  generalize (lg_sl ([.ref a0, .int 4, .int 5, .int 4]) ++ List.replicate (4 - (lg_sl ([.ref a0, .int 4, .int 5, .int 4])).length) Slot.unset).toArray = ls at hl ⊢
  replace hl : lv_has ls 4 [(0, .ref a0), (1, .int 4), (2, .int 5), (3, .int 4)] := hl
  refine lv_iload_n hx hb dX5_setFunction_0 rfl (lv_at hl 1 rfl) ?_
  refine lv_if_lt (tgt := 22) hx hb dX5_setFunction_1 (by decide) (fun h => absurd h (by decide)) (fun _ => ?_)
  refine lv_iload_n hx hb dX5_setFunction_4 rfl (lv_at hl 1 rfl) ?_
  refine lv_bipush (v := 96) hx hb dX5_setFunction_5 (by decide) ?_
  refine lv_icmp_ge (tgt := 22) hx hb dX5_setFunction_7 (by decide) (fun h => absurd h (by decide)) (fun _ => ?_)
  refine lv_aload_n hx hb dX5_setFunction_10 rfl (lv_at hl 0 rfl) ?_
  refine va_get (D := (dC, dI)) (ci := 5) (v := .ref a1) (C := RX5) (T := TX5) (N := 15) hx hb hts iw_X5_setFunction_X5 hown hK hP 0 rfl rfl 10 (by decide) (hts _ m_X5_setFunction_1) (fun _ h9 => h9) rfl dX5_setFunction_11 ?_
  refine lv_iload_n hx hb dX5_setFunction_14 rfl (lv_at hl 1 rfl) ?_
  refine lv_bipush (v := 9) hx hb dX5_setFunction_15 (by decide) ?_
  refine lv_imul hx hb dX5_setFunction_17 ?_
  refine lv_topi (fun z_1 ez_1 => ?_)
  obtain rfl : z_1 = 36 := ez_1.trans (by decide)
  clear ez_1
  refine lv_iload_n hx hb dX5_setFunction_18 rfl (lv_at hl 2 rfl) ?_
  refine lv_iadd hx hb dX5_setFunction_19 ?_
  refine lv_topi (fun z_2 ez_2 => ?_)
  obtain rfl : z_2 = 41 := ez_2.trans (by decide)
  clear ez_2
  refine lv_iload_n hx hb dX5_setFunction_20 rfl (lv_at hl 3 rfl) ?_
  refine va_iast hx hb hK hP hD hS 1 1 rfl rfl (by unfold vp_in; decide) dX5_setFunction_21 (fun H_4 locs hP2 hD2 hS2 => ?_)
  replace hP : va_P (dC, dI) vwCl [(a0, .inr (5, [.ref cb, .int 81, .int 0, .ref a2, .int 14, .ref a3, .int 4, .ref a4, .int 1, .int 1, .ref a1, .int 6, .int 0, .int 1, .int 0])), (a1, .inl (cy 1, 864, .inl (upd f0 41 4)))] H_4 := hP2
  replace hD : va_D A [(a0, .inr (5, [.ref cb, .int 81, .int 0, .ref a2, .int 14, .ref a3, .int 4, .ref a4, .int 1, .int 1, .ref a1, .int 6, .int 0, .int 1, .int 0])), (a1, .inl (cy 1, 864, .inl (upd f0 41 4)))] := hD2
  replace hS := hS2
  clear hP2 hD2 hS2
  obtain ⟨g_3, eg_3⟩ : ∃ z, upd f0 41 4 = z := ⟨_, rfl⟩
  rw [eg_3] at hP hD
  exact W.vret hx hb hr (fun t ht hW => ⟨⟨(g_3), rfl, trivial, by rw [ht]; exact hP, va_K.moved hW.alike hK, hD⟩, hS.F ht⟩) hS.2.2 dX5_setFunction_22

set_option maxHeartbeats 4000000 in
set_option maxRecDepth 100000 in
theorem cc_231_X5_setFunction (l : Launch) (dC : Nat → ClassId) (dI : Nat → Nat → Nat) (cy : Nat → ClassId) (sz : Nat) (cb : Nat) (a0 : Nat) (a1 : Nat) (a2 : Nat) (a3 : Nat) (a4 : Nat) (f0 : Nat → Int32)  : Met l yX5_setFunction wsX5_setFunction ({ frames := 0, cells := 0, slots := 0, locals := 0 }) (va_Pc [.ref a0, .int 4, .int 6, .int 1] (fun U => U.heap.size = sz ∧ va_P (dC, dI) vwCl [(a0, .inr (5, [.ref cb, .int 81, .int 0, .ref a2, .int 14, .ref a3, .int 4, .ref a4, .int 1, .int 1, .ref a1, .int 6, .int 0, .int 1, .int 0])), (a1, .inl (cy 1, 864, .inl f0))] U.heap ∧ va_K (dC, dI) vwCl (TYS cy) U ∧ va_D (fun _ => True) [(a0, .inr (5, [.ref cb, .int 81, .int 0, .ref a2, .int 14, .ref a3, .int 4, .ref a4, .int 1, .int 1, .ref a1, .int 6, .int 0, .int 1, .int 0])), (a1, .inl (cy 1, 864, .inl f0))] ∧ NK U ∧ SK cb (va_A [(a0, .inr (5, [.ref cb, .int 81, .int 0, .ref a2, .int 14, .ref a3, .int 4, .ref a4, .int 1, .int 1, .ref a1, .int 6, .int 0, .int 1, .int 0])), (a1, .inl (cy 1, 864, .inl f0))] sz) U U.heap)) (va_Qv (fun u : (Nat → Int32) => True) (fun u t => match u with | (u0) => va_P (dC, dI) vwCl [(a0, .inr (5, [.ref cb, .int 81, .int 0, .ref a2, .int 14, .ref a3, .int 4, .ref a4, .int 1, .int 1, .ref a1, .int 6, .int 0, .int 1, .int 0])), (a1, .inl (cy 1, 864, .inl u0))] t.heap ∧ va_K (dC, dI) vwCl (TYS cy) t ∧ va_D (va_A [(a0, .inr (5, [.ref cb, .int 81, .int 0, .ref a2, .int 14, .ref a3, .int 4, .ref a4, .int 1, .int 1, .ref a1, .int 6, .int 0, .int 1, .int 0])), (a1, .inl (cy 1, 864, .inl f0))] sz) [(a0, .inr (5, [.ref cb, .int 81, .int 0, .ref a2, .int 14, .ref a3, .int 4, .ref a4, .int 1, .int 1, .ref a1, .int 6, .int 0, .int 1, .int 0])), (a1, .inl (cy 1, 864, .inl u0))]) (va_A [(a0, .inr (5, [.ref cb, .int 81, .int 0, .ref a2, .int 14, .ref a3, .int 4, .ref a4, .int 1, .int 1, .ref a1, .int 6, .int 0, .int 1, .int 0])), (a1, .inl (cy 1, 864, .inl f0))] sz)) 0 0 (va_A [(a0, .inr (5, [.ref cb, .int 81, .int 0, .ref a2, .int 14, .ref a3, .int 4, .ref a4, .int 1, .int 1, .ref a1, .int 6, .int 0, .int 1, .int 0])), (a1, .inl (cy 1, 864, .inl f0))] sz) := by
  refine Met.ofW (cc := cX5_setFunction) (maxL := 4) (ret := none) (by decide) rfl ?_
  intro p e s m args below meth c s₁ B hml hv
  obtain ⟨rfl, hsz, hP, hK, hD0, hN, hSK⟩ := hv
  have hx := B.exec
  have hb := B.bytes
  have hr := B.returns
  have hts := atoms_spec (ws := wsX5_setFunction) B.pre
  have hown : s.vm.findClass RX5 = some m.cls := findClass_of_methodNamed B.named
  have hlocks := B.notSynchronized
  subst hsz
  have hD := hD0.self (sz := s.heap.size)
  generalize hAe : va_A [(a0, .inr (5, [.ref cb, .int 81, .int 0, .ref a2, .int 14, .ref a3, .int 4, .ref a4, .int 1, .int 1, .ref a1, .int 6, .int 0, .int 1, .int 0])), (a1, .inl (cy 1, 864, .inl f0))] s.heap.size = A at hD hSK ⊢
  have hA : ∀ q : Nat, s.heap.size ≤ q → A q := fun q h => by rw [← hAe]; exact Or.inr h
  have hS : va_S A s.heap s.heap [] := va_S.rf
  have hP : va_P (dC, dI) vwCl [(a0, .inr (5, [.ref cb, .int 81, .int 0, .ref a2, .int 14, .ref a3, .int 4, .ref a4, .int 1, .int 1, .ref a1, .int 6, .int 0, .int 1, .int 0])), (a1, .inl (cy 1, 864, .inl f0))] s.heap := hP
  have hl := lv_entry ([.ref a0, .int 4, .int 6, .int 1]) (n := 4) (Nat.le_of_ble_eq_true rfl)
  rw [lg_entry_eq]
  generalize (lg_sl ([.ref a0, .int 4, .int 6, .int 1]) ++ List.replicate (4 - (lg_sl ([.ref a0, .int 4, .int 6, .int 1])).length) Slot.unset).toArray = ls at hl ⊢
  replace hl : lv_has ls 4 [(0, .ref a0), (1, .int 4), (2, .int 6), (3, .int 1)] := hl
  refine lv_iload_n hx hb dX5_setFunction_0 rfl (lv_at hl 1 rfl) ?_
  refine lv_if_lt (tgt := 22) hx hb dX5_setFunction_1 (by decide) (fun h => absurd h (by decide)) (fun _ => ?_)
  refine lv_iload_n hx hb dX5_setFunction_4 rfl (lv_at hl 1 rfl) ?_
  refine lv_bipush (v := 96) hx hb dX5_setFunction_5 (by decide) ?_
  refine lv_icmp_ge (tgt := 22) hx hb dX5_setFunction_7 (by decide) (fun h => absurd h (by decide)) (fun _ => ?_)
  refine lv_aload_n hx hb dX5_setFunction_10 rfl (lv_at hl 0 rfl) ?_
  refine va_get (D := (dC, dI)) (ci := 5) (v := .ref a1) (C := RX5) (T := TX5) (N := 15) hx hb hts iw_X5_setFunction_X5 hown hK hP 0 rfl rfl 10 (by decide) (hts _ m_X5_setFunction_1) (fun _ h9 => h9) rfl dX5_setFunction_11 ?_
  refine lv_iload_n hx hb dX5_setFunction_14 rfl (lv_at hl 1 rfl) ?_
  refine lv_bipush (v := 9) hx hb dX5_setFunction_15 (by decide) ?_
  refine lv_imul hx hb dX5_setFunction_17 ?_
  refine lv_topi (fun z_1 ez_1 => ?_)
  obtain rfl : z_1 = 36 := ez_1.trans (by decide)
  clear ez_1
  refine lv_iload_n hx hb dX5_setFunction_18 rfl (lv_at hl 2 rfl) ?_
  refine lv_iadd hx hb dX5_setFunction_19 ?_
  refine lv_topi (fun z_2 ez_2 => ?_)
  obtain rfl : z_2 = 42 := ez_2.trans (by decide)
  clear ez_2
  refine lv_iload_n hx hb dX5_setFunction_20 rfl (lv_at hl 3 rfl) ?_
  refine va_iast hx hb hK hP hD hS 1 1 rfl rfl (by unfold vp_in; decide) dX5_setFunction_21 (fun H_4 locs hP2 hD2 hS2 => ?_)
  replace hP : va_P (dC, dI) vwCl [(a0, .inr (5, [.ref cb, .int 81, .int 0, .ref a2, .int 14, .ref a3, .int 4, .ref a4, .int 1, .int 1, .ref a1, .int 6, .int 0, .int 1, .int 0])), (a1, .inl (cy 1, 864, .inl (upd f0 42 1)))] H_4 := hP2
  replace hD : va_D A [(a0, .inr (5, [.ref cb, .int 81, .int 0, .ref a2, .int 14, .ref a3, .int 4, .ref a4, .int 1, .int 1, .ref a1, .int 6, .int 0, .int 1, .int 0])), (a1, .inl (cy 1, 864, .inl (upd f0 42 1)))] := hD2
  replace hS := hS2
  clear hP2 hD2 hS2
  obtain ⟨g_3, eg_3⟩ : ∃ z, upd f0 42 1 = z := ⟨_, rfl⟩
  rw [eg_3] at hP hD
  exact W.vret hx hb hr (fun t ht hW => ⟨⟨(g_3), rfl, trivial, by rw [ht]; exact hP, va_K.moved hW.alike hK, hD⟩, hS.F ht⟩) hS.2.2 dX5_setFunction_22

set_option maxHeartbeats 4000000 in
set_option maxRecDepth 100000 in
theorem cc_233_X5_addStart (l : Launch) (dC : Nat → ClassId) (dI : Nat → Nat → Nat) (cy : Nat → ClassId) (sz : Nat) (cb : Nat) (a0 : Nat) (a1 : Nat) (a2 : Nat) (a3 : Nat) (a4 : Nat) (f0 : Nat → Int32)  : Met l yX5_addStart wsX5_addStart ({ frames := 0, cells := 0, slots := 0, locals := 0 }) (va_Pc [.ref a0, .int 71] (fun U => U.heap.size = sz ∧ va_P (dC, dI) vwCl [(a0, .inr (5, [.ref cb, .int 81, .int 0, .ref a2, .int 14, .ref a1, .int 4, .ref a3, .int 1, .int 1, .ref a4, .int 6, .int 0, .int 1, .int 0])), (a1, .inl (cy 1, 2048, .inl f0))] U.heap ∧ va_K (dC, dI) vwCl (TYS cy) U ∧ va_D (fun _ => True) [(a0, .inr (5, [.ref cb, .int 81, .int 0, .ref a2, .int 14, .ref a1, .int 4, .ref a3, .int 1, .int 1, .ref a4, .int 6, .int 0, .int 1, .int 0])), (a1, .inl (cy 1, 2048, .inl f0))] ∧ NK U ∧ SK cb (va_A [(a0, .inr (5, [.ref cb, .int 81, .int 0, .ref a2, .int 14, .ref a1, .int 4, .ref a3, .int 1, .int 1, .ref a4, .int 6, .int 0, .int 1, .int 0])), (a1, .inl (cy 1, 2048, .inl f0))] sz) U U.heap)) (va_Qv (fun u : (Nat → Int32) => True) (fun u t => match u with | (u0) => va_P (dC, dI) vwCl [(a0, .inr (5, [.ref cb, .int 81, .int 0, .ref a2, .int 14, .ref a1, .int 5, .ref a3, .int 1, .int 1, .ref a4, .int 6, .int 0, .int 1, .int 0])), (a1, .inl (cy 1, 2048, .inl u0))] t.heap ∧ va_K (dC, dI) vwCl (TYS cy) t ∧ va_D (va_A [(a0, .inr (5, [.ref cb, .int 81, .int 0, .ref a2, .int 14, .ref a1, .int 4, .ref a3, .int 1, .int 1, .ref a4, .int 6, .int 0, .int 1, .int 0])), (a1, .inl (cy 1, 2048, .inl f0))] sz) [(a0, .inr (5, [.ref cb, .int 81, .int 0, .ref a2, .int 14, .ref a1, .int 5, .ref a3, .int 1, .int 1, .ref a4, .int 6, .int 0, .int 1, .int 0])), (a1, .inl (cy 1, 2048, .inl u0))]) (va_A [(a0, .inr (5, [.ref cb, .int 81, .int 0, .ref a2, .int 14, .ref a1, .int 4, .ref a3, .int 1, .int 1, .ref a4, .int 6, .int 0, .int 1, .int 0])), (a1, .inl (cy 1, 2048, .inl f0))] sz)) 0 0 (va_A [(a0, .inr (5, [.ref cb, .int 81, .int 0, .ref a2, .int 14, .ref a1, .int 4, .ref a3, .int 1, .int 1, .ref a4, .int 6, .int 0, .int 1, .int 0])), (a1, .inl (cy 1, 2048, .inl f0))] sz) := by
  refine Met.ofW (cc := cX5_addStart) (maxL := 2) (ret := none) (by decide) rfl ?_
  intro p e s m args below meth c s₁ B hml hv
  obtain ⟨rfl, hsz, hP, hK, hD0, hN, hSK⟩ := hv
  have hx := B.exec
  have hb := B.bytes
  have hr := B.returns
  have hts := atoms_spec (ws := wsX5_addStart) B.pre
  have hown : s.vm.findClass RX5 = some m.cls := findClass_of_methodNamed B.named
  have hlocks := B.notSynchronized
  subst hsz
  have hD := hD0.self (sz := s.heap.size)
  generalize hAe : va_A [(a0, .inr (5, [.ref cb, .int 81, .int 0, .ref a2, .int 14, .ref a1, .int 4, .ref a3, .int 1, .int 1, .ref a4, .int 6, .int 0, .int 1, .int 0])), (a1, .inl (cy 1, 2048, .inl f0))] s.heap.size = A at hD hSK ⊢
  have hA : ∀ q : Nat, s.heap.size ≤ q → A q := fun q h => by rw [← hAe]; exact Or.inr h
  have hS : va_S A s.heap s.heap [] := va_S.rf
  have hP : va_P (dC, dI) vwCl [(a0, .inr (5, [.ref cb, .int 81, .int 0, .ref a2, .int 14, .ref a1, .int 4, .ref a3, .int 1, .int 1, .ref a4, .int 6, .int 0, .int 1, .int 0])), (a1, .inl (cy 1, 2048, .inl f0))] s.heap := hP
  have hl := lv_entry ([.ref a0, .int 71]) (n := 2) (Nat.le_of_ble_eq_true rfl)
  rw [lg_entry_eq]
  generalize (lg_sl ([.ref a0, .int 71]) ++ List.replicate (2 - (lg_sl ([.ref a0, .int 71])).length) Slot.unset).toArray = ls at hl ⊢
  replace hl : lv_has ls 2 [(0, .ref a0), (1, .int 71)] := hl
  refine lv_aload_n hx hb dX5_addStart_0 rfl (lv_at hl 0 rfl) ?_
  refine va_get (D := (dC, dI)) (ci := 5) (v := .int 4) (C := RX5) (T := TX5) (N := 15) hx hb hts iw_X5_addStart_X5 hown hK hP 0 rfl rfl 6 (by decide) (hts _ m_X5_addStart_1) (fun _ h9 => h9) rfl dX5_addStart_1 ?_
  refine lv_aload_n hx hb dX5_addStart_4 rfl (lv_at hl 0 rfl) ?_
  refine va_get (D := (dC, dI)) (ci := 5) (v := .ref a1) (C := RX5) (T := TX5) (N := 15) hx hb hts iw_X5_addStart_X5 hown hK hP 0 rfl rfl 5 (by decide) (hts _ m_X5_addStart_2) (fun _ h9 => h9) rfl dX5_addStart_5 ?_
  refine va_alen (v := 2048) hx hb hK hP 1 1 rfl rfl rfl dX5_addStart_8 ?_
  refine lv_icmp_ge (tgt := 29) hx hb dX5_addStart_9 (by decide) (fun h => absurd h (by decide)) (fun _ => ?_)
  refine lv_aload_n hx hb dX5_addStart_12 rfl (lv_at hl 0 rfl) ?_
  refine va_get (D := (dC, dI)) (ci := 5) (v := .ref a1) (C := RX5) (T := TX5) (N := 15) hx hb hts iw_X5_addStart_X5 hown hK hP 0 rfl rfl 5 (by decide) (hts _ m_X5_addStart_2) (fun _ h9 => h9) rfl dX5_addStart_13 ?_
  refine lv_aload_n hx hb dX5_addStart_16 rfl (lv_at hl 0 rfl) ?_
  refine lv_dup hx hb dX5_addStart_17 rfl ?_
  refine va_get (D := (dC, dI)) (ci := 5) (v := .int 4) (C := RX5) (T := TX5) (N := 15) hx hb hts iw_X5_addStart_X5 hown hK hP 0 rfl rfl 6 (by decide) (hts _ m_X5_addStart_1) (fun _ h9 => h9) rfl dX5_addStart_18 ?_
  refine lv_dup_x1 hx hb dX5_addStart_21 rfl rfl ?_
  refine lv_iconst (v := 1) hx hb dX5_addStart_22 (by decide) ?_
  refine lv_iadd hx hb dX5_addStart_23 ?_
  refine lv_topi (fun z_1 ez_1 => ?_)
  obtain rfl : z_1 = 5 := ez_1.trans (by decide)
  clear ez_1
  refine va_put (D := (dC, dI)) (ci := 5) (v := .int 5) (ty := .int) (C := RX5) (T := TX5) (N := 15) hx hb hts iw_X5_addStart_X5 tyX5 tyX5_ok nmX5 hown hK hP hD hS 0 rfl rfl 6 (by decide) (hts _ m_X5_addStart_1) (fun _ h9 => h9) rfl (by decide +kernel) rfl rfl (Nat.le_of_ble_eq_true rfl) dX5_addStart_24 (fun H_2 locs hP2 hD2 hS2 => ?_)
  replace hP : va_P (dC, dI) vwCl [(a0, .inr (5, [.ref cb, .int 81, .int 0, .ref a2, .int 14, .ref a1, .int 5, .ref a3, .int 1, .int 1, .ref a4, .int 6, .int 0, .int 1, .int 0])), (a1, .inl (cy 1, 2048, .inl f0))] H_2 := hP2
  replace hD : va_D A [(a0, .inr (5, [.ref cb, .int 81, .int 0, .ref a2, .int 14, .ref a1, .int 5, .ref a3, .int 1, .int 1, .ref a4, .int 6, .int 0, .int 1, .int 0])), (a1, .inl (cy 1, 2048, .inl f0))] := hD2
  replace hS := hS2
  clear hP2 hD2 hS2
  refine lv_iload_n hx hb dX5_addStart_27 rfl (lv_at hl 1 rfl) ?_
  refine va_iast hx hb hK hP hD hS 1 1 rfl rfl (by unfold vp_in; decide) dX5_addStart_28 (fun H_4 locs hP2 hD2 hS2 => ?_)
  replace hP : va_P (dC, dI) vwCl [(a0, .inr (5, [.ref cb, .int 81, .int 0, .ref a2, .int 14, .ref a1, .int 5, .ref a3, .int 1, .int 1, .ref a4, .int 6, .int 0, .int 1, .int 0])), (a1, .inl (cy 1, 2048, .inl (upd f0 4 71)))] H_4 := hP2
  replace hD : va_D A [(a0, .inr (5, [.ref cb, .int 81, .int 0, .ref a2, .int 14, .ref a1, .int 5, .ref a3, .int 1, .int 1, .ref a4, .int 6, .int 0, .int 1, .int 0])), (a1, .inl (cy 1, 2048, .inl (upd f0 4 71)))] := hD2
  replace hS := hS2
  clear hP2 hD2 hS2
  obtain ⟨g_3, eg_3⟩ : ∃ z, upd f0 4 71 = z := ⟨_, rfl⟩
  rw [eg_3] at hP hD
  exact W.vret hx hb hr (fun t ht hW => ⟨⟨(g_3), rfl, trivial, by rw [ht]; exact hP, va_K.moved hW.alike hK, hD⟩, hS.F ht⟩) hS.2.2 dX5_addStart_29

set_option maxHeartbeats 4000000 in
set_option maxRecDepth 100000 in
theorem cc_234_X6_readByte (l : Launch) (dC : Nat → ClassId) (dI : Nat → Nat → Nat) (cy : Nat → ClassId) (sz : Nat) (cb : Nat) (a0 : Nat) (a1 : Nat) (a2 : Nat) (a3 : Nat) (a4 : Nat) (a5 : Nat) (a6 : Nat)  : Met l yX6_readByte wsX6_readByte ({ frames := 0, cells := 0, slots := 0, locals := 0 }) (va_Pc [.ref a0] (fun U => U.heap.size = sz ∧ va_P (dC, dI) vwCl [(a0, .inr (6, [.int 0, .int 0, .ref a1, .int 71, .int 0, .int 5, .int 2, .int 1, .ref a2])), (a1, .inr (5, [.ref cb, .int 81, .int 0, .ref a3, .int 14, .ref a4, .int 5, .ref a5, .int 1, .int 1, .ref a6, .int 6, .int 0, .int 1, .int 0]))] U.heap ∧ va_K (dC, dI) vwCl (TYS cy) U ∧ va_D (fun _ => True) [(a0, .inr (6, [.int 0, .int 0, .ref a1, .int 71, .int 0, .int 5, .int 2, .int 1, .ref a2])), (a1, .inr (5, [.ref cb, .int 81, .int 0, .ref a3, .int 14, .ref a4, .int 5, .ref a5, .int 1, .int 1, .ref a6, .int 6, .int 0, .int 1, .int 0]))] ∧ NK U ∧ SK cb (va_A [(a0, .inr (6, [.int 0, .int 0, .ref a1, .int 71, .int 0, .int 5, .int 2, .int 1, .ref a2])), (a1, .inr (5, [.ref cb, .int 81, .int 0, .ref a3, .int 14, .ref a4, .int 5, .ref a5, .int 1, .int 1, .ref a6, .int 6, .int 0, .int 1, .int 0]))] sz) U U.heap)) (va_Qi (fun (r : Int32) (u : Unit) => r = 35) (fun u t => va_P (dC, dI) vwCl [(a0, .inr (6, [.int 0, .int 0, .ref a1, .int 72, .int 0, .int 5, .int 2, .int 1, .ref a2])), (a1, .inr (5, [.ref cb, .int 81, .int 0, .ref a3, .int 14, .ref a4, .int 5, .ref a5, .int 1, .int 1, .ref a6, .int 6, .int 0, .int 1, .int 0]))] t.heap ∧ va_K (dC, dI) vwCl (TYS cy) t ∧ va_D (va_A [(a0, .inr (6, [.int 0, .int 0, .ref a1, .int 71, .int 0, .int 5, .int 2, .int 1, .ref a2])), (a1, .inr (5, [.ref cb, .int 81, .int 0, .ref a3, .int 14, .ref a4, .int 5, .ref a5, .int 1, .int 1, .ref a6, .int 6, .int 0, .int 1, .int 0]))] sz) [(a0, .inr (6, [.int 0, .int 0, .ref a1, .int 72, .int 0, .int 5, .int 2, .int 1, .ref a2])), (a1, .inr (5, [.ref cb, .int 81, .int 0, .ref a3, .int 14, .ref a4, .int 5, .ref a5, .int 1, .int 1, .ref a6, .int 6, .int 0, .int 1, .int 0]))]) (va_A [(a0, .inr (6, [.int 0, .int 0, .ref a1, .int 71, .int 0, .int 5, .int 2, .int 1, .ref a2])), (a1, .inr (5, [.ref cb, .int 81, .int 0, .ref a3, .int 14, .ref a4, .int 5, .ref a5, .int 1, .int 1, .ref a6, .int 6, .int 0, .int 1, .int 0]))] sz)) 0 0 (va_A [(a0, .inr (6, [.int 0, .int 0, .ref a1, .int 71, .int 0, .int 5, .int 2, .int 1, .ref a2])), (a1, .inr (5, [.ref cb, .int 81, .int 0, .ref a3, .int 14, .ref a4, .int 5, .ref a5, .int 1, .int 1, .ref a6, .int 6, .int 0, .int 1, .int 0]))] sz) := by
  refine Met.ofW (cc := cX6_readByte) (maxL := 1) (ret := (some .int)) (by decide) rfl ?_
  intro p e s m args below meth c s₁ B hml hv
  obtain ⟨rfl, hsz, hP, hK, hD0, hN, hSK⟩ := hv
  have hx := B.exec
  have hb := B.bytes
  have hr := B.returns
  have hts := atoms_spec (ws := wsX6_readByte) B.pre
  have hown : s.vm.findClass RX6 = some m.cls := findClass_of_methodNamed B.named
  have hlocks := B.notSynchronized
  subst hsz
  have hD := hD0.self (sz := s.heap.size)
  generalize hAe : va_A [(a0, .inr (6, [.int 0, .int 0, .ref a1, .int 71, .int 0, .int 5, .int 2, .int 1, .ref a2])), (a1, .inr (5, [.ref cb, .int 81, .int 0, .ref a3, .int 14, .ref a4, .int 5, .ref a5, .int 1, .int 1, .ref a6, .int 6, .int 0, .int 1, .int 0]))] s.heap.size = A at hD hSK ⊢
  have hA : ∀ q : Nat, s.heap.size ≤ q → A q := fun q h => by rw [← hAe]; exact Or.inr h
  have hS : va_S A s.heap s.heap [] := va_S.rf
  have hP : va_P (dC, dI) vwCl [(a0, .inr (6, [.int 0, .int 0, .ref a1, .int 71, .int 0, .int 5, .int 2, .int 1, .ref a2])), (a1, .inr (5, [.ref cb, .int 81, .int 0, .ref a3, .int 14, .ref a4, .int 5, .ref a5, .int 1, .int 1, .ref a6, .int 6, .int 0, .int 1, .int 0]))] s.heap := hP
  have hl := lv_entry ([.ref a0]) (n := 1) (Nat.le_of_ble_eq_true rfl)
  rw [lg_entry_eq]
  generalize (lg_sl ([.ref a0]) ++ List.replicate (1 - (lg_sl ([.ref a0])).length) Slot.unset).toArray = ls at hl ⊢
  replace hl : lv_has ls 1 [(0, .ref a0)] := hl
  refine lv_aload_n hx hb dX6_readByte_0 rfl (lv_at hl 0 rfl) ?_
  refine va_get (D := (dC, dI)) (ci := 6) (v := .int 0) (C := RX6) (T := TX6) (N := 9) hx hb hts iw_X6_readByte_X6 hown hK hP 0 rfl rfl 1 (by decide) (hts _ m_X6_readByte_1) (fun _ h9 => h9) rfl dX6_readByte_1 ?_
  refine lv_if_eq (tgt := 9) hx hb dX6_readByte_4 (by decide) (fun _ => ?_) (fun h => absurd (by decide) h)
  refine lv_aload_n hx hb dX6_readByte_9 rfl (lv_at hl 0 rfl) ?_
  refine va_get (D := (dC, dI)) (ci := 6) (v := .int 71) (C := RX6) (T := TX6) (N := 9) hx hb hts iw_X6_readByte_X6 hown hK hP 0 rfl rfl 3 (by decide) (hts _ m_X6_readByte_2) (fun _ h9 => h9) rfl dX6_readByte_10 ?_
  refine lv_aload_n hx hb dX6_readByte_13 rfl (lv_at hl 0 rfl) ?_
  refine va_get (D := (dC, dI)) (ci := 6) (v := .ref a1) (C := RX6) (T := TX6) (N := 9) hx hb hts iw_X6_readByte_X6 hown hK hP 0 rfl rfl 2 (by decide) (hts _ m_X6_readByte_3) (fun _ h9 => h9) rfl dX6_readByte_14 ?_
  refine va_get (D := (dC, dI)) (ci := 5) (v := .int 81) (C := RX5) (T := TX5) (N := 15) hx hb hts iw_X6_readByte_X5 hown hK hP 1 rfl rfl 1 (by decide) (hts _ m_X6_readByte_4) (fun _ h9 => h9) rfl dX6_readByte_17 ?_
  refine lv_icmp_lt (tgt := 41) hx hb dX6_readByte_20 (by decide) (fun _ => ?_) (fun h => absurd (by decide) h)
  refine lv_aload_n hx hb dX6_readByte_41 rfl (lv_at hl 0 rfl) ?_
  refine va_get (D := (dC, dI)) (ci := 6) (v := .ref a1) (C := RX6) (T := TX6) (N := 9) hx hb hts iw_X6_readByte_X6 hown hK hP 0 rfl rfl 2 (by decide) (hts _ m_X6_readByte_3) (fun _ h9 => h9) rfl dX6_readByte_42 ?_
  refine va_get (D := (dC, dI)) (ci := 5) (v := .ref cb) (C := RX5) (T := TX5) (N := 15) hx hb hts iw_X6_readByte_X5 hown hK hP 1 rfl rfl 0 (by decide) (hts _ m_X6_readByte_6) (fun _ h9 => h9) rfl dX6_readByte_45 ?_
  refine lv_aload_n hx hb dX6_readByte_48 rfl (lv_at hl 0 rfl) ?_
  refine lv_dup hx hb dX6_readByte_49 rfl ?_
  refine va_get (D := (dC, dI)) (ci := 6) (v := .int 71) (C := RX6) (T := TX6) (N := 9) hx hb hts iw_X6_readByte_X6 hown hK hP 0 rfl rfl 3 (by decide) (hts _ m_X6_readByte_2) (fun _ h9 => h9) rfl dX6_readByte_50 ?_
  refine lv_dup_x1 hx hb dX6_readByte_53 rfl rfl ?_
  refine lv_iconst (v := 1) hx hb dX6_readByte_54 (by decide) ?_
  refine lv_iadd hx hb dX6_readByte_55 ?_
  refine lv_topi (fun z_1 ez_1 => ?_)
  obtain rfl : z_1 = 72 := ez_1.trans (by decide)
  clear ez_1
  refine va_put (D := (dC, dI)) (ci := 6) (v := .int 72) (ty := .int) (C := RX6) (T := TX6) (N := 9) hx hb hts iw_X6_readByte_X6 tyX6 tyX6_ok nmX6 hown hK hP hD hS 0 rfl rfl 3 (by decide) (hts _ m_X6_readByte_2) (fun _ h9 => h9) rfl (by decide +kernel) rfl rfl (Nat.le_of_ble_eq_true rfl) dX6_readByte_56 (fun H_2 locs hP2 hD2 hS2 => ?_)
  replace hP : va_P (dC, dI) vwCl [(a0, .inr (6, [.int 0, .int 0, .ref a1, .int 72, .int 0, .int 5, .int 2, .int 1, .ref a2])), (a1, .inr (5, [.ref cb, .int 81, .int 0, .ref a3, .int 14, .ref a4, .int 5, .ref a5, .int 1, .int 1, .ref a6, .int 6, .int 0, .int 1, .int 0]))] H_2 := hP2
  replace hD : va_D A [(a0, .inr (6, [.int 0, .int 0, .ref a1, .int 72, .int 0, .int 5, .int 2, .int 1, .ref a2])), (a1, .inr (5, [.ref cb, .int 81, .int 0, .ref a3, .int 14, .ref a4, .int 5, .ref a5, .int 1, .int 1, .ref a6, .int 6, .int 0, .int 1, .int 0]))] := hD2
  replace hS := hS2
  clear hP2 hD2 hS2
  refine va_tb (v := .int 35) hx hb hSK.2 hS (by unfold vp_in; decide) rfl dX6_readByte_59 ?_
  refine lv_sipush (v := 255) hx hb dX6_readByte_60 (by decide) ?_
  refine lv_iand hx hb dX6_readByte_63 ?_
  refine lv_topi (fun z_3 ez_3 => ?_)
  obtain rfl : z_3 = 35 := ez_3.trans (by decide)
  clear ez_3
  exact W.iret hx hb hr (fun t ht hW => ⟨⟨35, (), rfl, rfl, by rw [ht]; exact hP, va_K.moved hW.alike hK, hD⟩, hS.F ht⟩) hS.2.2 dX6_readByte_64

set_option maxHeartbeats 4000000 in
set_option maxRecDepth 100000 in
theorem cc_232_X6_readInstruction (l : Launch) (dC : Nat → ClassId) (dI : Nat → Nat → Nat) (cy : Nat → ClassId) (sz : Nat) (cb : Nat) (a0 : Nat) (a1 : Nat) (a2 : Nat) (a3 : Nat) (a4 : Nat) (a5 : Nat) (a6 : Nat) (f0 : Nat → Int32)  : Met l yX6_readInstruction wsX6_readInstruction ({ frames := 1, cells := 0, slots := 0, locals := 21 }) (va_Pc [.ref a0] (fun U => U.heap.size = sz ∧ va_P (dC, dI) vwCl [(a0, .inr (6, [.int 0, .int 0, .ref a1, .int 71, .int 0, .int 5, .int 2, .int 1, .ref a3])), (a1, .inr (5, [.ref cb, .int 81, .int 0, .ref a4, .int 14, .ref a2, .int 4, .ref a5, .int 1, .int 1, .ref a6, .int 6, .int 0, .int 1, .int 0])), (a2, .inl (cy 1, 2048, .inl f0))] U.heap ∧ va_K (dC, dI) vwCl (TYS cy) U ∧ va_D (fun _ => True) [(a0, .inr (6, [.int 0, .int 0, .ref a1, .int 71, .int 0, .int 5, .int 2, .int 1, .ref a3])), (a1, .inr (5, [.ref cb, .int 81, .int 0, .ref a4, .int 14, .ref a2, .int 4, .ref a5, .int 1, .int 1, .ref a6, .int 6, .int 0, .int 1, .int 0])), (a2, .inl (cy 1, 2048, .inl f0))] ∧ NK U ∧ SK cb (va_A [(a0, .inr (6, [.int 0, .int 0, .ref a1, .int 71, .int 0, .int 5, .int 2, .int 1, .ref a3])), (a1, .inr (5, [.ref cb, .int 81, .int 0, .ref a4, .int 14, .ref a2, .int 4, .ref a5, .int 1, .int 1, .ref a6, .int 6, .int 0, .int 1, .int 0])), (a2, .inl (cy 1, 2048, .inl f0))] sz) U U.heap)) (va_Qv (fun u : (Nat → Int32) => True) (fun u t => match u with | (u0) => va_P (dC, dI) vwCl [(a0, .inr (6, [.int 0, .int 0, .ref a1, .int 72, .int 0, .int 5, .int 2, .int 1, .ref a3])), (a1, .inr (5, [.ref cb, .int 81, .int 0, .ref a4, .int 14, .ref a2, .int 5, .ref a5, .int 1, .int 1, .ref a6, .int 6, .int 0, .int 1, .int 0])), (a2, .inl (cy 1, 2048, .inl u0))] t.heap ∧ va_K (dC, dI) vwCl (TYS cy) t ∧ va_D (va_A [(a0, .inr (6, [.int 0, .int 0, .ref a1, .int 71, .int 0, .int 5, .int 2, .int 1, .ref a3])), (a1, .inr (5, [.ref cb, .int 81, .int 0, .ref a4, .int 14, .ref a2, .int 4, .ref a5, .int 1, .int 1, .ref a6, .int 6, .int 0, .int 1, .int 0])), (a2, .inl (cy 1, 2048, .inl f0))] sz) [(a0, .inr (6, [.int 0, .int 0, .ref a1, .int 72, .int 0, .int 5, .int 2, .int 1, .ref a3])), (a1, .inr (5, [.ref cb, .int 81, .int 0, .ref a4, .int 14, .ref a2, .int 5, .ref a5, .int 1, .int 1, .ref a6, .int 6, .int 0, .int 1, .int 0])), (a2, .inl (cy 1, 2048, .inl u0))]) (va_A [(a0, .inr (6, [.int 0, .int 0, .ref a1, .int 71, .int 0, .int 5, .int 2, .int 1, .ref a3])), (a1, .inr (5, [.ref cb, .int 81, .int 0, .ref a4, .int 14, .ref a2, .int 4, .ref a5, .int 1, .int 1, .ref a6, .int 6, .int 0, .int 1, .int 0])), (a2, .inl (cy 1, 2048, .inl f0))] sz)) 0 0 (va_A [(a0, .inr (6, [.int 0, .int 0, .ref a1, .int 71, .int 0, .int 5, .int 2, .int 1, .ref a3])), (a1, .inr (5, [.ref cb, .int 81, .int 0, .ref a4, .int 14, .ref a2, .int 4, .ref a5, .int 1, .int 1, .ref a6, .int 6, .int 0, .int 1, .int 0])), (a2, .inl (cy 1, 2048, .inl f0))] sz) := by
  refine Met.ofW (cc := cX6_readInstruction) (maxL := 4) (ret := none) (by decide) rfl ?_
  intro p e s m args below meth c s₁ B hml hv
  obtain ⟨rfl, hsz, hP, hK, hD0, hN, hSK⟩ := hv
  have hx := B.exec
  have hb := B.bytes
  have hr := B.returns
  have hts := atoms_spec (ws := wsX6_readInstruction) B.pre
  have hown : s.vm.findClass RX6 = some m.cls := findClass_of_methodNamed B.named
  have hlocks := B.notSynchronized
  subst hsz
  have hD := hD0.self (sz := s.heap.size)
  generalize hAe : va_A [(a0, .inr (6, [.int 0, .int 0, .ref a1, .int 71, .int 0, .int 5, .int 2, .int 1, .ref a3])), (a1, .inr (5, [.ref cb, .int 81, .int 0, .ref a4, .int 14, .ref a2, .int 4, .ref a5, .int 1, .int 1, .ref a6, .int 6, .int 0, .int 1, .int 0])), (a2, .inl (cy 1, 2048, .inl f0))] s.heap.size = A at hD hSK ⊢
  have hA : ∀ q : Nat, s.heap.size ≤ q → A q := fun q h => by rw [← hAe]; exact Or.inr h
  have hS : va_S A s.heap s.heap [] := va_S.rf
  have hP : va_P (dC, dI) vwCl [(a0, .inr (6, [.int 0, .int 0, .ref a1, .int 71, .int 0, .int 5, .int 2, .int 1, .ref a3])), (a1, .inr (5, [.ref cb, .int 81, .int 0, .ref a4, .int 14, .ref a2, .int 4, .ref a5, .int 1, .int 1, .ref a6, .int 6, .int 0, .int 1, .int 0])), (a2, .inl (cy 1, 2048, .inl f0))] s.heap := hP
  have hl := lv_entry ([.ref a0]) (n := 4) (Nat.le_of_ble_eq_true rfl)
  rw [lg_entry_eq]
  generalize (lg_sl ([.ref a0]) ++ List.replicate (4 - (lg_sl ([.ref a0])).length) Slot.unset).toArray = ls at hl ⊢
  replace hl : lv_has ls 4 [(0, .ref a0)] := hl
  refine lv_aload_n hx hb dX6_readInstruction_0 rfl (lv_at hl 0 rfl) ?_
  refine va_get (D := (dC, dI)) (ci := 6) (v := .ref a1) (C := RX6) (T := TX6) (N := 9) hx hb hts iw_X6_readInstruction_X6 hown hK hP 0 rfl rfl 2 (by decide) (hts _ m_X6_readInstruction_1) (fun _ h9 => h9) rfl dX6_readInstruction_1 ?_
  refine lv_aload_n hx hb dX6_readInstruction_4 rfl (lv_at hl 0 rfl) ?_
  refine va_get (D := (dC, dI)) (ci := 6) (v := .int 71) (C := RX6) (T := TX6) (N := 9) hx hb hts iw_X6_readInstruction_X6 hown hK hP 0 rfl rfl 3 (by decide) (hts _ m_X6_readInstruction_2) (fun _ h9 => h9) rfl dX6_readInstruction_5 ?_
  have hPc := hP.sub (ws' := [(a1, .inr (5, [.ref cb, .int 81, .int 0, .ref a4, .int 14, .ref a2, .int 4, .ref a5, .int 1, .int 1, .ref a6, .int 6, .int 0, .int 1, .int 0])), (a2, .inl (cy 1, 2048, .inl f0))]) [1, 2] rfl
  have hDc := hD.sub (ws' := [(a1, .inr (5, [.ref cb, .int 81, .int 0, .ref a4, .int 14, .ref a2, .int 4, .ref a5, .int 1, .int 1, .ref a6, .int 6, .int 0, .int 1, .int 0])), (a2, .inl (cy 1, 2048, .inl f0))]) [1, 2] (by decide) rfl
  have hFc := va_free (wc := [(a1, .inr (5, [.ref cb, .int 81, .int 0, .ref a4, .int 14, .ref a2, .int 4, .ref a5, .int 1, .int 1, .ref a6, .int 6, .int 0, .int 1, .int 0])), (a2, .inl (cy 1, 2048, .inl f0))]) hD hS hA [1, 2] rfl
  refine va_callv (va_runV (As := [.int 71]) (rest := []) ⟨hx, hb, hml, hown, hts⟩ (cc_233_X5_addStart l dC dI cy s.heap.size cb a1 a2 a4 a5 a6 f0) (cwV 1 hts gX6_readInstruction_X5_addStart rfl rfl rfl (by decide +kernel) ⟨Nat.le_of_ble_eq_true rfl, Nat.le_of_ble_eq_true rfl⟩) ⟨fun a U g mk q => by obtain ⟨q0, q1, qP, qK, qD, qN, qS⟩ := q; exact ⟨q0, q1, qP, va_K.moved (u := U) (U := U.calling g mk a) (Vm.Alike.refl U.vm) qK, qD, qN.same rfl, SK.moved (u := U) (U := U.calling g mk a) (Vm.Alike.refl U.vm) qS⟩, va_recv hK hPc (ci := 5) (q0 := 0) rfl rfl, fun U hU hW => ⟨rfl, by rw [hU], by rw [hU]; exact hPc, va_K.moved hW.alike hK, hDc.weaken (fun _ _ _ _ => trivial), hN.warm hW, by rw [hU]; exact ((hSK.kept hS.2.1).narrow hFc).moved hW.alike⟩⟩ rfl rfl hl.1 rfl (lv_room (Nat.le_of_ble_eq_true rfl)) dX6_readInstruction_8 ⟨Nat.le_of_ble_eq_true rfl, Nat.le_of_ble_eq_true rfl⟩) hS (fun q _ h => hFc q h) hFc (fun u t H_1 locs ht hvm hw hB hz1 hk1 hS2 => ?_)
  obtain ⟨g_2, rfl⟩ : ∃ z, z = u := ⟨_, rfl⟩
  obtain ⟨hP1, hK1, hD1⟩ := hB
  rw [ht] at hP1
  obtain ⟨hP2, hD2⟩ := va_join (wr := [(a0, .inr (6, [.int 0, .int 0, .ref a1, .int 71, .int 0, .int 5, .int 2, .int 1, .ref a3]))]) (w1 := [(a1, .inr (5, [.ref cb, .int 81, .int 0, .ref a4, .int 14, .ref a2, .int 5, .ref a5, .int 1, .int 1, .ref a6, .int 6, .int 0, .int 1, .int 0])), (a2, .inl (cy 1, 2048, .inl g_2))]) hP hD [1, 2] [0] rfl rfl (by decide) (by decide) hk1 hFc hP1 hD1
  replace hP : va_P (dC, dI) vwCl [(a0, .inr (6, [.int 0, .int 0, .ref a1, .int 71, .int 0, .int 5, .int 2, .int 1, .ref a3])), (a1, .inr (5, [.ref cb, .int 81, .int 0, .ref a4, .int 14, .ref a2, .int 5, .ref a5, .int 1, .int 1, .ref a6, .int 6, .int 0, .int 1, .int 0])), (a2, .inl (cy 1, 2048, .inl g_2))] H_1 := hP2
  replace hD : va_D A [(a0, .inr (6, [.int 0, .int 0, .ref a1, .int 71, .int 0, .int 5, .int 2, .int 1, .ref a3])), (a1, .inr (5, [.ref cb, .int 81, .int 0, .ref a4, .int 14, .ref a2, .int 5, .ref a5, .int 1, .int 1, .ref a6, .int 6, .int 0, .int 1, .int 0])), (a2, .inl (cy 1, 2048, .inl g_2))] := hD2
  replace hS := hS2
  clear hP2 hD2 hS2
  clear hPc hDc hFc hP1 hD1 hK1 hk1 hz1 hvm ht
  refine W.widen (k := 0) (n := 0) (Nat.le_of_ble_eq_true rfl) (Nat.le_of_ble_eq_true rfl) ?_
  refine lv_aload_n hx hb dX6_readInstruction_11 rfl (lv_at hl 0 rfl) ?_
  refine va_get (D := (dC, dI)) (ci := 6) (v := .int 71) (C := RX6) (T := TX6) (N := 9) hx hb hts iw_X6_readInstruction_X6 hown hK hP 0 rfl rfl 3 (by decide) (hts _ m_X6_readInstruction_2) (fun _ h9 => h9) rfl dX6_readInstruction_12 ?_
  refine lv_istore_n (lv' := [(1, .int 71), (0, .ref a0)]) hx hb dX6_readInstruction_15 rfl hl (by decide) rfl (fun ls hl2 => ?_)
  replace hl := hl2
  clear hl2
  refine lv_aload_n hx hb dX6_readInstruction_16 rfl (lv_at hl 1 rfl) ?_
  have hPc := hP.sub (ws' := [(a0, .inr (6, [.int 0, .int 0, .ref a1, .int 71, .int 0, .int 5, .int 2, .int 1, .ref a3])), (a1, .inr (5, [.ref cb, .int 81, .int 0, .ref a4, .int 14, .ref a2, .int 5, .ref a5, .int 1, .int 1, .ref a6, .int 6, .int 0, .int 1, .int 0]))]) [0, 1] rfl
  have hDc := hD.sub (ws' := [(a0, .inr (6, [.int 0, .int 0, .ref a1, .int 71, .int 0, .int 5, .int 2, .int 1, .ref a3])), (a1, .inr (5, [.ref cb, .int 81, .int 0, .ref a4, .int 14, .ref a2, .int 5, .ref a5, .int 1, .int 1, .ref a6, .int 6, .int 0, .int 1, .int 0]))]) [0, 1] (by decide) rfl
  have hFc := va_free (wc := [(a0, .inr (6, [.int 0, .int 0, .ref a1, .int 71, .int 0, .int 5, .int 2, .int 1, .ref a3])), (a1, .inr (5, [.ref cb, .int 81, .int 0, .ref a4, .int 14, .ref a2, .int 5, .ref a5, .int 1, .int 1, .ref a6, .int 6, .int 0, .int 1, .int 0]))]) hD hS hA [0, 1] rfl
  refine va_calli (va_runV (As := []) (rest := []) ⟨hx, hb, hml, hown, hts⟩ (cc_234_X6_readByte l dC dI cy H_1.size cb a0 a1 a3 a4 a2 a5 a6) (cwV 0 hts gX6_readInstruction_X6_readByte rfl rfl rfl (by decide +kernel) ⟨Nat.le_of_ble_eq_true rfl, Nat.le_of_ble_eq_true rfl⟩) ⟨fun a U g mk q => by obtain ⟨q0, q1, qP, qK, qD, qN, qS⟩ := q; exact ⟨q0, q1, qP, va_K.moved (u := U) (U := U.calling g mk a) (Vm.Alike.refl U.vm) qK, qD, qN.same rfl, SK.moved (u := U) (U := U.calling g mk a) (Vm.Alike.refl U.vm) qS⟩, va_recv hK hPc (ci := 6) (q0 := 0) rfl rfl, fun U hU hW => ⟨rfl, by rw [hU], by rw [hU]; exact hPc, va_K.moved hW.alike hK, hDc.weaken (fun _ _ _ _ => trivial), hN.warm hW, by rw [hU]; exact ((hSK.kept hS.2.1).narrow hFc).moved hW.alike⟩⟩ rfl rfl hl.1 rfl (lv_room (Nat.le_of_ble_eq_true rfl)) dX6_readInstruction_17 ⟨Nat.le_of_ble_eq_true rfl, Nat.le_of_ble_eq_true rfl⟩) hS (fun q _ h => hFc q h) hFc (fun r_3 u t H_4 locs ht hvm hw hB hz1 hk1 hS2 => ?_)
  obtain ⟨hP1, hK1, hD1⟩ := hB
  rw [ht] at hP1
  obtain rfl := hw
  obtain ⟨hP2, hD2⟩ := va_join (wr := [(a2, .inl (cy 1, 2048, .inl g_2))]) (w1 := [(a0, .inr (6, [.int 0, .int 0, .ref a1, .int 72, .int 0, .int 5, .int 2, .int 1, .ref a3])), (a1, .inr (5, [.ref cb, .int 81, .int 0, .ref a4, .int 14, .ref a2, .int 5, .ref a5, .int 1, .int 1, .ref a6, .int 6, .int 0, .int 1, .int 0]))]) hP hD [0, 1] [2] rfl rfl (by decide) (by decide) hk1 hFc hP1 hD1
  replace hP : va_P (dC, dI) vwCl [(a2, .inl (cy 1, 2048, .inl g_2)), (a0, .inr (6, [.int 0, .int 0, .ref a1, .int 72, .int 0, .int 5, .int 2, .int 1, .ref a3])), (a1, .inr (5, [.ref cb, .int 81, .int 0, .ref a4, .int 14, .ref a2, .int 5, .ref a5, .int 1, .int 1, .ref a6, .int 6, .int 0, .int 1, .int 0]))] H_4 := hP2
  replace hD : va_D A [(a2, .inl (cy 1, 2048, .inl g_2)), (a0, .inr (6, [.int 0, .int 0, .ref a1, .int 72, .int 0, .int 5, .int 2, .int 1, .ref a3])), (a1, .inr (5, [.ref cb, .int 81, .int 0, .ref a4, .int 14, .ref a2, .int 5, .ref a5, .int 1, .int 1, .ref a6, .int 6, .int 0, .int 1, .int 0]))] := hD2
  replace hS := hS2
  clear hP2 hD2 hS2
  clear hPc hDc hFc hP1 hD1 hK1 hk1 hz1 hvm ht
  refine W.widen (k := 0) (n := 0) (Nat.le_of_ble_eq_true rfl) (Nat.le_of_ble_eq_true rfl) ?_
  refine lv_istore_n (lv' := [(2, .int 35), (1, .int 71), (0, .ref a0)]) hx hb dX6_readInstruction_20 rfl hl (by decide) rfl (fun ls hl2 => ?_)
  replace hl := hl2
  clear hl2
  refine lv_iload_n hx hb dX6_readInstruction_21 rfl (lv_at hl 0 rfl) ?_
  refine lv_bipush (v := 59) hx hb dX6_readInstruction_22 (by decide) ?_
  refine lv_icmp_le (tgt := 36) hx hb dX6_readInstruction_24 (by decide) (fun _ => ?_) (fun h => absurd (by decide) h)
  refine lv_iload_n hx hb dX6_readInstruction_36 rfl (lv_at hl 0 rfl) ?_
  refine lv_iconst (v := 2) hx hb dX6_readInstruction_37 (by decide) ?_
  refine lv_icmp_lt (tgt := 79) hx hb dX6_readInstruction_38 (by decide) (fun h => absurd h (by decide)) (fun _ => ?_)
  refine lv_iload_n hx hb dX6_readInstruction_41 rfl (lv_at hl 0 rfl) ?_
  refine lv_iconst (v := 4) hx hb dX6_readInstruction_42 (by decide) ?_
  refine lv_icmp_gt (tgt := 79) hx hb dX6_readInstruction_43 (by decide) (fun _ => ?_) (fun h => absurd (by decide) h)
  refine lv_iload_n hx hb dX6_readInstruction_79 rfl (lv_at hl 0 rfl) ?_
  refine lv_iconst (v := 5) hx hb dX6_readInstruction_80 (by decide) ?_
  refine lv_icmp_lt (tgt := 135) hx hb dX6_readInstruction_81 (by decide) (fun h => absurd h (by decide)) (fun _ => ?_)
  refine lv_iload_n hx hb dX6_readInstruction_84 rfl (lv_at hl 0 rfl) ?_
  refine lv_bipush (v := 10) hx hb dX6_readInstruction_85 (by decide) ?_
  refine lv_icmp_gt (tgt := 135) hx hb dX6_readInstruction_87 (by decide) (fun _ => ?_) (fun h => absurd (by decide) h)
  refine lv_iload_n hx hb dX6_readInstruction_135 rfl (lv_at hl 0 rfl) ?_
  refine lv_bipush (v := 11) hx hb dX6_readInstruction_136 (by decide) ?_
  refine lv_icmp_lt (tgt := 161) hx hb dX6_readInstruction_138 (by decide) (fun h => absurd h (by decide)) (fun _ => ?_)
  refine lv_iload_n hx hb dX6_readInstruction_141 rfl (lv_at hl 0 rfl) ?_
  refine lv_bipush (v := 15) hx hb dX6_readInstruction_142 (by decide) ?_
  refine lv_icmp_gt (tgt := 161) hx hb dX6_readInstruction_144 (by decide) (fun _ => ?_) (fun h => absurd (by decide) h)
  refine lv_iload_n hx hb dX6_readInstruction_161 rfl (lv_at hl 0 rfl) ?_
  refine lv_bipush (v := 16) hx hb dX6_readInstruction_162 (by decide) ?_
  refine lv_icmp_eq (tgt := 173) hx hb dX6_readInstruction_164 (by decide) (fun h => absurd h (by decide)) (fun _ => ?_)
  refine lv_iload_n hx hb dX6_readInstruction_167 rfl (lv_at hl 0 rfl) ?_
  refine lv_bipush (v := 17) hx hb dX6_readInstruction_168 (by decide) ?_
  refine lv_icmp_ne (tgt := 196) hx hb dX6_readInstruction_170 (by decide) (fun _ => ?_) (fun h => absurd h (by decide))
  refine lv_iload_n hx hb dX6_readInstruction_196 rfl (lv_at hl 0 rfl) ?_
  refine lv_bipush (v := 21) hx hb dX6_readInstruction_197 (by decide) ?_
  refine lv_icmp_eq (tgt := 220) hx hb dX6_readInstruction_199 (by decide) (fun h => absurd h (by decide)) (fun _ => ?_)
  refine lv_iload_n hx hb dX6_readInstruction_202 rfl (lv_at hl 0 rfl) ?_
  refine lv_bipush (v := 22) hx hb dX6_readInstruction_203 (by decide) ?_
  refine lv_icmp_eq (tgt := 220) hx hb dX6_readInstruction_205 (by decide) (fun h => absurd h (by decide)) (fun _ => ?_)
  refine lv_iload_n hx hb dX6_readInstruction_208 rfl (lv_at hl 0 rfl) ?_
  refine lv_bipush (v := 47) hx hb dX6_readInstruction_209 (by decide) ?_
  refine lv_icmp_lt (tgt := 228) hx hb dX6_readInstruction_211 (by decide) (fun _ => ?_) (fun h => absurd (by decide) h)
  refine lv_iload_n hx hb dX6_readInstruction_228 rfl (lv_at hl 0 rfl) ?_
  refine lv_bipush (v := 23) hx hb dX6_readInstruction_229 (by decide) ?_
  refine lv_icmp_ne (tgt := 259) hx hb dX6_readInstruction_231 (by decide) (fun _ => ?_) (fun h => absurd h (by decide))
  refine lv_iload_n hx hb dX6_readInstruction_259 rfl (lv_at hl 0 rfl) ?_
  refine lv_bipush (v := 52) hx hb dX6_readInstruction_260 (by decide) ?_
  refine lv_icmp_lt (tgt := 299) hx hb dX6_readInstruction_262 (by decide) (fun _ => ?_) (fun h => absurd (by decide) h)
  have hP := hP.sub (ws' := [(a0, .inr (6, [.int 0, .int 0, .ref a1, .int 72, .int 0, .int 5, .int 2, .int 1, .ref a3])), (a1, .inr (5, [.ref cb, .int 81, .int 0, .ref a4, .int 14, .ref a2, .int 5, .ref a5, .int 1, .int 1, .ref a6, .int 6, .int 0, .int 1, .int 0])), (a2, .inl (cy 1, 2048, .inl g_2))]) [1, 2, 0] rfl
  have hD := hD.sub (ws' := [(a0, .inr (6, [.int 0, .int 0, .ref a1, .int 72, .int 0, .int 5, .int 2, .int 1, .ref a3])), (a1, .inr (5, [.ref cb, .int 81, .int 0, .ref a4, .int 14, .ref a2, .int 5, .ref a5, .int 1, .int 1, .ref a6, .int 6, .int 0, .int 1, .int 0])), (a2, .inl (cy 1, 2048, .inl g_2))]) [1, 2, 0] (by decide) rfl
  exact W.vret hx hb hr (fun t ht hW => ⟨⟨(g_2), rfl, trivial, by rw [ht]; exact hP, va_K.moved hW.alike hK, hD⟩, hS.F ht⟩) hS.2.2 dX6_readInstruction_299

set_option maxHeartbeats 4000000 in
set_option maxRecDepth 100000 in
theorem cc_235_X5_setFunction (l : Launch) (dC : Nat → ClassId) (dI : Nat → Nat → Nat) (cy : Nat → ClassId) (sz : Nat) (cb : Nat) (a0 : Nat) (a1 : Nat) (a2 : Nat) (a3 : Nat) (a4 : Nat) (f0 : Nat → Int32)  : Met l yX5_setFunction wsX5_setFunction ({ frames := 0, cells := 0, slots := 0, locals := 0 }) (va_Pc [.ref a0, .int 5, .int 7, .int 0] (fun U => U.heap.size = sz ∧ va_P (dC, dI) vwCl [(a0, .inr (5, [.ref cb, .int 81, .int 0, .ref a2, .int 14, .ref a3, .int 5, .ref a4, .int 1, .int 1, .ref a1, .int 6, .int 0, .int 1, .int 0])), (a1, .inl (cy 1, 864, .inl f0))] U.heap ∧ va_K (dC, dI) vwCl (TYS cy) U ∧ va_D (fun _ => True) [(a0, .inr (5, [.ref cb, .int 81, .int 0, .ref a2, .int 14, .ref a3, .int 5, .ref a4, .int 1, .int 1, .ref a1, .int 6, .int 0, .int 1, .int 0])), (a1, .inl (cy 1, 864, .inl f0))] ∧ NK U ∧ SK cb (va_A [(a0, .inr (5, [.ref cb, .int 81, .int 0, .ref a2, .int 14, .ref a3, .int 5, .ref a4, .int 1, .int 1, .ref a1, .int 6, .int 0, .int 1, .int 0])), (a1, .inl (cy 1, 864, .inl f0))] sz) U U.heap)) (va_Qv (fun u : (Nat → Int32) => True) (fun u t => match u with | (u0) => va_P (dC, dI) vwCl [(a0, .inr (5, [.ref cb, .int 81, .int 0, .ref a2, .int 14, .ref a3, .int 5, .ref a4, .int 1, .int 1, .ref a1, .int 6, .int 0, .int 1, .int 0])), (a1, .inl (cy 1, 864, .inl u0))] t.heap ∧ va_K (dC, dI) vwCl (TYS cy) t ∧ va_D (va_A [(a0, .inr (5, [.ref cb, .int 81, .int 0, .ref a2, .int 14, .ref a3, .int 5, .ref a4, .int 1, .int 1, .ref a1, .int 6, .int 0, .int 1, .int 0])), (a1, .inl (cy 1, 864, .inl f0))] sz) [(a0, .inr (5, [.ref cb, .int 81, .int 0, .ref a2, .int 14, .ref a3, .int 5, .ref a4, .int 1, .int 1, .ref a1, .int 6, .int 0, .int 1, .int 0])), (a1, .inl (cy 1, 864, .inl u0))]) (va_A [(a0, .inr (5, [.ref cb, .int 81, .int 0, .ref a2, .int 14, .ref a3, .int 5, .ref a4, .int 1, .int 1, .ref a1, .int 6, .int 0, .int 1, .int 0])), (a1, .inl (cy 1, 864, .inl f0))] sz)) 0 0 (va_A [(a0, .inr (5, [.ref cb, .int 81, .int 0, .ref a2, .int 14, .ref a3, .int 5, .ref a4, .int 1, .int 1, .ref a1, .int 6, .int 0, .int 1, .int 0])), (a1, .inl (cy 1, 864, .inl f0))] sz) := by
  refine Met.ofW (cc := cX5_setFunction) (maxL := 4) (ret := none) (by decide) rfl ?_
  intro p e s m args below meth c s₁ B hml hv
  obtain ⟨rfl, hsz, hP, hK, hD0, hN, hSK⟩ := hv
  have hx := B.exec
  have hb := B.bytes
  have hr := B.returns
  have hts := atoms_spec (ws := wsX5_setFunction) B.pre
  have hown : s.vm.findClass RX5 = some m.cls := findClass_of_methodNamed B.named
  have hlocks := B.notSynchronized
  subst hsz
  have hD := hD0.self (sz := s.heap.size)
  generalize hAe : va_A [(a0, .inr (5, [.ref cb, .int 81, .int 0, .ref a2, .int 14, .ref a3, .int 5, .ref a4, .int 1, .int 1, .ref a1, .int 6, .int 0, .int 1, .int 0])), (a1, .inl (cy 1, 864, .inl f0))] s.heap.size = A at hD hSK ⊢
  have hA : ∀ q : Nat, s.heap.size ≤ q → A q := fun q h => by rw [← hAe]; exact Or.inr h
  have hS : va_S A s.heap s.heap [] := va_S.rf
  have hP : va_P (dC, dI) vwCl [(a0, .inr (5, [.ref cb, .int 81, .int 0, .ref a2, .int 14, .ref a3, .int 5, .ref a4, .int 1, .int 1, .ref a1, .int 6, .int 0, .int 1, .int 0])), (a1, .inl (cy 1, 864, .inl f0))] s.heap := hP
  have hl := lv_entry ([.ref a0, .int 5, .int 7, .int 0]) (n := 4) (Nat.le_of_ble_eq_true rfl)
  rw [lg_entry_eq]
  generalize (lg_sl ([.ref a0, .int 5, .int 7, .int 0]) ++ List.replicate (4 - (lg_sl ([.ref a0, .int 5, .int 7, .int 0])).length) Slot.unset).toArray = ls at hl ⊢
  replace hl : lv_has ls 4 [(0, .ref a0), (1, .int 5), (2, .int 7), (3, .int 0)] := hl
  refine lv_iload_n hx hb dX5_setFunction_0 rfl (lv_at hl 1 rfl) ?_
  refine lv_if_lt (tgt := 22) hx hb dX5_setFunction_1 (by decide) (fun h => absurd h (by decide)) (fun _ => ?_)
  refine lv_iload_n hx hb dX5_setFunction_4 rfl (lv_at hl 1 rfl) ?_
  refine lv_bipush (v := 96) hx hb dX5_setFunction_5 (by decide) ?_
  refine lv_icmp_ge (tgt := 22) hx hb dX5_setFunction_7 (by decide) (fun h => absurd h (by decide)) (fun _ => ?_)
  refine lv_aload_n hx hb dX5_setFunction_10 rfl (lv_at hl 0 rfl) ?_
  refine va_get (D := (dC, dI)) (ci := 5) (v := .ref a1) (C := RX5) (T := TX5) (N := 15) hx hb hts iw_X5_setFunction_X5 hown hK hP 0 rfl rfl 10 (by decide) (hts _ m_X5_setFunction_1) (fun _ h9 => h9) rfl dX5_setFunction_11 ?_
  refine lv_iload_n hx hb dX5_setFunction_14 rfl (lv_at hl 1 rfl) ?_
  refine lv_bipush (v := 9) hx hb dX5_setFunction_15 (by decide) ?_
  refine lv_imul hx hb dX5_setFunction_17 ?_
  refine lv_topi (fun z_1 ez_1 => ?_)
  obtain rfl : z_1 = 45 := ez_1.trans (by decide)
  clear ez_1
  refine lv_iload_n hx hb dX5_setFunction_18 rfl (lv_at hl 2 rfl) ?_
  refine lv_iadd hx hb dX5_setFunction_19 ?_
  refine lv_topi (fun z_2 ez_2 => ?_)
  obtain rfl : z_2 = 52 := ez_2.trans (by decide)
  clear ez_2
  refine lv_iload_n hx hb dX5_setFunction_20 rfl (lv_at hl 3 rfl) ?_
  refine va_iast hx hb hK hP hD hS 1 1 rfl rfl (by unfold vp_in; decide) dX5_setFunction_21 (fun H_4 locs hP2 hD2 hS2 => ?_)
  replace hP : va_P (dC, dI) vwCl [(a0, .inr (5, [.ref cb, .int 81, .int 0, .ref a2, .int 14, .ref a3, .int 5, .ref a4, .int 1, .int 1, .ref a1, .int 6, .int 0, .int 1, .int 0])), (a1, .inl (cy 1, 864, .inl (upd f0 52 0)))] H_4 := hP2
  replace hD : va_D A [(a0, .inr (5, [.ref cb, .int 81, .int 0, .ref a2, .int 14, .ref a3, .int 5, .ref a4, .int 1, .int 1, .ref a1, .int 6, .int 0, .int 1, .int 0])), (a1, .inl (cy 1, 864, .inl (upd f0 52 0)))] := hD2
  replace hS := hS2
  clear hP2 hD2 hS2
  obtain ⟨g_3, eg_3⟩ : ∃ z, upd f0 52 0 = z := ⟨_, rfl⟩
  rw [eg_3] at hP hD
  exact W.vret hx hb hr (fun t ht hW => ⟨⟨(g_3), rfl, trivial, by rw [ht]; exact hP, va_K.moved hW.alike hK, hD⟩, hS.F ht⟩) hS.2.2 dX5_setFunction_22

set_option maxHeartbeats 4000000 in
set_option maxRecDepth 100000 in
theorem cc_236_X5_setFunction (l : Launch) (dC : Nat → ClassId) (dI : Nat → Nat → Nat) (cy : Nat → ClassId) (sz : Nat) (cb : Nat) (a0 : Nat) (a1 : Nat) (a2 : Nat) (a3 : Nat) (a4 : Nat) (f0 : Nat → Int32)  : Met l yX5_setFunction wsX5_setFunction ({ frames := 0, cells := 0, slots := 0, locals := 0 }) (va_Pc [.ref a0, .int 5, .int 8, .int 5] (fun U => U.heap.size = sz ∧ va_P (dC, dI) vwCl [(a0, .inr (5, [.ref cb, .int 81, .int 0, .ref a2, .int 14, .ref a3, .int 5, .ref a4, .int 1, .int 1, .ref a1, .int 6, .int 0, .int 1, .int 0])), (a1, .inl (cy 1, 864, .inl f0))] U.heap ∧ va_K (dC, dI) vwCl (TYS cy) U ∧ va_D (fun _ => True) [(a0, .inr (5, [.ref cb, .int 81, .int 0, .ref a2, .int 14, .ref a3, .int 5, .ref a4, .int 1, .int 1, .ref a1, .int 6, .int 0, .int 1, .int 0])), (a1, .inl (cy 1, 864, .inl f0))] ∧ NK U ∧ SK cb (va_A [(a0, .inr (5, [.ref cb, .int 81, .int 0, .ref a2, .int 14, .ref a3, .int 5, .ref a4, .int 1, .int 1, .ref a1, .int 6, .int 0, .int 1, .int 0])), (a1, .inl (cy 1, 864, .inl f0))] sz) U U.heap)) (va_Qv (fun u : (Nat → Int32) => True) (fun u t => match u with | (u0) => va_P (dC, dI) vwCl [(a0, .inr (5, [.ref cb, .int 81, .int 0, .ref a2, .int 14, .ref a3, .int 5, .ref a4, .int 1, .int 1, .ref a1, .int 6, .int 0, .int 1, .int 0])), (a1, .inl (cy 1, 864, .inl u0))] t.heap ∧ va_K (dC, dI) vwCl (TYS cy) t ∧ va_D (va_A [(a0, .inr (5, [.ref cb, .int 81, .int 0, .ref a2, .int 14, .ref a3, .int 5, .ref a4, .int 1, .int 1, .ref a1, .int 6, .int 0, .int 1, .int 0])), (a1, .inl (cy 1, 864, .inl f0))] sz) [(a0, .inr (5, [.ref cb, .int 81, .int 0, .ref a2, .int 14, .ref a3, .int 5, .ref a4, .int 1, .int 1, .ref a1, .int 6, .int 0, .int 1, .int 0])), (a1, .inl (cy 1, 864, .inl u0))]) (va_A [(a0, .inr (5, [.ref cb, .int 81, .int 0, .ref a2, .int 14, .ref a3, .int 5, .ref a4, .int 1, .int 1, .ref a1, .int 6, .int 0, .int 1, .int 0])), (a1, .inl (cy 1, 864, .inl f0))] sz)) 0 0 (va_A [(a0, .inr (5, [.ref cb, .int 81, .int 0, .ref a2, .int 14, .ref a3, .int 5, .ref a4, .int 1, .int 1, .ref a1, .int 6, .int 0, .int 1, .int 0])), (a1, .inl (cy 1, 864, .inl f0))] sz) := by
  refine Met.ofW (cc := cX5_setFunction) (maxL := 4) (ret := none) (by decide) rfl ?_
  intro p e s m args below meth c s₁ B hml hv
  obtain ⟨rfl, hsz, hP, hK, hD0, hN, hSK⟩ := hv
  have hx := B.exec
  have hb := B.bytes
  have hr := B.returns
  have hts := atoms_spec (ws := wsX5_setFunction) B.pre
  have hown : s.vm.findClass RX5 = some m.cls := findClass_of_methodNamed B.named
  have hlocks := B.notSynchronized
  subst hsz
  have hD := hD0.self (sz := s.heap.size)
  generalize hAe : va_A [(a0, .inr (5, [.ref cb, .int 81, .int 0, .ref a2, .int 14, .ref a3, .int 5, .ref a4, .int 1, .int 1, .ref a1, .int 6, .int 0, .int 1, .int 0])), (a1, .inl (cy 1, 864, .inl f0))] s.heap.size = A at hD hSK ⊢
  have hA : ∀ q : Nat, s.heap.size ≤ q → A q := fun q h => by rw [← hAe]; exact Or.inr h
  have hS : va_S A s.heap s.heap [] := va_S.rf
  have hP : va_P (dC, dI) vwCl [(a0, .inr (5, [.ref cb, .int 81, .int 0, .ref a2, .int 14, .ref a3, .int 5, .ref a4, .int 1, .int 1, .ref a1, .int 6, .int 0, .int 1, .int 0])), (a1, .inl (cy 1, 864, .inl f0))] s.heap := hP
  have hl := lv_entry ([.ref a0, .int 5, .int 8, .int 5]) (n := 4) (Nat.le_of_ble_eq_true rfl)
  rw [lg_entry_eq]
  generalize (lg_sl ([.ref a0, .int 5, .int 8, .int 5]) ++ List.replicate (4 - (lg_sl ([.ref a0, .int 5, .int 8, .int 5])).length) Slot.unset).toArray = ls at hl ⊢
  replace hl : lv_has ls 4 [(0, .ref a0), (1, .int 5), (2, .int 8), (3, .int 5)] := hl
  refine lv_iload_n hx hb dX5_setFunction_0 rfl (lv_at hl 1 rfl) ?_
  refine lv_if_lt (tgt := 22) hx hb dX5_setFunction_1 (by decide) (fun h => absurd h (by decide)) (fun _ => ?_)
  refine lv_iload_n hx hb dX5_setFunction_4 rfl (lv_at hl 1 rfl) ?_
  refine lv_bipush (v := 96) hx hb dX5_setFunction_5 (by decide) ?_
  refine lv_icmp_ge (tgt := 22) hx hb dX5_setFunction_7 (by decide) (fun h => absurd h (by decide)) (fun _ => ?_)
  refine lv_aload_n hx hb dX5_setFunction_10 rfl (lv_at hl 0 rfl) ?_
  refine va_get (D := (dC, dI)) (ci := 5) (v := .ref a1) (C := RX5) (T := TX5) (N := 15) hx hb hts iw_X5_setFunction_X5 hown hK hP 0 rfl rfl 10 (by decide) (hts _ m_X5_setFunction_1) (fun _ h9 => h9) rfl dX5_setFunction_11 ?_
  refine lv_iload_n hx hb dX5_setFunction_14 rfl (lv_at hl 1 rfl) ?_
  refine lv_bipush (v := 9) hx hb dX5_setFunction_15 (by decide) ?_
  refine lv_imul hx hb dX5_setFunction_17 ?_
  refine lv_topi (fun z_1 ez_1 => ?_)
  obtain rfl : z_1 = 45 := ez_1.trans (by decide)
  clear ez_1
  refine lv_iload_n hx hb dX5_setFunction_18 rfl (lv_at hl 2 rfl) ?_
  refine lv_iadd hx hb dX5_setFunction_19 ?_
  refine lv_topi (fun z_2 ez_2 => ?_)
  obtain rfl : z_2 = 53 := ez_2.trans (by decide)
  clear ez_2
  refine lv_iload_n hx hb dX5_setFunction_20 rfl (lv_at hl 3 rfl) ?_
  refine va_iast hx hb hK hP hD hS 1 1 rfl rfl (by unfold vp_in; decide) dX5_setFunction_21 (fun H_4 locs hP2 hD2 hS2 => ?_)
  replace hP : va_P (dC, dI) vwCl [(a0, .inr (5, [.ref cb, .int 81, .int 0, .ref a2, .int 14, .ref a3, .int 5, .ref a4, .int 1, .int 1, .ref a1, .int 6, .int 0, .int 1, .int 0])), (a1, .inl (cy 1, 864, .inl (upd f0 53 5)))] H_4 := hP2
  replace hD : va_D A [(a0, .inr (5, [.ref cb, .int 81, .int 0, .ref a2, .int 14, .ref a3, .int 5, .ref a4, .int 1, .int 1, .ref a1, .int 6, .int 0, .int 1, .int 0])), (a1, .inl (cy 1, 864, .inl (upd f0 53 5)))] := hD2
  replace hS := hS2
  clear hP2 hD2 hS2
  obtain ⟨g_3, eg_3⟩ : ∃ z, upd f0 53 5 = z := ⟨_, rfl⟩
  rw [eg_3] at hP hD
  exact W.vret hx hb hr (fun t ht hW => ⟨⟨(g_3), rfl, trivial, by rw [ht]; exact hP, va_K.moved hW.alike hK, hD⟩, hS.F ht⟩) hS.2.2 dX5_setFunction_22

set_option maxHeartbeats 4000000 in
set_option maxRecDepth 100000 in
theorem cc_238_X6_readByte (l : Launch) (dC : Nat → ClassId) (dI : Nat → Nat → Nat) (cy : Nat → ClassId) (sz : Nat) (cb : Nat) (a0 : Nat) (a1 : Nat) (a2 : Nat) (a3 : Nat) (a4 : Nat) (a5 : Nat) (a6 : Nat)  : Met l yX6_readByte wsX6_readByte ({ frames := 0, cells := 0, slots := 0, locals := 0 }) (va_Pc [.ref a0] (fun U => U.heap.size = sz ∧ va_P (dC, dI) vwCl [(a0, .inr (6, [.int 0, .int 0, .ref a1, .int 72, .int 0, .int 5, .int 2, .int 1, .ref a2])), (a1, .inr (5, [.ref cb, .int 81, .int 0, .ref a3, .int 14, .ref a4, .int 5, .ref a5, .int 1, .int 1, .ref a6, .int 6, .int 0, .int 1, .int 0]))] U.heap ∧ va_K (dC, dI) vwCl (TYS cy) U ∧ va_D (fun _ => True) [(a0, .inr (6, [.int 0, .int 0, .ref a1, .int 72, .int 0, .int 5, .int 2, .int 1, .ref a2])), (a1, .inr (5, [.ref cb, .int 81, .int 0, .ref a3, .int 14, .ref a4, .int 5, .ref a5, .int 1, .int 1, .ref a6, .int 6, .int 0, .int 1, .int 0]))] ∧ NK U ∧ SK cb (va_A [(a0, .inr (6, [.int 0, .int 0, .ref a1, .int 72, .int 0, .int 5, .int 2, .int 1, .ref a2])), (a1, .inr (5, [.ref cb, .int 81, .int 0, .ref a3, .int 14, .ref a4, .int 5, .ref a5, .int 1, .int 1, .ref a6, .int 6, .int 0, .int 1, .int 0]))] sz) U U.heap)) (va_Qi (fun (r : Int32) (u : Unit) => r = 1) (fun u t => va_P (dC, dI) vwCl [(a0, .inr (6, [.int 0, .int 0, .ref a1, .int 73, .int 0, .int 5, .int 2, .int 1, .ref a2])), (a1, .inr (5, [.ref cb, .int 81, .int 0, .ref a3, .int 14, .ref a4, .int 5, .ref a5, .int 1, .int 1, .ref a6, .int 6, .int 0, .int 1, .int 0]))] t.heap ∧ va_K (dC, dI) vwCl (TYS cy) t ∧ va_D (va_A [(a0, .inr (6, [.int 0, .int 0, .ref a1, .int 72, .int 0, .int 5, .int 2, .int 1, .ref a2])), (a1, .inr (5, [.ref cb, .int 81, .int 0, .ref a3, .int 14, .ref a4, .int 5, .ref a5, .int 1, .int 1, .ref a6, .int 6, .int 0, .int 1, .int 0]))] sz) [(a0, .inr (6, [.int 0, .int 0, .ref a1, .int 73, .int 0, .int 5, .int 2, .int 1, .ref a2])), (a1, .inr (5, [.ref cb, .int 81, .int 0, .ref a3, .int 14, .ref a4, .int 5, .ref a5, .int 1, .int 1, .ref a6, .int 6, .int 0, .int 1, .int 0]))]) (va_A [(a0, .inr (6, [.int 0, .int 0, .ref a1, .int 72, .int 0, .int 5, .int 2, .int 1, .ref a2])), (a1, .inr (5, [.ref cb, .int 81, .int 0, .ref a3, .int 14, .ref a4, .int 5, .ref a5, .int 1, .int 1, .ref a6, .int 6, .int 0, .int 1, .int 0]))] sz)) 0 0 (va_A [(a0, .inr (6, [.int 0, .int 0, .ref a1, .int 72, .int 0, .int 5, .int 2, .int 1, .ref a2])), (a1, .inr (5, [.ref cb, .int 81, .int 0, .ref a3, .int 14, .ref a4, .int 5, .ref a5, .int 1, .int 1, .ref a6, .int 6, .int 0, .int 1, .int 0]))] sz) := by
  refine Met.ofW (cc := cX6_readByte) (maxL := 1) (ret := (some .int)) (by decide) rfl ?_
  intro p e s m args below meth c s₁ B hml hv
  obtain ⟨rfl, hsz, hP, hK, hD0, hN, hSK⟩ := hv
  have hx := B.exec
  have hb := B.bytes
  have hr := B.returns
  have hts := atoms_spec (ws := wsX6_readByte) B.pre
  have hown : s.vm.findClass RX6 = some m.cls := findClass_of_methodNamed B.named
  have hlocks := B.notSynchronized
  subst hsz
  have hD := hD0.self (sz := s.heap.size)
  generalize hAe : va_A [(a0, .inr (6, [.int 0, .int 0, .ref a1, .int 72, .int 0, .int 5, .int 2, .int 1, .ref a2])), (a1, .inr (5, [.ref cb, .int 81, .int 0, .ref a3, .int 14, .ref a4, .int 5, .ref a5, .int 1, .int 1, .ref a6, .int 6, .int 0, .int 1, .int 0]))] s.heap.size = A at hD hSK ⊢
  have hA : ∀ q : Nat, s.heap.size ≤ q → A q := fun q h => by rw [← hAe]; exact Or.inr h
  have hS : va_S A s.heap s.heap [] := va_S.rf
  have hP : va_P (dC, dI) vwCl [(a0, .inr (6, [.int 0, .int 0, .ref a1, .int 72, .int 0, .int 5, .int 2, .int 1, .ref a2])), (a1, .inr (5, [.ref cb, .int 81, .int 0, .ref a3, .int 14, .ref a4, .int 5, .ref a5, .int 1, .int 1, .ref a6, .int 6, .int 0, .int 1, .int 0]))] s.heap := hP
  have hl := lv_entry ([.ref a0]) (n := 1) (Nat.le_of_ble_eq_true rfl)
  rw [lg_entry_eq]
  generalize (lg_sl ([.ref a0]) ++ List.replicate (1 - (lg_sl ([.ref a0])).length) Slot.unset).toArray = ls at hl ⊢
  replace hl : lv_has ls 1 [(0, .ref a0)] := hl
  refine lv_aload_n hx hb dX6_readByte_0 rfl (lv_at hl 0 rfl) ?_
  refine va_get (D := (dC, dI)) (ci := 6) (v := .int 0) (C := RX6) (T := TX6) (N := 9) hx hb hts iw_X6_readByte_X6 hown hK hP 0 rfl rfl 1 (by decide) (hts _ m_X6_readByte_1) (fun _ h9 => h9) rfl dX6_readByte_1 ?_
  refine lv_if_eq (tgt := 9) hx hb dX6_readByte_4 (by decide) (fun _ => ?_) (fun h => absurd (by decide) h)
  refine lv_aload_n hx hb dX6_readByte_9 rfl (lv_at hl 0 rfl) ?_
  refine va_get (D := (dC, dI)) (ci := 6) (v := .int 72) (C := RX6) (T := TX6) (N := 9) hx hb hts iw_X6_readByte_X6 hown hK hP 0 rfl rfl 3 (by decide) (hts _ m_X6_readByte_2) (fun _ h9 => h9) rfl dX6_readByte_10 ?_
  refine lv_aload_n hx hb dX6_readByte_13 rfl (lv_at hl 0 rfl) ?_
  refine va_get (D := (dC, dI)) (ci := 6) (v := .ref a1) (C := RX6) (T := TX6) (N := 9) hx hb hts iw_X6_readByte_X6 hown hK hP 0 rfl rfl 2 (by decide) (hts _ m_X6_readByte_3) (fun _ h9 => h9) rfl dX6_readByte_14 ?_
  refine va_get (D := (dC, dI)) (ci := 5) (v := .int 81) (C := RX5) (T := TX5) (N := 15) hx hb hts iw_X6_readByte_X5 hown hK hP 1 rfl rfl 1 (by decide) (hts _ m_X6_readByte_4) (fun _ h9 => h9) rfl dX6_readByte_17 ?_
  refine lv_icmp_lt (tgt := 41) hx hb dX6_readByte_20 (by decide) (fun _ => ?_) (fun h => absurd (by decide) h)
  refine lv_aload_n hx hb dX6_readByte_41 rfl (lv_at hl 0 rfl) ?_
  refine va_get (D := (dC, dI)) (ci := 6) (v := .ref a1) (C := RX6) (T := TX6) (N := 9) hx hb hts iw_X6_readByte_X6 hown hK hP 0 rfl rfl 2 (by decide) (hts _ m_X6_readByte_3) (fun _ h9 => h9) rfl dX6_readByte_42 ?_
  refine va_get (D := (dC, dI)) (ci := 5) (v := .ref cb) (C := RX5) (T := TX5) (N := 15) hx hb hts iw_X6_readByte_X5 hown hK hP 1 rfl rfl 0 (by decide) (hts _ m_X6_readByte_6) (fun _ h9 => h9) rfl dX6_readByte_45 ?_
  refine lv_aload_n hx hb dX6_readByte_48 rfl (lv_at hl 0 rfl) ?_
  refine lv_dup hx hb dX6_readByte_49 rfl ?_
  refine va_get (D := (dC, dI)) (ci := 6) (v := .int 72) (C := RX6) (T := TX6) (N := 9) hx hb hts iw_X6_readByte_X6 hown hK hP 0 rfl rfl 3 (by decide) (hts _ m_X6_readByte_2) (fun _ h9 => h9) rfl dX6_readByte_50 ?_
  refine lv_dup_x1 hx hb dX6_readByte_53 rfl rfl ?_
  refine lv_iconst (v := 1) hx hb dX6_readByte_54 (by decide) ?_
  refine lv_iadd hx hb dX6_readByte_55 ?_
  refine lv_topi (fun z_1 ez_1 => ?_)
  obtain rfl : z_1 = 73 := ez_1.trans (by decide)
  clear ez_1
  refine va_put (D := (dC, dI)) (ci := 6) (v := .int 73) (ty := .int) (C := RX6) (T := TX6) (N := 9) hx hb hts iw_X6_readByte_X6 tyX6 tyX6_ok nmX6 hown hK hP hD hS 0 rfl rfl 3 (by decide) (hts _ m_X6_readByte_2) (fun _ h9 => h9) rfl (by decide +kernel) rfl rfl (Nat.le_of_ble_eq_true rfl) dX6_readByte_56 (fun H_2 locs hP2 hD2 hS2 => ?_)
  replace hP : va_P (dC, dI) vwCl [(a0, .inr (6, [.int 0, .int 0, .ref a1, .int 73, .int 0, .int 5, .int 2, .int 1, .ref a2])), (a1, .inr (5, [.ref cb, .int 81, .int 0, .ref a3, .int 14, .ref a4, .int 5, .ref a5, .int 1, .int 1, .ref a6, .int 6, .int 0, .int 1, .int 0]))] H_2 := hP2
  replace hD : va_D A [(a0, .inr (6, [.int 0, .int 0, .ref a1, .int 73, .int 0, .int 5, .int 2, .int 1, .ref a2])), (a1, .inr (5, [.ref cb, .int 81, .int 0, .ref a3, .int 14, .ref a4, .int 5, .ref a5, .int 1, .int 1, .ref a6, .int 6, .int 0, .int 1, .int 0]))] := hD2
  replace hS := hS2
  clear hP2 hD2 hS2
  refine va_tb (v := .int 1) hx hb hSK.2 hS (by unfold vp_in; decide) rfl dX6_readByte_59 ?_
  refine lv_sipush (v := 255) hx hb dX6_readByte_60 (by decide) ?_
  refine lv_iand hx hb dX6_readByte_63 ?_
  refine lv_topi (fun z_3 ez_3 => ?_)
  obtain rfl : z_3 = 1 := ez_3.trans (by decide)
  clear ez_3
  exact W.iret hx hb hr (fun t ht hW => ⟨⟨1, (), rfl, rfl, by rw [ht]; exact hP, va_K.moved hW.alike hK, hD⟩, hS.F ht⟩) hS.2.2 dX6_readByte_64

set_option maxHeartbeats 4000000 in
set_option maxRecDepth 100000 in
theorem cc_237_X6_readNumber (l : Launch) (dC : Nat → ClassId) (dI : Nat → Nat → Nat) (cy : Nat → ClassId) (sz : Nat) (cb : Nat) (a0 : Nat) (a1 : Nat) (a2 : Nat) (a3 : Nat) (a4 : Nat) (a5 : Nat) (a6 : Nat)  : Met l yX6_readNumber wsX6_readNumber ({ frames := 1, cells := 0, slots := 0, locals := 20 }) (va_Pc [.ref a0, .int 0, .int 7] (fun U => U.heap.size = sz ∧ va_P (dC, dI) vwCl [(a0, .inr (6, [.int 0, .int 0, .ref a1, .int 72, .int 0, .int 5, .int 2, .int 1, .ref a2])), (a1, .inr (5, [.ref cb, .int 81, .int 0, .ref a3, .int 14, .ref a4, .int 5, .ref a5, .int 1, .int 1, .ref a6, .int 6, .int 0, .int 1, .int 0]))] U.heap ∧ va_K (dC, dI) vwCl (TYS cy) U ∧ va_D (fun _ => True) [(a0, .inr (6, [.int 0, .int 0, .ref a1, .int 72, .int 0, .int 5, .int 2, .int 1, .ref a2])), (a1, .inr (5, [.ref cb, .int 81, .int 0, .ref a3, .int 14, .ref a4, .int 5, .ref a5, .int 1, .int 1, .ref a6, .int 6, .int 0, .int 1, .int 0]))] ∧ NK U ∧ SK cb (va_A [(a0, .inr (6, [.int 0, .int 0, .ref a1, .int 72, .int 0, .int 5, .int 2, .int 1, .ref a2])), (a1, .inr (5, [.ref cb, .int 81, .int 0, .ref a3, .int 14, .ref a4, .int 5, .ref a5, .int 1, .int 1, .ref a6, .int 6, .int 0, .int 1, .int 0]))] sz) U U.heap)) (va_Qi (fun (r : Int32) (u : Unit) => r = 1) (fun u t => va_P (dC, dI) vwCl [(a0, .inr (6, [.int 0, .int 0, .ref a1, .int 73, .int 0, .int 5, .int 2, .int 1, .ref a2])), (a1, .inr (5, [.ref cb, .int 81, .int 0, .ref a3, .int 14, .ref a4, .int 5, .ref a5, .int 1, .int 1, .ref a6, .int 6, .int 0, .int 1, .int 0]))] t.heap ∧ va_K (dC, dI) vwCl (TYS cy) t ∧ va_D (va_A [(a0, .inr (6, [.int 0, .int 0, .ref a1, .int 72, .int 0, .int 5, .int 2, .int 1, .ref a2])), (a1, .inr (5, [.ref cb, .int 81, .int 0, .ref a3, .int 14, .ref a4, .int 5, .ref a5, .int 1, .int 1, .ref a6, .int 6, .int 0, .int 1, .int 0]))] sz) [(a0, .inr (6, [.int 0, .int 0, .ref a1, .int 73, .int 0, .int 5, .int 2, .int 1, .ref a2])), (a1, .inr (5, [.ref cb, .int 81, .int 0, .ref a3, .int 14, .ref a4, .int 5, .ref a5, .int 1, .int 1, .ref a6, .int 6, .int 0, .int 1, .int 0]))]) (va_A [(a0, .inr (6, [.int 0, .int 0, .ref a1, .int 72, .int 0, .int 5, .int 2, .int 1, .ref a2])), (a1, .inr (5, [.ref cb, .int 81, .int 0, .ref a3, .int 14, .ref a4, .int 5, .ref a5, .int 1, .int 1, .ref a6, .int 6, .int 0, .int 1, .int 0]))] sz)) 0 0 (va_A [(a0, .inr (6, [.int 0, .int 0, .ref a1, .int 72, .int 0, .int 5, .int 2, .int 1, .ref a2])), (a1, .inr (5, [.ref cb, .int 81, .int 0, .ref a3, .int 14, .ref a4, .int 5, .ref a5, .int 1, .int 1, .ref a6, .int 6, .int 0, .int 1, .int 0]))] sz) := by
  refine Met.ofW (cc := cX6_readNumber) (maxL := 5) (ret := (some .int)) (by decide) rfl ?_
  intro p e s m args below meth c s₁ B hml hv
  obtain ⟨rfl, hsz, hP, hK, hD0, hN, hSK⟩ := hv
  have hx := B.exec
  have hb := B.bytes
  have hr := B.returns
  have hts := atoms_spec (ws := wsX6_readNumber) B.pre
  have hown : s.vm.findClass RX6 = some m.cls := findClass_of_methodNamed B.named
  have hlocks := B.notSynchronized
  subst hsz
  have hD := hD0.self (sz := s.heap.size)
  generalize hAe : va_A [(a0, .inr (6, [.int 0, .int 0, .ref a1, .int 72, .int 0, .int 5, .int 2, .int 1, .ref a2])), (a1, .inr (5, [.ref cb, .int 81, .int 0, .ref a3, .int 14, .ref a4, .int 5, .ref a5, .int 1, .int 1, .ref a6, .int 6, .int 0, .int 1, .int 0]))] s.heap.size = A at hD hSK ⊢
  have hA : ∀ q : Nat, s.heap.size ≤ q → A q := fun q h => by rw [← hAe]; exact Or.inr h
  have hS : va_S A s.heap s.heap [] := va_S.rf
  have hP : va_P (dC, dI) vwCl [(a0, .inr (6, [.int 0, .int 0, .ref a1, .int 72, .int 0, .int 5, .int 2, .int 1, .ref a2])), (a1, .inr (5, [.ref cb, .int 81, .int 0, .ref a3, .int 14, .ref a4, .int 5, .ref a5, .int 1, .int 1, .ref a6, .int 6, .int 0, .int 1, .int 0]))] s.heap := hP
  have hl := lv_entry ([.ref a0, .int 0, .int 7]) (n := 5) (Nat.le_of_ble_eq_true rfl)
  rw [lg_entry_eq]
  generalize (lg_sl ([.ref a0, .int 0, .int 7]) ++ List.replicate (5 - (lg_sl ([.ref a0, .int 0, .int 7])).length) Slot.unset).toArray = ls at hl ⊢
  replace hl : lv_has ls 5 [(0, .ref a0), (1, .int 0), (2, .int 7)] := hl
  refine lv_aload_n hx hb dX6_readNumber_0 rfl (lv_at hl 0 rfl) ?_
  refine va_get (D := (dC, dI)) (ci := 6) (v := .int 72) (C := RX6) (T := TX6) (N := 9) hx hb hts iw_X6_readNumber_X6 hown hK hP 0 rfl rfl 3 (by decide) (hts _ m_X6_readNumber_1) (fun _ h9 => h9) rfl dX6_readNumber_1 ?_
  refine lv_istore_n (lv' := [(3, .int 72), (0, .ref a0), (1, .int 0), (2, .int 7)]) hx hb dX6_readNumber_4 rfl hl (by decide) rfl (fun ls hl2 => ?_)
  replace hl := hl2
  clear hl2
  refine lv_aload_n hx hb dX6_readNumber_5 rfl (lv_at hl 1 rfl) ?_
  have hPc := hP.sub (ws' := [(a0, .inr (6, [.int 0, .int 0, .ref a1, .int 72, .int 0, .int 5, .int 2, .int 1, .ref a2])), (a1, .inr (5, [.ref cb, .int 81, .int 0, .ref a3, .int 14, .ref a4, .int 5, .ref a5, .int 1, .int 1, .ref a6, .int 6, .int 0, .int 1, .int 0]))]) [0, 1] rfl
  have hDc := hD.sub (ws' := [(a0, .inr (6, [.int 0, .int 0, .ref a1, .int 72, .int 0, .int 5, .int 2, .int 1, .ref a2])), (a1, .inr (5, [.ref cb, .int 81, .int 0, .ref a3, .int 14, .ref a4, .int 5, .ref a5, .int 1, .int 1, .ref a6, .int 6, .int 0, .int 1, .int 0]))]) [0, 1] (by decide) rfl
  have hFc := va_free (wc := [(a0, .inr (6, [.int 0, .int 0, .ref a1, .int 72, .int 0, .int 5, .int 2, .int 1, .ref a2])), (a1, .inr (5, [.ref cb, .int 81, .int 0, .ref a3, .int 14, .ref a4, .int 5, .ref a5, .int 1, .int 1, .ref a6, .int 6, .int 0, .int 1, .int 0]))]) hD hS hA [0, 1] rfl
  refine va_calli (va_runV (As := []) (rest := []) ⟨hx, hb, hml, hown, hts⟩ (cc_238_X6_readByte l dC dI cy s.heap.size cb a0 a1 a2 a3 a4 a5 a6) (cwV 0 hts gX6_readNumber_X6_readByte rfl rfl rfl (by decide +kernel) ⟨Nat.le_of_ble_eq_true rfl, Nat.le_of_ble_eq_true rfl⟩) ⟨fun a U g mk q => by obtain ⟨q0, q1, qP, qK, qD, qN, qS⟩ := q; exact ⟨q0, q1, qP, va_K.moved (u := U) (U := U.calling g mk a) (Vm.Alike.refl U.vm) qK, qD, qN.same rfl, SK.moved (u := U) (U := U.calling g mk a) (Vm.Alike.refl U.vm) qS⟩, va_recv hK hPc (ci := 6) (q0 := 0) rfl rfl, fun U hU hW => ⟨rfl, by rw [hU], by rw [hU]; exact hPc, va_K.moved hW.alike hK, hDc.weaken (fun _ _ _ _ => trivial), hN.warm hW, by rw [hU]; exact ((hSK.kept hS.2.1).narrow hFc).moved hW.alike⟩⟩ rfl rfl hl.1 rfl (lv_room (Nat.le_of_ble_eq_true rfl)) dX6_readNumber_6 ⟨Nat.le_of_ble_eq_true rfl, Nat.le_of_ble_eq_true rfl⟩) hS (fun q _ h => hFc q h) hFc (fun r_1 u t H_2 locs ht hvm hw hB hz1 hk1 hS2 => ?_)
  obtain ⟨hP1, hK1, hD1⟩ := hB
  rw [ht] at hP1
  obtain rfl := hw
  obtain ⟨hP2, hD2⟩ := va_join (wr := []) (w1 := [(a0, .inr (6, [.int 0, .int 0, .ref a1, .int 73, .int 0, .int 5, .int 2, .int 1, .ref a2])), (a1, .inr (5, [.ref cb, .int 81, .int 0, .ref a3, .int 14, .ref a4, .int 5, .ref a5, .int 1, .int 1, .ref a6, .int 6, .int 0, .int 1, .int 0]))]) hP hD [0, 1] [] rfl rfl (by decide) (by decide) hk1 hFc hP1 hD1
  replace hP : va_P (dC, dI) vwCl [(a0, .inr (6, [.int 0, .int 0, .ref a1, .int 73, .int 0, .int 5, .int 2, .int 1, .ref a2])), (a1, .inr (5, [.ref cb, .int 81, .int 0, .ref a3, .int 14, .ref a4, .int 5, .ref a5, .int 1, .int 1, .ref a6, .int 6, .int 0, .int 1, .int 0]))] H_2 := hP2
  replace hD : va_D A [(a0, .inr (6, [.int 0, .int 0, .ref a1, .int 73, .int 0, .int 5, .int 2, .int 1, .ref a2])), (a1, .inr (5, [.ref cb, .int 81, .int 0, .ref a3, .int 14, .ref a4, .int 5, .ref a5, .int 1, .int 1, .ref a6, .int 6, .int 0, .int 1, .int 0]))] := hD2
  replace hS := hS2
  clear hP2 hD2 hS2
  clear hPc hDc hFc hP1 hD1 hK1 hk1 hz1 hvm ht
  refine W.widen (k := 0) (n := 0) (Nat.le_of_ble_eq_true rfl) (Nat.le_of_ble_eq_true rfl) ?_
  refine lv_istore (lv' := [(4, .int 1), (3, .int 72), (0, .ref a0), (1, .int 0), (2, .int 7)]) hx hb dX6_readNumber_9 hl (by decide) rfl (fun ls hl2 => ?_)
  replace hl := hl2
  clear hl2
  refine lv_iload hx hb dX6_readNumber_11 (lv_at hl 0 rfl) ?_
  refine lv_iload_n hx hb dX6_readNumber_13 rfl (lv_at hl 3 rfl) ?_
  refine lv_icmp_lt (tgt := 23) hx hb dX6_readNumber_14 (by decide) (fun h => absurd h (by decide)) (fun _ => ?_)
  refine lv_iload hx hb dX6_readNumber_17 (lv_at hl 0 rfl) ?_
  refine lv_iload_n hx hb dX6_readNumber_19 rfl (lv_at hl 4 rfl) ?_
  refine lv_icmp_le (tgt := 29) hx hb dX6_readNumber_20 (by decide) (fun _ => ?_) (fun h => absurd (by decide) h)
  refine lv_aload_n hx hb dX6_readNumber_29 rfl (lv_at hl 2 rfl) ?_
  refine va_get (D := (dC, dI)) (ci := 6) (v := .int 0) (C := RX6) (T := TX6) (N := 9) hx hb hts iw_X6_readNumber_X6 hown hK hP 0 rfl rfl 1 (by decide) (hts _ m_X6_readNumber_2) (fun _ h9 => h9) rfl dX6_readNumber_30 ?_
  refine lv_if_ne (tgt := 41) hx hb dX6_readNumber_33 (by decide) (fun h => absurd (by decide) h) (fun _ => ?_)
  refine lv_iload hx hb dX6_readNumber_36 (lv_at hl 0 rfl) ?_
  refine lv_goto (tgt := 42) hx hb dX6_readNumber_38 (by decide) ?_
  exact W.iret hx hb hr (fun t ht hW => ⟨⟨1, (), rfl, rfl, by rw [ht]; exact hP, va_K.moved hW.alike hK, hD⟩, hS.F ht⟩) hS.2.2 dX6_readNumber_42

set_option maxHeartbeats 4000000 in
set_option maxRecDepth 100000 in
theorem cc_239_X5_setFunction (l : Launch) (dC : Nat → ClassId) (dI : Nat → Nat → Nat) (cy : Nat → ClassId) (sz : Nat) (cb : Nat) (a0 : Nat) (a1 : Nat) (a2 : Nat) (a3 : Nat) (a4 : Nat) (f0 : Nat → Int32)  : Met l yX5_setFunction wsX5_setFunction ({ frames := 0, cells := 0, slots := 0, locals := 0 }) (va_Pc [.ref a0, .int 5, .int 0, .int 1] (fun U => U.heap.size = sz ∧ va_P (dC, dI) vwCl [(a0, .inr (5, [.ref cb, .int 81, .int 0, .ref a2, .int 14, .ref a3, .int 5, .ref a4, .int 1, .int 1, .ref a1, .int 6, .int 0, .int 1, .int 0])), (a1, .inl (cy 1, 864, .inl f0))] U.heap ∧ va_K (dC, dI) vwCl (TYS cy) U ∧ va_D (fun _ => True) [(a0, .inr (5, [.ref cb, .int 81, .int 0, .ref a2, .int 14, .ref a3, .int 5, .ref a4, .int 1, .int 1, .ref a1, .int 6, .int 0, .int 1, .int 0])), (a1, .inl (cy 1, 864, .inl f0))] ∧ NK U ∧ SK cb (va_A [(a0, .inr (5, [.ref cb, .int 81, .int 0, .ref a2, .int 14, .ref a3, .int 5, .ref a4, .int 1, .int 1, .ref a1, .int 6, .int 0, .int 1, .int 0])), (a1, .inl (cy 1, 864, .inl f0))] sz) U U.heap)) (va_Qv (fun u : (Nat → Int32) => True) (fun u t => match u with | (u0) => va_P (dC, dI) vwCl [(a0, .inr (5, [.ref cb, .int 81, .int 0, .ref a2, .int 14, .ref a3, .int 5, .ref a4, .int 1, .int 1, .ref a1, .int 6, .int 0, .int 1, .int 0])), (a1, .inl (cy 1, 864, .inl u0))] t.heap ∧ va_K (dC, dI) vwCl (TYS cy) t ∧ va_D (va_A [(a0, .inr (5, [.ref cb, .int 81, .int 0, .ref a2, .int 14, .ref a3, .int 5, .ref a4, .int 1, .int 1, .ref a1, .int 6, .int 0, .int 1, .int 0])), (a1, .inl (cy 1, 864, .inl f0))] sz) [(a0, .inr (5, [.ref cb, .int 81, .int 0, .ref a2, .int 14, .ref a3, .int 5, .ref a4, .int 1, .int 1, .ref a1, .int 6, .int 0, .int 1, .int 0])), (a1, .inl (cy 1, 864, .inl u0))]) (va_A [(a0, .inr (5, [.ref cb, .int 81, .int 0, .ref a2, .int 14, .ref a3, .int 5, .ref a4, .int 1, .int 1, .ref a1, .int 6, .int 0, .int 1, .int 0])), (a1, .inl (cy 1, 864, .inl f0))] sz)) 0 0 (va_A [(a0, .inr (5, [.ref cb, .int 81, .int 0, .ref a2, .int 14, .ref a3, .int 5, .ref a4, .int 1, .int 1, .ref a1, .int 6, .int 0, .int 1, .int 0])), (a1, .inl (cy 1, 864, .inl f0))] sz) := by
  refine Met.ofW (cc := cX5_setFunction) (maxL := 4) (ret := none) (by decide) rfl ?_
  intro p e s m args below meth c s₁ B hml hv
  obtain ⟨rfl, hsz, hP, hK, hD0, hN, hSK⟩ := hv
  have hx := B.exec
  have hb := B.bytes
  have hr := B.returns
  have hts := atoms_spec (ws := wsX5_setFunction) B.pre
  have hown : s.vm.findClass RX5 = some m.cls := findClass_of_methodNamed B.named
  have hlocks := B.notSynchronized
  subst hsz
  have hD := hD0.self (sz := s.heap.size)
  generalize hAe : va_A [(a0, .inr (5, [.ref cb, .int 81, .int 0, .ref a2, .int 14, .ref a3, .int 5, .ref a4, .int 1, .int 1, .ref a1, .int 6, .int 0, .int 1, .int 0])), (a1, .inl (cy 1, 864, .inl f0))] s.heap.size = A at hD hSK ⊢
  have hA : ∀ q : Nat, s.heap.size ≤ q → A q := fun q h => by rw [← hAe]; exact Or.inr h
  have hS : va_S A s.heap s.heap [] := va_S.rf
  have hP : va_P (dC, dI) vwCl [(a0, .inr (5, [.ref cb, .int 81, .int 0, .ref a2, .int 14, .ref a3, .int 5, .ref a4, .int 1, .int 1, .ref a1, .int 6, .int 0, .int 1, .int 0])), (a1, .inl (cy 1, 864, .inl f0))] s.heap := hP
  have hl := lv_entry ([.ref a0, .int 5, .int 0, .int 1]) (n := 4) (Nat.le_of_ble_eq_true rfl)
  rw [lg_entry_eq]
  generalize (lg_sl ([.ref a0, .int 5, .int 0, .int 1]) ++ List.replicate (4 - (lg_sl ([.ref a0, .int 5, .int 0, .int 1])).length) Slot.unset).toArray = ls at hl ⊢
  replace hl : lv_has ls 4 [(0, .ref a0), (1, .int 5), (2, .int 0), (3, .int 1)] := hl
  refine lv_iload_n hx hb dX5_setFunction_0 rfl (lv_at hl 1 rfl) ?_
  refine lv_if_lt (tgt := 22) hx hb dX5_setFunction_1 (by decide) (fun h => absurd h (by decide)) (fun _ => ?_)
  refine lv_iload_n hx hb dX5_setFunction_4 rfl (lv_at hl 1 rfl) ?_
  refine lv_bipush (v := 96) hx hb dX5_setFunction_5 (by decide) ?_
  refine lv_icmp_ge (tgt := 22) hx hb dX5_setFunction_7 (by decide) (fun h => absurd h (by decide)) (fun _ => ?_)
  refine lv_aload_n hx hb dX5_setFunction_10 rfl (lv_at hl 0 rfl) ?_
  refine va_get (D := (dC, dI)) (ci := 5) (v := .ref a1) (C := RX5) (T := TX5) (N := 15) hx hb hts iw_X5_setFunction_X5 hown hK hP 0 rfl rfl 10 (by decide) (hts _ m_X5_setFunction_1) (fun _ h9 => h9) rfl dX5_setFunction_11 ?_
  refine lv_iload_n hx hb dX5_setFunction_14 rfl (lv_at hl 1 rfl) ?_
  refine lv_bipush (v := 9) hx hb dX5_setFunction_15 (by decide) ?_
  refine lv_imul hx hb dX5_setFunction_17 ?_
  refine lv_topi (fun z_1 ez_1 => ?_)
  obtain rfl : z_1 = 45 := ez_1.trans (by decide)
  clear ez_1
  refine lv_iload_n hx hb dX5_setFunction_18 rfl (lv_at hl 2 rfl) ?_
  refine lv_iadd hx hb dX5_setFunction_19 ?_
  refine lv_topi (fun z_2 ez_2 => ?_)
  obtain rfl : z_2 = 45 := ez_2.trans (by decide)
  clear ez_2
  refine lv_iload_n hx hb dX5_setFunction_20 rfl (lv_at hl 3 rfl) ?_
  refine va_iast hx hb hK hP hD hS 1 1 rfl rfl (by unfold vp_in; decide) dX5_setFunction_21 (fun H_4 locs hP2 hD2 hS2 => ?_)
  replace hP : va_P (dC, dI) vwCl [(a0, .inr (5, [.ref cb, .int 81, .int 0, .ref a2, .int 14, .ref a3, .int 5, .ref a4, .int 1, .int 1, .ref a1, .int 6, .int 0, .int 1, .int 0])), (a1, .inl (cy 1, 864, .inl (upd f0 45 1)))] H_4 := hP2
  replace hD : va_D A [(a0, .inr (5, [.ref cb, .int 81, .int 0, .ref a2, .int 14, .ref a3, .int 5, .ref a4, .int 1, .int 1, .ref a1, .int 6, .int 0, .int 1, .int 0])), (a1, .inl (cy 1, 864, .inl (upd f0 45 1)))] := hD2
  replace hS := hS2
  clear hP2 hD2 hS2
  obtain ⟨g_3, eg_3⟩ : ∃ z, upd f0 45 1 = z := ⟨_, rfl⟩
  rw [eg_3] at hP hD
  exact W.vret hx hb hr (fun t ht hW => ⟨⟨(g_3), rfl, trivial, by rw [ht]; exact hP, va_K.moved hW.alike hK, hD⟩, hS.F ht⟩) hS.2.2 dX5_setFunction_22

set_option maxHeartbeats 4000000 in
set_option maxRecDepth 100000 in
theorem cc_240_X5_setFunction (l : Launch) (dC : Nat → ClassId) (dI : Nat → Nat → Nat) (cy : Nat → ClassId) (sz : Nat) (cb : Nat) (a0 : Nat) (a1 : Nat) (a2 : Nat) (a3 : Nat) (a4 : Nat) (f0 : Nat → Int32)  : Met l yX5_setFunction wsX5_setFunction ({ frames := 0, cells := 0, slots := 0, locals := 0 }) (va_Pc [.ref a0, .int 5, .int 1, .int 14] (fun U => U.heap.size = sz ∧ va_P (dC, dI) vwCl [(a0, .inr (5, [.ref cb, .int 81, .int 0, .ref a2, .int 14, .ref a3, .int 5, .ref a4, .int 1, .int 1, .ref a1, .int 6, .int 0, .int 1, .int 0])), (a1, .inl (cy 1, 864, .inl f0))] U.heap ∧ va_K (dC, dI) vwCl (TYS cy) U ∧ va_D (fun _ => True) [(a0, .inr (5, [.ref cb, .int 81, .int 0, .ref a2, .int 14, .ref a3, .int 5, .ref a4, .int 1, .int 1, .ref a1, .int 6, .int 0, .int 1, .int 0])), (a1, .inl (cy 1, 864, .inl f0))] ∧ NK U ∧ SK cb (va_A [(a0, .inr (5, [.ref cb, .int 81, .int 0, .ref a2, .int 14, .ref a3, .int 5, .ref a4, .int 1, .int 1, .ref a1, .int 6, .int 0, .int 1, .int 0])), (a1, .inl (cy 1, 864, .inl f0))] sz) U U.heap)) (va_Qv (fun u : (Nat → Int32) => True) (fun u t => match u with | (u0) => va_P (dC, dI) vwCl [(a0, .inr (5, [.ref cb, .int 81, .int 0, .ref a2, .int 14, .ref a3, .int 5, .ref a4, .int 1, .int 1, .ref a1, .int 6, .int 0, .int 1, .int 0])), (a1, .inl (cy 1, 864, .inl u0))] t.heap ∧ va_K (dC, dI) vwCl (TYS cy) t ∧ va_D (va_A [(a0, .inr (5, [.ref cb, .int 81, .int 0, .ref a2, .int 14, .ref a3, .int 5, .ref a4, .int 1, .int 1, .ref a1, .int 6, .int 0, .int 1, .int 0])), (a1, .inl (cy 1, 864, .inl f0))] sz) [(a0, .inr (5, [.ref cb, .int 81, .int 0, .ref a2, .int 14, .ref a3, .int 5, .ref a4, .int 1, .int 1, .ref a1, .int 6, .int 0, .int 1, .int 0])), (a1, .inl (cy 1, 864, .inl u0))]) (va_A [(a0, .inr (5, [.ref cb, .int 81, .int 0, .ref a2, .int 14, .ref a3, .int 5, .ref a4, .int 1, .int 1, .ref a1, .int 6, .int 0, .int 1, .int 0])), (a1, .inl (cy 1, 864, .inl f0))] sz)) 0 0 (va_A [(a0, .inr (5, [.ref cb, .int 81, .int 0, .ref a2, .int 14, .ref a3, .int 5, .ref a4, .int 1, .int 1, .ref a1, .int 6, .int 0, .int 1, .int 0])), (a1, .inl (cy 1, 864, .inl f0))] sz) := by
  refine Met.ofW (cc := cX5_setFunction) (maxL := 4) (ret := none) (by decide) rfl ?_
  intro p e s m args below meth c s₁ B hml hv
  obtain ⟨rfl, hsz, hP, hK, hD0, hN, hSK⟩ := hv
  have hx := B.exec
  have hb := B.bytes
  have hr := B.returns
  have hts := atoms_spec (ws := wsX5_setFunction) B.pre
  have hown : s.vm.findClass RX5 = some m.cls := findClass_of_methodNamed B.named
  have hlocks := B.notSynchronized
  subst hsz
  have hD := hD0.self (sz := s.heap.size)
  generalize hAe : va_A [(a0, .inr (5, [.ref cb, .int 81, .int 0, .ref a2, .int 14, .ref a3, .int 5, .ref a4, .int 1, .int 1, .ref a1, .int 6, .int 0, .int 1, .int 0])), (a1, .inl (cy 1, 864, .inl f0))] s.heap.size = A at hD hSK ⊢
  have hA : ∀ q : Nat, s.heap.size ≤ q → A q := fun q h => by rw [← hAe]; exact Or.inr h
  have hS : va_S A s.heap s.heap [] := va_S.rf
  have hP : va_P (dC, dI) vwCl [(a0, .inr (5, [.ref cb, .int 81, .int 0, .ref a2, .int 14, .ref a3, .int 5, .ref a4, .int 1, .int 1, .ref a1, .int 6, .int 0, .int 1, .int 0])), (a1, .inl (cy 1, 864, .inl f0))] s.heap := hP
  have hl := lv_entry ([.ref a0, .int 5, .int 1, .int 14]) (n := 4) (Nat.le_of_ble_eq_true rfl)
  rw [lg_entry_eq]
  generalize (lg_sl ([.ref a0, .int 5, .int 1, .int 14]) ++ List.replicate (4 - (lg_sl ([.ref a0, .int 5, .int 1, .int 14])).length) Slot.unset).toArray = ls at hl ⊢
  replace hl : lv_has ls 4 [(0, .ref a0), (1, .int 5), (2, .int 1), (3, .int 14)] := hl
  refine lv_iload_n hx hb dX5_setFunction_0 rfl (lv_at hl 1 rfl) ?_
  refine lv_if_lt (tgt := 22) hx hb dX5_setFunction_1 (by decide) (fun h => absurd h (by decide)) (fun _ => ?_)
  refine lv_iload_n hx hb dX5_setFunction_4 rfl (lv_at hl 1 rfl) ?_
  refine lv_bipush (v := 96) hx hb dX5_setFunction_5 (by decide) ?_
  refine lv_icmp_ge (tgt := 22) hx hb dX5_setFunction_7 (by decide) (fun h => absurd h (by decide)) (fun _ => ?_)
  refine lv_aload_n hx hb dX5_setFunction_10 rfl (lv_at hl 0 rfl) ?_
  refine va_get (D := (dC, dI)) (ci := 5) (v := .ref a1) (C := RX5) (T := TX5) (N := 15) hx hb hts iw_X5_setFunction_X5 hown hK hP 0 rfl rfl 10 (by decide) (hts _ m_X5_setFunction_1) (fun _ h9 => h9) rfl dX5_setFunction_11 ?_
  refine lv_iload_n hx hb dX5_setFunction_14 rfl (lv_at hl 1 rfl) ?_
  refine lv_bipush (v := 9) hx hb dX5_setFunction_15 (by decide) ?_
  refine lv_imul hx hb dX5_setFunction_17 ?_
  refine lv_topi (fun z_1 ez_1 => ?_)
  obtain rfl : z_1 = 45 := ez_1.trans (by decide)
  clear ez_1
  refine lv_iload_n hx hb dX5_setFunction_18 rfl (lv_at hl 2 rfl) ?_
  refine lv_iadd hx hb dX5_setFunction_19 ?_
  refine lv_topi (fun z_2 ez_2 => ?_)
  obtain rfl : z_2 = 46 := ez_2.trans (by decide)
  clear ez_2
  refine lv_iload_n hx hb dX5_setFunction_20 rfl (lv_at hl 3 rfl) ?_
  refine va_iast hx hb hK hP hD hS 1 1 rfl rfl (by unfold vp_in; decide) dX5_setFunction_21 (fun H_4 locs hP2 hD2 hS2 => ?_)
  replace hP : va_P (dC, dI) vwCl [(a0, .inr (5, [.ref cb, .int 81, .int 0, .ref a2, .int 14, .ref a3, .int 5, .ref a4, .int 1, .int 1, .ref a1, .int 6, .int 0, .int 1, .int 0])), (a1, .inl (cy 1, 864, .inl (upd f0 46 14)))] H_4 := hP2
  replace hD : va_D A [(a0, .inr (5, [.ref cb, .int 81, .int 0, .ref a2, .int 14, .ref a3, .int 5, .ref a4, .int 1, .int 1, .ref a1, .int 6, .int 0, .int 1, .int 0])), (a1, .inl (cy 1, 864, .inl (upd f0 46 14)))] := hD2
  replace hS := hS2
  clear hP2 hD2 hS2
  obtain ⟨g_3, eg_3⟩ : ∃ z, upd f0 46 14 = z := ⟨_, rfl⟩
  rw [eg_3] at hP hD
  exact W.vret hx hb hr (fun t ht hW => ⟨⟨(g_3), rfl, trivial, by rw [ht]; exact hP, va_K.moved hW.alike hK, hD⟩, hS.F ht⟩) hS.2.2 dX5_setFunction_22

set_option maxHeartbeats 4000000 in
set_option maxRecDepth 100000 in
theorem cc_243_X6_readByte (l : Launch) (dC : Nat → ClassId) (dI : Nat → Nat → Nat) (cy : Nat → ClassId) (sz : Nat) (cb : Nat) (a0 : Nat) (a1 : Nat) (a2 : Nat) (a3 : Nat) (a4 : Nat) (a5 : Nat) (a6 : Nat)  : Met l yX6_readByte wsX6_readByte ({ frames := 0, cells := 0, slots := 0, locals := 0 }) (va_Pc [.ref a0] (fun U => U.heap.size = sz ∧ va_P (dC, dI) vwCl [(a0, .inr (6, [.int 0, .int 0, .ref a1, .int 73, .int 0, .int 5, .int 2, .int 1, .ref a2])), (a1, .inr (5, [.ref cb, .int 81, .int 0, .ref a3, .int 14, .ref a4, .int 5, .ref a5, .int 1, .int 1, .ref a6, .int 6, .int 0, .int 1, .int 0]))] U.heap ∧ va_K (dC, dI) vwCl (TYS cy) U ∧ va_D (fun _ => True) [(a0, .inr (6, [.int 0, .int 0, .ref a1, .int 73, .int 0, .int 5, .int 2, .int 1, .ref a2])), (a1, .inr (5, [.ref cb, .int 81, .int 0, .ref a3, .int 14, .ref a4, .int 5, .ref a5, .int 1, .int 1, .ref a6, .int 6, .int 0, .int 1, .int 0]))] ∧ NK U ∧ SK cb (va_A [(a0, .inr (6, [.int 0, .int 0, .ref a1, .int 73, .int 0, .int 5, .int 2, .int 1, .ref a2])), (a1, .inr (5, [.ref cb, .int 81, .int 0, .ref a3, .int 14, .ref a4, .int 5, .ref a5, .int 1, .int 1, .ref a6, .int 6, .int 0, .int 1, .int 0]))] sz) U U.heap)) (va_Qi (fun (r : Int32) (u : Unit) => r = 1) (fun u t => va_P (dC, dI) vwCl [(a0, .inr (6, [.int 0, .int 0, .ref a1, .int 74, .int 0, .int 5, .int 2, .int 1, .ref a2])), (a1, .inr (5, [.ref cb, .int 81, .int 0, .ref a3, .int 14, .ref a4, .int 5, .ref a5, .int 1, .int 1, .ref a6, .int 6, .int 0, .int 1, .int 0]))] t.heap ∧ va_K (dC, dI) vwCl (TYS cy) t ∧ va_D (va_A [(a0, .inr (6, [.int 0, .int 0, .ref a1, .int 73, .int 0, .int 5, .int 2, .int 1, .ref a2])), (a1, .inr (5, [.ref cb, .int 81, .int 0, .ref a3, .int 14, .ref a4, .int 5, .ref a5, .int 1, .int 1, .ref a6, .int 6, .int 0, .int 1, .int 0]))] sz) [(a0, .inr (6, [.int 0, .int 0, .ref a1, .int 74, .int 0, .int 5, .int 2, .int 1, .ref a2])), (a1, .inr (5, [.ref cb, .int 81, .int 0, .ref a3, .int 14, .ref a4, .int 5, .ref a5, .int 1, .int 1, .ref a6, .int 6, .int 0, .int 1, .int 0]))]) (va_A [(a0, .inr (6, [.int 0, .int 0, .ref a1, .int 73, .int 0, .int 5, .int 2, .int 1, .ref a2])), (a1, .inr (5, [.ref cb, .int 81, .int 0, .ref a3, .int 14, .ref a4, .int 5, .ref a5, .int 1, .int 1, .ref a6, .int 6, .int 0, .int 1, .int 0]))] sz)) 0 0 (va_A [(a0, .inr (6, [.int 0, .int 0, .ref a1, .int 73, .int 0, .int 5, .int 2, .int 1, .ref a2])), (a1, .inr (5, [.ref cb, .int 81, .int 0, .ref a3, .int 14, .ref a4, .int 5, .ref a5, .int 1, .int 1, .ref a6, .int 6, .int 0, .int 1, .int 0]))] sz) := by
  refine Met.ofW (cc := cX6_readByte) (maxL := 1) (ret := (some .int)) (by decide) rfl ?_
  intro p e s m args below meth c s₁ B hml hv
  obtain ⟨rfl, hsz, hP, hK, hD0, hN, hSK⟩ := hv
  have hx := B.exec
  have hb := B.bytes
  have hr := B.returns
  have hts := atoms_spec (ws := wsX6_readByte) B.pre
  have hown : s.vm.findClass RX6 = some m.cls := findClass_of_methodNamed B.named
  have hlocks := B.notSynchronized
  subst hsz
  have hD := hD0.self (sz := s.heap.size)
  generalize hAe : va_A [(a0, .inr (6, [.int 0, .int 0, .ref a1, .int 73, .int 0, .int 5, .int 2, .int 1, .ref a2])), (a1, .inr (5, [.ref cb, .int 81, .int 0, .ref a3, .int 14, .ref a4, .int 5, .ref a5, .int 1, .int 1, .ref a6, .int 6, .int 0, .int 1, .int 0]))] s.heap.size = A at hD hSK ⊢
  have hA : ∀ q : Nat, s.heap.size ≤ q → A q := fun q h => by rw [← hAe]; exact Or.inr h
  have hS : va_S A s.heap s.heap [] := va_S.rf
  have hP : va_P (dC, dI) vwCl [(a0, .inr (6, [.int 0, .int 0, .ref a1, .int 73, .int 0, .int 5, .int 2, .int 1, .ref a2])), (a1, .inr (5, [.ref cb, .int 81, .int 0, .ref a3, .int 14, .ref a4, .int 5, .ref a5, .int 1, .int 1, .ref a6, .int 6, .int 0, .int 1, .int 0]))] s.heap := hP
  have hl := lv_entry ([.ref a0]) (n := 1) (Nat.le_of_ble_eq_true rfl)
  rw [lg_entry_eq]
  generalize (lg_sl ([.ref a0]) ++ List.replicate (1 - (lg_sl ([.ref a0])).length) Slot.unset).toArray = ls at hl ⊢
  replace hl : lv_has ls 1 [(0, .ref a0)] := hl
  refine lv_aload_n hx hb dX6_readByte_0 rfl (lv_at hl 0 rfl) ?_
  refine va_get (D := (dC, dI)) (ci := 6) (v := .int 0) (C := RX6) (T := TX6) (N := 9) hx hb hts iw_X6_readByte_X6 hown hK hP 0 rfl rfl 1 (by decide) (hts _ m_X6_readByte_1) (fun _ h9 => h9) rfl dX6_readByte_1 ?_
  refine lv_if_eq (tgt := 9) hx hb dX6_readByte_4 (by decide) (fun _ => ?_) (fun h => absurd (by decide) h)
  refine lv_aload_n hx hb dX6_readByte_9 rfl (lv_at hl 0 rfl) ?_
  refine va_get (D := (dC, dI)) (ci := 6) (v := .int 73) (C := RX6) (T := TX6) (N := 9) hx hb hts iw_X6_readByte_X6 hown hK hP 0 rfl rfl 3 (by decide) (hts _ m_X6_readByte_2) (fun _ h9 => h9) rfl dX6_readByte_10 ?_
  refine lv_aload_n hx hb dX6_readByte_13 rfl (lv_at hl 0 rfl) ?_
  refine va_get (D := (dC, dI)) (ci := 6) (v := .ref a1) (C := RX6) (T := TX6) (N := 9) hx hb hts iw_X6_readByte_X6 hown hK hP 0 rfl rfl 2 (by decide) (hts _ m_X6_readByte_3) (fun _ h9 => h9) rfl dX6_readByte_14 ?_
  refine va_get (D := (dC, dI)) (ci := 5) (v := .int 81) (C := RX5) (T := TX5) (N := 15) hx hb hts iw_X6_readByte_X5 hown hK hP 1 rfl rfl 1 (by decide) (hts _ m_X6_readByte_4) (fun _ h9 => h9) rfl dX6_readByte_17 ?_
  refine lv_icmp_lt (tgt := 41) hx hb dX6_readByte_20 (by decide) (fun _ => ?_) (fun h => absurd (by decide) h)
  refine lv_aload_n hx hb dX6_readByte_41 rfl (lv_at hl 0 rfl) ?_
  refine va_get (D := (dC, dI)) (ci := 6) (v := .ref a1) (C := RX6) (T := TX6) (N := 9) hx hb hts iw_X6_readByte_X6 hown hK hP 0 rfl rfl 2 (by decide) (hts _ m_X6_readByte_3) (fun _ h9 => h9) rfl dX6_readByte_42 ?_
  refine va_get (D := (dC, dI)) (ci := 5) (v := .ref cb) (C := RX5) (T := TX5) (N := 15) hx hb hts iw_X6_readByte_X5 hown hK hP 1 rfl rfl 0 (by decide) (hts _ m_X6_readByte_6) (fun _ h9 => h9) rfl dX6_readByte_45 ?_
  refine lv_aload_n hx hb dX6_readByte_48 rfl (lv_at hl 0 rfl) ?_
  refine lv_dup hx hb dX6_readByte_49 rfl ?_
  refine va_get (D := (dC, dI)) (ci := 6) (v := .int 73) (C := RX6) (T := TX6) (N := 9) hx hb hts iw_X6_readByte_X6 hown hK hP 0 rfl rfl 3 (by decide) (hts _ m_X6_readByte_2) (fun _ h9 => h9) rfl dX6_readByte_50 ?_
  refine lv_dup_x1 hx hb dX6_readByte_53 rfl rfl ?_
  refine lv_iconst (v := 1) hx hb dX6_readByte_54 (by decide) ?_
  refine lv_iadd hx hb dX6_readByte_55 ?_
  refine lv_topi (fun z_1 ez_1 => ?_)
  obtain rfl : z_1 = 74 := ez_1.trans (by decide)
  clear ez_1
  refine va_put (D := (dC, dI)) (ci := 6) (v := .int 74) (ty := .int) (C := RX6) (T := TX6) (N := 9) hx hb hts iw_X6_readByte_X6 tyX6 tyX6_ok nmX6 hown hK hP hD hS 0 rfl rfl 3 (by decide) (hts _ m_X6_readByte_2) (fun _ h9 => h9) rfl (by decide +kernel) rfl rfl (Nat.le_of_ble_eq_true rfl) dX6_readByte_56 (fun H_2 locs hP2 hD2 hS2 => ?_)
  replace hP : va_P (dC, dI) vwCl [(a0, .inr (6, [.int 0, .int 0, .ref a1, .int 74, .int 0, .int 5, .int 2, .int 1, .ref a2])), (a1, .inr (5, [.ref cb, .int 81, .int 0, .ref a3, .int 14, .ref a4, .int 5, .ref a5, .int 1, .int 1, .ref a6, .int 6, .int 0, .int 1, .int 0]))] H_2 := hP2
  replace hD : va_D A [(a0, .inr (6, [.int 0, .int 0, .ref a1, .int 74, .int 0, .int 5, .int 2, .int 1, .ref a2])), (a1, .inr (5, [.ref cb, .int 81, .int 0, .ref a3, .int 14, .ref a4, .int 5, .ref a5, .int 1, .int 1, .ref a6, .int 6, .int 0, .int 1, .int 0]))] := hD2
  replace hS := hS2
  clear hP2 hD2 hS2
  refine va_tb (v := .int 1) hx hb hSK.2 hS (by unfold vp_in; decide) rfl dX6_readByte_59 ?_
  refine lv_sipush (v := 255) hx hb dX6_readByte_60 (by decide) ?_
  refine lv_iand hx hb dX6_readByte_63 ?_
  refine lv_topi (fun z_3 ez_3 => ?_)
  obtain rfl : z_3 = 1 := ez_3.trans (by decide)
  clear ez_3
  exact W.iret hx hb hr (fun t ht hW => ⟨⟨1, (), rfl, rfl, by rw [ht]; exact hP, va_K.moved hW.alike hK, hD⟩, hS.F ht⟩) hS.2.2 dX6_readByte_64

set_option maxHeartbeats 4000000 in
set_option maxRecDepth 100000 in
theorem cc_242_X6_readNumber (l : Launch) (dC : Nat → ClassId) (dI : Nat → Nat → Nat) (cy : Nat → ClassId) (sz : Nat) (cb : Nat) (a0 : Nat) (a1 : Nat) (a2 : Nat) (a3 : Nat) (a4 : Nat) (a5 : Nat) (a6 : Nat)  : Met l yX6_readNumber wsX6_readNumber ({ frames := 1, cells := 0, slots := 0, locals := 20 }) (va_Pc [.ref a0, .int 0, .int 8] (fun U => U.heap.size = sz ∧ va_P (dC, dI) vwCl [(a0, .inr (6, [.int 0, .int 0, .ref a1, .int 73, .int 0, .int 5, .int 2, .int 1, .ref a2])), (a1, .inr (5, [.ref cb, .int 81, .int 0, .ref a3, .int 14, .ref a4, .int 5, .ref a5, .int 1, .int 1, .ref a6, .int 6, .int 0, .int 1, .int 0]))] U.heap ∧ va_K (dC, dI) vwCl (TYS cy) U ∧ va_D (fun _ => True) [(a0, .inr (6, [.int 0, .int 0, .ref a1, .int 73, .int 0, .int 5, .int 2, .int 1, .ref a2])), (a1, .inr (5, [.ref cb, .int 81, .int 0, .ref a3, .int 14, .ref a4, .int 5, .ref a5, .int 1, .int 1, .ref a6, .int 6, .int 0, .int 1, .int 0]))] ∧ NK U ∧ SK cb (va_A [(a0, .inr (6, [.int 0, .int 0, .ref a1, .int 73, .int 0, .int 5, .int 2, .int 1, .ref a2])), (a1, .inr (5, [.ref cb, .int 81, .int 0, .ref a3, .int 14, .ref a4, .int 5, .ref a5, .int 1, .int 1, .ref a6, .int 6, .int 0, .int 1, .int 0]))] sz) U U.heap)) (va_Qi (fun (r : Int32) (u : Unit) => r = 1) (fun u t => va_P (dC, dI) vwCl [(a0, .inr (6, [.int 0, .int 0, .ref a1, .int 74, .int 0, .int 5, .int 2, .int 1, .ref a2])), (a1, .inr (5, [.ref cb, .int 81, .int 0, .ref a3, .int 14, .ref a4, .int 5, .ref a5, .int 1, .int 1, .ref a6, .int 6, .int 0, .int 1, .int 0]))] t.heap ∧ va_K (dC, dI) vwCl (TYS cy) t ∧ va_D (va_A [(a0, .inr (6, [.int 0, .int 0, .ref a1, .int 73, .int 0, .int 5, .int 2, .int 1, .ref a2])), (a1, .inr (5, [.ref cb, .int 81, .int 0, .ref a3, .int 14, .ref a4, .int 5, .ref a5, .int 1, .int 1, .ref a6, .int 6, .int 0, .int 1, .int 0]))] sz) [(a0, .inr (6, [.int 0, .int 0, .ref a1, .int 74, .int 0, .int 5, .int 2, .int 1, .ref a2])), (a1, .inr (5, [.ref cb, .int 81, .int 0, .ref a3, .int 14, .ref a4, .int 5, .ref a5, .int 1, .int 1, .ref a6, .int 6, .int 0, .int 1, .int 0]))]) (va_A [(a0, .inr (6, [.int 0, .int 0, .ref a1, .int 73, .int 0, .int 5, .int 2, .int 1, .ref a2])), (a1, .inr (5, [.ref cb, .int 81, .int 0, .ref a3, .int 14, .ref a4, .int 5, .ref a5, .int 1, .int 1, .ref a6, .int 6, .int 0, .int 1, .int 0]))] sz)) 0 0 (va_A [(a0, .inr (6, [.int 0, .int 0, .ref a1, .int 73, .int 0, .int 5, .int 2, .int 1, .ref a2])), (a1, .inr (5, [.ref cb, .int 81, .int 0, .ref a3, .int 14, .ref a4, .int 5, .ref a5, .int 1, .int 1, .ref a6, .int 6, .int 0, .int 1, .int 0]))] sz) := by
  refine Met.ofW (cc := cX6_readNumber) (maxL := 5) (ret := (some .int)) (by decide) rfl ?_
  intro p e s m args below meth c s₁ B hml hv
  obtain ⟨rfl, hsz, hP, hK, hD0, hN, hSK⟩ := hv
  have hx := B.exec
  have hb := B.bytes
  have hr := B.returns
  have hts := atoms_spec (ws := wsX6_readNumber) B.pre
  have hown : s.vm.findClass RX6 = some m.cls := findClass_of_methodNamed B.named
  have hlocks := B.notSynchronized
  subst hsz
  have hD := hD0.self (sz := s.heap.size)
  generalize hAe : va_A [(a0, .inr (6, [.int 0, .int 0, .ref a1, .int 73, .int 0, .int 5, .int 2, .int 1, .ref a2])), (a1, .inr (5, [.ref cb, .int 81, .int 0, .ref a3, .int 14, .ref a4, .int 5, .ref a5, .int 1, .int 1, .ref a6, .int 6, .int 0, .int 1, .int 0]))] s.heap.size = A at hD hSK ⊢
  have hA : ∀ q : Nat, s.heap.size ≤ q → A q := fun q h => by rw [← hAe]; exact Or.inr h
  have hS : va_S A s.heap s.heap [] := va_S.rf
  have hP : va_P (dC, dI) vwCl [(a0, .inr (6, [.int 0, .int 0, .ref a1, .int 73, .int 0, .int 5, .int 2, .int 1, .ref a2])), (a1, .inr (5, [.ref cb, .int 81, .int 0, .ref a3, .int 14, .ref a4, .int 5, .ref a5, .int 1, .int 1, .ref a6, .int 6, .int 0, .int 1, .int 0]))] s.heap := hP
  have hl := lv_entry ([.ref a0, .int 0, .int 8]) (n := 5) (Nat.le_of_ble_eq_true rfl)
  rw [lg_entry_eq]
  generalize (lg_sl ([.ref a0, .int 0, .int 8]) ++ List.replicate (5 - (lg_sl ([.ref a0, .int 0, .int 8])).length) Slot.unset).toArray = ls at hl ⊢
  replace hl : lv_has ls 5 [(0, .ref a0), (1, .int 0), (2, .int 8)] := hl
  refine lv_aload_n hx hb dX6_readNumber_0 rfl (lv_at hl 0 rfl) ?_
  refine va_get (D := (dC, dI)) (ci := 6) (v := .int 73) (C := RX6) (T := TX6) (N := 9) hx hb hts iw_X6_readNumber_X6 hown hK hP 0 rfl rfl 3 (by decide) (hts _ m_X6_readNumber_1) (fun _ h9 => h9) rfl dX6_readNumber_1 ?_
  refine lv_istore_n (lv' := [(3, .int 73), (0, .ref a0), (1, .int 0), (2, .int 8)]) hx hb dX6_readNumber_4 rfl hl (by decide) rfl (fun ls hl2 => ?_)
  replace hl := hl2
  clear hl2
  refine lv_aload_n hx hb dX6_readNumber_5 rfl (lv_at hl 1 rfl) ?_
  have hPc := hP.sub (ws' := [(a0, .inr (6, [.int 0, .int 0, .ref a1, .int 73, .int 0, .int 5, .int 2, .int 1, .ref a2])), (a1, .inr (5, [.ref cb, .int 81, .int 0, .ref a3, .int 14, .ref a4, .int 5, .ref a5, .int 1, .int 1, .ref a6, .int 6, .int 0, .int 1, .int 0]))]) [0, 1] rfl
  have hDc := hD.sub (ws' := [(a0, .inr (6, [.int 0, .int 0, .ref a1, .int 73, .int 0, .int 5, .int 2, .int 1, .ref a2])), (a1, .inr (5, [.ref cb, .int 81, .int 0, .ref a3, .int 14, .ref a4, .int 5, .ref a5, .int 1, .int 1, .ref a6, .int 6, .int 0, .int 1, .int 0]))]) [0, 1] (by decide) rfl
  have hFc := va_free (wc := [(a0, .inr (6, [.int 0, .int 0, .ref a1, .int 73, .int 0, .int 5, .int 2, .int 1, .ref a2])), (a1, .inr (5, [.ref cb, .int 81, .int 0, .ref a3, .int 14, .ref a4, .int 5, .ref a5, .int 1, .int 1, .ref a6, .int 6, .int 0, .int 1, .int 0]))]) hD hS hA [0, 1] rfl
  refine va_calli (va_runV (As := []) (rest := []) ⟨hx, hb, hml, hown, hts⟩ (cc_243_X6_readByte l dC dI cy s.heap.size cb a0 a1 a2 a3 a4 a5 a6) (cwV 0 hts gX6_readNumber_X6_readByte rfl rfl rfl (by decide +kernel) ⟨Nat.le_of_ble_eq_true rfl, Nat.le_of_ble_eq_true rfl⟩) ⟨fun a U g mk q => by obtain ⟨q0, q1, qP, qK, qD, qN, qS⟩ := q; exact ⟨q0, q1, qP, va_K.moved (u := U) (U := U.calling g mk a) (Vm.Alike.refl U.vm) qK, qD, qN.same rfl, SK.moved (u := U) (U := U.calling g mk a) (Vm.Alike.refl U.vm) qS⟩, va_recv hK hPc (ci := 6) (q0 := 0) rfl rfl, fun U hU hW => ⟨rfl, by rw [hU], by rw [hU]; exact hPc, va_K.moved hW.alike hK, hDc.weaken (fun _ _ _ _ => trivial), hN.warm hW, by rw [hU]; exact ((hSK.kept hS.2.1).narrow hFc).moved hW.alike⟩⟩ rfl rfl hl.1 rfl (lv_room (Nat.le_of_ble_eq_true rfl)) dX6_readNumber_6 ⟨Nat.le_of_ble_eq_true rfl, Nat.le_of_ble_eq_true rfl⟩) hS (fun q _ h => hFc q h) hFc (fun r_1 u t H_2 locs ht hvm hw hB hz1 hk1 hS2 => ?_)
  obtain ⟨hP1, hK1, hD1⟩ := hB
  rw [ht] at hP1
  obtain rfl := hw
  obtain ⟨hP2, hD2⟩ := va_join (wr := []) (w1 := [(a0, .inr (6, [.int 0, .int 0, .ref a1, .int 74, .int 0, .int 5, .int 2, .int 1, .ref a2])), (a1, .inr (5, [.ref cb, .int 81, .int 0, .ref a3, .int 14, .ref a4, .int 5, .ref a5, .int 1, .int 1, .ref a6, .int 6, .int 0, .int 1, .int 0]))]) hP hD [0, 1] [] rfl rfl (by decide) (by decide) hk1 hFc hP1 hD1
  replace hP : va_P (dC, dI) vwCl [(a0, .inr (6, [.int 0, .int 0, .ref a1, .int 74, .int 0, .int 5, .int 2, .int 1, .ref a2])), (a1, .inr (5, [.ref cb, .int 81, .int 0, .ref a3, .int 14, .ref a4, .int 5, .ref a5, .int 1, .int 1, .ref a6, .int 6, .int 0, .int 1, .int 0]))] H_2 := hP2
  replace hD : va_D A [(a0, .inr (6, [.int 0, .int 0, .ref a1, .int 74, .int 0, .int 5, .int 2, .int 1, .ref a2])), (a1, .inr (5, [.ref cb, .int 81, .int 0, .ref a3, .int 14, .ref a4, .int 5, .ref a5, .int 1, .int 1, .ref a6, .int 6, .int 0, .int 1, .int 0]))] := hD2
  replace hS := hS2
  clear hP2 hD2 hS2
  clear hPc hDc hFc hP1 hD1 hK1 hk1 hz1 hvm ht
  refine W.widen (k := 0) (n := 0) (Nat.le_of_ble_eq_true rfl) (Nat.le_of_ble_eq_true rfl) ?_
  refine lv_istore (lv' := [(4, .int 1), (3, .int 73), (0, .ref a0), (1, .int 0), (2, .int 8)]) hx hb dX6_readNumber_9 hl (by decide) rfl (fun ls hl2 => ?_)
  replace hl := hl2
  clear hl2
  refine lv_iload hx hb dX6_readNumber_11 (lv_at hl 0 rfl) ?_
  refine lv_iload_n hx hb dX6_readNumber_13 rfl (lv_at hl 3 rfl) ?_
  refine lv_icmp_lt (tgt := 23) hx hb dX6_readNumber_14 (by decide) (fun h => absurd h (by decide)) (fun _ => ?_)
  refine lv_iload hx hb dX6_readNumber_17 (lv_at hl 0 rfl) ?_
  refine lv_iload_n hx hb dX6_readNumber_19 rfl (lv_at hl 4 rfl) ?_
  refine lv_icmp_le (tgt := 29) hx hb dX6_readNumber_20 (by decide) (fun _ => ?_) (fun h => absurd (by decide) h)
  refine lv_aload_n hx hb dX6_readNumber_29 rfl (lv_at hl 2 rfl) ?_
  refine va_get (D := (dC, dI)) (ci := 6) (v := .int 0) (C := RX6) (T := TX6) (N := 9) hx hb hts iw_X6_readNumber_X6 hown hK hP 0 rfl rfl 1 (by decide) (hts _ m_X6_readNumber_2) (fun _ h9 => h9) rfl dX6_readNumber_30 ?_
  refine lv_if_ne (tgt := 41) hx hb dX6_readNumber_33 (by decide) (fun h => absurd (by decide) h) (fun _ => ?_)
  refine lv_iload hx hb dX6_readNumber_36 (lv_at hl 0 rfl) ?_
  refine lv_goto (tgt := 42) hx hb dX6_readNumber_38 (by decide) ?_
  exact W.iret hx hb hr (fun t ht hW => ⟨⟨1, (), rfl, rfl, by rw [ht]; exact hP, va_K.moved hW.alike hK, hD⟩, hS.F ht⟩) hS.2.2 dX6_readNumber_42
