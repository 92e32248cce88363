set_option maxHeartbeats 4000000 in
set_option maxRecDepth 100000 in
theorem cc_325_X6_readByte (l : Launch) (dC : Nat → ClassId) (dI : Nat → Nat → Nat) (cy : Nat → ClassId) (sz : Nat) (cb : Nat) (a0 : Nat) (a1 : Nat) (a2 : Nat) (a3 : Nat) (a4 : Nat) (a5 : Nat) (a6 : Nat)  : Met l yX6_readByte wsX6_readByte ({ frames := 0, cells := 0, slots := 0, locals := 0 }) (va_Pc [.ref a0] (fun U => U.heap.size = sz ∧ va_P (dC, dI) vwCl [(a0, .inr (6, [.int 0, .int 0, .ref a1, .int 20, .int 1, .int 0, .int 1, .int 1, .ref a2])), (a1, .inr (5, [.ref cb, .int 81, .int 0, .ref a3, .int 3, .ref a4, .int 0, .ref a5, .int 1, .int 1, .ref a6, .int 6, .int 0, .int 1, .int 0]))] U.heap ∧ va_K (dC, dI) vwCl (TYS cy) U ∧ va_D (fun _ => True) [(a0, .inr (6, [.int 0, .int 0, .ref a1, .int 20, .int 1, .int 0, .int 1, .int 1, .ref a2])), (a1, .inr (5, [.ref cb, .int 81, .int 0, .ref a3, .int 3, .ref a4, .int 0, .ref a5, .int 1, .int 1, .ref a6, .int 6, .int 0, .int 1, .int 0]))] ∧ NK U ∧ SK cb (va_A [(a0, .inr (6, [.int 0, .int 0, .ref a1, .int 20, .int 1, .int 0, .int 1, .int 1, .ref a2])), (a1, .inr (5, [.ref cb, .int 81, .int 0, .ref a3, .int 3, .ref a4, .int 0, .ref a5, .int 1, .int 1, .ref a6, .int 6, .int 0, .int 1, .int 0]))] sz) U U.heap)) (va_Qi (fun (r : Int32) (u : Unit) => r = 0) (fun u t => va_P (dC, dI) vwCl [(a0, .inr (6, [.int 0, .int 0, .ref a1, .int 21, .int 1, .int 0, .int 1, .int 1, .ref a2])), (a1, .inr (5, [.ref cb, .int 81, .int 0, .ref a3, .int 3, .ref a4, .int 0, .ref a5, .int 1, .int 1, .ref a6, .int 6, .int 0, .int 1, .int 0]))] t.heap ∧ va_K (dC, dI) vwCl (TYS cy) t ∧ va_D (va_A [(a0, .inr (6, [.int 0, .int 0, .ref a1, .int 20, .int 1, .int 0, .int 1, .int 1, .ref a2])), (a1, .inr (5, [.ref cb, .int 81, .int 0, .ref a3, .int 3, .ref a4, .int 0, .ref a5, .int 1, .int 1, .ref a6, .int 6, .int 0, .int 1, .int 0]))] sz) [(a0, .inr (6, [.int 0, .int 0, .ref a1, .int 21, .int 1, .int 0, .int 1, .int 1, .ref a2])), (a1, .inr (5, [.ref cb, .int 81, .int 0, .ref a3, .int 3, .ref a4, .int 0, .ref a5, .int 1, .int 1, .ref a6, .int 6, .int 0, .int 1, .int 0]))]) (va_A [(a0, .inr (6, [.int 0, .int 0, .ref a1, .int 20, .int 1, .int 0, .int 1, .int 1, .ref a2])), (a1, .inr (5, [.ref cb, .int 81, .int 0, .ref a3, .int 3, .ref a4, .int 0, .ref a5, .int 1, .int 1, .ref a6, .int 6, .int 0, .int 1, .int 0]))] sz)) 0 0 (va_A [(a0, .inr (6, [.int 0, .int 0, .ref a1, .int 20, .int 1, .int 0, .int 1, .int 1, .ref a2])), (a1, .inr (5, [.ref cb, .int 81, .int 0, .ref a3, .int 3, .ref a4, .int 0, .ref a5, .int 1, .int 1, .ref a6, .int 6, .int 0, .int 1, .int 0]))] sz) := by
  refine Met.ofW (cc := cX6_readByte) (maxL := 1) (ret := (some .int)) (by decide) rfl ?_
  intro p e s m args below meth c s₁ B hml hv
  obtain ⟨rfl, hsz, hP, hK, hD0, hN, hSK⟩ := hv
  have hx := B.exec
  have hb := B.bytes
  have hr := B.returns
  have hts := atoms_spec (ws := wsX6_readByte) B.pre
  have hown : s.vm.findClass RX6 = some m.cls := findClass_of_methodNamed B.named
  have hlocks := B.notSynchronized
  subst hsz
  have hD := hD0.self (sz := s.heap.size)
  generalize hAe : va_A [(a0, .inr (6, [.int 0, .int 0, .ref a1, .int 20, .int 1, .int 0, .int 1, .int 1, .ref a2])), (a1, .inr (5, [.ref cb, .int 81, .int 0, .ref a3, .int 3, .ref a4, .int 0, .ref a5, .int 1, .int 1, .ref a6, .int 6, .int 0, .int 1, .int 0]))] s.heap.size = A at hD hSK ⊢
  have hA : ∀ q : Nat, s.heap.size ≤ q → A q := fun q h => by rw [← hAe]; exact Or.inr h
  have hS : va_S A s.heap s.heap [] := va_S.rf
  have hP : va_P (dC, dI) vwCl [(a0, .inr (6, [.int 0, .int 0, .ref a1, .int 20, .int 1, .int 0, .int 1, .int 1, .ref a2])), (a1, .inr (5, [.ref cb, .int 81, .int 0, .ref a3, .int 3, .ref a4, .int 0, .ref a5, .int 1, .int 1, .ref a6, .int 6, .int 0, .int 1, .int 0]))] s.heap := hP
  have hl := lv_entry ([.ref a0]) (n := 1) (Nat.le_of_ble_eq_true rfl)
  rw [lg_entry_eq]
  generalize (lg_sl ([.ref a0]) ++ List.replicate (1 - (lg_sl ([.ref a0])).length) Slot.unset).toArray = ls at hl ⊢
  replace hl : lv_has ls 1 [(0, .ref a0)] := hl
  refine lv_aload_n hx hb dX6_readByte_0 rfl (lv_at hl 0 rfl) ?_
  refine va_get (D := (dC, dI)) (ci := 6) (v := .int 0) (C := RX6) (T := TX6) (N := 9) hx hb hts iw_X6_readByte_X6 hown hK hP 0 rfl rfl 1 (by decide) (hts _ m_X6_readByte_1) (fun _ h9 => h9) rfl dX6_readByte_1 ?_
  refine lv_if_eq (tgt := 9) hx hb dX6_readByte_4 (by decide) (fun _ => ?_) (fun h => absurd (by decide) h)
  refine lv_aload_n hx hb dX6_readByte_9 rfl (lv_at hl 0 rfl) ?_
  refine va_get (D := (dC, dI)) (ci := 6) (v := .int 20) (C := RX6) (T := TX6) (N := 9) hx hb hts iw_X6_readByte_X6 hown hK hP 0 rfl rfl 3 (by decide) (hts _ m_X6_readByte_2) (fun _ h9 => h9) rfl dX6_readByte_10 ?_
  refine lv_aload_n hx hb dX6_readByte_13 rfl (lv_at hl 0 rfl) ?_
  refine va_get (D := (dC, dI)) (ci := 6) (v := .ref a1) (C := RX6) (T := TX6) (N := 9) hx hb hts iw_X6_readByte_X6 hown hK hP 0 rfl rfl 2 (by decide) (hts _ m_X6_readByte_3) (fun _ h9 => h9) rfl dX6_readByte_14 ?_
  refine va_get (D := (dC, dI)) (ci := 5) (v := .int 81) (C := RX5) (T := TX5) (N := 15) hx hb hts iw_X6_readByte_X5 hown hK hP 1 rfl rfl 1 (by decide) (hts _ m_X6_readByte_4) (fun _ h9 => h9) rfl dX6_readByte_17 ?_
  refine lv_icmp_lt (tgt := 41) hx hb dX6_readByte_20 (by decide) (fun _ => ?_) (fun h => absurd (by decide) h)
  refine lv_aload_n hx hb dX6_readByte_41 rfl (lv_at hl 0 rfl) ?_
  refine va_get (D := (dC, dI)) (ci := 6) (v := .ref a1) (C := RX6) (T := TX6) (N := 9) hx hb hts iw_X6_readByte_X6 hown hK hP 0 rfl rfl 2 (by decide) (hts _ m_X6_readByte_3) (fun _ h9 => h9) rfl dX6_readByte_42 ?_
  refine va_get (D := (dC, dI)) (ci := 5) (v := .ref cb) (C := RX5) (T := TX5) (N := 15) hx hb hts iw_X6_readByte_X5 hown hK hP 1 rfl rfl 0 (by decide) (hts _ m_X6_readByte_6) (fun _ h9 => h9) rfl dX6_readByte_45 ?_
  refine lv_aload_n hx hb dX6_readByte_48 rfl (lv_at hl 0 rfl) ?_
  refine lv_dup hx hb dX6_readByte_49 rfl ?_
  refine va_get (D := (dC, dI)) (ci := 6) (v := .int 20) (C := RX6) (T := TX6) (N := 9) hx hb hts iw_X6_readByte_X6 hown hK hP 0 rfl rfl 3 (by decide) (hts _ m_X6_readByte_2) (fun _ h9 => h9) rfl dX6_readByte_50 ?_
  refine lv_dup_x1 hx hb dX6_readByte_53 rfl rfl ?_
  refine lv_iconst (v := 1) hx hb dX6_readByte_54 (by decide) ?_
  refine lv_iadd hx hb dX6_readByte_55 ?_
  refine lv_topi (fun z_1 ez_1 => ?_)
  obtain rfl : z_1 = 21 := ez_1.trans (by decide)
  clear ez_1
  refine va_put (D := (dC, dI)) (ci := 6) (v := .int 21) (ty := .int) (C := RX6) (T := TX6) (N := 9) hx hb hts iw_X6_readByte_X6 tyX6 tyX6_ok nmX6 hown hK hP hD hS 0 rfl rfl 3 (by decide) (hts _ m_X6_readByte_2) (fun _ h9 => h9) rfl (by decide +kernel) rfl rfl (Nat.le_of_ble_eq_true rfl) dX6_readByte_56 (fun H_2 locs hP2 hD2 hS2 => ?_)
  replace hP : va_P (dC, dI) vwCl [(a0, .inr (6, [.int 0, .int 0, .ref a1, .int 21, .int 1, .int 0, .int 1, .int 1, .ref a2])), (a1, .inr (5, [.ref cb, .int 81, .int 0, .ref a3, .int 3, .ref a4, .int 0, .ref a5, .int 1, .int 1, .ref a6, .int 6, .int 0, .int 1, .int 0]))] H_2 := hP2
  replace hD : va_D A [(a0, .inr (6, [.int 0, .int 0, .ref a1, .int 21, .int 1, .int 0, .int 1, .int 1, .ref a2])), (a1, .inr (5, [.ref cb, .int 81, .int 0, .ref a3, .int 3, .ref a4, .int 0, .ref a5, .int 1, .int 1, .ref a6, .int 6, .int 0, .int 1, .int 0]))] := hD2
  replace hS := hS2
  clear hP2 hD2 hS2
  refine va_tb (v := .int 0) hx hb hSK.2 hS (by unfold vp_in; decide) rfl dX6_readByte_59 ?_
  refine lv_sipush (v := 255) hx hb dX6_readByte_60 (by decide) ?_
  refine lv_iand hx hb dX6_readByte_63 ?_
  refine lv_topi (fun z_3 ez_3 => ?_)
  obtain rfl : z_3 = 0 := ez_3.trans (by decide)
  clear ez_3
  exact W.iret hx hb hr (fun t ht hW => ⟨⟨0, (), rfl, rfl, by rw [ht]; exact hP, va_K.moved hW.alike hK, hD⟩, hS.F ht⟩) hS.2.2 dX6_readByte_64

set_option maxHeartbeats 4000000 in
set_option maxRecDepth 100000 in
theorem cc_324_X6_readNumber (l : Launch) (dC : Nat → ClassId) (dI : Nat → Nat → Nat) (cy : Nat → ClassId) (sz : Nat) (cb : Nat) (a0 : Nat) (a1 : Nat) (a2 : Nat) (a3 : Nat) (a4 : Nat) (a5 : Nat) (a6 : Nat)  : Met l yX6_readNumber wsX6_readNumber ({ frames := 1, cells := 0, slots := 0, locals := 20 }) (va_Pc [.ref a0, .int 0, .int 32] (fun U => U.heap.size = sz ∧ va_P (dC, dI) vwCl [(a0, .inr (6, [.int 0, .int 0, .ref a1, .int 20, .int 1, .int 0, .int 1, .int 1, .ref a2])), (a1, .inr (5, [.ref cb, .int 81, .int 0, .ref a3, .int 3, .ref a4, .int 0, .ref a5, .int 1, .int 1, .ref a6, .int 6, .int 0, .int 1, .int 0]))] U.heap ∧ va_K (dC, dI) vwCl (TYS cy) U ∧ va_D (fun _ => True) [(a0, .inr (6, [.int 0, .int 0, .ref a1, .int 20, .int 1, .int 0, .int 1, .int 1, .ref a2])), (a1, .inr (5, [.ref cb, .int 81, .int 0, .ref a3, .int 3, .ref a4, .int 0, .ref a5, .int 1, .int 1, .ref a6, .int 6, .int 0, .int 1, .int 0]))] ∧ NK U ∧ SK cb (va_A [(a0, .inr (6, [.int 0, .int 0, .ref a1, .int 20, .int 1, .int 0, .int 1, .int 1, .ref a2])), (a1, .inr (5, [.ref cb, .int 81, .int 0, .ref a3, .int 3, .ref a4, .int 0, .ref a5, .int 1, .int 1, .ref a6, .int 6, .int 0, .int 1, .int 0]))] sz) U U.heap)) (va_Qi (fun (r : Int32) (u : Unit) => r = 0) (fun u t => va_P (dC, dI) vwCl [(a0, .inr (6, [.int 0, .int 0, .ref a1, .int 21, .int 1, .int 0, .int 1, .int 1, .ref a2])), (a1, .inr (5, [.ref cb, .int 81, .int 0, .ref a3, .int 3, .ref a4, .int 0, .ref a5, .int 1, .int 1, .ref a6, .int 6, .int 0, .int 1, .int 0]))] t.heap ∧ va_K (dC, dI) vwCl (TYS cy) t ∧ va_D (va_A [(a0, .inr (6, [.int 0, .int 0, .ref a1, .int 20, .int 1, .int 0, .int 1, .int 1, .ref a2])), (a1, .inr (5, [.ref cb, .int 81, .int 0, .ref a3, .int 3, .ref a4, .int 0, .ref a5, .int 1, .int 1, .ref a6, .int 6, .int 0, .int 1, .int 0]))] sz) [(a0, .inr (6, [.int 0, .int 0, .ref a1, .int 21, .int 1, .int 0, .int 1, .int 1, .ref a2])), (a1, .inr (5, [.ref cb, .int 81, .int 0, .ref a3, .int 3, .ref a4, .int 0, .ref a5, .int 1, .int 1, .ref a6, .int 6, .int 0, .int 1, .int 0]))]) (va_A [(a0, .inr (6, [.int 0, .int 0, .ref a1, .int 20, .int 1, .int 0, .int 1, .int 1, .ref a2])), (a1, .inr (5, [.ref cb, .int 81, .int 0, .ref a3, .int 3, .ref a4, .int 0, .ref a5, .int 1, .int 1, .ref a6, .int 6, .int 0, .int 1, .int 0]))] sz)) 0 0 (va_A [(a0, .inr (6, [.int 0, .int 0, .ref a1, .int 20, .int 1, .int 0, .int 1, .int 1, .ref a2])), (a1, .inr (5, [.ref cb, .int 81, .int 0, .ref a3, .int 3, .ref a4, .int 0, .ref a5, .int 1, .int 1, .ref a6, .int 6, .int 0, .int 1, .int 0]))] sz) := by
  refine Met.ofW (cc := cX6_readNumber) (maxL := 5) (ret := (some .int)) (by decide) rfl ?_
  intro p e s m args below meth c s₁ B hml hv
  obtain ⟨rfl, hsz, hP, hK, hD0, hN, hSK⟩ := hv
  have hx := B.exec
  have hb := B.bytes
  have hr := B.returns
  have hts := atoms_spec (ws := wsX6_readNumber) B.pre
  have hown : s.vm.findClass RX6 = some m.cls := findClass_of_methodNamed B.named
  have hlocks := B.notSynchronized
  subst hsz
  have hD := hD0.self (sz := s.heap.size)
  generalize hAe : va_A [(a0, .inr (6, [.int 0, .int 0, .ref a1, .int 20, .int 1, .int 0, .int 1, .int 1, .ref a2])), (a1, .inr (5, [.ref cb, .int 81, .int 0, .ref a3, .int 3, .ref a4, .int 0, .ref a5, .int 1, .int 1, .ref a6, .int 6, .int 0, .int 1, .int 0]))] s.heap.size = A at hD hSK ⊢
  have hA : ∀ q : Nat, s.heap.size ≤ q → A q := fun q h => by rw [← hAe]; exact Or.inr h
  have hS : va_S A s.heap s.heap [] := va_S.rf
  have hP : va_P (dC, dI) vwCl [(a0, .inr (6, [.int 0, .int 0, .ref a1, .int 20, .int 1, .int 0, .int 1, .int 1, .ref a2])), (a1, .inr (5, [.ref cb, .int 81, .int 0, .ref a3, .int 3, .ref a4, .int 0, .ref a5, .int 1, .int 1, .ref a6, .int 6, .int 0, .int 1, .int 0]))] s.heap := hP
  have hl := lv_entry ([.ref a0, .int 0, .int 32]) (n := 5) (Nat.le_of_ble_eq_true rfl)
  rw [lg_entry_eq]
  generalize (lg_sl ([.ref a0, .int 0, .int 32]) ++ List.replicate (5 - (lg_sl ([.ref a0, .int 0, .int 32])).length) Slot.unset).toArray = ls at hl ⊢
  replace hl : lv_has ls 5 [(0, .ref a0), (1, .int 0), (2, .int 32)] := hl
  refine lv_aload_n hx hb dX6_readNumber_0 rfl (lv_at hl 0 rfl) ?_
  refine va_get (D := (dC, dI)) (ci := 6) (v := .int 20) (C := RX6) (T := TX6) (N := 9) hx hb hts iw_X6_readNumber_X6 hown hK hP 0 rfl rfl 3 (by decide) (hts _ m_X6_readNumber_1) (fun _ h9 => h9) rfl dX6_readNumber_1 ?_
  refine lv_istore_n (lv' := [(3, .int 20), (0, .ref a0), (1, .int 0), (2, .int 32)]) hx hb dX6_readNumber_4 rfl hl (by decide) rfl (fun ls hl2 => ?_)
  replace hl := hl2
  clear hl2
  refine lv_aload_n hx hb dX6_readNumber_5 rfl (lv_at hl 1 rfl) ?_
  have hPc := hP.sub (ws' := [(a0, .inr (6, [.int 0, .int 0, .ref a1, .int 20, .int 1, .int 0, .int 1, .int 1, .ref a2])), (a1, .inr (5, [.ref cb, .int 81, .int 0, .ref a3, .int 3, .ref a4, .int 0, .ref a5, .int 1, .int 1, .ref a6, .int 6, .int 0, .int 1, .int 0]))]) [0, 1] rfl
  have hDc := hD.sub (ws' := [(a0, .inr (6, [.int 0, .int 0, .ref a1, .int 20, .int 1, .int 0, .int 1, .int 1, .ref a2])), (a1, .inr (5, [.ref cb, .int 81, .int 0, .ref a3, .int 3, .ref a4, .int 0, .ref a5, .int 1, .int 1, .ref a6, .int 6, .int 0, .int 1, .int 0]))]) [0, 1] (by decide) rfl
  have hFc := va_free (wc := [(a0, .inr (6, [.int 0, .int 0, .ref a1, .int 20, .int 1, .int 0, .int 1, .int 1, .ref a2])), (a1, .inr (5, [.ref cb, .int 81, .int 0, .ref a3, .int 3, .ref a4, .int 0, .ref a5, .int 1, .int 1, .ref a6, .int 6, .int 0, .int 1, .int 0]))]) hD hS hA [0, 1] rfl
  refine va_calli (va_runV (As := []) (rest := []) ⟨hx, hb, hml, hown, hts⟩ (cc_325_X6_readByte l dC dI cy s.heap.size cb a0 a1 a2 a3 a4 a5 a6) (cwV 0 hts gX6_readNumber_X6_readByte rfl rfl rfl (by decide +kernel) ⟨Nat.le_of_ble_eq_true rfl, Nat.le_of_ble_eq_true rfl⟩) ⟨fun a U g mk q => by obtain ⟨q0, q1, qP, qK, qD, qN, qS⟩ := q; exact ⟨q0, q1, qP, va_K.moved (u := U) (U := U.calling g mk a) (Vm.Alike.refl U.vm) qK, qD, qN.same rfl, SK.moved (u := U) (U := U.calling g mk a) (Vm.Alike.refl U.vm) qS⟩, va_recv hK hPc (ci := 6) (q0 := 0) rfl rfl, fun U hU hW => ⟨rfl, by rw [hU], by rw [hU]; exact hPc, va_K.moved hW.alike hK, hDc.weaken (fun _ _ _ _ => trivial), hN.warm hW, by rw [hU]; exact ((hSK.kept hS.2.1).narrow hFc).moved hW.alike⟩⟩ rfl rfl hl.1 rfl (lv_room (Nat.le_of_ble_eq_true rfl)) dX6_readNumber_6 ⟨Nat.le_of_ble_eq_true rfl, Nat.le_of_ble_eq_true rfl⟩) hS (fun q _ h => hFc q h) hFc (fun r_1 u t H_2 locs ht hvm hw hB hz1 hk1 hS2 => ?_)
  obtain ⟨hP1, hK1, hD1⟩ := hB
  rw [ht] at hP1
  obtain rfl := hw
  obtain ⟨hP2, hD2⟩ := va_join (wr := []) (w1 := [(a0, .inr (6, [.int 0, .int 0, .ref a1, .int 21, .int 1, .int 0, .int 1, .int 1, .ref a2])), (a1, .inr (5, [.ref cb, .int 81, .int 0, .ref a3, .int 3, .ref a4, .int 0, .ref a5, .int 1, .int 1, .ref a6, .int 6, .int 0, .int 1, .int 0]))]) hP hD [0, 1] [] rfl rfl (by decide) (by decide) hk1 hFc hP1 hD1
  replace hP : va_P (dC, dI) vwCl [(a0, .inr (6, [.int 0, .int 0, .ref a1, .int 21, .int 1, .int 0, .int 1, .int 1, .ref a2])), (a1, .inr (5, [.ref cb, .int 81, .int 0, .ref a3, .int 3, .ref a4, .int 0, .ref a5, .int 1, .int 1, .ref a6, .int 6, .int 0, .int 1, .int 0]))] H_2 := hP2
  replace hD : va_D A [(a0, .inr (6, [.int 0, .int 0, .ref a1, .int 21, .int 1, .int 0, .int 1, .int 1, .ref a2])), (a1, .inr (5, [.ref cb, .int 81, .int 0, .ref a3, .int 3, .ref a4, .int 0, .ref a5, .int 1, .int 1, .ref a6, .int 6, .int 0, .int 1, .int 0]))] := hD2
  replace hS := hS2
  clear hP2 hD2 hS2
  clear hPc hDc hFc hP1 hD1 hK1 hk1 hz1 hvm ht
  refine W.widen (k := 0) (n := 0) (Nat.le_of_ble_eq_true rfl) (Nat.le_of_ble_eq_true rfl) ?_
  refine lv_istore (lv' := [(4, .int 0), (3, .int 20), (0, .ref a0), (1, .int 0), (2, .int 32)]) hx hb dX6_readNumber_9 hl (by decide) rfl (fun ls hl2 => ?_)
  replace hl := hl2
  clear hl2
  refine lv_iload hx hb dX6_readNumber_11 (lv_at hl 0 rfl) ?_
  refine lv_iload_n hx hb dX6_readNumber_13 rfl (lv_at hl 3 rfl) ?_
  refine lv_icmp_lt (tgt := 23) hx hb dX6_readNumber_14 (by decide) (fun h => absurd h (by decide)) (fun _ => ?_)
  refine lv_iload hx hb dX6_readNumber_17 (lv_at hl 0 rfl) ?_
  refine lv_iload_n hx hb dX6_readNumber_19 rfl (lv_at hl 4 rfl) ?_
  refine lv_icmp_le (tgt := 29) hx hb dX6_readNumber_20 (by decide) (fun _ => ?_) (fun h => absurd (by decide) h)
  refine lv_aload_n hx hb dX6_readNumber_29 rfl (lv_at hl 2 rfl) ?_
  refine va_get (D := (dC, dI)) (ci := 6) (v := .int 0) (C := RX6) (T := TX6) (N := 9) hx hb hts iw_X6_readNumber_X6 hown hK hP 0 rfl rfl 1 (by decide) (hts _ m_X6_readNumber_2) (fun _ h9 => h9) rfl dX6_readNumber_30 ?_
  refine lv_if_ne (tgt := 41) hx hb dX6_readNumber_33 (by decide) (fun h => absurd (by decide) h) (fun _ => ?_)
  refine lv_iload hx hb dX6_readNumber_36 (lv_at hl 0 rfl) ?_
  refine lv_goto (tgt := 42) hx hb dX6_readNumber_38 (by decide) ?_
  exact W.iret hx hb hr (fun t ht hW => ⟨⟨0, (), rfl, rfl, by rw [ht]; exact hP, va_K.moved hW.alike hK, hD⟩, hS.F ht⟩) hS.2.2 dX6_readNumber_42

set_option maxHeartbeats 4000000 in
set_option maxRecDepth 100000 in
theorem cc_326_X6_readTypes (l : Launch) (dC : Nat → ClassId) (dI : Nat → Nat → Nat) (cy : Nat → ClassId) (sz : Nat) (cb : Nat) (a0 : Nat) (a1 : Nat) (a2 : Nat)  : Met l yX6_readTypes wsX6_readTypes ({ frames := 0, cells := 0, slots := 0, locals := 0 }) (va_Pc [.ref a0, .int 0, .int 1] (fun U => U.heap.size = sz ∧ va_P (dC, dI) vwCl [(a0, .inr (6, [.int 0, .int 0, .ref a1, .int 21, .int 1, .int 0, .int 1, .int 1, .ref a2]))] U.heap ∧ va_K (dC, dI) vwCl (TYS cy) U ∧ va_D (fun _ => True) [(a0, .inr (6, [.int 0, .int 0, .ref a1, .int 21, .int 1, .int 0, .int 1, .int 1, .ref a2]))] ∧ NK U ∧ SK cb (va_A [(a0, .inr (6, [.int 0, .int 0, .ref a1, .int 21, .int 1, .int 0, .int 1, .int 1, .ref a2]))] sz) U U.heap)) (va_Qv (fun u : Unit => True) (fun u t => va_P (dC, dI) vwCl [(a0, .inr (6, [.int 0, .int 0, .ref a1, .int 21, .int 1, .int 0, .int 1, .int 1, .ref a2]))] t.heap ∧ va_K (dC, dI) vwCl (TYS cy) t ∧ va_D (va_A [(a0, .inr (6, [.int 0, .int 0, .ref a1, .int 21, .int 1, .int 0, .int 1, .int 1, .ref a2]))] sz) [(a0, .inr (6, [.int 0, .int 0, .ref a1, .int 21, .int 1, .int 0, .int 1, .int 1, .ref a2]))]) (va_A [(a0, .inr (6, [.int 0, .int 0, .ref a1, .int 21, .int 1, .int 0, .int 1, .int 1, .ref a2]))] sz)) 0 0 (va_A [(a0, .inr (6, [.int 0, .int 0, .ref a1, .int 21, .int 1, .int 0, .int 1, .int 1, .ref a2]))] sz) := by
  refine Met.ofW (cc := cX6_readTypes) (maxL := 4) (ret := none) (by decide) rfl ?_
  intro p e s m args below meth c s₁ B hml hv
  obtain ⟨rfl, hsz, hP, hK, hD0, hN, hSK⟩ := hv
  have hx := B.exec
  have hb := B.bytes
  have hr := B.returns
  have hts := atoms_spec (ws := wsX6_readTypes) B.pre
  have hown : s.vm.findClass RX6 = some m.cls := findClass_of_methodNamed B.named
  have hlocks := B.notSynchronized
  subst hsz
  have hD := hD0.self (sz := s.heap.size)
  generalize hAe : va_A [(a0, .inr (6, [.int 0, .int 0, .ref a1, .int 21, .int 1, .int 0, .int 1, .int 1, .ref a2]))] s.heap.size = A at hD hSK ⊢
  have hA : ∀ q : Nat, s.heap.size ≤ q → A q := fun q h => by rw [← hAe]; exact Or.inr h
  have hS : va_S A s.heap s.heap [] := va_S.rf
  have hP : va_P (dC, dI) vwCl [(a0, .inr (6, [.int 0, .int 0, .ref a1, .int 21, .int 1, .int 0, .int 1, .int 1, .ref a2]))] s.heap := hP
  have hl := lv_entry ([.ref a0, .int 0, .int 1]) (n := 4) (Nat.le_of_ble_eq_true rfl)
  rw [lg_entry_eq]
  generalize (lg_sl ([.ref a0, .int 0, .int 1]) ++ List.replicate (4 - (lg_sl ([.ref a0, .int 0, .int 1])).length) Slot.unset).toArray = ls at hl ⊢
  replace hl : lv_has ls 4 [(0, .ref a0), (1, .int 0), (2, .int 1)] := hl
  refine lv_iconst (v := 0) hx hb dX6_readTypes_0 (by decide) ?_
  refine lv_istore_n (lv' := [(3, .int 0), (0, .ref a0), (1, .int 0), (2, .int 1)]) hx hb dX6_readTypes_1 rfl hl (by decide) rfl (fun ls hl2 => ?_)
  replace hl := hl2
  clear hl2
  refine lv_iload_n hx hb dX6_readTypes_2 rfl (lv_at hl 0 rfl) ?_
  refine lv_iload_n hx hb dX6_readTypes_3 rfl (lv_at hl 2 rfl) ?_
  refine lv_icmp_ge (tgt := 32) hx hb dX6_readTypes_4 (by decide) (fun _ => ?_) (fun h => absurd (by decide) h)
  exact W.vret hx hb hr (fun t ht hW => ⟨⟨(), rfl, trivial, by rw [ht]; exact hP, va_K.moved hW.alike hK, hD⟩, hS.F ht⟩) hS.2.2 dX6_readTypes_32

set_option maxHeartbeats 4000000 in
set_option maxRecDepth 100000 in
theorem cc_323_X6_readList (l : Launch) (dC : Nat → ClassId) (dI : Nat → Nat → Nat) (cy : Nat → ClassId) (sz : Nat) (cb : Nat) (a0 : Nat) (a1 : Nat) (a2 : Nat) (a3 : Nat) (a4 : Nat) (a5 : Nat) (a6 : Nat)  : Met l yX6_readList wsX6_readList ({ frames := 2, cells := 0, slots := 0, locals := 44 }) (va_Pc [.ref a0, .int 32] (fun U => U.heap.size = sz ∧ va_P (dC, dI) vwCl [(a0, .inr (6, [.int 0, .int 0, .ref a1, .int 20, .int 1, .int 0, .int 1, .int 1, .ref a2])), (a1, .inr (5, [.ref cb, .int 81, .int 0, .ref a3, .int 3, .ref a4, .int 0, .ref a5, .int 1, .int 1, .ref a6, .int 6, .int 0, .int 1, .int 0]))] U.heap ∧ va_K (dC, dI) vwCl (TYS cy) U ∧ va_D (fun _ => True) [(a0, .inr (6, [.int 0, .int 0, .ref a1, .int 20, .int 1, .int 0, .int 1, .int 1, .ref a2])), (a1, .inr (5, [.ref cb, .int 81, .int 0, .ref a3, .int 3, .ref a4, .int 0, .ref a5, .int 1, .int 1, .ref a6, .int 6, .int 0, .int 1, .int 0]))] ∧ NK U ∧ SK cb (va_A [(a0, .inr (6, [.int 0, .int 0, .ref a1, .int 20, .int 1, .int 0, .int 1, .int 1, .ref a2])), (a1, .inr (5, [.ref cb, .int 81, .int 0, .ref a3, .int 3, .ref a4, .int 0, .ref a5, .int 1, .int 1, .ref a6, .int 6, .int 0, .int 1, .int 0]))] sz) U U.heap)) (va_Qi (fun (r : Int32) (u : Unit) => r = 0) (fun u t => va_P (dC, dI) vwCl [(a0, .inr (6, [.int 0, .int 0, .ref a1, .int 21, .int 1, .int 0, .int 1, .int 1, .ref a2])), (a1, .inr (5, [.ref cb, .int 81, .int 0, .ref a3, .int 3, .ref a4, .int 0, .ref a5, .int 1, .int 1, .ref a6, .int 6, .int 0, .int 1, .int 0]))] t.heap ∧ va_K (dC, dI) vwCl (TYS cy) t ∧ va_D (va_A [(a0, .inr (6, [.int 0, .int 0, .ref a1, .int 20, .int 1, .int 0, .int 1, .int 1, .ref a2])), (a1, .inr (5, [.ref cb, .int 81, .int 0, .ref a3, .int 3, .ref a4, .int 0, .ref a5, .int 1, .int 1, .ref a6, .int 6, .int 0, .int 1, .int 0]))] sz) [(a0, .inr (6, [.int 0, .int 0, .ref a1, .int 21, .int 1, .int 0, .int 1, .int 1, .ref a2])), (a1, .inr (5, [.ref cb, .int 81, .int 0, .ref a3, .int 3, .ref a4, .int 0, .ref a5, .int 1, .int 1, .ref a6, .int 6, .int 0, .int 1, .int 0]))]) (va_A [(a0, .inr (6, [.int 0, .int 0, .ref a1, .int 20, .int 1, .int 0, .int 1, .int 1, .ref a2])), (a1, .inr (5, [.ref cb, .int 81, .int 0, .ref a3, .int 3, .ref a4, .int 0, .ref a5, .int 1, .int 1, .ref a6, .int 6, .int 0, .int 1, .int 0]))] sz)) 0 0 (va_A [(a0, .inr (6, [.int 0, .int 0, .ref a1, .int 20, .int 1, .int 0, .int 1, .int 1, .ref a2])), (a1, .inr (5, [.ref cb, .int 81, .int 0, .ref a3, .int 3, .ref a4, .int 0, .ref a5, .int 1, .int 1, .ref a6, .int 6, .int 0, .int 1, .int 0]))] sz) := by
  refine Met.ofW (cc := cX6_readList) (maxL := 3) (ret := (some .int)) (by decide) rfl ?_
  intro p e s m args below meth c s₁ B hml hv
  obtain ⟨rfl, hsz, hP, hK, hD0, hN, hSK⟩ := hv
  have hx := B.exec
  have hb := B.bytes
  have hr := B.returns
  have hts := atoms_spec (ws := wsX6_readList) B.pre
  have hown : s.vm.findClass RX6 = some m.cls := findClass_of_methodNamed B.named
  have hlocks := B.notSynchronized
  subst hsz
  have hD := hD0.self (sz := s.heap.size)
  generalize hAe : va_A [(a0, .inr (6, [.int 0, .int 0, .ref a1, .int 20, .int 1, .int 0, .int 1, .int 1, .ref a2])), (a1, .inr (5, [.ref cb, .int 81, .int 0, .ref a3, .int 3, .ref a4, .int 0, .ref a5, .int 1, .int 1, .ref a6, .int 6, .int 0, .int 1, .int 0]))] s.heap.size = A at hD hSK ⊢
  have hA : ∀ q : Nat, s.heap.size ≤ q → A q := fun q h => by rw [← hAe]; exact Or.inr h
  have hS : va_S A s.heap s.heap [] := va_S.rf
  have hP : va_P (dC, dI) vwCl [(a0, .inr (6, [.int 0, .int 0, .ref a1, .int 20, .int 1, .int 0, .int 1, .int 1, .ref a2])), (a1, .inr (5, [.ref cb, .int 81, .int 0, .ref a3, .int 3, .ref a4, .int 0, .ref a5, .int 1, .int 1, .ref a6, .int 6, .int 0, .int 1, .int 0]))] s.heap := hP
  have hl := lv_entry ([.ref a0, .int 32]) (n := 3) (Nat.le_of_ble_eq_true rfl)
  rw [lg_entry_eq]
  generalize (lg_sl ([.ref a0, .int 32]) ++ List.replicate (3 - (lg_sl ([.ref a0, .int 32])).length) Slot.unset).toArray = ls at hl ⊢
  replace hl : lv_has ls 3 [(0, .ref a0), (1, .int 32)] := hl
  refine lv_aload_n hx hb dX6_readList_0 rfl (lv_at hl 0 rfl) ?_
  refine lv_iconst (v := 0) hx hb dX6_readList_1 (by decide) ?_
  refine lv_iload_n hx hb dX6_readList_2 rfl (lv_at hl 1 rfl) ?_
  have hPc := hP.sub (ws' := [(a0, .inr (6, [.int 0, .int 0, .ref a1, .int 20, .int 1, .int 0, .int 1, .int 1, .ref a2])), (a1, .inr (5, [.ref cb, .int 81, .int 0, .ref a3, .int 3, .ref a4, .int 0, .ref a5, .int 1, .int 1, .ref a6, .int 6, .int 0, .int 1, .int 0]))]) [0, 1] rfl
  have hDc := hD.sub (ws' := [(a0, .inr (6, [.int 0, .int 0, .ref a1, .int 20, .int 1, .int 0, .int 1, .int 1, .ref a2])), (a1, .inr (5, [.ref cb, .int 81, .int 0, .ref a3, .int 3, .ref a4, .int 0, .ref a5, .int 1, .int 1, .ref a6, .int 6, .int 0, .int 1, .int 0]))]) [0, 1] (by decide) rfl
  have hFc := va_free (wc := [(a0, .inr (6, [.int 0, .int 0, .ref a1, .int 20, .int 1, .int 0, .int 1, .int 1, .ref a2])), (a1, .inr (5, [.ref cb, .int 81, .int 0, .ref a3, .int 3, .ref a4, .int 0, .ref a5, .int 1, .int 1, .ref a6, .int 6, .int 0, .int 1, .int 0]))]) hD hS hA [0, 1] rfl
  refine va_calli (va_runV (As := [.int 0, .int 32]) (rest := []) ⟨hx, hb, hml, hown, hts⟩ (cc_324_X6_readNumber l dC dI cy s.heap.size cb a0 a1 a2 a3 a4 a5 a6) (cwV 2 hts gX6_readList_X6_readNumber rfl rfl rfl (by decide +kernel) ⟨Nat.le_of_ble_eq_true rfl, Nat.le_of_ble_eq_true rfl⟩) ⟨fun a U g mk q => by obtain ⟨q0, q1, qP, qK, qD, qN, qS⟩ := q; exact ⟨q0, q1, qP, va_K.moved (u := U) (U := U.calling g mk a) (Vm.Alike.refl U.vm) qK, qD, qN.same rfl, SK.moved (u := U) (U := U.calling g mk a) (Vm.Alike.refl U.vm) qS⟩, va_recv hK hPc (ci := 6) (q0 := 0) rfl rfl, fun U hU hW => ⟨rfl, by rw [hU], by rw [hU]; exact hPc, va_K.moved hW.alike hK, hDc.weaken (fun _ _ _ _ => trivial), hN.warm hW, by rw [hU]; exact ((hSK.kept hS.2.1).narrow hFc).moved hW.alike⟩⟩ rfl rfl hl.1 rfl (lv_room (Nat.le_of_ble_eq_true rfl)) dX6_readList_3 ⟨Nat.le_of_ble_eq_true rfl, Nat.le_of_ble_eq_true rfl⟩) hS (fun q _ h => hFc q h) hFc (fun r_1 u t H_2 locs ht hvm hw hB hz1 hk1 hS2 => ?_)
  obtain ⟨hP1, hK1, hD1⟩ := hB
  rw [ht] at hP1
  obtain rfl := hw
  obtain ⟨hP2, hD2⟩ := va_join (wr := []) (w1 := [(a0, .inr (6, [.int 0, .int 0, .ref a1, .int 21, .int 1, .int 0, .int 1, .int 1, .ref a2])), (a1, .inr (5, [.ref cb, .int 81, .int 0, .ref a3, .int 3, .ref a4, .int 0, .ref a5, .int 1, .int 1, .ref a6, .int 6, .int 0, .int 1, .int 0]))]) hP hD [0, 1] [] rfl rfl (by decide) (by decide) hk1 hFc hP1 hD1
  replace hP : va_P (dC, dI) vwCl [(a0, .inr (6, [.int 0, .int 0, .ref a1, .int 21, .int 1, .int 0, .int 1, .int 1, .ref a2])), (a1, .inr (5, [.ref cb, .int 81, .int 0, .ref a3, .int 3, .ref a4, .int 0, .ref a5, .int 1, .int 1, .ref a6, .int 6, .int 0, .int 1, .int 0]))] H_2 := hP2
  replace hD : va_D A [(a0, .inr (6, [.int 0, .int 0, .ref a1, .int 21, .int 1, .int 0, .int 1, .int 1, .ref a2])), (a1, .inr (5, [.ref cb, .int 81, .int 0, .ref a3, .int 3, .ref a4, .int 0, .ref a5, .int 1, .int 1, .ref a6, .int 6, .int 0, .int 1, .int 0]))] := hD2
  replace hS := hS2
  clear hP2 hD2 hS2
  clear hPc hDc hFc hP1 hD1 hK1 hk1 hz1 hvm ht
  refine W.widen (k := 0) (n := 0) (Nat.le_of_ble_eq_true rfl) (Nat.le_of_ble_eq_true rfl) ?_
  refine lv_istore_n (lv' := [(2, .int 0), (0, .ref a0), (1, .int 32)]) hx hb dX6_readList_6 rfl hl (by decide) rfl (fun ls hl2 => ?_)
  replace hl := hl2
  clear hl2
  refine lv_aload_n hx hb dX6_readList_7 rfl (lv_at hl 1 rfl) ?_
  refine lv_iload_n hx hb dX6_readList_8 rfl (lv_at hl 0 rfl) ?_
  refine lv_iconst (v := 1) hx hb dX6_readList_9 (by decide) ?_
  have hPc := hP.sub (ws' := [(a0, .inr (6, [.int 0, .int 0, .ref a1, .int 21, .int 1, .int 0, .int 1, .int 1, .ref a2]))]) [0] rfl
  have hDc := hD.sub (ws' := [(a0, .inr (6, [.int 0, .int 0, .ref a1, .int 21, .int 1, .int 0, .int 1, .int 1, .ref a2]))]) [0] (by decide) rfl
  have hFc := va_free (wc := [(a0, .inr (6, [.int 0, .int 0, .ref a1, .int 21, .int 1, .int 0, .int 1, .int 1, .ref a2]))]) hD hS hA [0] rfl
  refine va_callv (va_runV (As := [.int 0, .int 1]) (rest := []) ⟨hx, hb, hml, hown, hts⟩ (cc_326_X6_readTypes l dC dI cy H_2.size cb a0 a1 a2) (cwV 2 hts gX6_readList_X6_readTypes rfl rfl rfl (by decide +kernel) ⟨Nat.le_of_ble_eq_true rfl, Nat.le_of_ble_eq_true rfl⟩) ⟨fun a U g mk q => by obtain ⟨q0, q1, qP, qK, qD, qN, qS⟩ := q; exact ⟨q0, q1, qP, va_K.moved (u := U) (U := U.calling g mk a) (Vm.Alike.refl U.vm) qK, qD, qN.same rfl, SK.moved (u := U) (U := U.calling g mk a) (Vm.Alike.refl U.vm) qS⟩, va_recv hK hPc (ci := 6) (q0 := 0) rfl rfl, fun U hU hW => ⟨rfl, by rw [hU], by rw [hU]; exact hPc, va_K.moved hW.alike hK, hDc.weaken (fun _ _ _ _ => trivial), hN.warm hW, by rw [hU]; exact ((hSK.kept hS.2.1).narrow hFc).moved hW.alike⟩⟩ rfl rfl hl.1 rfl (lv_room (Nat.le_of_ble_eq_true rfl)) dX6_readList_10 ⟨Nat.le_of_ble_eq_true rfl, Nat.le_of_ble_eq_true rfl⟩) hS (fun q _ h => hFc q h) hFc (fun u t H_3 locs ht hvm hw hB hz1 hk1 hS2 => ?_)
  obtain ⟨hP1, hK1, hD1⟩ := hB
  rw [ht] at hP1
  obtain ⟨hP2, hD2⟩ := va_join (wr := [(a1, .inr (5, [.ref cb, .int 81, .int 0, .ref a3, .int 3, .ref a4, .int 0, .ref a5, .int 1, .int 1, .ref a6, .int 6, .int 0, .int 1, .int 0]))]) (w1 := [(a0, .inr (6, [.int 0, .int 0, .ref a1, .int 21, .int 1, .int 0, .int 1, .int 1, .ref a2]))]) hP hD [0] [1] rfl rfl (by decide) (by decide) hk1 hFc hP1 hD1
  replace hP : va_P (dC, dI) vwCl [(a1, .inr (5, [.ref cb, .int 81, .int 0, .ref a3, .int 3, .ref a4, .int 0, .ref a5, .int 1, .int 1, .ref a6, .int 6, .int 0, .int 1, .int 0])), (a0, .inr (6, [.int 0, .int 0, .ref a1, .int 21, .int 1, .int 0, .int 1, .int 1, .ref a2]))] H_3 := hP2
  replace hD : va_D A [(a1, .inr (5, [.ref cb, .int 81, .int 0, .ref a3, .int 3, .ref a4, .int 0, .ref a5, .int 1, .int 1, .ref a6, .int 6, .int 0, .int 1, .int 0])), (a0, .inr (6, [.int 0, .int 0, .ref a1, .int 21, .int 1, .int 0, .int 1, .int 1, .ref a2]))] := hD2
  replace hS := hS2
  clear hP2 hD2 hS2
  clear hPc hDc hFc hP1 hD1 hK1 hk1 hz1 hvm ht
  refine W.widen (k := 0) (n := 0) (Nat.le_of_ble_eq_true rfl) (Nat.le_of_ble_eq_true rfl) ?_
  refine lv_iload_n hx hb dX6_readList_13 rfl (lv_at hl 0 rfl) ?_
  have hP := hP.sub (ws' := [(a0, .inr (6, [.int 0, .int 0, .ref a1, .int 21, .int 1, .int 0, .int 1, .int 1, .ref a2])), (a1, .inr (5, [.ref cb, .int 81, .int 0, .ref a3, .int 3, .ref a4, .int 0, .ref a5, .int 1, .int 1, .ref a6, .int 6, .int 0, .int 1, .int 0]))]) [1, 0] rfl
  have hD := hD.sub (ws' := [(a0, .inr (6, [.int 0, .int 0, .ref a1, .int 21, .int 1, .int 0, .int 1, .int 1, .ref a2])), (a1, .inr (5, [.ref cb, .int 81, .int 0, .ref a3, .int 3, .ref a4, .int 0, .ref a5, .int 1, .int 1, .ref a6, .int 6, .int 0, .int 1, .int 0]))]) [1, 0] (by decide) rfl
  exact W.iret hx hb hr (fun t ht hW => ⟨⟨0, (), rfl, rfl, by rw [ht]; exact hP, va_K.moved hW.alike hK, hD⟩, hS.F ht⟩) hS.2.2 dX6_readList_14

set_option maxHeartbeats 4000000 in
set_option maxRecDepth 100000 in
theorem cc_328_X6_readByte (l : Launch) (dC : Nat → ClassId) (dI : Nat → Nat → Nat) (cy : Nat → ClassId) (sz : Nat) (cb : Nat) (a0 : Nat) (a1 : Nat) (a2 : Nat) (a3 : Nat) (a4 : Nat) (a5 : Nat) (a6 : Nat)  : Met l yX6_readByte wsX6_readByte ({ frames := 0, cells := 0, slots := 0, locals := 0 }) (va_Pc [.ref a0] (fun U => U.heap.size = sz ∧ va_P (dC, dI) vwCl [(a0, .inr (6, [.int 0, .int 0, .ref a1, .int 21, .int 1, .int 0, .int 1, .int 1, .ref a2])), (a1, .inr (5, [.ref cb, .int 81, .int 0, .ref a3, .int 3, .ref a4, .int 0, .ref a5, .int 1, .int 1, .ref a6, .int 6, .int 0, .int 1, .int 0]))] U.heap ∧ va_K (dC, dI) vwCl (TYS cy) U ∧ va_D (fun _ => True) [(a0, .inr (6, [.int 0, .int 0, .ref a1, .int 21, .int 1, .int 0, .int 1, .int 1, .ref a2])), (a1, .inr (5, [.ref cb, .int 81, .int 0, .ref a3, .int 3, .ref a4, .int 0, .ref a5, .int 1, .int 1, .ref a6, .int 6, .int 0, .int 1, .int 0]))] ∧ NK U ∧ SK cb (va_A [(a0, .inr (6, [.int 0, .int 0, .ref a1, .int 21, .int 1, .int 0, .int 1, .int 1, .ref a2])), (a1, .inr (5, [.ref cb, .int 81, .int 0, .ref a3, .int 3, .ref a4, .int 0, .ref a5, .int 1, .int 1, .ref a6, .int 6, .int 0, .int 1, .int 0]))] sz) U U.heap)) (va_Qi (fun (r : Int32) (u : Unit) => r = 0) (fun u t => va_P (dC, dI) vwCl [(a0, .inr (6, [.int 0, .int 0, .ref a1, .int 22, .int 1, .int 0, .int 1, .int 1, .ref a2])), (a1, .inr (5, [.ref cb, .int 81, .int 0, .ref a3, .int 3, .ref a4, .int 0, .ref a5, .int 1, .int 1, .ref a6, .int 6, .int 0, .int 1, .int 0]))] t.heap ∧ va_K (dC, dI) vwCl (TYS cy) t ∧ va_D (va_A [(a0, .inr (6, [.int 0, .int 0, .ref a1, .int 21, .int 1, .int 0, .int 1, .int 1, .ref a2])), (a1, .inr (5, [.ref cb, .int 81, .int 0, .ref a3, .int 3, .ref a4, .int 0, .ref a5, .int 1, .int 1, .ref a6, .int 6, .int 0, .int 1, .int 0]))] sz) [(a0, .inr (6, [.int 0, .int 0, .ref a1, .int 22, .int 1, .int 0, .int 1, .int 1, .ref a2])), (a1, .inr (5, [.ref cb, .int 81, .int 0, .ref a3, .int 3, .ref a4, .int 0, .ref a5, .int 1, .int 1, .ref a6, .int 6, .int 0, .int 1, .int 0]))]) (va_A [(a0, .inr (6, [.int 0, .int 0, .ref a1, .int 21, .int 1, .int 0, .int 1, .int 1, .ref a2])), (a1, .inr (5, [.ref cb, .int 81, .int 0, .ref a3, .int 3, .ref a4, .int 0, .ref a5, .int 1, .int 1, .ref a6, .int 6, .int 0, .int 1, .int 0]))] sz)) 0 0 (va_A [(a0, .inr (6, [.int 0, .int 0, .ref a1, .int 21, .int 1, .int 0, .int 1, .int 1, .ref a2])), (a1, .inr (5, [.ref cb, .int 81, .int 0, .ref a3, .int 3, .ref a4, .int 0, .ref a5, .int 1, .int 1, .ref a6, .int 6, .int 0, .int 1, .int 0]))] sz) := by
  refine Met.ofW (cc := cX6_readByte) (maxL := 1) (ret := (some .int)) (by decide) rfl ?_
  intro p e s m args below meth c s₁ B hml hv
  obtain ⟨rfl, hsz, hP, hK, hD0, hN, hSK⟩ := hv
  have hx := B.exec
  have hb := B.bytes
  have hr := B.returns
  have hts := atoms_spec (ws := wsX6_readByte) B.pre
  have hown : s.vm.findClass RX6 = some m.cls := findClass_of_methodNamed B.named
  have hlocks := B.notSynchronized
  subst hsz
  have hD := hD0.self (sz := s.heap.size)
  generalize hAe : va_A [(a0, .inr (6, [.int 0, .int 0, .ref a1, .int 21, .int 1, .int 0, .int 1, .int 1, .ref a2])), (a1, .inr (5, [.ref cb, .int 81, .int 0, .ref a3, .int 3, .ref a4, .int 0, .ref a5, .int 1, .int 1, .ref a6, .int 6, .int 0, .int 1, .int 0]))] s.heap.size = A at hD hSK ⊢
  have hA : ∀ q : Nat, s.heap.size ≤ q → A q := fun q h => by rw [← hAe]; exact Or.inr h
  have hS : va_S A s.heap s.heap [] := va_S.rf
  have hP : va_P (dC, dI) vwCl [(a0, .inr (6, [.int 0, .int 0, .ref a1, .int 21, .int 1, .int 0, .int 1, .int 1, .ref a2])), (a1, .inr (5, [.ref cb, .int 81, .int 0, .ref a3, .int 3, .ref a4, .int 0, .ref a5, .int 1, .int 1, .ref a6, .int 6, .int 0, .int 1, .int 0]))] s.heap := hP
  have hl := lv_entry ([.ref a0]) (n := 1) (Nat.le_of_ble_eq_true rfl)
  rw [lg_entry_eq]
  generalize (lg_sl ([.ref a0]) ++ List.replicate (1 - (lg_sl ([.ref a0])).length) Slot.unset).toArray = ls at hl ⊢
  replace hl : lv_has ls 1 [(0, .ref a0)] := hl
  refine lv_aload_n hx hb dX6_readByte_0 rfl (lv_at hl 0 rfl) ?_
  refine va_get (D := (dC, dI)) (ci := 6) (v := .int 0) (C := RX6) (T := TX6) (N := 9) hx hb hts iw_X6_readByte_X6 hown hK hP 0 rfl rfl 1 (by decide) (hts _ m_X6_readByte_1) (fun _ h9 => h9) rfl dX6_readByte_1 ?_
  refine lv_if_eq (tgt := 9) hx hb dX6_readByte_4 (by decide) (fun _ => ?_) (fun h => absurd (by decide) h)
  refine lv_aload_n hx hb dX6_readByte_9 rfl (lv_at hl 0 rfl) ?_
  refine va_get (D := (dC, dI)) (ci := 6) (v := .int 21) (C := RX6) (T := TX6) (N := 9) hx hb hts iw_X6_readByte_X6 hown hK hP 0 rfl rfl 3 (by decide) (hts _ m_X6_readByte_2) (fun _ h9 => h9) rfl dX6_readByte_10 ?_
  refine lv_aload_n hx hb dX6_readByte_13 rfl (lv_at hl 0 rfl) ?_
  refine va_get (D := (dC, dI)) (ci := 6) (v := .ref a1) (C := RX6) (T := TX6) (N := 9) hx hb hts iw_X6_readByte_X6 hown hK hP 0 rfl rfl 2 (by decide) (hts _ m_X6_readByte_3) (fun _ h9 => h9) rfl dX6_readByte_14 ?_
  refine va_get (D := (dC, dI)) (ci := 5) (v := .int 81) (C := RX5) (T := TX5) (N := 15) hx hb hts iw_X6_readByte_X5 hown hK hP 1 rfl rfl 1 (by decide) (hts _ m_X6_readByte_4) (fun _ h9 => h9) rfl dX6_readByte_17 ?_
  refine lv_icmp_lt (tgt := 41) hx hb dX6_readByte_20 (by decide) (fun _ => ?_) (fun h => absurd (by decide) h)
  refine lv_aload_n hx hb dX6_readByte_41 rfl (lv_at hl 0 rfl) ?_
  refine va_get (D := (dC, dI)) (ci := 6) (v := .ref a1) (C := RX6) (T := TX6) (N := 9) hx hb hts iw_X6_readByte_X6 hown hK hP 0 rfl rfl 2 (by decide) (hts _ m_X6_readByte_3) (fun _ h9 => h9) rfl dX6_readByte_42 ?_
  refine va_get (D := (dC, dI)) (ci := 5) (v := .ref cb) (C := RX5) (T := TX5) (N := 15) hx hb hts iw_X6_readByte_X5 hown hK hP 1 rfl rfl 0 (by decide) (hts _ m_X6_readByte_6) (fun _ h9 => h9) rfl dX6_readByte_45 ?_
  refine lv_aload_n hx hb dX6_readByte_48 rfl (lv_at hl 0 rfl) ?_
  refine lv_dup hx hb dX6_readByte_49 rfl ?_
  refine va_get (D := (dC, dI)) (ci := 6) (v := .int 21) (C := RX6) (T := TX6) (N := 9) hx hb hts iw_X6_readByte_X6 hown hK hP 0 rfl rfl 3 (by decide) (hts _ m_X6_readByte_2) (fun _ h9 => h9) rfl dX6_readByte_50 ?_
  refine lv_dup_x1 hx hb dX6_readByte_53 rfl rfl ?_
  refine lv_iconst (v := 1) hx hb dX6_readByte_54 (by decide) ?_
  refine lv_iadd hx hb dX6_readByte_55 ?_
  refine lv_topi (fun z_1 ez_1 => ?_)
  obtain rfl : z_1 = 22 := ez_1.trans (by decide)
  clear ez_1
  refine va_put (D := (dC, dI)) (ci := 6) (v := .int 22) (ty := .int) (C := RX6) (T := TX6) (N := 9) hx hb hts iw_X6_readByte_X6 tyX6 tyX6_ok nmX6 hown hK hP hD hS 0 rfl rfl 3 (by decide) (hts _ m_X6_readByte_2) (fun _ h9 => h9) rfl (by decide +kernel) rfl rfl (Nat.le_of_ble_eq_true rfl) dX6_readByte_56 (fun H_2 locs hP2 hD2 hS2 => ?_)
  replace hP : va_P (dC, dI) vwCl [(a0, .inr (6, [.int 0, .int 0, .ref a1, .int 22, .int 1, .int 0, .int 1, .int 1, .ref a2])), (a1, .inr (5, [.ref cb, .int 81, .int 0, .ref a3, .int 3, .ref a4, .int 0, .ref a5, .int 1, .int 1, .ref a6, .int 6, .int 0, .int 1, .int 0]))] H_2 := hP2
  replace hD : va_D A [(a0, .inr (6, [.int 0, .int 0, .ref a1, .int 22, .int 1, .int 0, .int 1, .int 1, .ref a2])), (a1, .inr (5, [.ref cb, .int 81, .int 0, .ref a3, .int 3, .ref a4, .int 0, .ref a5, .int 1, .int 1, .ref a6, .int 6, .int 0, .int 1, .int 0]))] := hD2
  replace hS := hS2
  clear hP2 hD2 hS2
  refine va_tb (v := .int 0) hx hb hSK.2 hS (by unfold vp_in; decide) rfl dX6_readByte_59 ?_
  refine lv_sipush (v := 255) hx hb dX6_readByte_60 (by decide) ?_
  refine lv_iand hx hb dX6_readByte_63 ?_
  refine lv_topi (fun z_3 ez_3 => ?_)
  obtain rfl : z_3 = 0 := ez_3.trans (by decide)
  clear ez_3
  exact W.iret hx hb hr (fun t ht hW => ⟨⟨0, (), rfl, rfl, by rw [ht]; exact hP, va_K.moved hW.alike hK, hD⟩, hS.F ht⟩) hS.2.2 dX6_readByte_64

set_option maxHeartbeats 4000000 in
set_option maxRecDepth 100000 in
theorem cc_329_X6_readByte (l : Launch) (dC : Nat → ClassId) (dI : Nat → Nat → Nat) (cy : Nat → ClassId) (sz : Nat) (cb : Nat) (a0 : Nat) (a1 : Nat) (a2 : Nat) (a3 : Nat) (a4 : Nat) (a5 : Nat) (a6 : Nat)  : Met l yX6_readByte wsX6_readByte ({ frames := 0, cells := 0, slots := 0, locals := 0 }) (va_Pc [.ref a0] (fun U => U.heap.size = sz ∧ va_P (dC, dI) vwCl [(a0, .inr (6, [.int 0, .int 0, .ref a1, .int 22, .int 1, .int 0, .int 1, .int 1, .ref a2])), (a1, .inr (5, [.ref cb, .int 81, .int 0, .ref a3, .int 3, .ref a4, .int 0, .ref a5, .int 1, .int 1, .ref a6, .int 6, .int 0, .int 1, .int 0]))] U.heap ∧ va_K (dC, dI) vwCl (TYS cy) U ∧ va_D (fun _ => True) [(a0, .inr (6, [.int 0, .int 0, .ref a1, .int 22, .int 1, .int 0, .int 1, .int 1, .ref a2])), (a1, .inr (5, [.ref cb, .int 81, .int 0, .ref a3, .int 3, .ref a4, .int 0, .ref a5, .int 1, .int 1, .ref a6, .int 6, .int 0, .int 1, .int 0]))] ∧ NK U ∧ SK cb (va_A [(a0, .inr (6, [.int 0, .int 0, .ref a1, .int 22, .int 1, .int 0, .int 1, .int 1, .ref a2])), (a1, .inr (5, [.ref cb, .int 81, .int 0, .ref a3, .int 3, .ref a4, .int 0, .ref a5, .int 1, .int 1, .ref a6, .int 6, .int 0, .int 1, .int 0]))] sz) U U.heap)) (va_Qi (fun (r : Int32) (u : Unit) => r = 1) (fun u t => va_P (dC, dI) vwCl [(a0, .inr (6, [.int 0, .int 0, .ref a1, .int 23, .int 1, .int 0, .int 1, .int 1, .ref a2])), (a1, .inr (5, [.ref cb, .int 81, .int 0, .ref a3, .int 3, .ref a4, .int 0, .ref a5, .int 1, .int 1, .ref a6, .int 6, .int 0, .int 1, .int 0]))] t.heap ∧ va_K (dC, dI) vwCl (TYS cy) t ∧ va_D (va_A [(a0, .inr (6, [.int 0, .int 0, .ref a1, .int 22, .int 1, .int 0, .int 1, .int 1, .ref a2])), (a1, .inr (5, [.ref cb, .int 81, .int 0, .ref a3, .int 3, .ref a4, .int 0, .ref a5, .int 1, .int 1, .ref a6, .int 6, .int 0, .int 1, .int 0]))] sz) [(a0, .inr (6, [.int 0, .int 0, .ref a1, .int 23, .int 1, .int 0, .int 1, .int 1, .ref a2])), (a1, .inr (5, [.ref cb, .int 81, .int 0, .ref a3, .int 3, .ref a4, .int 0, .ref a5, .int 1, .int 1, .ref a6, .int 6, .int 0, .int 1, .int 0]))]) (va_A [(a0, .inr (6, [.int 0, .int 0, .ref a1, .int 22, .int 1, .int 0, .int 1, .int 1, .ref a2])), (a1, .inr (5, [.ref cb, .int 81, .int 0, .ref a3, .int 3, .ref a4, .int 0, .ref a5, .int 1, .int 1, .ref a6, .int 6, .int 0, .int 1, .int 0]))] sz)) 0 0 (va_A [(a0, .inr (6, [.int 0, .int 0, .ref a1, .int 22, .int 1, .int 0, .int 1, .int 1, .ref a2])), (a1, .inr (5, [.ref cb, .int 81, .int 0, .ref a3, .int 3, .ref a4, .int 0, .ref a5, .int 1, .int 1, .ref a6, .int 6, .int 0, .int 1, .int 0]))] sz) := by
  refine Met.ofW (cc := cX6_readByte) (maxL := 1) (ret := (some .int)) (by decide) rfl ?_
  intro p e s m args below meth c s₁ B hml hv
  obtain ⟨rfl, hsz, hP, hK, hD0, hN, hSK⟩ := hv
  have hx := B.exec
  have hb := B.bytes
  have hr := B.returns
  have hts := atoms_spec (ws := wsX6_readByte) B.pre
  have hown : s.vm.findClass RX6 = some m.cls := findClass_of_methodNamed B.named
  have hlocks := B.notSynchronized
  subst hsz
  have hD := hD0.self (sz := s.heap.size)
  generalize hAe : va_A [(a0, .inr (6, [.int 0, .int 0, .ref a1, .int 22, .int 1, .int 0, .int 1, .int 1, .ref a2])), (a1, .inr (5, [.ref cb, .int 81, .int 0, .ref a3, .int 3, .ref a4, .int 0, .ref a5, .int 1, .int 1, .ref a6, .int 6, .int 0, .int 1, .int 0]))] s.heap.size = A at hD hSK ⊢
  have hA : ∀ q : Nat, s.heap.size ≤ q → A q := fun q h => by rw [← hAe]; exact Or.inr h
  have hS : va_S A s.heap s.heap [] := va_S.rf
  have hP : va_P (dC, dI) vwCl [(a0, .inr (6, [.int 0, .int 0, .ref a1, .int 22, .int 1, .int 0, .int 1, .int 1, .ref a2])), (a1, .inr (5, [.ref cb, .int 81, .int 0, .ref a3, .int 3, .ref a4, .int 0, .ref a5, .int 1, .int 1, .ref a6, .int 6, .int 0, .int 1, .int 0]))] s.heap := hP
  have hl := lv_entry ([.ref a0]) (n := 1) (Nat.le_of_ble_eq_true rfl)
  rw [lg_entry_eq]
  generalize (lg_sl ([.ref a0]) ++ List.replicate (1 - (lg_sl ([.ref a0])).length) Slot.unset).toArray = ls at hl ⊢
  replace hl : lv_has ls 1 [(0, .ref a0)] := hl
  refine lv_aload_n hx hb dX6_readByte_0 rfl (lv_at hl 0 rfl) ?_
  refine va_get (D := (dC, dI)) (ci := 6) (v := .int 0) (C := RX6) (T := TX6) (N := 9) hx hb hts iw_X6_readByte_X6 hown hK hP 0 rfl rfl 1 (by decide) (hts _ m_X6_readByte_1) (fun _ h9 => h9) rfl dX6_readByte_1 ?_
  refine lv_if_eq (tgt := 9) hx hb dX6_readByte_4 (by decide) (fun _ => ?_) (fun h => absurd (by decide) h)
  refine lv_aload_n hx hb dX6_readByte_9 rfl (lv_at hl 0 rfl) ?_
  refine va_get (D := (dC, dI)) (ci := 6) (v := .int 22) (C := RX6) (T := TX6) (N := 9) hx hb hts iw_X6_readByte_X6 hown hK hP 0 rfl rfl 3 (by decide) (hts _ m_X6_readByte_2) (fun _ h9 => h9) rfl dX6_readByte_10 ?_
  refine lv_aload_n hx hb dX6_readByte_13 rfl (lv_at hl 0 rfl) ?_
  refine va_get (D := (dC, dI)) (ci := 6) (v := .ref a1) (C := RX6) (T := TX6) (N := 9) hx hb hts iw_X6_readByte_X6 hown hK hP 0 rfl rfl 2 (by decide) (hts _ m_X6_readByte_3) (fun _ h9 => h9) rfl dX6_readByte_14 ?_
  refine va_get (D := (dC, dI)) (ci := 5) (v := .int 81) (C := RX5) (T := TX5) (N := 15) hx hb hts iw_X6_readByte_X5 hown hK hP 1 rfl rfl 1 (by decide) (hts _ m_X6_readByte_4) (fun _ h9 => h9) rfl dX6_readByte_17 ?_
  refine lv_icmp_lt (tgt := 41) hx hb dX6_readByte_20 (by decide) (fun _ => ?_) (fun h => absurd (by decide) h)
  refine lv_aload_n hx hb dX6_readByte_41 rfl (lv_at hl 0 rfl) ?_
  refine va_get (D := (dC, dI)) (ci := 6) (v := .ref a1) (C := RX6) (T := TX6) (N := 9) hx hb hts iw_X6_readByte_X6 hown hK hP 0 rfl rfl 2 (by decide) (hts _ m_X6_readByte_3) (fun _ h9 => h9) rfl dX6_readByte_42 ?_
  refine va_get (D := (dC, dI)) (ci := 5) (v := .ref cb) (C := RX5) (T := TX5) (N := 15) hx hb hts iw_X6_readByte_X5 hown hK hP 1 rfl rfl 0 (by decide) (hts _ m_X6_readByte_6) (fun _ h9 => h9) rfl dX6_readByte_45 ?_
  refine lv_aload_n hx hb dX6_readByte_48 rfl (lv_at hl 0 rfl) ?_
  refine lv_dup hx hb dX6_readByte_49 rfl ?_
  refine va_get (D := (dC, dI)) (ci := 6) (v := .int 22) (C := RX6) (T := TX6) (N := 9) hx hb hts iw_X6_readByte_X6 hown hK hP 0 rfl rfl 3 (by decide) (hts _ m_X6_readByte_2) (fun _ h9 => h9) rfl dX6_readByte_50 ?_
  refine lv_dup_x1 hx hb dX6_readByte_53 rfl rfl ?_
  refine lv_iconst (v := 1) hx hb dX6_readByte_54 (by decide) ?_
  refine lv_iadd hx hb dX6_readByte_55 ?_
  refine lv_topi (fun z_1 ez_1 => ?_)
  obtain rfl : z_1 = 23 := ez_1.trans (by decide)
  clear ez_1
  refine va_put (D := (dC, dI)) (ci := 6) (v := .int 23) (ty := .int) (C := RX6) (T := TX6) (N := 9) hx hb hts iw_X6_readByte_X6 tyX6 tyX6_ok nmX6 hown hK hP hD hS 0 rfl rfl 3 (by decide) (hts _ m_X6_readByte_2) (fun _ h9 => h9) rfl (by decide +kernel) rfl rfl (Nat.le_of_ble_eq_true rfl) dX6_readByte_56 (fun H_2 locs hP2 hD2 hS2 => ?_)
  replace hP : va_P (dC, dI) vwCl [(a0, .inr (6, [.int 0, .int 0, .ref a1, .int 23, .int 1, .int 0, .int 1, .int 1, .ref a2])), (a1, .inr (5, [.ref cb, .int 81, .int 0, .ref a3, .int 3, .ref a4, .int 0, .ref a5, .int 1, .int 1, .ref a6, .int 6, .int 0, .int 1, .int 0]))] H_2 := hP2
  replace hD : va_D A [(a0, .inr (6, [.int 0, .int 0, .ref a1, .int 23, .int 1, .int 0, .int 1, .int 1, .ref a2])), (a1, .inr (5, [.ref cb, .int 81, .int 0, .ref a3, .int 3, .ref a4, .int 0, .ref a5, .int 1, .int 1, .ref a6, .int 6, .int 0, .int 1, .int 0]))] := hD2
  replace hS := hS2
  clear hP2 hD2 hS2
  refine va_tb (v := .int 1) hx hb hSK.2 hS (by unfold vp_in; decide) rfl dX6_readByte_59 ?_
  refine lv_sipush (v := 255) hx hb dX6_readByte_60 (by decide) ?_
  refine lv_iand hx hb dX6_readByte_63 ?_
  refine lv_topi (fun z_3 ez_3 => ?_)
  obtain rfl : z_3 = 1 := ez_3.trans (by decide)
  clear ez_3
  exact W.iret hx hb hr (fun t ht hW => ⟨⟨1, (), rfl, rfl, by rw [ht]; exact hP, va_K.moved hW.alike hK, hD⟩, hS.F ht⟩) hS.2.2 dX6_readByte_64

set_option maxHeartbeats 4000000 in
set_option maxRecDepth 100000 in
theorem cc_327_X6_readShort (l : Launch) (dC : Nat → ClassId) (dI : Nat → Nat → Nat) (cy : Nat → ClassId) (sz : Nat) (cb : Nat) (a0 : Nat) (a1 : Nat) (a2 : Nat) (a3 : Nat) (a4 : Nat) (a5 : Nat) (a6 : Nat)  : Met l yX6_readShort wsX6_readShort ({ frames := 1, cells := 0, slots := 0, locals := 20 }) (va_Pc [.ref a0] (fun U => U.heap.size = sz ∧ va_P (dC, dI) vwCl [(a0, .inr (6, [.int 0, .int 0, .ref a1, .int 21, .int 1, .int 0, .int 1, .int 1, .ref a2])), (a1, .inr (5, [.ref cb, .int 81, .int 0, .ref a3, .int 3, .ref a4, .int 0, .ref a5, .int 1, .int 1, .ref a6, .int 6, .int 0, .int 1, .int 0]))] U.heap ∧ va_K (dC, dI) vwCl (TYS cy) U ∧ va_D (fun _ => True) [(a0, .inr (6, [.int 0, .int 0, .ref a1, .int 21, .int 1, .int 0, .int 1, .int 1, .ref a2])), (a1, .inr (5, [.ref cb, .int 81, .int 0, .ref a3, .int 3, .ref a4, .int 0, .ref a5, .int 1, .int 1, .ref a6, .int 6, .int 0, .int 1, .int 0]))] ∧ NK U ∧ SK cb (va_A [(a0, .inr (6, [.int 0, .int 0, .ref a1, .int 21, .int 1, .int 0, .int 1, .int 1, .ref a2])), (a1, .inr (5, [.ref cb, .int 81, .int 0, .ref a3, .int 3, .ref a4, .int 0, .ref a5, .int 1, .int 1, .ref a6, .int 6, .int 0, .int 1, .int 0]))] sz) U U.heap)) (va_Qi (fun (r : Int32) (u : Unit) => r = 1) (fun u t => va_P (dC, dI) vwCl [(a0, .inr (6, [.int 0, .int 0, .ref a1, .int 23, .int 1, .int 0, .int 1, .int 1, .ref a2])), (a1, .inr (5, [.ref cb, .int 81, .int 0, .ref a3, .int 3, .ref a4, .int 0, .ref a5, .int 1, .int 1, .ref a6, .int 6, .int 0, .int 1, .int 0]))] t.heap ∧ va_K (dC, dI) vwCl (TYS cy) t ∧ va_D (va_A [(a0, .inr (6, [.int 0, .int 0, .ref a1, .int 21, .int 1, .int 0, .int 1, .int 1, .ref a2])), (a1, .inr (5, [.ref cb, .int 81, .int 0, .ref a3, .int 3, .ref a4, .int 0, .ref a5, .int 1, .int 1, .ref a6, .int 6, .int 0, .int 1, .int 0]))] sz) [(a0, .inr (6, [.int 0, .int 0, .ref a1, .int 23, .int 1, .int 0, .int 1, .int 1, .ref a2])), (a1, .inr (5, [.ref cb, .int 81, .int 0, .ref a3, .int 3, .ref a4, .int 0, .ref a5, .int 1, .int 1, .ref a6, .int 6, .int 0, .int 1, .int 0]))]) (va_A [(a0, .inr (6, [.int 0, .int 0, .ref a1, .int 21, .int 1, .int 0, .int 1, .int 1, .ref a2])), (a1, .inr (5, [.ref cb, .int 81, .int 0, .ref a3, .int 3, .ref a4, .int 0, .ref a5, .int 1, .int 1, .ref a6, .int 6, .int 0, .int 1, .int 0]))] sz)) 0 0 (va_A [(a0, .inr (6, [.int 0, .int 0, .ref a1, .int 21, .int 1, .int 0, .int 1, .int 1, .ref a2])), (a1, .inr (5, [.ref cb, .int 81, .int 0, .ref a3, .int 3, .ref a4, .int 0, .ref a5, .int 1, .int 1, .ref a6, .int 6, .int 0, .int 1, .int 0]))] sz) := by
  refine Met.ofW (cc := cX6_readShort) (maxL := 2) (ret := (some .int)) (by decide) rfl ?_
  intro p e s m args below meth c s₁ B hml hv
  obtain ⟨rfl, hsz, hP, hK, hD0, hN, hSK⟩ := hv
  have hx := B.exec
  have hb := B.bytes
  have hr := B.returns
  have hts := atoms_spec (ws := wsX6_readShort) B.pre
  have hown : s.vm.findClass RX6 = some m.cls := findClass_of_methodNamed B.named
  have hlocks := B.notSynchronized
  subst hsz
  have hD := hD0.self (sz := s.heap.size)
  generalize hAe : va_A [(a0, .inr (6, [.int 0, .int 0, .ref a1, .int 21, .int 1, .int 0, .int 1, .int 1, .ref a2])), (a1, .inr (5, [.ref cb, .int 81, .int 0, .ref a3, .int 3, .ref a4, .int 0, .ref a5, .int 1, .int 1, .ref a6, .int 6, .int 0, .int 1, .int 0]))] s.heap.size = A at hD hSK ⊢
  have hA : ∀ q : Nat, s.heap.size ≤ q → A q := fun q h => by rw [← hAe]; exact Or.inr h
  have hS : va_S A s.heap s.heap [] := va_S.rf
  have hP : va_P (dC, dI) vwCl [(a0, .inr (6, [.int 0, .int 0, .ref a1, .int 21, .int 1, .int 0, .int 1, .int 1, .ref a2])), (a1, .inr (5, [.ref cb, .int 81, .int 0, .ref a3, .int 3, .ref a4, .int 0, .ref a5, .int 1, .int 1, .ref a6, .int 6, .int 0, .int 1, .int 0]))] s.heap := hP
  have hl := lv_entry ([.ref a0]) (n := 2) (Nat.le_of_ble_eq_true rfl)
  rw [lg_entry_eq]
  generalize (lg_sl ([.ref a0]) ++ List.replicate (2 - (lg_sl ([.ref a0])).length) Slot.unset).toArray = ls at hl ⊢
  replace hl : lv_has ls 2 [(0, .ref a0)] := hl
  refine lv_aload_n hx hb dX6_readShort_0 rfl (lv_at hl 0 rfl) ?_
  have hPc := hP.sub (ws' := [(a0, .inr (6, [.int 0, .int 0, .ref a1, .int 21, .int 1, .int 0, .int 1, .int 1, .ref a2])), (a1, .inr (5, [.ref cb, .int 81, .int 0, .ref a3, .int 3, .ref a4, .int 0, .ref a5, .int 1, .int 1, .ref a6, .int 6, .int 0, .int 1, .int 0]))]) [0, 1] rfl
  have hDc := hD.sub (ws' := [(a0, .inr (6, [.int 0, .int 0, .ref a1, .int 21, .int 1, .int 0, .int 1, .int 1, .ref a2])), (a1, .inr (5, [.ref cb, .int 81, .int 0, .ref a3, .int 3, .ref a4, .int 0, .ref a5, .int 1, .int 1, .ref a6, .int 6, .int 0, .int 1, .int 0]))]) [0, 1] (by decide) rfl
  have hFc := va_free (wc := [(a0, .inr (6, [.int 0, .int 0, .ref a1, .int 21, .int 1, .int 0, .int 1, .int 1, .ref a2])), (a1, .inr (5, [.ref cb, .int 81, .int 0, .ref a3, .int 3, .ref a4, .int 0, .ref a5, .int 1, .int 1, .ref a6, .int 6, .int 0, .int 1, .int 0]))]) hD hS hA [0, 1] rfl
  refine va_calli (va_runV (As := []) (rest := []) ⟨hx, hb, hml, hown, hts⟩ (cc_328_X6_readByte l dC dI cy s.heap.size cb a0 a1 a2 a3 a4 a5 a6) (cwV 0 hts gX6_readShort_X6_readByte rfl rfl rfl (by decide +kernel) ⟨Nat.le_of_ble_eq_true rfl, Nat.le_of_ble_eq_true rfl⟩) ⟨fun a U g mk q => by obtain ⟨q0, q1, qP, qK, qD, qN, qS⟩ := q; exact ⟨q0, q1, qP, va_K.moved (u := U) (U := U.calling g mk a) (Vm.Alike.refl U.vm) qK, qD, qN.same rfl, SK.moved (u := U) (U := U.calling g mk a) (Vm.Alike.refl U.vm) qS⟩, va_recv hK hPc (ci := 6) (q0 := 0) rfl rfl, fun U hU hW => ⟨rfl, by rw [hU], by rw [hU]; exact hPc, va_K.moved hW.alike hK, hDc.weaken (fun _ _ _ _ => trivial), hN.warm hW, by rw [hU]; exact ((hSK.kept hS.2.1).narrow hFc).moved hW.alike⟩⟩ rfl rfl hl.1 rfl (lv_room (Nat.le_of_ble_eq_true rfl)) dX6_readShort_1 ⟨Nat.le_of_ble_eq_true rfl, Nat.le_of_ble_eq_true rfl⟩) hS (fun q _ h => hFc q h) hFc (fun r_1 u t H_2 locs ht hvm hw hB hz1 hk1 hS2 => ?_)
  obtain ⟨hP1, hK1, hD1⟩ := hB
  rw [ht] at hP1
  obtain rfl := hw
  obtain ⟨hP2, hD2⟩ := va_join (wr := []) (w1 := [(a0, .inr (6, [.int 0, .int 0, .ref a1, .int 22, .int 1, .int 0, .int 1, .int 1, .ref a2])), (a1, .inr (5, [.ref cb, .int 81, .int 0, .ref a3, .int 3, .ref a4, .int 0, .ref a5, .int 1, .int 1, .ref a6, .int 6, .int 0, .int 1, .int 0]))]) hP hD [0, 1] [] rfl rfl (by decide) (by decide) hk1 hFc hP1 hD1
  replace hP : va_P (dC, dI) vwCl [(a0, .inr (6, [.int 0, .int 0, .ref a1, .int 22, .int 1, .int 0, .int 1, .int 1, .ref a2])), (a1, .inr (5, [.ref cb, .int 81, .int 0, .ref a3, .int 3, .ref a4, .int 0, .ref a5, .int 1, .int 1, .ref a6, .int 6, .int 0, .int 1, .int 0]))] H_2 := hP2
  replace hD : va_D A [(a0, .inr (6, [.int 0, .int 0, .ref a1, .int 22, .int 1, .int 0, .int 1, .int 1, .ref a2])), (a1, .inr (5, [.ref cb, .int 81, .int 0, .ref a3, .int 3, .ref a4, .int 0, .ref a5, .int 1, .int 1, .ref a6, .int 6, .int 0, .int 1, .int 0]))] := hD2
  replace hS := hS2
  clear hP2 hD2 hS2
  clear hPc hDc hFc hP1 hD1 hK1 hk1 hz1 hvm ht
  refine W.widen (k := 0) (n := 0) (Nat.le_of_ble_eq_true rfl) (Nat.le_of_ble_eq_true rfl) ?_
  refine lv_istore_n (lv' := [(1, .int 0), (0, .ref a0)]) hx hb dX6_readShort_4 rfl hl (by decide) rfl (fun ls hl2 => ?_)
  replace hl := hl2
  clear hl2
  refine lv_iload_n hx hb dX6_readShort_5 rfl (lv_at hl 0 rfl) ?_
  refine lv_bipush (v := 8) hx hb dX6_readShort_6 (by decide) ?_
  refine lv_ishl hx hb dX6_readShort_8 ?_
  refine lv_topi (fun z_3 ez_3 => ?_)
  obtain rfl : z_3 = 0 := ez_3.trans (by decide)
  clear ez_3
  refine lv_aload_n hx hb dX6_readShort_9 rfl (lv_at hl 1 rfl) ?_
  have hPc := hP.sub (ws' := [(a0, .inr (6, [.int 0, .int 0, .ref a1, .int 22, .int 1, .int 0, .int 1, .int 1, .ref a2])), (a1, .inr (5, [.ref cb, .int 81, .int 0, .ref a3, .int 3, .ref a4, .int 0, .ref a5, .int 1, .int 1, .ref a6, .int 6, .int 0, .int 1, .int 0]))]) [0, 1] rfl
  have hDc := hD.sub (ws' := [(a0, .inr (6, [.int 0, .int 0, .ref a1, .int 22, .int 1, .int 0, .int 1, .int 1, .ref a2])), (a1, .inr (5, [.ref cb, .int 81, .int 0, .ref a3, .int 3, .ref a4, .int 0, .ref a5, .int 1, .int 1, .ref a6, .int 6, .int 0, .int 1, .int 0]))]) [0, 1] (by decide) rfl
  have hFc := va_free (wc := [(a0, .inr (6, [.int 0, .int 0, .ref a1, .int 22, .int 1, .int 0, .int 1, .int 1, .ref a2])), (a1, .inr (5, [.ref cb, .int 81, .int 0, .ref a3, .int 3, .ref a4, .int 0, .ref a5, .int 1, .int 1, .ref a6, .int 6, .int 0, .int 1, .int 0]))]) hD hS hA [0, 1] rfl
  refine va_calli (va_runV (As := []) (rest := [.int 0]) ⟨hx, hb, hml, hown, hts⟩ (cc_329_X6_readByte l dC dI cy H_2.size cb a0 a1 a2 a3 a4 a5 a6) (cwV 0 hts gX6_readShort_X6_readByte rfl rfl rfl (by decide +kernel) ⟨Nat.le_of_ble_eq_true rfl, Nat.le_of_ble_eq_true rfl⟩) ⟨fun a U g mk q => by obtain ⟨q0, q1, qP, qK, qD, qN, qS⟩ := q; exact ⟨q0, q1, qP, va_K.moved (u := U) (U := U.calling g mk a) (Vm.Alike.refl U.vm) qK, qD, qN.same rfl, SK.moved (u := U) (U := U.calling g mk a) (Vm.Alike.refl U.vm) qS⟩, va_recv hK hPc (ci := 6) (q0 := 0) rfl rfl, fun U hU hW => ⟨rfl, by rw [hU], by rw [hU]; exact hPc, va_K.moved hW.alike hK, hDc.weaken (fun _ _ _ _ => trivial), hN.warm hW, by rw [hU]; exact ((hSK.kept hS.2.1).narrow hFc).moved hW.alike⟩⟩ rfl rfl hl.1 rfl (lv_room (Nat.le_of_ble_eq_true rfl)) dX6_readShort_10 ⟨Nat.le_of_ble_eq_true rfl, Nat.le_of_ble_eq_true rfl⟩) hS (fun q _ h => hFc q h) hFc (fun r_4 u t H_5 locs ht hvm hw hB hz1 hk1 hS2 => ?_)
  obtain ⟨hP1, hK1, hD1⟩ := hB
  rw [ht] at hP1
  obtain rfl := hw
  obtain ⟨hP2, hD2⟩ := va_join (wr := []) (w1 := [(a0, .inr (6, [.int 0, .int 0, .ref a1, .int 23, .int 1, .int 0, .int 1, .int 1, .ref a2])), (a1, .inr (5, [.ref cb, .int 81, .int 0, .ref a3, .int 3, .ref a4, .int 0, .ref a5, .int 1, .int 1, .ref a6, .int 6, .int 0, .int 1, .int 0]))]) hP hD [0, 1] [] rfl rfl (by decide) (by decide) hk1 hFc hP1 hD1
  replace hP : va_P (dC, dI) vwCl [(a0, .inr (6, [.int 0, .int 0, .ref a1, .int 23, .int 1, .int 0, .int 1, .int 1, .ref a2])), (a1, .inr (5, [.ref cb, .int 81, .int 0, .ref a3, .int 3, .ref a4, .int 0, .ref a5, .int 1, .int 1, .ref a6, .int 6, .int 0, .int 1, .int 0]))] H_5 := hP2
  replace hD : va_D A [(a0, .inr (6, [.int 0, .int 0, .ref a1, .int 23, .int 1, .int 0, .int 1, .int 1, .ref a2])), (a1, .inr (5, [.ref cb, .int 81, .int 0, .ref a3, .int 3, .ref a4, .int 0, .ref a5, .int 1, .int 1, .ref a6, .int 6, .int 0, .int 1, .int 0]))] := hD2
  replace hS := hS2
  clear hP2 hD2 hS2
  clear hPc hDc hFc hP1 hD1 hK1 hk1 hz1 hvm ht
  refine W.widen (k := 0) (n := 0) (Nat.le_of_ble_eq_true rfl) (Nat.le_of_ble_eq_true rfl) ?_
  refine lv_ior hx hb dX6_readShort_13 ?_
  refine lv_topi (fun z_6 ez_6 => ?_)
  obtain rfl : z_6 = 1 := ez_6.trans (by decide)
  clear ez_6
  exact W.iret hx hb hr (fun t ht hW => ⟨⟨1, (), rfl, rfl, by rw [ht]; exact hP, va_K.moved hW.alike hK, hD⟩, hS.F ht⟩) hS.2.2 dX6_readShort_14

set_option maxHeartbeats 4000000 in
set_option maxRecDepth 100000 in
theorem cc_331_X6_readByte (l : Launch) (dC : Nat → ClassId) (dI : Nat → Nat → Nat) (cy : Nat → ClassId) (sz : Nat) (cb : Nat) (a0 : Nat) (a1 : Nat) (a2 : Nat) (a3 : Nat) (a4 : Nat) (a5 : Nat) (a6 : Nat)  : Met l yX6_readByte wsX6_readByte ({ frames := 0, cells := 0, slots := 0, locals := 0 }) (va_Pc [.ref a0] (fun U => U.heap.size = sz ∧ va_P (dC, dI) vwCl [(a0, .inr (6, [.int 0, .int 0, .ref a1, .int 23, .int 1, .int 1, .int 1, .int 1, .ref a2])), (a1, .inr (5, [.ref cb, .int 81, .int 0, .ref a3, .int 3, .ref a4, .int 1, .ref a5, .int 1, .int 1, .ref a6, .int 6, .int 0, .int 1, .int 0]))] U.heap ∧ va_K (dC, dI) vwCl (TYS cy) U ∧ va_D (fun _ => True) [(a0, .inr (6, [.int 0, .int 0, .ref a1, .int 23, .int 1, .int 1, .int 1, .int 1, .ref a2])), (a1, .inr (5, [.ref cb, .int 81, .int 0, .ref a3, .int 3, .ref a4, .int 1, .ref a5, .int 1, .int 1, .ref a6, .int 6, .int 0, .int 1, .int 0]))] ∧ NK U ∧ SK cb (va_A [(a0, .inr (6, [.int 0, .int 0, .ref a1, .int 23, .int 1, .int 1, .int 1, .int 1, .ref a2])), (a1, .inr (5, [.ref cb, .int 81, .int 0, .ref a3, .int 3, .ref a4, .int 1, .ref a5, .int 1, .int 1, .ref a6, .int 6, .int 0, .int 1, .int 0]))] sz) U U.heap)) (va_Qi (fun (r : Int32) (u : Unit) => r = 35) (fun u t => va_P (dC, dI) vwCl [(a0, .inr (6, [.int 0, .int 0, .ref a1, .int 24, .int 1, .int 1, .int 1, .int 1, .ref a2])), (a1, .inr (5, [.ref cb, .int 81, .int 0, .ref a3, .int 3, .ref a4, .int 1, .ref a5, .int 1, .int 1, .ref a6, .int 6, .int 0, .int 1, .int 0]))] t.heap ∧ va_K (dC, dI) vwCl (TYS cy) t ∧ va_D (va_A [(a0, .inr (6, [.int 0, .int 0, .ref a1, .int 23, .int 1, .int 1, .int 1, .int 1, .ref a2])), (a1, .inr (5, [.ref cb, .int 81, .int 0, .ref a3, .int 3, .ref a4, .int 1, .ref a5, .int 1, .int 1, .ref a6, .int 6, .int 0, .int 1, .int 0]))] sz) [(a0, .inr (6, [.int 0, .int 0, .ref a1, .int 24, .int 1, .int 1, .int 1, .int 1, .ref a2])), (a1, .inr (5, [.ref cb, .int 81, .int 0, .ref a3, .int 3, .ref a4, .int 1, .ref a5, .int 1, .int 1, .ref a6, .int 6, .int 0, .int 1, .int 0]))]) (va_A [(a0, .inr (6, [.int 0, .int 0, .ref a1, .int 23, .int 1, .int 1, .int 1, .int 1, .ref a2])), (a1, .inr (5, [.ref cb, .int 81, .int 0, .ref a3, .int 3, .ref a4, .int 1, .ref a5, .int 1, .int 1, .ref a6, .int 6, .int 0, .int 1, .int 0]))] sz)) 0 0 (va_A [(a0, .inr (6, [.int 0, .int 0, .ref a1, .int 23, .int 1, .int 1, .int 1, .int 1, .ref a2])), (a1, .inr (5, [.ref cb, .int 81, .int 0, .ref a3, .int 3, .ref a4, .int 1, .ref a5, .int 1, .int 1, .ref a6, .int 6, .int 0, .int 1, .int 0]))] sz) := by
  refine Met.ofW (cc := cX6_readByte) (maxL := 1) (ret := (some .int)) (by decide) rfl ?_
  intro p e s m args below meth c s₁ B hml hv
  obtain ⟨rfl, hsz, hP, hK, hD0, hN, hSK⟩ := hv
  have hx := B.exec
  have hb := B.bytes
  have hr := B.returns
  have hts := atoms_spec (ws := wsX6_readByte) B.pre
  have hown : s.vm.findClass RX6 = some m.cls := findClass_of_methodNamed B.named
  have hlocks := B.notSynchronized
  subst hsz
  have hD := hD0.self (sz := s.heap.size)
  generalize hAe : va_A [(a0, .inr (6, [.int 0, .int 0, .ref a1, .int 23, .int 1, .int 1, .int 1, .int 1, .ref a2])), (a1, .inr (5, [.ref cb, .int 81, .int 0, .ref a3, .int 3, .ref a4, .int 1, .ref a5, .int 1, .int 1, .ref a6, .int 6, .int 0, .int 1, .int 0]))] s.heap.size = A at hD hSK ⊢
  have hA : ∀ q : Nat, s.heap.size ≤ q → A q := fun q h => by rw [← hAe]; exact Or.inr h
  have hS : va_S A s.heap s.heap [] := va_S.rf
  have hP : va_P (dC, dI) vwCl [(a0, .inr (6, [.int 0, .int 0, .ref a1, .int 23, .int 1, .int 1, .int 1, .int 1, .ref a2])), (a1, .inr (5, [.ref cb, .int 81, .int 0, .ref a3, .int 3, .ref a4, .int 1, .ref a5, .int 1, .int 1, .ref a6, .int 6, .int 0, .int 1, .int 0]))] s.heap := hP
  have hl := lv_entry ([.ref a0]) (n := 1) (Nat.le_of_ble_eq_true rfl)
  rw [lg_entry_eq]
  generalize (lg_sl ([.ref a0]) ++ List.replicate (1 - (lg_sl ([.ref a0])).length) Slot.unset).toArray = ls at hl ⊢
  replace hl : lv_has ls 1 [(0, .ref a0)] := hl
  refine lv_aload_n hx hb dX6_readByte_0 rfl (lv_at hl 0 rfl) ?_
  refine va_get (D := (dC, dI)) (ci := 6) (v := .int 0) (C := RX6) (T := TX6) (N := 9) hx hb hts iw_X6_readByte_X6 hown hK hP 0 rfl rfl 1 (by decide) (hts _ m_X6_readByte_1) (fun _ h9 => h9) rfl dX6_readByte_1 ?_
  refine lv_if_eq (tgt := 9) hx hb dX6_readByte_4 (by decide) (fun _ => ?_) (fun h => absurd (by decide) h)
  refine lv_aload_n hx hb dX6_readByte_9 rfl (lv_at hl 0 rfl) ?_
  refine va_get (D := (dC, dI)) (ci := 6) (v := .int 23) (C := RX6) (T := TX6) (N := 9) hx hb hts iw_X6_readByte_X6 hown hK hP 0 rfl rfl 3 (by decide) (hts _ m_X6_readByte_2) (fun _ h9 => h9) rfl dX6_readByte_10 ?_
  refine lv_aload_n hx hb dX6_readByte_13 rfl (lv_at hl 0 rfl) ?_
  refine va_get (D := (dC, dI)) (ci := 6) (v := .ref a1) (C := RX6) (T := TX6) (N := 9) hx hb hts iw_X6_readByte_X6 hown hK hP 0 rfl rfl 2 (by decide) (hts _ m_X6_readByte_3) (fun _ h9 => h9) rfl dX6_readByte_14 ?_
  refine va_get (D := (dC, dI)) (ci := 5) (v := .int 81) (C := RX5) (T := TX5) (N := 15) hx hb hts iw_X6_readByte_X5 hown hK hP 1 rfl rfl 1 (by decide) (hts _ m_X6_readByte_4) (fun _ h9 => h9) rfl dX6_readByte_17 ?_
  refine lv_icmp_lt (tgt := 41) hx hb dX6_readByte_20 (by decide) (fun _ => ?_) (fun h => absurd (by decide) h)
  refine lv_aload_n hx hb dX6_readByte_41 rfl (lv_at hl 0 rfl) ?_
  refine va_get (D := (dC, dI)) (ci := 6) (v := .ref a1) (C := RX6) (T := TX6) (N := 9) hx hb hts iw_X6_readByte_X6 hown hK hP 0 rfl rfl 2 (by decide) (hts _ m_X6_readByte_3) (fun _ h9 => h9) rfl dX6_readByte_42 ?_
  refine va_get (D := (dC, dI)) (ci := 5) (v := .ref cb) (C := RX5) (T := TX5) (N := 15) hx hb hts iw_X6_readByte_X5 hown hK hP 1 rfl rfl 0 (by decide) (hts _ m_X6_readByte_6) (fun _ h9 => h9) rfl dX6_readByte_45 ?_
  refine lv_aload_n hx hb dX6_readByte_48 rfl (lv_at hl 0 rfl) ?_
  refine lv_dup hx hb dX6_readByte_49 rfl ?_
  refine va_get (D := (dC, dI)) (ci := 6) (v := .int 23) (C := RX6) (T := TX6) (N := 9) hx hb hts iw_X6_readByte_X6 hown hK hP 0 rfl rfl 3 (by decide) (hts _ m_X6_readByte_2) (fun _ h9 => h9) rfl dX6_readByte_50 ?_
  refine lv_dup_x1 hx hb dX6_readByte_53 rfl rfl ?_
  refine lv_iconst (v := 1) hx hb dX6_readByte_54 (by decide) ?_
  refine lv_iadd hx hb dX6_readByte_55 ?_
  refine lv_topi (fun z_1 ez_1 => ?_)
  obtain rfl : z_1 = 24 := ez_1.trans (by decide)
  clear ez_1
  refine va_put (D := (dC, dI)) (ci := 6) (v := .int 24) (ty := .int) (C := RX6) (T := TX6) (N := 9) hx hb hts iw_X6_readByte_X6 tyX6 tyX6_ok nmX6 hown hK hP hD hS 0 rfl rfl 3 (by decide) (hts _ m_X6_readByte_2) (fun _ h9 => h9) rfl (by decide +kernel) rfl rfl (Nat.le_of_ble_eq_true rfl) dX6_readByte_56 (fun H_2 locs hP2 hD2 hS2 => ?_)
  replace hP : va_P (dC, dI) vwCl [(a0, .inr (6, [.int 0, .int 0, .ref a1, .int 24, .int 1, .int 1, .int 1, .int 1, .ref a2])), (a1, .inr (5, [.ref cb, .int 81, .int 0, .ref a3, .int 3, .ref a4, .int 1, .ref a5, .int 1, .int 1, .ref a6, .int 6, .int 0, .int 1, .int 0]))] H_2 := hP2
  replace hD : va_D A [(a0, .inr (6, [.int 0, .int 0, .ref a1, .int 24, .int 1, .int 1, .int 1, .int 1, .ref a2])), (a1, .inr (5, [.ref cb, .int 81, .int 0, .ref a3, .int 3, .ref a4, .int 1, .ref a5, .int 1, .int 1, .ref a6, .int 6, .int 0, .int 1, .int 0]))] := hD2
  replace hS := hS2
  clear hP2 hD2 hS2
  refine va_tb (v := .int 35) hx hb hSK.2 hS (by unfold vp_in; decide) rfl dX6_readByte_59 ?_
  refine lv_sipush (v := 255) hx hb dX6_readByte_60 (by decide) ?_
  refine lv_iand hx hb dX6_readByte_63 ?_
  refine lv_topi (fun z_3 ez_3 => ?_)
  obtain rfl : z_3 = 35 := ez_3.trans (by decide)
  clear ez_3
  exact W.iret hx hb hr (fun t ht hW => ⟨⟨35, (), rfl, rfl, by rw [ht]; exact hP, va_K.moved hW.alike hK, hD⟩, hS.F ht⟩) hS.2.2 dX6_readByte_64

set_option maxHeartbeats 4000000 in
set_option maxRecDepth 100000 in
theorem cc_330_X6_readInstruction (l : Launch) (dC : Nat → ClassId) (dI : Nat → Nat → Nat) (cy : Nat → ClassId) (sz : Nat) (cb : Nat) (a0 : Nat) (a1 : Nat) (a2 : Nat) (a3 : Nat) (a4 : Nat) (a5 : Nat) (a6 : Nat) (f0 : Nat → Int32)  : Met l yX6_readInstruction wsX6_readInstruction ({ frames := 1, cells := 0, slots := 0, locals := 21 }) (va_Pc [.ref a0] (fun U => U.heap.size = sz ∧ va_P (dC, dI) vwCl [(a0, .inr (6, [.int 0, .int 0, .ref a1, .int 23, .int 1, .int 1, .int 1, .int 1, .ref a3])), (a1, .inr (5, [.ref cb, .int 81, .int 0, .ref a4, .int 3, .ref a2, .int 0, .ref a5, .int 1, .int 1, .ref a6, .int 6, .int 0, .int 1, .int 0])), (a2, .inl (cy 1, 2048, .inl f0))] U.heap ∧ va_K (dC, dI) vwCl (TYS cy) U ∧ va_D (fun _ => True) [(a0, .inr (6, [.int 0, .int 0, .ref a1, .int 23, .int 1, .int 1, .int 1, .int 1, .ref a3])), (a1, .inr (5, [.ref cb, .int 81, .int 0, .ref a4, .int 3, .ref a2, .int 0, .ref a5, .int 1, .int 1, .ref a6, .int 6, .int 0, .int 1, .int 0])), (a2, .inl (cy 1, 2048, .inl f0))] ∧ NK U ∧ SK cb (va_A [(a0, .inr (6, [.int 0, .int 0, .ref a1, .int 23, .int 1, .int 1, .int 1, .int 1, .ref a3])), (a1, .inr (5, [.ref cb, .int 81, .int 0, .ref a4, .int 3, .ref a2, .int 0, .ref a5, .int 1, .int 1, .ref a6, .int 6, .int 0, .int 1, .int 0])), (a2, .inl (cy 1, 2048, .inl f0))] sz) U U.heap)) (va_Qv (fun u : (Nat → Int32) => True) (fun u t => match u with | (u0) => va_P (dC, dI) vwCl [(a0, .inr (6, [.int 0, .int 0, .ref a1, .int 24, .int 1, .int 1, .int 1, .int 1, .ref a3])), (a1, .inr (5, [.ref cb, .int 81, .int 0, .ref a4, .int 3, .ref a2, .int 1, .ref a5, .int 1, .int 1, .ref a6, .int 6, .int 0, .int 1, .int 0])), (a2, .inl (cy 1, 2048, .inl u0))] t.heap ∧ va_K (dC, dI) vwCl (TYS cy) t ∧ va_D (va_A [(a0, .inr (6, [.int 0, .int 0, .ref a1, .int 23, .int 1, .int 1, .int 1, .int 1, .ref a3])), (a1, .inr (5, [.ref cb, .int 81, .int 0, .ref a4, .int 3, .ref a2, .int 0, .ref a5, .int 1, .int 1, .ref a6, .int 6, .int 0, .int 1, .int 0])), (a2, .inl (cy 1, 2048, .inl f0))] sz) [(a0, .inr (6, [.int 0, .int 0, .ref a1, .int 24, .int 1, .int 1, .int 1, .int 1, .ref a3])), (a1, .inr (5, [.ref cb, .int 81, .int 0, .ref a4, .int 3, .ref a2, .int 1, .ref a5, .int 1, .int 1, .ref a6, .int 6, .int 0, .int 1, .int 0])), (a2, .inl (cy 1, 2048, .inl u0))]) (va_A [(a0, .inr (6, [.int 0, .int 0, .ref a1, .int 23, .int 1, .int 1, .int 1, .int 1, .ref a3])), (a1, .inr (5, [.ref cb, .int 81, .int 0, .ref a4, .int 3, .ref a2, .int 0, .ref a5, .int 1, .int 1, .ref a6, .int 6, .int 0, .int 1, .int 0])), (a2, .inl (cy 1, 2048, .inl f0))] sz)) 0 0 (va_A [(a0, .inr (6, [.int 0, .int 0, .ref a1, .int 23, .int 1, .int 1, .int 1, .int 1, .ref a3])), (a1, .inr (5, [.ref cb, .int 81, .int 0, .ref a4, .int 3, .ref a2, .int 0, .ref a5, .int 1, .int 1, .ref a6, .int 6, .int 0, .int 1, .int 0])), (a2, .inl (cy 1, 2048, .inl f0))] sz) := by
  refine Met.ofW (cc := cX6_readInstruction) (maxL := 4) (ret := none) (by decide) rfl ?_
  intro p e s m args below meth c s₁ B hml hv
  obtain ⟨rfl, hsz, hP, hK, hD0, hN, hSK⟩ := hv
  have hx := B.exec
  have hb := B.bytes
  have hr := B.returns
  have hts := atoms_spec (ws := wsX6_readInstruction) B.pre
  have hown : s.vm.findClass RX6 = some m.cls := findClass_of_methodNamed B.named
  have hlocks := B.notSynchronized
  subst hsz
  have hD := hD0.self (sz := s.heap.size)
  generalize hAe : va_A [(a0, .inr (6, [.int 0, .int 0, .ref a1, .int 23, .int 1, .int 1, .int 1, .int 1, .ref a3])), (a1, .inr (5, [.ref cb, .int 81, .int 0, .ref a4, .int 3, .ref a2, .int 0, .ref a5, .int 1, .int 1, .ref a6, .int 6, .int 0, .int 1, .int 0])), (a2, .inl (cy 1, 2048, .inl f0))] s.heap.size = A at hD hSK ⊢
  have hA : ∀ q : Nat, s.heap.size ≤ q → A q := fun q h => by rw [← hAe]; exact Or.inr h
  have hS : va_S A s.heap s.heap [] := va_S.rf
  have hP : va_P (dC, dI) vwCl [(a0, .inr (6, [.int 0, .int 0, .ref a1, .int 23, .int 1, .int 1, .int 1, .int 1, .ref a3])), (a1, .inr (5, [.ref cb, .int 81, .int 0, .ref a4, .int 3, .ref a2, .int 0, .ref a5, .int 1, .int 1, .ref a6, .int 6, .int 0, .int 1, .int 0])), (a2, .inl (cy 1, 2048, .inl f0))] s.heap := hP
  have hl := lv_entry ([.ref a0]) (n := 4) (Nat.le_of_ble_eq_true rfl)
  rw [lg_entry_eq]
  generalize (lg_sl ([.ref a0]) ++ List.replicate (4 - (lg_sl ([.ref a0])).length) Slot.unset).toArray = ls at hl ⊢
  replace hl : lv_has ls 4 [(0, .ref a0)] := hl
  refine lv_aload_n hx hb dX6_readInstruction_0 rfl (lv_at hl 0 rfl) ?_
  refine va_get (D := (dC, dI)) (ci := 6) (v := .ref a1) (C := RX6) (T := TX6) (N := 9) hx hb hts iw_X6_readInstruction_X6 hown hK hP 0 rfl rfl 2 (by decide) (hts _ m_X6_readInstruction_1) (fun _ h9 => h9) rfl dX6_readInstruction_1 ?_
  refine lv_aload_n hx hb dX6_readInstruction_4 rfl (lv_at hl 0 rfl) ?_
  refine va_get (D := (dC, dI)) (ci := 6) (v := .int 23) (C := RX6) (T := TX6) (N := 9) hx hb hts iw_X6_readInstruction_X6 hown hK hP 0 rfl rfl 3 (by decide) (hts _ m_X6_readInstruction_2) (fun _ h9 => h9) rfl dX6_readInstruction_5 ?_
  have hPc := hP.sub (ws' := [(a1, .inr (5, [.ref cb, .int 81, .int 0, .ref a4, .int 3, .ref a2, .int 0, .ref a5, .int 1, .int 1, .ref a6, .int 6, .int 0, .int 1, .int 0])), (a2, .inl (cy 1, 2048, .inl f0))]) [1, 2] rfl
  have hDc := hD.sub (ws' := [(a1, .inr (5, [.ref cb, .int 81, .int 0, .ref a4, .int 3, .ref a2, .int 0, .ref a5, .int 1, .int 1, .ref a6, .int 6, .int 0, .int 1, .int 0])), (a2, .inl (cy 1, 2048, .inl f0))]) [1, 2] (by decide) rfl
  have hFc := va_free (wc := [(a1, .inr (5, [.ref cb, .int 81, .int 0, .ref a4, .int 3, .ref a2, .int 0, .ref a5, .int 1, .int 1, .ref a6, .int 6, .int 0, .int 1, .int 0])), (a2, .inl (cy 1, 2048, .inl f0))]) hD hS hA [1, 2] rfl
  refine va_callv (va_runV (As := [.int 23]) (rest := []) ⟨hx, hb, hml, hown, hts⟩ (cc_75_X5_addStart l dC dI cy s.heap.size cb a1 a2 a4 a5 a6 f0) (cwV 1 hts gX6_readInstruction_X5_addStart rfl rfl rfl (by decide +kernel) ⟨Nat.le_of_ble_eq_true rfl, Nat.le_of_ble_eq_true rfl⟩) ⟨fun a U g mk q => by obtain ⟨q0, q1, qP, qK, qD, qN, qS⟩ := q; exact ⟨q0, q1, qP, va_K.moved (u := U) (U := U.calling g mk a) (Vm.Alike.refl U.vm) qK, qD, qN.same rfl, SK.moved (u := U) (U := U.calling g mk a) (Vm.Alike.refl U.vm) qS⟩, va_recv hK hPc (ci := 5) (q0 := 0) rfl rfl, fun U hU hW => ⟨rfl, by rw [hU], by rw [hU]; exact hPc, va_K.moved hW.alike hK, hDc.weaken (fun _ _ _ _ => trivial), hN.warm hW, by rw [hU]; exact ((hSK.kept hS.2.1).narrow hFc).moved hW.alike⟩⟩ rfl rfl hl.1 rfl (lv_room (Nat.le_of_ble_eq_true rfl)) dX6_readInstruction_8 ⟨Nat.le_of_ble_eq_true rfl, Nat.le_of_ble_eq_true rfl⟩) hS (fun q _ h => hFc q h) hFc (fun u t H_1 locs ht hvm hw hB hz1 hk1 hS2 => ?_)
  obtain ⟨g_2, rfl⟩ : ∃ z, z = u := ⟨_, rfl⟩
  obtain ⟨hP1, hK1, hD1⟩ := hB
  rw [ht] at hP1
  obtain ⟨hP2, hD2⟩ := va_join (wr := [(a0, .inr (6, [.int 0, .int 0, .ref a1, .int 23, .int 1, .int 1, .int 1, .int 1, .ref a3]))]) (w1 := [(a1, .inr (5, [.ref cb, .int 81, .int 0, .ref a4, .int 3, .ref a2, .int 1, .ref a5, .int 1, .int 1, .ref a6, .int 6, .int 0, .int 1, .int 0])), (a2, .inl (cy 1, 2048, .inl g_2))]) hP hD [1, 2] [0] rfl rfl (by decide) (by decide) hk1 hFc hP1 hD1
  replace hP : va_P (dC, dI) vwCl [(a0, .inr (6, [.int 0, .int 0, .ref a1, .int 23, .int 1, .int 1, .int 1, .int 1, .ref a3])), (a1, .inr (5, [.ref cb, .int 81, .int 0, .ref a4, .int 3, .ref a2, .int 1, .ref a5, .int 1, .int 1, .ref a6, .int 6, .int 0, .int 1, .int 0])), (a2, .inl (cy 1, 2048, .inl g_2))] H_1 := hP2
  replace hD : va_D A [(a0, .inr (6, [.int 0, .int 0, .ref a1, .int 23, .int 1, .int 1, .int 1, .int 1, .ref a3])), (a1, .inr (5, [.ref cb, .int 81, .int 0, .ref a4, .int 3, .ref a2, .int 1, .ref a5, .int 1, .int 1, .ref a6, .int 6, .int 0, .int 1, .int 0])), (a2, .inl (cy 1, 2048, .inl g_2))] := hD2
  replace hS := hS2
  clear hP2 hD2 hS2
  clear hPc hDc hFc hP1 hD1 hK1 hk1 hz1 hvm ht
  refine W.widen (k := 0) (n := 0) (Nat.le_of_ble_eq_true rfl) (Nat.le_of_ble_eq_true rfl) ?_
  refine lv_aload_n hx hb dX6_readInstruction_11 rfl (lv_at hl 0 rfl) ?_
  refine va_get (D := (dC, dI)) (ci := 6) (v := .int 23) (C := RX6) (T := TX6) (N := 9) hx hb hts iw_X6_readInstruction_X6 hown hK hP 0 rfl rfl 3 (by decide) (hts _ m_X6_readInstruction_2) (fun _ h9 => h9) rfl dX6_readInstruction_12 ?_
  refine lv_istore_n (lv' := [(1, .int 23), (0, .ref a0)]) hx hb dX6_readInstruction_15 rfl hl (by decide) rfl (fun ls hl2 => ?_)
  replace hl := hl2
  clear hl2
  refine lv_aload_n hx hb dX6_readInstruction_16 rfl (lv_at hl 1 rfl) ?_
  have hPc := hP.sub (ws' := [(a0, .inr (6, [.int 0, .int 0, .ref a1, .int 23, .int 1, .int 1, .int 1, .int 1, .ref a3])), (a1, .inr (5, [.ref cb, .int 81, .int 0, .ref a4, .int 3, .ref a2, .int 1, .ref a5, .int 1, .int 1, .ref a6, .int 6, .int 0, .int 1, .int 0]))]) [0, 1] rfl
  have hDc := hD.sub (ws' := [(a0, .inr (6, [.int 0, .int 0, .ref a1, .int 23, .int 1, .int 1, .int 1, .int 1, .ref a3])), (a1, .inr (5, [.ref cb, .int 81, .int 0, .ref a4, .int 3, .ref a2, .int 1, .ref a5, .int 1, .int 1, .ref a6, .int 6, .int 0, .int 1, .int 0]))]) [0, 1] (by decide) rfl
  have hFc := va_free (wc := [(a0, .inr (6, [.int 0, .int 0, .ref a1, .int 23, .int 1, .int 1, .int 1, .int 1, .ref a3])), (a1, .inr (5, [.ref cb, .int 81, .int 0, .ref a4, .int 3, .ref a2, .int 1, .ref a5, .int 1, .int 1, .ref a6, .int 6, .int 0, .int 1, .int 0]))]) hD hS hA [0, 1] rfl
  refine va_calli (va_runV (As := []) (rest := []) ⟨hx, hb, hml, hown, hts⟩ (cc_331_X6_readByte l dC dI cy H_1.size cb a0 a1 a3 a4 a2 a5 a6) (cwV 0 hts gX6_readInstruction_X6_readByte rfl rfl rfl (by decide +kernel) ⟨Nat.le_of_ble_eq_true rfl, Nat.le_of_ble_eq_true rfl⟩) ⟨fun a U g mk q => by obtain ⟨q0, q1, qP, qK, qD, qN, qS⟩ := q; exact ⟨q0, q1, qP, va_K.moved (u := U) (U := U.calling g mk a) (Vm.Alike.refl U.vm) qK, qD, qN.same rfl, SK.moved (u := U) (U := U.calling g mk a) (Vm.Alike.refl U.vm) qS⟩, va_recv hK hPc (ci := 6) (q0 := 0) rfl rfl, fun U hU hW => ⟨rfl, by rw [hU], by rw [hU]; exact hPc, va_K.moved hW.alike hK, hDc.weaken (fun _ _ _ _ => trivial), hN.warm hW, by rw [hU]; exact ((hSK.kept hS.2.1).narrow hFc).moved hW.alike⟩⟩ rfl rfl hl.1 rfl (lv_room (Nat.le_of_ble_eq_true rfl)) dX6_readInstruction_17 ⟨Nat.le_of_ble_eq_true rfl, Nat.le_of_ble_eq_true rfl⟩) hS (fun q _ h => hFc q h) hFc (fun r_3 u t H_4 locs ht hvm hw hB hz1 hk1 hS2 => ?_)
  obtain ⟨hP1, hK1, hD1⟩ := hB
  rw [ht] at hP1
  obtain rfl := hw
  obtain ⟨hP2, hD2⟩ := va_join (wr := [(a2, .inl (cy 1, 2048, .inl g_2))]) (w1 := [(a0, .inr (6, [.int 0, .int 0, .ref a1, .int 24, .int 1, .int 1, .int 1, .int 1, .ref a3])), (a1, .inr (5, [.ref cb, .int 81, .int 0, .ref a4, .int 3, .ref a2, .int 1, .ref a5, .int 1, .int 1, .ref a6, .int 6, .int 0, .int 1, .int 0]))]) hP hD [0, 1] [2] rfl rfl (by decide) (by decide) hk1 hFc hP1 hD1
  replace hP : va_P (dC, dI) vwCl [(a2, .inl (cy 1, 2048, .inl g_2)), (a0, .inr (6, [.int 0, .int 0, .ref a1, .int 24, .int 1, .int 1, .int 1, .int 1, .ref a3])), (a1, .inr (5, [.ref cb, .int 81, .int 0, .ref a4, .int 3, .ref a2, .int 1, .ref a5, .int 1, .int 1, .ref a6, .int 6, .int 0, .int 1, .int 0]))] H_4 := hP2
  replace hD : va_D A [(a2, .inl (cy 1, 2048, .inl g_2)), (a0, .inr (6, [.int 0, .int 0, .ref a1, .int 24, .int 1, .int 1, .int 1, .int 1, .ref a3])), (a1, .inr (5, [.ref cb, .int 81, .int 0, .ref a4, .int 3, .ref a2, .int 1, .ref a5, .int 1, .int 1, .ref a6, .int 6, .int 0, .int 1, .int 0]))] := hD2
  replace hS := hS2
  clear hP2 hD2 hS2
  clear hPc hDc hFc hP1 hD1 hK1 hk1 hz1 hvm ht
  refine W.widen (k := 0) (n := 0) (Nat.le_of_ble_eq_true rfl) (Nat.le_of_ble_eq_true rfl) ?_
  refine lv_istore_n (lv' := [(2, .int 35), (1, .int 23), (0, .ref a0)]) hx hb dX6_readInstruction_20 rfl hl (by decide) rfl (fun ls hl2 => ?_)
  replace hl := hl2
  clear hl2
  refine lv_iload_n hx hb dX6_readInstruction_21 rfl (lv_at hl 0 rfl) ?_
  refine lv_bipush (v := 59) hx hb dX6_readInstruction_22 (by decide) ?_
  refine lv_icmp_le (tgt := 36) hx hb dX6_readInstruction_24 (by decide) (fun _ => ?_) (fun h => absurd (by decide) h)
  refine lv_iload_n hx hb dX6_readInstruction_36 rfl (lv_at hl 0 rfl) ?_
  refine lv_iconst (v := 2) hx hb dX6_readInstruction_37 (by decide) ?_
  refine lv_icmp_lt (tgt := 79) hx hb dX6_readInstruction_38 (by decide) (fun h => absurd h (by decide)) (fun _ => ?_)
  refine lv_iload_n hx hb dX6_readInstruction_41 rfl (lv_at hl 0 rfl) ?_
  refine lv_iconst (v := 4) hx hb dX6_readInstruction_42 (by decide) ?_
  refine lv_icmp_gt (tgt := 79) hx hb dX6_readInstruction_43 (by decide) (fun _ => ?_) (fun h => absurd (by decide) h)
  refine lv_iload_n hx hb dX6_readInstruction_79 rfl (lv_at hl 0 rfl) ?_
  refine lv_iconst (v := 5) hx hb dX6_readInstruction_80 (by decide) ?_
  refine lv_icmp_lt (tgt := 135) hx hb dX6_readInstruction_81 (by decide) (fun h => absurd h (by decide)) (fun _ => ?_)
  refine lv_iload_n hx hb dX6_readInstruction_84 rfl (lv_at hl 0 rfl) ?_
  refine lv_bipush (v := 10) hx hb dX6_readInstruction_85 (by decide) ?_
  refine lv_icmp_gt (tgt := 135) hx hb dX6_readInstruction_87 (by decide) (fun _ => ?_) (fun h => absurd (by decide) h)
  refine lv_iload_n hx hb dX6_readInstruction_135 rfl (lv_at hl 0 rfl) ?_
  refine lv_bipush (v := 11) hx hb dX6_readInstruction_136 (by decide) ?_
  refine lv_icmp_lt (tgt := 161) hx hb dX6_readInstruction_138 (by decide) (fun h => absurd h (by decide)) (fun _ => ?_)
  refine lv_iload_n hx hb dX6_readInstruction_141 rfl (lv_at hl 0 rfl) ?_
  refine lv_bipush (v := 15) hx hb dX6_readInstruction_142 (by decide) ?_
  refine lv_icmp_gt (tgt := 161) hx hb dX6_readInstruction_144 (by decide) (fun _ => ?_) (fun h => absurd (by decide) h)
  refine lv_iload_n hx hb dX6_readInstruction_161 rfl (lv_at hl 0 rfl) ?_
  refine lv_bipush (v := 16) hx hb dX6_readInstruction_162 (by decide) ?_
  refine lv_icmp_eq (tgt := 173) hx hb dX6_readInstruction_164 (by decide) (fun h => absurd h (by decide)) (fun _ => ?_)
  refine lv_iload_n hx hb dX6_readInstruction_167 rfl (lv_at hl 0 rfl) ?_
  refine lv_bipush (v := 17) hx hb dX6_readInstruction_168 (by decide) ?_
  refine lv_icmp_ne (tgt := 196) hx hb dX6_readInstruction_170 (by decide) (fun _ => ?_) (fun h => absurd h (by decide))
  refine lv_iload_n hx hb dX6_readInstruction_196 rfl (lv_at hl 0 rfl) ?_
  refine lv_bipush (v := 21) hx hb dX6_readInstruction_197 (by decide) ?_
  refine lv_icmp_eq (tgt := 220) hx hb dX6_readInstruction_199 (by decide) (fun h => absurd h (by decide)) (fun _ => ?_)
  refine lv_iload_n hx hb dX6_readInstruction_202 rfl (lv_at hl 0 rfl) ?_
  refine lv_bipush (v := 22) hx hb dX6_readInstruction_203 (by decide) ?_
  refine lv_icmp_eq (tgt := 220) hx hb dX6_readInstruction_205 (by decide) (fun h => absurd h (by decide)) (fun _ => ?_)
  refine lv_iload_n hx hb dX6_readInstruction_208 rfl (lv_at hl 0 rfl) ?_
  refine lv_bipush (v := 47) hx hb dX6_readInstruction_209 (by decide) ?_
  refine lv_icmp_lt (tgt := 228) hx hb dX6_readInstruction_211 (by decide) (fun _ => ?_) (fun h => absurd (by decide) h)
  refine lv_iload_n hx hb dX6_readInstruction_228 rfl (lv_at hl 0 rfl) ?_
  refine lv_bipush (v := 23) hx hb dX6_readInstruction_229 (by decide) ?_
  refine lv_icmp_ne (tgt := 259) hx hb dX6_readInstruction_231 (by decide) (fun _ => ?_) (fun h => absurd h (by decide))
  refine lv_iload_n hx hb dX6_readInstruction_259 rfl (lv_at hl 0 rfl) ?_
  refine lv_bipush (v := 52) hx hb dX6_readInstruction_260 (by decide) ?_
  refine lv_icmp_lt (tgt := 299) hx hb dX6_readInstruction_262 (by decide) (fun _ => ?_) (fun h => absurd (by decide) h)
  have hP := hP.sub (ws' := [(a0, .inr (6, [.int 0, .int 0, .ref a1, .int 24, .int 1, .int 1, .int 1, .int 1, .ref a3])), (a1, .inr (5, [.ref cb, .int 81, .int 0, .ref a4, .int 3, .ref a2, .int 1, .ref a5, .int 1, .int 1, .ref a6, .int 6, .int 0, .int 1, .int 0])), (a2, .inl (cy 1, 2048, .inl g_2))]) [1, 2, 0] rfl
  have hD := hD.sub (ws' := [(a0, .inr (6, [.int 0, .int 0, .ref a1, .int 24, .int 1, .int 1, .int 1, .int 1, .ref a3])), (a1, .inr (5, [.ref cb, .int 81, .int 0, .ref a4, .int 3, .ref a2, .int 1, .ref a5, .int 1, .int 1, .ref a6, .int 6, .int 0, .int 1, .int 0])), (a2, .inl (cy 1, 2048, .inl g_2))]) [1, 2, 0] (by decide) rfl
  exact W.vret hx hb hr (fun t ht hW => ⟨⟨(g_2), rfl, trivial, by rw [ht]; exact hP, va_K.moved hW.alike hK, hD⟩, hS.F ht⟩) hS.2.2 dX6_readInstruction_299

set_option maxHeartbeats 4000000 in
set_option maxRecDepth 100000 in
theorem cc_333_X6_readByte (l : Launch) (dC : Nat → ClassId) (dI : Nat → Nat → Nat) (cy : Nat → ClassId) (sz : Nat) (cb : Nat) (a0 : Nat) (a1 : Nat) (a2 : Nat) (a3 : Nat) (a4 : Nat) (a5 : Nat) (a6 : Nat)  : Met l yX6_readByte wsX6_readByte ({ frames := 0, cells := 0, slots := 0, locals := 0 }) (va_Pc [.ref a0] (fun U => U.heap.size = sz ∧ va_P (dC, dI) vwCl [(a0, .inr (6, [.int 0, .int 0, .ref a1, .int 24, .int 1, .int 1, .int 1, .int 1, .ref a2])), (a1, .inr (5, [.ref cb, .int 81, .int 0, .ref a3, .int 3, .ref a4, .int 1, .ref a5, .int 1, .int 1, .ref a6, .int 6, .int 0, .int 1, .int 0]))] U.heap ∧ va_K (dC, dI) vwCl (TYS cy) U ∧ va_D (fun _ => True) [(a0, .inr (6, [.int 0, .int 0, .ref a1, .int 24, .int 1, .int 1, .int 1, .int 1, .ref a2])), (a1, .inr (5, [.ref cb, .int 81, .int 0, .ref a3, .int 3, .ref a4, .int 1, .ref a5, .int 1, .int 1, .ref a6, .int 6, .int 0, .int 1, .int 0]))] ∧ NK U ∧ SK cb (va_A [(a0, .inr (6, [.int 0, .int 0, .ref a1, .int 24, .int 1, .int 1, .int 1, .int 1, .ref a2])), (a1, .inr (5, [.ref cb, .int 81, .int 0, .ref a3, .int 3, .ref a4, .int 1, .ref a5, .int 1, .int 1, .ref a6, .int 6, .int 0, .int 1, .int 0]))] sz) U U.heap)) (va_Qi (fun (r : Int32) (u : Unit) => r = 1) (fun u t => va_P (dC, dI) vwCl [(a0, .inr (6, [.int 0, .int 0, .ref a1, .int 25, .int 1, .int 1, .int 1, .int 1, .ref a2])), (a1, .inr (5, [.ref cb, .int 81, .int 0, .ref a3, .int 3, .ref a4, .int 1, .ref a5, .int 1, .int 1, .ref a6, .int 6, .int 0, .int 1, .int 0]))] t.heap ∧ va_K (dC, dI) vwCl (TYS cy) t ∧ va_D (va_A [(a0, .inr (6, [.int 0, .int 0, .ref a1, .int 24, .int 1, .int 1, .int 1, .int 1, .ref a2])), (a1, .inr (5, [.ref cb, .int 81, .int 0, .ref a3, .int 3, .ref a4, .int 1, .ref a5, .int 1, .int 1, .ref a6, .int 6, .int 0, .int 1, .int 0]))] sz) [(a0, .inr (6, [.int 0, .int 0, .ref a1, .int 25, .int 1, .int 1, .int 1, .int 1, .ref a2])), (a1, .inr (5, [.ref cb, .int 81, .int 0, .ref a3, .int 3, .ref a4, .int 1, .ref a5, .int 1, .int 1, .ref a6, .int 6, .int 0, .int 1, .int 0]))]) (va_A [(a0, .inr (6, [.int 0, .int 0, .ref a1, .int 24, .int 1, .int 1, .int 1, .int 1, .ref a2])), (a1, .inr (5, [.ref cb, .int 81, .int 0, .ref a3, .int 3, .ref a4, .int 1, .ref a5, .int 1, .int 1, .ref a6, .int 6, .int 0, .int 1, .int 0]))] sz)) 0 0 (va_A [(a0, .inr (6, [.int 0, .int 0, .ref a1, .int 24, .int 1, .int 1, .int 1, .int 1, .ref a2])), (a1, .inr (5, [.ref cb, .int 81, .int 0, .ref a3, .int 3, .ref a4, .int 1, .ref a5, .int 1, .int 1, .ref a6, .int 6, .int 0, .int 1, .int 0]))] sz) := by
  refine Met.ofW (cc := cX6_readByte) (maxL := 1) (ret := (some .int)) (by decide) rfl ?_
  intro p e s m args below meth c s₁ B hml hv
  obtain ⟨rfl, hsz, hP, hK, hD0, hN, hSK⟩ := hv
  have hx := B.exec
  have hb := B.bytes
  have hr := B.returns
  have hts := atoms_spec (ws := wsX6_readByte) B.pre
  have hown : s.vm.findClass RX6 = some m.cls := findClass_of_methodNamed B.named
  have hlocks := B.notSynchronized
  subst hsz
  have hD := hD0.self (sz := s.heap.size)
  generalize hAe : va_A [(a0, .inr (6, [.int 0, .int 0, .ref a1, .int 24, .int 1, .int 1, .int 1, .int 1, .ref a2])), (a1, .inr (5, [.ref cb, .int 81, .int 0, .ref a3, .int 3, .ref a4, .int 1, .ref a5, .int 1, .int 1, .ref a6, .int 6, .int 0, .int 1, .int 0]))] s.heap.size = A at hD hSK ⊢
  have hA : ∀ q : Nat, s.heap.size ≤ q → A q := fun q h => by rw [← hAe]; exact Or.inr h
  have hS : va_S A s.heap s.heap [] := va_S.rf
  have hP : va_P (dC, dI) vwCl [(a0, .inr (6, [.int 0, .int 0, .ref a1, .int 24, .int 1, .int 1, .int 1, .int 1, .ref a2])), (a1, .inr (5, [.ref cb, .int 81, .int 0, .ref a3, .int 3, .ref a4, .int 1, .ref a5, .int 1, .int 1, .ref a6, .int 6, .int 0, .int 1, .int 0]))] s.heap := hP
  have hl := lv_entry ([.ref a0]) (n := 1) (Nat.le_of_ble_eq_true rfl)
  rw [lg_entry_eq]
  generalize (lg_sl ([.ref a0]) ++ List.replicate (1 - (lg_sl ([.ref a0])).length) Slot.unset).toArray = ls at hl ⊢
  replace hl : lv_has ls 1 [(0, .ref a0)] := hl
  refine lv_aload_n hx hb dX6_readByte_0 rfl (lv_at hl 0 rfl) ?_
  refine va_get (D := (dC, dI)) (ci := 6) (v := .int 0) (C := RX6) (T := TX6) (N := 9) hx hb hts iw_X6_readByte_X6 hown hK hP 0 rfl rfl 1 (by decide) (hts _ m_X6_readByte_1) (fun _ h9 => h9) rfl dX6_readByte_1 ?_
  refine lv_if_eq (tgt := 9) hx hb dX6_readByte_4 (by decide) (fun _ => ?_) (fun h => absurd (by decide) h)
  refine lv_aload_n hx hb dX6_readByte_9 rfl (lv_at hl 0 rfl) ?_
  refine va_get (D := (dC, dI)) (ci := 6) (v := .int 24) (C := RX6) (T := TX6) (N := 9) hx hb hts iw_X6_readByte_X6 hown hK hP 0 rfl rfl 3 (by decide) (hts _ m_X6_readByte_2) (fun _ h9 => h9) rfl dX6_readByte_10 ?_
  refine lv_aload_n hx hb dX6_readByte_13 rfl (lv_at hl 0 rfl) ?_
  refine va_get (D := (dC, dI)) (ci := 6) (v := .ref a1) (C := RX6) (T := TX6) (N := 9) hx hb hts iw_X6_readByte_X6 hown hK hP 0 rfl rfl 2 (by decide) (hts _ m_X6_readByte_3) (fun _ h9 => h9) rfl dX6_readByte_14 ?_
  refine va_get (D := (dC, dI)) (ci := 5) (v := .int 81) (C := RX5) (T := TX5) (N := 15) hx hb hts iw_X6_readByte_X5 hown hK hP 1 rfl rfl 1 (by decide) (hts _ m_X6_readByte_4) (fun _ h9 => h9) rfl dX6_readByte_17 ?_
  refine lv_icmp_lt (tgt := 41) hx hb dX6_readByte_20 (by decide) (fun _ => ?_) (fun h => absurd (by decide) h)
  refine lv_aload_n hx hb dX6_readByte_41 rfl (lv_at hl 0 rfl) ?_
  refine va_get (D := (dC, dI)) (ci := 6) (v := .ref a1) (C := RX6) (T := TX6) (N := 9) hx hb hts iw_X6_readByte_X6 hown hK hP 0 rfl rfl 2 (by decide) (hts _ m_X6_readByte_3) (fun _ h9 => h9) rfl dX6_readByte_42 ?_
  refine va_get (D := (dC, dI)) (ci := 5) (v := .ref cb) (C := RX5) (T := TX5) (N := 15) hx hb hts iw_X6_readByte_X5 hown hK hP 1 rfl rfl 0 (by decide) (hts _ m_X6_readByte_6) (fun _ h9 => h9) rfl dX6_readByte_45 ?_
  refine lv_aload_n hx hb dX6_readByte_48 rfl (lv_at hl 0 rfl) ?_
  refine lv_dup hx hb dX6_readByte_49 rfl ?_
  refine va_get (D := (dC, dI)) (ci := 6) (v := .int 24) (C := RX6) (T := TX6) (N := 9) hx hb hts iw_X6_readByte_X6 hown hK hP 0 rfl rfl 3 (by decide) (hts _ m_X6_readByte_2) (fun _ h9 => h9) rfl dX6_readByte_50 ?_
  refine lv_dup_x1 hx hb dX6_readByte_53 rfl rfl ?_
  refine lv_iconst (v := 1) hx hb dX6_readByte_54 (by decide) ?_
  refine lv_iadd hx hb dX6_readByte_55 ?_
  refine lv_topi (fun z_1 ez_1 => ?_)
  obtain rfl : z_1 = 25 := ez_1.trans (by decide)
  clear ez_1
  refine va_put (D := (dC, dI)) (ci := 6) (v := .int 25) (ty := .int) (C := RX6) (T := TX6) (N := 9) hx hb hts iw_X6_readByte_X6 tyX6 tyX6_ok nmX6 hown hK hP hD hS 0 rfl rfl 3 (by decide) (hts _ m_X6_readByte_2) (fun _ h9 => h9) rfl (by decide +kernel) rfl rfl (Nat.le_of_ble_eq_true rfl) dX6_readByte_56 (fun H_2 locs hP2 hD2 hS2 => ?_)
  replace hP : va_P (dC, dI) vwCl [(a0, .inr (6, [.int 0, .int 0, .ref a1, .int 25, .int 1, .int 1, .int 1, .int 1, .ref a2])), (a1, .inr (5, [.ref cb, .int 81, .int 0, .ref a3, .int 3, .ref a4, .int 1, .ref a5, .int 1, .int 1, .ref a6, .int 6, .int 0, .int 1, .int 0]))] H_2 := hP2
  replace hD : va_D A [(a0, .inr (6, [.int 0, .int 0, .ref a1, .int 25, .int 1, .int 1, .int 1, .int 1, .ref a2])), (a1, .inr (5, [.ref cb, .int 81, .int 0, .ref a3, .int 3, .ref a4, .int 1, .ref a5, .int 1, .int 1, .ref a6, .int 6, .int 0, .int 1, .int 0]))] := hD2
  replace hS := hS2
  clear hP2 hD2 hS2
  refine va_tb (v := .int 1) hx hb hSK.2 hS (by unfold vp_in; decide) rfl dX6_readByte_59 ?_
  refine lv_sipush (v := 255) hx hb dX6_readByte_60 (by decide) ?_
  refine lv_iand hx hb dX6_readByte_63 ?_
  refine lv_topi (fun z_3 ez_3 => ?_)
  obtain rfl : z_3 = 1 := ez_3.trans (by decide)
  clear ez_3
  exact W.iret hx hb hr (fun t ht hW => ⟨⟨1, (), rfl, rfl, by rw [ht]; exact hP, va_K.moved hW.alike hK, hD⟩, hS.F ht⟩) hS.2.2 dX6_readByte_64

set_option maxHeartbeats 4000000 in
set_option maxRecDepth 100000 in
theorem cc_332_X6_readNumber (l : Launch) (dC : Nat → ClassId) (dI : Nat → Nat → Nat) (cy : Nat → ClassId) (sz : Nat) (cb : Nat) (a0 : Nat) (a1 : Nat) (a2 : Nat) (a3 : Nat) (a4 : Nat) (a5 : Nat) (a6 : Nat)  : Met l yX6_readNumber wsX6_readNumber ({ frames := 1, cells := 0, slots := 0, locals := 20 }) (va_Pc [.ref a0, .int 0, .int 7] (fun U => U.heap.size = sz ∧ va_P (dC, dI) vwCl [(a0, .inr (6, [.int 0, .int 0, .ref a1, .int 24, .int 1, .int 1, .int 1, .int 1, .ref a2])), (a1, .inr (5, [.ref cb, .int 81, .int 0, .ref a3, .int 3, .ref a4, .int 1, .ref a5, .int 1, .int 1, .ref a6, .int 6, .int 0, .int 1, .int 0]))] U.heap ∧ va_K (dC, dI) vwCl (TYS cy) U ∧ va_D (fun _ => True) [(a0, .inr (6, [.int 0, .int 0, .ref a1, .int 24, .int 1, .int 1, .int 1, .int 1, .ref a2])), (a1, .inr (5, [.ref cb, .int 81, .int 0, .ref a3, .int 3, .ref a4, .int 1, .ref a5, .int 1, .int 1, .ref a6, .int 6, .int 0, .int 1, .int 0]))] ∧ NK U ∧ SK cb (va_A [(a0, .inr (6, [.int 0, .int 0, .ref a1, .int 24, .int 1, .int 1, .int 1, .int 1, .ref a2])), (a1, .inr (5, [.ref cb, .int 81, .int 0, .ref a3, .int 3, .ref a4, .int 1, .ref a5, .int 1, .int 1, .ref a6, .int 6, .int 0, .int 1, .int 0]))] sz) U U.heap)) (va_Qi (fun (r : Int32) (u : Unit) => r = 1) (fun u t => va_P (dC, dI) vwCl [(a0, .inr (6, [.int 0, .int 0, .ref a1, .int 25, .int 1, .int 1, .int 1, .int 1, .ref a2])), (a1, .inr (5, [.ref cb, .int 81, .int 0, .ref a3, .int 3, .ref a4, .int 1, .ref a5, .int 1, .int 1, .ref a6, .int 6, .int 0, .int 1, .int 0]))] t.heap ∧ va_K (dC, dI) vwCl (TYS cy) t ∧ va_D (va_A [(a0, .inr (6, [.int 0, .int 0, .ref a1, .int 24, .int 1, .int 1, .int 1, .int 1, .ref a2])), (a1, .inr (5, [.ref cb, .int 81, .int 0, .ref a3, .int 3, .ref a4, .int 1, .ref a5, .int 1, .int 1, .ref a6, .int 6, .int 0, .int 1, .int 0]))] sz) [(a0, .inr (6, [.int 0, .int 0, .ref a1, .int 25, .int 1, .int 1, .int 1, .int 1, .ref a2])), (a1, .inr (5, [.ref cb, .int 81, .int 0, .ref a3, .int 3, .ref a4, .int 1, .ref a5, .int 1, .int 1, .ref a6, .int 6, .int 0, .int 1, .int 0]))]) (va_A [(a0, .inr (6, [.int 0, .int 0, .ref a1, .int 24, .int 1, .int 1, .int 1, .int 1, .ref a2])), (a1, .inr (5, [.ref cb, .int 81, .int 0, .ref a3, .int 3, .ref a4, .int 1, .ref a5, .int 1, .int 1, .ref a6, .int 6, .int 0, .int 1, .int 0]))] sz)) 0 0 (va_A [(a0, .inr (6, [.int 0, .int 0, .ref a1, .int 24, .int 1, .int 1, .int 1, .int 1, .ref a2])), (a1, .inr (5, [.ref cb, .int 81, .int 0, .ref a3, .int 3, .ref a4, .int 1, .ref a5, .int 1, .int 1, .ref a6, .int 6, .int 0, .int 1, .int 0]))] sz) := by
  refine Met.ofW (cc := cX6_readNumber) (maxL := 5) (ret := (some .int)) (by decide) rfl ?_
  intro p e s m args below meth c s₁ B hml hv
  obtain ⟨rfl, hsz, hP, hK, hD0, hN, hSK⟩ := hv
  have hx := B.exec
  have hb := B.bytes
  have hr := B.returns
  have hts := atoms_spec (ws := wsX6_readNumber) B.pre
  have hown : s.vm.findClass RX6 = some m.cls := findClass_of_methodNamed B.named
  have hlocks := B.notSynchronized
  subst hsz
  have hD := hD0.self (sz := s.heap.size)
  generalize hAe : va_A [(a0, .inr (6, [.int 0, .int 0, .ref a1, .int 24, .int 1, .int 1, .int 1, .int 1, .ref a2])), (a1, .inr (5, [.ref cb, .int 81, .int 0, .ref a3, .int 3, .ref a4, .int 1, .ref a5, .int 1, .int 1, .ref a6, .int 6, .int 0, .int 1, .int 0]))] s.heap.size = A at hD hSK ⊢
  have hA : ∀ q : Nat, s.heap.size ≤ q → A q := fun q h => by rw [← hAe]; exact Or.inr h
  have hS : va_S A s.heap s.heap [] := va_S.rf
  have hP : va_P (dC, dI) vwCl [(a0, .inr (6, [.int 0, .int 0, .ref a1, .int 24, .int 1, .int 1, .int 1, .int 1, .ref a2])), (a1, .inr (5, [.ref cb, .int 81, .int 0, .ref a3, .int 3, .ref a4, .int 1, .ref a5, .int 1, .int 1, .ref a6, .int 6, .int 0, .int 1, .int 0]))] s.heap := hP
  have hl := lv_entry ([.ref a0, .int 0, .int 7]) (n := 5) (Nat.le_of_ble_eq_true rfl)
  rw [lg_entry_eq]
  generalize (lg_sl ([.ref a0, .int 0, .int 7]) ++ List.replicate (5 - (lg_sl ([.ref a0, .int 0, .int 7])).length) Slot.unset).toArray = ls at hl ⊢
  replace hl : lv_has ls 5 [(0, .ref a0), (1, .int 0), (2, .int 7)] := hl
  refine lv_aload_n hx hb dX6_readNumber_0 rfl (lv_at hl 0 rfl) ?_
  refine va_get (D := (dC, dI)) (ci := 6) (v := .int 24) (C := RX6) (T := TX6) (N := 9) hx hb hts iw_X6_readNumber_X6 hown hK hP 0 rfl rfl 3 (by decide) (hts _ m_X6_readNumber_1) (fun _ h9 => h9) rfl dX6_readNumber_1 ?_
  refine lv_istore_n (lv' := [(3, .int 24), (0, .ref a0), (1, .int 0), (2, .int 7)]) hx hb dX6_readNumber_4 rfl hl (by decide) rfl (fun ls hl2 => ?_)
  replace hl := hl2
  clear hl2
  refine lv_aload_n hx hb dX6_readNumber_5 rfl (lv_at hl 1 rfl) ?_
  have hPc := hP.sub (ws' := [(a0, .inr (6, [.int 0, .int 0, .ref a1, .int 24, .int 1, .int 1, .int 1, .int 1, .ref a2])), (a1, .inr (5, [.ref cb, .int 81, .int 0, .ref a3, .int 3, .ref a4, .int 1, .ref a5, .int 1, .int 1, .ref a6, .int 6, .int 0, .int 1, .int 0]))]) [0, 1] rfl
  have hDc := hD.sub (ws' := [(a0, .inr (6, [.int 0, .int 0, .ref a1, .int 24, .int 1, .int 1, .int 1, .int 1, .ref a2])), (a1, .inr (5, [.ref cb, .int 81, .int 0, .ref a3, .int 3, .ref a4, .int 1, .ref a5, .int 1, .int 1, .ref a6, .int 6, .int 0, .int 1, .int 0]))]) [0, 1] (by decide) rfl
  have hFc := va_free (wc := [(a0, .inr (6, [.int 0, .int 0, .ref a1, .int 24, .int 1, .int 1, .int 1, .int 1, .ref a2])), (a1, .inr (5, [.ref cb, .int 81, .int 0, .ref a3, .int 3, .ref a4, .int 1, .ref a5, .int 1, .int 1, .ref a6, .int 6, .int 0, .int 1, .int 0]))]) hD hS hA [0, 1] rfl
  refine va_calli (va_runV (As := []) (rest := []) ⟨hx, hb, hml, hown, hts⟩ (cc_333_X6_readByte l dC dI cy s.heap.size cb a0 a1 a2 a3 a4 a5 a6) (cwV 0 hts gX6_readNumber_X6_readByte rfl rfl rfl (by decide +kernel) ⟨Nat.le_of_ble_eq_true rfl, Nat.le_of_ble_eq_true rfl⟩) ⟨fun a U g mk q => by obtain ⟨q0, q1, qP, qK, qD, qN, qS⟩ := q; exact ⟨q0, q1, qP, va_K.moved (u := U) (U := U.calling g mk a) (Vm.Alike.refl U.vm) qK, qD, qN.same rfl, SK.moved (u := U) (U := U.calling g mk a) (Vm.Alike.refl U.vm) qS⟩, va_recv hK hPc (ci := 6) (q0 := 0) rfl rfl, fun U hU hW => ⟨rfl, by rw [hU], by rw [hU]; exact hPc, va_K.moved hW.alike hK, hDc.weaken (fun _ _ _ _ => trivial), hN.warm hW, by rw [hU]; exact ((hSK.kept hS.2.1).narrow hFc).moved hW.alike⟩⟩ rfl rfl hl.1 rfl (lv_room (Nat.le_of_ble_eq_true rfl)) dX6_readNumber_6 ⟨Nat.le_of_ble_eq_true rfl, Nat.le_of_ble_eq_true rfl⟩) hS (fun q _ h => hFc q h) hFc (fun r_1 u t H_2 locs ht hvm hw hB hz1 hk1 hS2 => ?_)
  obtain ⟨hP1, hK1, hD1⟩ := hB
  rw [ht] at hP1
  obtain rfl := hw
  obtain ⟨hP2, hD2⟩ := va_join (wr := []) (w1 := [(a0, .inr (6, [.int 0, .int 0, .ref a1, .int 25, .int 1, .int 1, .int 1, .int 1, .ref a2])), (a1, .inr (5, [.ref cb, .int 81, .int 0, .ref a3, .int 3, .ref a4, .int 1, .ref a5, .int 1, .int 1, .ref a6, .int 6, .int 0, .int 1, .int 0]))]) hP hD [0, 1] [] rfl rfl (by decide) (by decide) hk1 hFc hP1 hD1
  replace hP : va_P (dC, dI) vwCl [(a0, .inr (6, [.int 0, .int 0, .ref a1, .int 25, .int 1, .int 1, .int 1, .int 1, .ref a2])), (a1, .inr (5, [.ref cb, .int 81, .int 0, .ref a3, .int 3, .ref a4, .int 1, .ref a5, .int 1, .int 1, .ref a6, .int 6, .int 0, .int 1, .int 0]))] H_2 := hP2
  replace hD : va_D A [(a0, .inr (6, [.int 0, .int 0, .ref a1, .int 25, .int 1, .int 1, .int 1, .int 1, .ref a2])), (a1, .inr (5, [.ref cb, .int 81, .int 0, .ref a3, .int 3, .ref a4, .int 1, .ref a5, .int 1, .int 1, .ref a6, .int 6, .int 0, .int 1, .int 0]))] := hD2
  replace hS := hS2
  clear hP2 hD2 hS2
  clear hPc hDc hFc hP1 hD1 hK1 hk1 hz1 hvm ht
  refine W.widen (k := 0) (n := 0) (Nat.le_of_ble_eq_true rfl) (Nat.le_of_ble_eq_true rfl) ?_
  refine lv_istore (lv' := [(4, .int 1), (3, .int 24), (0, .ref a0), (1, .int 0), (2, .int 7)]) hx hb dX6_readNumber_9 hl (by decide) rfl (fun ls hl2 => ?_)
  replace hl := hl2
  clear hl2
  refine lv_iload hx hb dX6_readNumber_11 (lv_at hl 0 rfl) ?_
  refine lv_iload_n hx hb dX6_readNumber_13 rfl (lv_at hl 3 rfl) ?_
  refine lv_icmp_lt (tgt := 23) hx hb dX6_readNumber_14 (by decide) (fun h => absurd h (by decide)) (fun _ => ?_)
  refine lv_iload hx hb dX6_readNumber_17 (lv_at hl 0 rfl) ?_
  refine lv_iload_n hx hb dX6_readNumber_19 rfl (lv_at hl 4 rfl) ?_
  refine lv_icmp_le (tgt := 29) hx hb dX6_readNumber_20 (by decide) (fun _ => ?_) (fun h => absurd (by decide) h)
  refine lv_aload_n hx hb dX6_readNumber_29 rfl (lv_at hl 2 rfl) ?_
  refine va_get (D := (dC, dI)) (ci := 6) (v := .int 0) (C := RX6) (T := TX6) (N := 9) hx hb hts iw_X6_readNumber_X6 hown hK hP 0 rfl rfl 1 (by decide) (hts _ m_X6_readNumber_2) (fun _ h9 => h9) rfl dX6_readNumber_30 ?_
  refine lv_if_ne (tgt := 41) hx hb dX6_readNumber_33 (by decide) (fun h => absurd (by decide) h) (fun _ => ?_)
  refine lv_iload hx hb dX6_readNumber_36 (lv_at hl 0 rfl) ?_
  refine lv_goto (tgt := 42) hx hb dX6_readNumber_38 (by decide) ?_
  exact W.iret hx hb hr (fun t ht hW => ⟨⟨1, (), rfl, rfl, by rw [ht]; exact hP, va_K.moved hW.alike hK, hD⟩, hS.F ht⟩) hS.2.2 dX6_readNumber_42

set_option maxHeartbeats 4000000 in
set_option maxRecDepth 100000 in
theorem cc_336_X6_readByte (l : Launch) (dC : Nat → ClassId) (dI : Nat → Nat → Nat) (cy : Nat → ClassId) (sz : Nat) (cb : Nat) (a0 : Nat) (a1 : Nat) (a2 : Nat) (a3 : Nat) (a4 : Nat) (a5 : Nat) (a6 : Nat)  : Met l yX6_readByte wsX6_readByte ({ frames := 0, cells := 0, slots := 0, locals := 0 }) (va_Pc [.ref a0] (fun U => U.heap.size = sz ∧ va_P (dC, dI) vwCl [(a0, .inr (6, [.int 0, .int 0, .ref a1, .int 25, .int 1, .int 1, .int 1, .int 1, .ref a2])), (a1, .inr (5, [.ref cb, .int 81, .int 0, .ref a3, .int 3, .ref a4, .int 1, .ref a5, .int 1, .int 1, .ref a6, .int 6, .int 0, .int 1, .int 0]))] U.heap ∧ va_K (dC, dI) vwCl (TYS cy) U ∧ va_D (fun _ => True) [(a0, .inr (6, [.int 0, .int 0, .ref a1, .int 25, .int 1, .int 1, .int 1, .int 1, .ref a2])), (a1, .inr (5, [.ref cb, .int 81, .int 0, .ref a3, .int 3, .ref a4, .int 1, .ref a5, .int 1, .int 1, .ref a6, .int 6, .int 0, .int 1, .int 0]))] ∧ NK U ∧ SK cb (va_A [(a0, .inr (6, [.int 0, .int 0, .ref a1, .int 25, .int 1, .int 1, .int 1, .int 1, .ref a2])), (a1, .inr (5, [.ref cb, .int 81, .int 0, .ref a3, .int 3, .ref a4, .int 1, .ref a5, .int 1, .int 1, .ref a6, .int 6, .int 0, .int 1, .int 0]))] sz) U U.heap)) (va_Qi (fun (r : Int32) (u : Unit) => r = 2) (fun u t => va_P (dC, dI) vwCl [(a0, .inr (6, [.int 0, .int 0, .ref a1, .int 26, .int 1, .int 1, .int 1, .int 1, .ref a2])), (a1, .inr (5, [.ref cb, .int 81, .int 0, .ref a3, .int 3, .ref a4, .int 1, .ref a5, .int 1, .int 1, .ref a6, .int 6, .int 0, .int 1, .int 0]))] t.heap ∧ va_K (dC, dI) vwCl (TYS cy) t ∧ va_D (va_A [(a0, .inr (6, [.int 0, .int 0, .ref a1, .int 25, .int 1, .int 1, .int 1, .int 1, .ref a2])), (a1, .inr (5, [.ref cb, .int 81, .int 0, .ref a3, .int 3, .ref a4, .int 1, .ref a5, .int 1, .int 1, .ref a6, .int 6, .int 0, .int 1, .int 0]))] sz) [(a0, .inr (6, [.int 0, .int 0, .ref a1, .int 26, .int 1, .int 1, .int 1, .int 1, .ref a2])), (a1, .inr (5, [.ref cb, .int 81, .int 0, .ref a3, .int 3, .ref a4, .int 1, .ref a5, .int 1, .int 1, .ref a6, .int 6, .int 0, .int 1, .int 0]))]) (va_A [(a0, .inr (6, [.int 0, .int 0, .ref a1, .int 25, .int 1, .int 1, .int 1, .int 1, .ref a2])), (a1, .inr (5, [.ref cb, .int 81, .int 0, .ref a3, .int 3, .ref a4, .int 1, .ref a5, .int 1, .int 1, .ref a6, .int 6, .int 0, .int 1, .int 0]))] sz)) 0 0 (va_A [(a0, .inr (6, [.int 0, .int 0, .ref a1, .int 25, .int 1, .int 1, .int 1, .int 1, .ref a2])), (a1, .inr (5, [.ref cb, .int 81, .int 0, .ref a3, .int 3, .ref a4, .int 1, .ref a5, .int 1, .int 1, .ref a6, .int 6, .int 0, .int 1, .int 0]))] sz) := by
  refine Met.ofW (cc := cX6_readByte) (maxL := 1) (ret := (some .int)) (by decide) rfl ?_
  intro p e s m args below meth c s₁ B hml hv
  obtain ⟨rfl, hsz, hP, hK, hD0, hN, hSK⟩ := hv
  have hx := B.exec
  have hb := B.bytes
  have hr := B.returns
  have hts := atoms_spec (ws := wsX6_readByte) B.pre
  have hown : s.vm.findClass RX6 = some m.cls := findClass_of_methodNamed B.named
  have hlocks := B.notSynchronized
  subst hsz
  have hD := hD0.self (sz := s.heap.size)
  generalize hAe : va_A [(a0, .inr (6, [.int 0, .int 0, .ref a1, .int 25, .int 1, .int 1, .int 1, .int 1, .ref a2])), (a1, .inr (5, [.ref cb, .int 81, .int 0, .ref a3, .int 3, .ref a4, .int 1, .ref a5, .int 1, .int 1, .ref a6, .int 6, .int 0, .int 1, .int 0]))] s.heap.size = A at hD hSK ⊢
  have hA : ∀ q : Nat, s.heap.size ≤ q → A q := fun q h => by rw [← hAe]; exact Or.inr h
  have hS : va_S A s.heap s.heap [] := va_S.rf
  have hP : va_P (dC, dI) vwCl [(a0, .inr (6, [.int 0, .int 0, .ref a1, .int 25, .int 1, .int 1, .int 1, .int 1, .ref a2])), (a1, .inr (5, [.ref cb, .int 81, .int 0, .ref a3, .int 3, .ref a4, .int 1, .ref a5, .int 1, .int 1, .ref a6, .int 6, .int 0, .int 1, .int 0]))] s.heap := hP
  have hl := lv_entry ([.ref a0]) (n := 1) (Nat.le_of_ble_eq_true rfl)
  rw [lg_entry_eq]
  generalize (lg_sl ([.ref a0]) ++ List.replicate (1 - (lg_sl ([.ref a0])).length) Slot.unset).toArray = ls at hl ⊢
  replace hl : lv_has ls 1 [(0, .ref a0)] := hl
  refine lv_aload_n hx hb dX6_readByte_0 rfl (lv_at hl 0 rfl) ?_
  refine va_get (D := (dC, dI)) (ci := 6) (v := .int 0) (C := RX6) (T := TX6) (N := 9) hx hb hts iw_X6_readByte_X6 hown hK hP 0 rfl rfl 1 (by decide) (hts _ m_X6_readByte_1) (fun _ h9 => h9) rfl dX6_readByte_1 ?_
  refine lv_if_eq (tgt := 9) hx hb dX6_readByte_4 (by decide) (fun _ => ?_) (fun h => absurd (by decide) h)
  refine lv_aload_n hx hb dX6_readByte_9 rfl (lv_at hl 0 rfl) ?_
  refine va_get (D := (dC, dI)) (ci := 6) (v := .int 25) (C := RX6) (T := TX6) (N := 9) hx hb hts iw_X6_readByte_X6 hown hK hP 0 rfl rfl 3 (by decide) (hts _ m_X6_readByte_2) (fun _ h9 => h9) rfl dX6_readByte_10 ?_
  refine lv_aload_n hx hb dX6_readByte_13 rfl (lv_at hl 0 rfl) ?_
  refine va_get (D := (dC, dI)) (ci := 6) (v := .ref a1) (C := RX6) (T := TX6) (N := 9) hx hb hts iw_X6_readByte_X6 hown hK hP 0 rfl rfl 2 (by decide) (hts _ m_X6_readByte_3) (fun _ h9 => h9) rfl dX6_readByte_14 ?_
  refine va_get (D := (dC, dI)) (ci := 5) (v := .int 81) (C := RX5) (T := TX5) (N := 15) hx hb hts iw_X6_readByte_X5 hown hK hP 1 rfl rfl 1 (by decide) (hts _ m_X6_readByte_4) (fun _ h9 => h9) rfl dX6_readByte_17 ?_
  refine lv_icmp_lt (tgt := 41) hx hb dX6_readByte_20 (by decide) (fun _ => ?_) (fun h => absurd (by decide) h)
  refine lv_aload_n hx hb dX6_readByte_41 rfl (lv_at hl 0 rfl) ?_
  refine va_get (D := (dC, dI)) (ci := 6) (v := .ref a1) (C := RX6) (T := TX6) (N := 9) hx hb hts iw_X6_readByte_X6 hown hK hP 0 rfl rfl 2 (by decide) (hts _ m_X6_readByte_3) (fun _ h9 => h9) rfl dX6_readByte_42 ?_
  refine va_get (D := (dC, dI)) (ci := 5) (v := .ref cb) (C := RX5) (T := TX5) (N := 15) hx hb hts iw_X6_readByte_X5 hown hK hP 1 rfl rfl 0 (by decide) (hts _ m_X6_readByte_6) (fun _ h9 => h9) rfl dX6_readByte_45 ?_
  refine lv_aload_n hx hb dX6_readByte_48 rfl (lv_at hl 0 rfl) ?_
  refine lv_dup hx hb dX6_readByte_49 rfl ?_
  refine va_get (D := (dC, dI)) (ci := 6) (v := .int 25) (C := RX6) (T := TX6) (N := 9) hx hb hts iw_X6_readByte_X6 hown hK hP 0 rfl rfl 3 (by decide) (hts _ m_X6_readByte_2) (fun _ h9 => h9) rfl dX6_readByte_50 ?_
  refine lv_dup_x1 hx hb dX6_readByte_53 rfl rfl ?_
  refine lv_iconst (v := 1) hx hb dX6_readByte_54 (by decide) ?_
  refine lv_iadd hx hb dX6_readByte_55 ?_
  refine lv_topi (fun z_1 ez_1 => ?_)
  obtain rfl : z_1 = 26 := ez_1.trans (by decide)
  clear ez_1
  refine va_put (D := (dC, dI)) (ci := 6) (v := .int 26) (ty := .int) (C := RX6) (T := TX6) (N := 9) hx hb hts iw_X6_readByte_X6 tyX6 tyX6_ok nmX6 hown hK hP hD hS 0 rfl rfl 3 (by decide) (hts _ m_X6_readByte_2) (fun _ h9 => h9) rfl (by decide +kernel) rfl rfl (Nat.le_of_ble_eq_true rfl) dX6_readByte_56 (fun H_2 locs hP2 hD2 hS2 => ?_)
  replace hP : va_P (dC, dI) vwCl [(a0, .inr (6, [.int 0, .int 0, .ref a1, .int 26, .int 1, .int 1, .int 1, .int 1, .ref a2])), (a1, .inr (5, [.ref cb, .int 81, .int 0, .ref a3, .int 3, .ref a4, .int 1, .ref a5, .int 1, .int 1, .ref a6, .int 6, .int 0, .int 1, .int 0]))] H_2 := hP2
  replace hD : va_D A [(a0, .inr (6, [.int 0, .int 0, .ref a1, .int 26, .int 1, .int 1, .int 1, .int 1, .ref a2])), (a1, .inr (5, [.ref cb, .int 81, .int 0, .ref a3, .int 3, .ref a4, .int 1, .ref a5, .int 1, .int 1, .ref a6, .int 6, .int 0, .int 1, .int 0]))] := hD2
  replace hS := hS2
  clear hP2 hD2 hS2
  refine va_tb (v := .int 2) hx hb hSK.2 hS (by unfold vp_in; decide) rfl dX6_readByte_59 ?_
  refine lv_sipush (v := 255) hx hb dX6_readByte_60 (by decide) ?_
  refine lv_iand hx hb dX6_readByte_63 ?_
  refine lv_topi (fun z_3 ez_3 => ?_)
  obtain rfl : z_3 = 2 := ez_3.trans (by decide)
  clear ez_3
  exact W.iret hx hb hr (fun t ht hW => ⟨⟨2, (), rfl, rfl, by rw [ht]; exact hP, va_K.moved hW.alike hK, hD⟩, hS.F ht⟩) hS.2.2 dX6_readByte_64

set_option maxHeartbeats 4000000 in
set_option maxRecDepth 100000 in
theorem cc_335_X6_readNumber (l : Launch) (dC : Nat → ClassId) (dI : Nat → Nat → Nat) (cy : Nat → ClassId) (sz : Nat) (cb : Nat) (a0 : Nat) (a1 : Nat) (a2 : Nat) (a3 : Nat) (a4 : Nat) (a5 : Nat) (a6 : Nat)  : Met l yX6_readNumber wsX6_readNumber ({ frames := 1, cells := 0, slots := 0, locals := 20 }) (va_Pc [.ref a0, .int 0, .int 8] (fun U => U.heap.size = sz ∧ va_P (dC, dI) vwCl [(a0, .inr (6, [.int 0, .int 0, .ref a1, .int 25, .int 1, .int 1, .int 1, .int 1, .ref a2])), (a1, .inr (5, [.ref cb, .int 81, .int 0, .ref a3, .int 3, .ref a4, .int 1, .ref a5, .int 1, .int 1, .ref a6, .int 6, .int 0, .int 1, .int 0]))] U.heap ∧ va_K (dC, dI) vwCl (TYS cy) U ∧ va_D (fun _ => True) [(a0, .inr (6, [.int 0, .int 0, .ref a1, .int 25, .int 1, .int 1, .int 1, .int 1, .ref a2])), (a1, .inr (5, [.ref cb, .int 81, .int 0, .ref a3, .int 3, .ref a4, .int 1, .ref a5, .int 1, .int 1, .ref a6, .int 6, .int 0, .int 1, .int 0]))] ∧ NK U ∧ SK cb (va_A [(a0, .inr (6, [.int 0, .int 0, .ref a1, .int 25, .int 1, .int 1, .int 1, .int 1, .ref a2])), (a1, .inr (5, [.ref cb, .int 81, .int 0, .ref a3, .int 3, .ref a4, .int 1, .ref a5, .int 1, .int 1, .ref a6, .int 6, .int 0, .int 1, .int 0]))] sz) U U.heap)) (va_Qi (fun (r : Int32) (u : Unit) => r = 2) (fun u t => va_P (dC, dI) vwCl [(a0, .inr (6, [.int 0, .int 0, .ref a1, .int 26, .int 1, .int 1, .int 1, .int 1, .ref a2])), (a1, .inr (5, [.ref cb, .int 81, .int 0, .ref a3, .int 3, .ref a4, .int 1, .ref a5, .int 1, .int 1, .ref a6, .int 6, .int 0, .int 1, .int 0]))] t.heap ∧ va_K (dC, dI) vwCl (TYS cy) t ∧ va_D (va_A [(a0, .inr (6, [.int 0, .int 0, .ref a1, .int 25, .int 1, .int 1, .int 1, .int 1, .ref a2])), (a1, .inr (5, [.ref cb, .int 81, .int 0, .ref a3, .int 3, .ref a4, .int 1, .ref a5, .int 1, .int 1, .ref a6, .int 6, .int 0, .int 1, .int 0]))] sz) [(a0, .inr (6, [.int 0, .int 0, .ref a1, .int 26, .int 1, .int 1, .int 1, .int 1, .ref a2])), (a1, .inr (5, [.ref cb, .int 81, .int 0, .ref a3, .int 3, .ref a4, .int 1, .ref a5, .int 1, .int 1, .ref a6, .int 6, .int 0, .int 1, .int 0]))]) (va_A [(a0, .inr (6, [.int 0, .int 0, .ref a1, .int 25, .int 1, .int 1, .int 1, .int 1, .ref a2])), (a1, .inr (5, [.ref cb, .int 81, .int 0, .ref a3, .int 3, .ref a4, .int 1, .ref a5, .int 1, .int 1, .ref a6, .int 6, .int 0, .int 1, .int 0]))] sz)) 0 0 (va_A [(a0, .inr (6, [.int 0, .int 0, .ref a1, .int 25, .int 1, .int 1, .int 1, .int 1, .ref a2])), (a1, .inr (5, [.ref cb, .int 81, .int 0, .ref a3, .int 3, .ref a4, .int 1, .ref a5, .int 1, .int 1, .ref a6, .int 6, .int 0, .int 1, .int 0]))] sz) := by
  refine Met.ofW (cc := cX6_readNumber) (maxL := 5) (ret := (some .int)) (by decide) rfl ?_
  intro p e s m args below meth c s₁ B hml hv
  obtain ⟨rfl, hsz, hP, hK, hD0, hN, hSK⟩ := hv
  have hx := B.exec
  have hb := B.bytes
  have hr := B.returns
  have hts := atoms_spec (ws := wsX6_readNumber) B.pre
  have hown : s.vm.findClass RX6 = some m.cls := findClass_of_methodNamed B.named
  have hlocks := B.notSynchronized
  subst hsz
  have hD := hD0.self (sz := s.heap.size)
  generalize hAe : va_A [(a0, .inr (6, [.int 0, .int 0, .ref a1, .int 25, .int 1, .int 1, .int 1, .int 1, .ref a2])), (a1, .inr (5, [.ref cb, .int 81, .int 0, .ref a3, .int 3, .ref a4, .int 1, .ref a5, .int 1, .int 1, .ref a6, .int 6, .int 0, .int 1, .int 0]))] s.heap.size = A at hD hSK ⊢
  have hA : ∀ q : Nat, s.heap.size ≤ q → A q := fun q h => by rw [← hAe]; exact Or.inr h
  have hS : va_S A s.heap s.heap [] := va_S.rf
  have hP : va_P (dC, dI) vwCl [(a0, .inr (6, [.int 0, .int 0, .ref a1, .int 25, .int 1, .int 1, .int 1, .int 1, .ref a2])), (a1, .inr (5, [.ref cb, .int 81, .int 0, .ref a3, .int 3, .ref a4, .int 1, .ref a5, .int 1, .int 1, .ref a6, .int 6, .int 0, .int 1, .int 0]))] s.heap := hP
  have hl := lv_entry ([.ref a0, .int 0, .int 8]) (n := 5) (Nat.le_of_ble_eq_true rfl)
  rw [lg_entry_eq]
  generalize (lg_sl ([.ref a0, .int 0, .int 8]) ++ List.replicate (5 - (lg_sl ([.ref a0, .int 0, .int 8])).length) Slot.unset).toArray = ls at hl ⊢
  replace hl : lv_has ls 5 [(0, .ref a0), (1, .int 0), (2, .int 8)] := hl
  refine lv_aload_n hx hb dX6_readNumber_0 rfl (lv_at hl 0 rfl) ?_
  refine va_get (D := (dC, dI)) (ci := 6) (v := .int 25) (C := RX6) (T := TX6) (N := 9) hx hb hts iw_X6_readNumber_X6 hown hK hP 0 rfl rfl 3 (by decide) (hts _ m_X6_readNumber_1) (fun _ h9 => h9) rfl dX6_readNumber_1 ?_
  refine lv_istore_n (lv' := [(3, .int 25), (0, .ref a0), (1, .int 0), (2, .int 8)]) hx hb dX6_readNumber_4 rfl hl (by decide) rfl (fun ls hl2 => ?_)
  replace hl := hl2
  clear hl2
  refine lv_aload_n hx hb dX6_readNumber_5 rfl (lv_at hl 1 rfl) ?_
  have hPc := hP.sub (ws' := [(a0, .inr (6, [.int 0, .int 0, .ref a1, .int 25, .int 1, .int 1, .int 1, .int 1, .ref a2])), (a1, .inr (5, [.ref cb, .int 81, .int 0, .ref a3, .int 3, .ref a4, .int 1, .ref a5, .int 1, .int 1, .ref a6, .int 6, .int 0, .int 1, .int 0]))]) [0, 1] rfl
  have hDc := hD.sub (ws' := [(a0, .inr (6, [.int 0, .int 0, .ref a1, .int 25, .int 1, .int 1, .int 1, .int 1, .ref a2])), (a1, .inr (5, [.ref cb, .int 81, .int 0, .ref a3, .int 3, .ref a4, .int 1, .ref a5, .int 1, .int 1, .ref a6, .int 6, .int 0, .int 1, .int 0]))]) [0, 1] (by decide) rfl
  have hFc := va_free (wc := [(a0, .inr (6, [.int 0, .int 0, .ref a1, .int 25, .int 1, .int 1, .int 1, .int 1, .ref a2])), (a1, .inr (5, [.ref cb, .int 81, .int 0, .ref a3, .int 3, .ref a4, .int 1, .ref a5, .int 1, .int 1, .ref a6, .int 6, .int 0, .int 1, .int 0]))]) hD hS hA [0, 1] rfl
  refine va_calli (va_runV (As := []) (rest := []) ⟨hx, hb, hml, hown, hts⟩ (cc_336_X6_readByte l dC dI cy s.heap.size cb a0 a1 a2 a3 a4 a5 a6) (cwV 0 hts gX6_readNumber_X6_readByte rfl rfl rfl (by decide +kernel) ⟨Nat.le_of_ble_eq_true rfl, Nat.le_of_ble_eq_true rfl⟩) ⟨fun a U g mk q => by obtain ⟨q0, q1, qP, qK, qD, qN, qS⟩ := q; exact ⟨q0, q1, qP, va_K.moved (u := U) (U := U.calling g mk a) (Vm.Alike.refl U.vm) qK, qD, qN.same rfl, SK.moved (u := U) (U := U.calling g mk a) (Vm.Alike.refl U.vm) qS⟩, va_recv hK hPc (ci := 6) (q0 := 0) rfl rfl, fun U hU hW => ⟨rfl, by rw [hU], by rw [hU]; exact hPc, va_K.moved hW.alike hK, hDc.weaken (fun _ _ _ _ => trivial), hN.warm hW, by rw [hU]; exact ((hSK.kept hS.2.1).narrow hFc).moved hW.alike⟩⟩ rfl rfl hl.1 rfl (lv_room (Nat.le_of_ble_eq_true rfl)) dX6_readNumber_6 ⟨Nat.le_of_ble_eq_true rfl, Nat.le_of_ble_eq_true rfl⟩) hS (fun q _ h => hFc q h) hFc (fun r_1 u t H_2 locs ht hvm hw hB hz1 hk1 hS2 => ?_)
  obtain ⟨hP1, hK1, hD1⟩ := hB
  rw [ht] at hP1
  obtain rfl := hw
  obtain ⟨hP2, hD2⟩ := va_join (wr := []) (w1 := [(a0, .inr (6, [.int 0, .int 0, .ref a1, .int 26, .int 1, .int 1, .int 1, .int 1, .ref a2])), (a1, .inr (5, [.ref cb, .int 81, .int 0, .ref a3, .int 3, .ref a4, .int 1, .ref a5, .int 1, .int 1, .ref a6, .int 6, .int 0, .int 1, .int 0]))]) hP hD [0, 1] [] rfl rfl (by decide) (by decide) hk1 hFc hP1 hD1
  replace hP : va_P (dC, dI) vwCl [(a0, .inr (6, [.int 0, .int 0, .ref a1, .int 26, .int 1, .int 1, .int 1, .int 1, .ref a2])), (a1, .inr (5, [.ref cb, .int 81, .int 0, .ref a3, .int 3, .ref a4, .int 1, .ref a5, .int 1, .int 1, .ref a6, .int 6, .int 0, .int 1, .int 0]))] H_2 := hP2
  replace hD : va_D A [(a0, .inr (6, [.int 0, .int 0, .ref a1, .int 26, .int 1, .int 1, .int 1, .int 1, .ref a2])), (a1, .inr (5, [.ref cb, .int 81, .int 0, .ref a3, .int 3, .ref a4, .int 1, .ref a5, .int 1, .int 1, .ref a6, .int 6, .int 0, .int 1, .int 0]))] := hD2
  replace hS := hS2
  clear hP2 hD2 hS2
  clear hPc hDc hFc hP1 hD1 hK1 hk1 hz1 hvm ht
  refine W.widen (k := 0) (n := 0) (Nat.le_of_ble_eq_true rfl) (Nat.le_of_ble_eq_true rfl) ?_
  refine lv_istore (lv' := [(4, .int 2), (3, .int 25), (0, .ref a0), (1, .int 0), (2, .int 8)]) hx hb dX6_readNumber_9 hl (by decide) rfl (fun ls hl2 => ?_)
  replace hl := hl2
  clear hl2
  refine lv_iload hx hb dX6_readNumber_11 (lv_at hl 0 rfl) ?_
  refine lv_iload_n hx hb dX6_readNumber_13 rfl (lv_at hl 3 rfl) ?_
  refine lv_icmp_lt (tgt := 23) hx hb dX6_readNumber_14 (by decide) (fun h => absurd h (by decide)) (fun _ => ?_)
  refine lv_iload hx hb dX6_readNumber_17 (lv_at hl 0 rfl) ?_
  refine lv_iload_n hx hb dX6_readNumber_19 rfl (lv_at hl 4 rfl) ?_
  refine lv_icmp_le (tgt := 29) hx hb dX6_readNumber_20 (by decide) (fun _ => ?_) (fun h => absurd (by decide) h)
  refine lv_aload_n hx hb dX6_readNumber_29 rfl (lv_at hl 2 rfl) ?_
  refine va_get (D := (dC, dI)) (ci := 6) (v := .int 0) (C := RX6) (T := TX6) (N := 9) hx hb hts iw_X6_readNumber_X6 hown hK hP 0 rfl rfl 1 (by decide) (hts _ m_X6_readNumber_2) (fun _ h9 => h9) rfl dX6_readNumber_30 ?_
  refine lv_if_ne (tgt := 41) hx hb dX6_readNumber_33 (by decide) (fun h => absurd (by decide) h) (fun _ => ?_)
  refine lv_iload hx hb dX6_readNumber_36 (lv_at hl 0 rfl) ?_
  refine lv_goto (tgt := 42) hx hb dX6_readNumber_38 (by decide) ?_
  exact W.iret hx hb hr (fun t ht hW => ⟨⟨2, (), rfl, rfl, by rw [ht]; exact hP, va_K.moved hW.alike hK, hD⟩, hS.F ht⟩) hS.2.2 dX6_readNumber_42

set_option maxHeartbeats 4000000 in
set_option maxRecDepth 100000 in
theorem cc_339_X6_readByte (l : Launch) (dC : Nat → ClassId) (dI : Nat → Nat → Nat) (cy : Nat → ClassId) (sz : Nat) (cb : Nat) (a0 : Nat) (a1 : Nat) (a2 : Nat) (a3 : Nat) (a4 : Nat) (a5 : Nat) (a6 : Nat)  : Met l yX6_readByte wsX6_readByte ({ frames := 0, cells := 0, slots := 0, locals := 0 }) (va_Pc [.ref a0] (fun U => U.heap.size = sz ∧ va_P (dC, dI) vwCl [(a0, .inr (6, [.int 0, .int 0, .ref a1, .int 26, .int 1, .int 1, .int 1, .int 1, .ref a2])), (a1, .inr (5, [.ref cb, .int 81, .int 0, .ref a3, .int 3, .ref a4, .int 1, .ref a5, .int 1, .int 1, .ref a6, .int 6, .int 0, .int 1, .int 0]))] U.heap ∧ va_K (dC, dI) vwCl (TYS cy) U ∧ va_D (fun _ => True) [(a0, .inr (6, [.int 0, .int 0, .ref a1, .int 26, .int 1, .int 1, .int 1, .int 1, .ref a2])), (a1, .inr (5, [.ref cb, .int 81, .int 0, .ref a3, .int 3, .ref a4, .int 1, .ref a5, .int 1, .int 1, .ref a6, .int 6, .int 0, .int 1, .int 0]))] ∧ NK U ∧ SK cb (va_A [(a0, .inr (6, [.int 0, .int 0, .ref a1, .int 26, .int 1, .int 1, .int 1, .int 1, .ref a2])), (a1, .inr (5, [.ref cb, .int 81, .int 0, .ref a3, .int 3, .ref a4, .int 1, .ref a5, .int 1, .int 1, .ref a6, .int 6, .int 0, .int 1, .int 0]))] sz) U U.heap)) (va_Qi (fun (r : Int32) (u : Unit) => r = 5) (fun u t => va_P (dC, dI) vwCl [(a0, .inr (6, [.int 0, .int 0, .ref a1, .int 27, .int 1, .int 1, .int 1, .int 1, .ref a2])), (a1, .inr (5, [.ref cb, .int 81, .int 0, .ref a3, .int 3, .ref a4, .int 1, .ref a5, .int 1, .int 1, .ref a6, .int 6, .int 0, .int 1, .int 0]))] t.heap ∧ va_K (dC, dI) vwCl (TYS cy) t ∧ va_D (va_A [(a0, .inr (6, [.int 0, .int 0, .ref a1, .int 26, .int 1, .int 1, .int 1, .int 1, .ref a2])), (a1, .inr (5, [.ref cb, .int 81, .int 0, .ref a3, .int 3, .ref a4, .int 1, .ref a5, .int 1, .int 1, .ref a6, .int 6, .int 0, .int 1, .int 0]))] sz) [(a0, .inr (6, [.int 0, .int 0, .ref a1, .int 27, .int 1, .int 1, .int 1, .int 1, .ref a2])), (a1, .inr (5, [.ref cb, .int 81, .int 0, .ref a3, .int 3, .ref a4, .int 1, .ref a5, .int 1, .int 1, .ref a6, .int 6, .int 0, .int 1, .int 0]))]) (va_A [(a0, .inr (6, [.int 0, .int 0, .ref a1, .int 26, .int 1, .int 1, .int 1, .int 1, .ref a2])), (a1, .inr (5, [.ref cb, .int 81, .int 0, .ref a3, .int 3, .ref a4, .int 1, .ref a5, .int 1, .int 1, .ref a6, .int 6, .int 0, .int 1, .int 0]))] sz)) 0 0 (va_A [(a0, .inr (6, [.int 0, .int 0, .ref a1, .int 26, .int 1, .int 1, .int 1, .int 1, .ref a2])), (a1, .inr (5, [.ref cb, .int 81, .int 0, .ref a3, .int 3, .ref a4, .int 1, .ref a5, .int 1, .int 1, .ref a6, .int 6, .int 0, .int 1, .int 0]))] sz) := by
  refine Met.ofW (cc := cX6_readByte) (maxL := 1) (ret := (some .int)) (by decide) rfl ?_
  intro p e s m args below meth c s₁ B hml hv
  obtain ⟨rfl, hsz, hP, hK, hD0, hN, hSK⟩ := hv
  have hx := B.exec
  have hb := B.bytes
  have hr := B.returns
  have hts := atoms_spec (ws := wsX6_readByte) B.pre
  have hown : s.vm.findClass RX6 = some m.cls := findClass_of_methodNamed B.named
  have hlocks := B.notSynchronized
  subst hsz
  have hD := hD0.self (sz := s.heap.size)
  generalize hAe : va_A [(a0, .inr (6, [.int 0, .int 0, .ref a1, .int 26, .int 1, .int 1, .int 1, .int 1, .ref a2])), (a1, .inr (5, [.ref cb, .int 81, .int 0, .ref a3, .int 3, .ref a4, .int 1, .ref a5, .int 1, .int 1, .ref a6, .int 6, .int 0, .int 1, .int 0]))] s.heap.size = A at hD hSK ⊢
  have hA : ∀ q : Nat, s.heap.size ≤ q → A q := fun q h => by rw [← hAe]; exact Or.inr h
  have hS : va_S A s.heap s.heap [] := va_S.rf
  have hP : va_P (dC, dI) vwCl [(a0, .inr (6, [.int 0, .int 0, .ref a1, .int 26, .int 1, .int 1, .int 1, .int 1, .ref a2])), (a1, .inr (5, [.ref cb, .int 81, .int 0, .ref a3, .int 3, .ref a4, .int 1, .ref a5, .int 1, .int 1, .ref a6, .int 6, .int 0, .int 1, .int 0]))] s.heap := hP
  have hl := lv_entry ([.ref a0]) (n := 1) (Nat.le_of_ble_eq_true rfl)
  rw [lg_entry_eq]
  generalize (lg_sl ([.ref a0]) ++ List.replicate (1 - (lg_sl ([.ref a0])).length) Slot.unset).toArray = ls at hl ⊢
  replace hl : lv_has ls 1 [(0, .ref a0)] := hl
  refine lv_aload_n hx hb dX6_readByte_0 rfl (lv_at hl 0 rfl) ?_
  refine va_get (D := (dC, dI)) (ci := 6) (v := .int 0) (C := RX6) (T := TX6) (N := 9) hx hb hts iw_X6_readByte_X6 hown hK hP 0 rfl rfl 1 (by decide) (hts _ m_X6_readByte_1) (fun _ h9 => h9) rfl dX6_readByte_1 ?_
  refine lv_if_eq (tgt := 9) hx hb dX6_readByte_4 (by decide) (fun _ => ?_) (fun h => absurd (by decide) h)
  refine lv_aload_n hx hb dX6_readByte_9 rfl (lv_at hl 0 rfl) ?_
  refine va_get (D := (dC, dI)) (ci := 6) (v := .int 26) (C := RX6) (T := TX6) (N := 9) hx hb hts iw_X6_readByte_X6 hown hK hP 0 rfl rfl 3 (by decide) (hts _ m_X6_readByte_2) (fun _ h9 => h9) rfl dX6_readByte_10 ?_
  refine lv_aload_n hx hb dX6_readByte_13 rfl (lv_at hl 0 rfl) ?_
  refine va_get (D := (dC, dI)) (ci := 6) (v := .ref a1) (C := RX6) (T := TX6) (N := 9) hx hb hts iw_X6_readByte_X6 hown hK hP 0 rfl rfl 2 (by decide) (hts _ m_X6_readByte_3) (fun _ h9 => h9) rfl dX6_readByte_14 ?_
  refine va_get (D := (dC, dI)) (ci := 5) (v := .int 81) (C := RX5) (T := TX5) (N := 15) hx hb hts iw_X6_readByte_X5 hown hK hP 1 rfl rfl 1 (by decide) (hts _ m_X6_readByte_4) (fun _ h9 => h9) rfl dX6_readByte_17 ?_
  refine lv_icmp_lt (tgt := 41) hx hb dX6_readByte_20 (by decide) (fun _ => ?_) (fun h => absurd (by decide) h)
  refine lv_aload_n hx hb dX6_readByte_41 rfl (lv_at hl 0 rfl) ?_
  refine va_get (D := (dC, dI)) (ci := 6) (v := .ref a1) (C := RX6) (T := TX6) (N := 9) hx hb hts iw_X6_readByte_X6 hown hK hP 0 rfl rfl 2 (by decide) (hts _ m_X6_readByte_3) (fun _ h9 => h9) rfl dX6_readByte_42 ?_
  refine va_get (D := (dC, dI)) (ci := 5) (v := .ref cb) (C := RX5) (T := TX5) (N := 15) hx hb hts iw_X6_readByte_X5 hown hK hP 1 rfl rfl 0 (by decide) (hts _ m_X6_readByte_6) (fun _ h9 => h9) rfl dX6_readByte_45 ?_
  refine lv_aload_n hx hb dX6_readByte_48 rfl (lv_at hl 0 rfl) ?_
  refine lv_dup hx hb dX6_readByte_49 rfl ?_
  refine va_get (D := (dC, dI)) (ci := 6) (v := .int 26) (C := RX6) (T := TX6) (N := 9) hx hb hts iw_X6_readByte_X6 hown hK hP 0 rfl rfl 3 (by decide) (hts _ m_X6_readByte_2) (fun _ h9 => h9) rfl dX6_readByte_50 ?_
  refine lv_dup_x1 hx hb dX6_readByte_53 rfl rfl ?_
  refine lv_iconst (v := 1) hx hb dX6_readByte_54 (by decide) ?_
  refine lv_iadd hx hb dX6_readByte_55 ?_
  refine lv_topi (fun z_1 ez_1 => ?_)
  obtain rfl : z_1 = 27 := ez_1.trans (by decide)
  clear ez_1
  refine va_put (D := (dC, dI)) (ci := 6) (v := .int 27) (ty := .int) (C := RX6) (T := TX6) (N := 9) hx hb hts iw_X6_readByte_X6 tyX6 tyX6_ok nmX6 hown hK hP hD hS 0 rfl rfl 3 (by decide) (hts _ m_X6_readByte_2) (fun _ h9 => h9) rfl (by decide +kernel) rfl rfl (Nat.le_of_ble_eq_true rfl) dX6_readByte_56 (fun H_2 locs hP2 hD2 hS2 => ?_)
  replace hP : va_P (dC, dI) vwCl [(a0, .inr (6, [.int 0, .int 0, .ref a1, .int 27, .int 1, .int 1, .int 1, .int 1, .ref a2])), (a1, .inr (5, [.ref cb, .int 81, .int 0, .ref a3, .int 3, .ref a4, .int 1, .ref a5, .int 1, .int 1, .ref a6, .int 6, .int 0, .int 1, .int 0]))] H_2 := hP2
  replace hD : va_D A [(a0, .inr (6, [.int 0, .int 0, .ref a1, .int 27, .int 1, .int 1, .int 1, .int 1, .ref a2])), (a1, .inr (5, [.ref cb, .int 81, .int 0, .ref a3, .int 3, .ref a4, .int 1, .ref a5, .int 1, .int 1, .ref a6, .int 6, .int 0, .int 1, .int 0]))] := hD2
  replace hS := hS2
  clear hP2 hD2 hS2
  refine va_tb (v := .int 5) hx hb hSK.2 hS (by unfold vp_in; decide) rfl dX6_readByte_59 ?_
  refine lv_sipush (v := 255) hx hb dX6_readByte_60 (by decide) ?_
  refine lv_iand hx hb dX6_readByte_63 ?_
  refine lv_topi (fun z_3 ez_3 => ?_)
  obtain rfl : z_3 = 5 := ez_3.trans (by decide)
  clear ez_3
  exact W.iret hx hb hr (fun t ht hW => ⟨⟨5, (), rfl, rfl, by rw [ht]; exact hP, va_K.moved hW.alike hK, hD⟩, hS.F ht⟩) hS.2.2 dX6_readByte_64

set_option maxHeartbeats 4000000 in
set_option maxRecDepth 100000 in
theorem cc_338_X6_readOneType (l : Launch) (dC : Nat → ClassId) (dI : Nat → Nat → Nat) (cy : Nat → ClassId) (sz : Nat) (cb : Nat) (a0 : Nat) (a1 : Nat) (a2 : Nat) (a3 : Nat) (a4 : Nat) (a5 : Nat) (a6 : Nat)  : Met l yX6_readOneType wsX6_readOneType ({ frames := 1, cells := 0, slots := 0, locals := 20 }) (va_Pc [.ref a0, .int 1] (fun U => U.heap.size = sz ∧ va_P (dC, dI) vwCl [(a0, .inr (6, [.int 0, .int 0, .ref a1, .int 26, .int 1, .int 1, .int 1, .int 1, .ref a2])), (a1, .inr (5, [.ref cb, .int 81, .int 0, .ref a3, .int 3, .ref a4, .int 1, .ref a5, .int 1, .int 1, .ref a6, .int 6, .int 0, .int 1, .int 0]))] U.heap ∧ va_K (dC, dI) vwCl (TYS cy) U ∧ va_D (fun _ => True) [(a0, .inr (6, [.int 0, .int 0, .ref a1, .int 26, .int 1, .int 1, .int 1, .int 1, .ref a2])), (a1, .inr (5, [.ref cb, .int 81, .int 0, .ref a3, .int 3, .ref a4, .int 1, .ref a5, .int 1, .int 1, .ref a6, .int 6, .int 0, .int 1, .int 0]))] ∧ NK U ∧ SK cb (va_A [(a0, .inr (6, [.int 0, .int 0, .ref a1, .int 26, .int 1, .int 1, .int 1, .int 1, .ref a2])), (a1, .inr (5, [.ref cb, .int 81, .int 0, .ref a3, .int 3, .ref a4, .int 1, .ref a5, .int 1, .int 1, .ref a6, .int 6, .int 0, .int 1, .int 0]))] sz) U U.heap)) (va_Ql (fun (r : Int64) (u : Unit) => r = 5) (fun u t => va_P (dC, dI) vwCl [(a0, .inr (6, [.int 0, .int 0, .ref a1, .int 27, .int 1, .int 1, .int 1, .int 1, .ref a2])), (a1, .inr (5, [.ref cb, .int 81, .int 0, .ref a3, .int 3, .ref a4, .int 1, .ref a5, .int 1, .int 1, .ref a6, .int 6, .int 0, .int 1, .int 0]))] t.heap ∧ va_K (dC, dI) vwCl (TYS cy) t ∧ va_D (va_A [(a0, .inr (6, [.int 0, .int 0, .ref a1, .int 26, .int 1, .int 1, .int 1, .int 1, .ref a2])), (a1, .inr (5, [.ref cb, .int 81, .int 0, .ref a3, .int 3, .ref a4, .int 1, .ref a5, .int 1, .int 1, .ref a6, .int 6, .int 0, .int 1, .int 0]))] sz) [(a0, .inr (6, [.int 0, .int 0, .ref a1, .int 27, .int 1, .int 1, .int 1, .int 1, .ref a2])), (a1, .inr (5, [.ref cb, .int 81, .int 0, .ref a3, .int 3, .ref a4, .int 1, .ref a5, .int 1, .int 1, .ref a6, .int 6, .int 0, .int 1, .int 0]))]) (va_A [(a0, .inr (6, [.int 0, .int 0, .ref a1, .int 26, .int 1, .int 1, .int 1, .int 1, .ref a2])), (a1, .inr (5, [.ref cb, .int 81, .int 0, .ref a3, .int 3, .ref a4, .int 1, .ref a5, .int 1, .int 1, .ref a6, .int 6, .int 0, .int 1, .int 0]))] sz)) 0 0 (va_A [(a0, .inr (6, [.int 0, .int 0, .ref a1, .int 26, .int 1, .int 1, .int 1, .int 1, .ref a2])), (a1, .inr (5, [.ref cb, .int 81, .int 0, .ref a3, .int 3, .ref a4, .int 1, .ref a5, .int 1, .int 1, .ref a6, .int 6, .int 0, .int 1, .int 0]))] sz) := by
  refine Met.ofW (cc := cX6_readOneType) (maxL := 7) (ret := (some .long)) (by decide) rfl ?_
  intro p e s m args below meth c s₁ B hml hv
  obtain ⟨rfl, hsz, hP, hK, hD0, hN, hSK⟩ := hv
  have hx := B.exec
  have hb := B.bytes
  have hr := B.returns
  have hts := atoms_spec (ws := wsX6_readOneType) B.pre
  have hown : s.vm.findClass RX6 = some m.cls := findClass_of_methodNamed B.named
  have hlocks := B.notSynchronized
  subst hsz
  have hD := hD0.self (sz := s.heap.size)
  generalize hAe : va_A [(a0, .inr (6, [.int 0, .int 0, .ref a1, .int 26, .int 1, .int 1, .int 1, .int 1, .ref a2])), (a1, .inr (5, [.ref cb, .int 81, .int 0, .ref a3, .int 3, .ref a4, .int 1, .ref a5, .int 1, .int 1, .ref a6, .int 6, .int 0, .int 1, .int 0]))] s.heap.size = A at hD hSK ⊢
  have hA : ∀ q : Nat, s.heap.size ≤ q → A q := fun q h => by rw [← hAe]; exact Or.inr h
  have hS : va_S A s.heap s.heap [] := va_S.rf
  have hP : va_P (dC, dI) vwCl [(a0, .inr (6, [.int 0, .int 0, .ref a1, .int 26, .int 1, .int 1, .int 1, .int 1, .ref a2])), (a1, .inr (5, [.ref cb, .int 81, .int 0, .ref a3, .int 3, .ref a4, .int 1, .ref a5, .int 1, .int 1, .ref a6, .int 6, .int 0, .int 1, .int 0]))] s.heap := hP
  have hl := lv_entry ([.ref a0, .int 1]) (n := 7) (Nat.le_of_ble_eq_true rfl)
  rw [lg_entry_eq]
  generalize (lg_sl ([.ref a0, .int 1]) ++ List.replicate (7 - (lg_sl ([.ref a0, .int 1])).length) Slot.unset).toArray = ls at hl ⊢
  replace hl : lv_has ls 7 [(0, .ref a0), (1, .int 1)] := hl
  refine lv_lconst (v := 0) hx hb dX6_readOneType_0 (by decide) ?_
  refine lv_lstore_n (lv' := [(2, .long 0), (0, .ref a0), (1, .int 1)]) hx hb dX6_readOneType_1 rfl hl (by decide) rfl (fun ls hl2 => ?_)
  replace hl := hl2
  clear hl2
  refine lv_aload_n hx hb dX6_readOneType_2 rfl (lv_at hl 1 rfl) ?_
  refine va_get (D := (dC, dI)) (ci := 6) (v := .int 26) (C := RX6) (T := TX6) (N := 9) hx hb hts iw_X6_readOneType_X6 hown hK hP 0 rfl rfl 3 (by decide) (hts _ m_X6_readOneType_1) (fun _ h9 => h9) rfl dX6_readOneType_3 ?_
  refine lv_istore (lv' := [(4, .int 26), (2, .long 0), (0, .ref a0), (1, .int 1)]) hx hb dX6_readOneType_6 hl (by decide) rfl (fun ls hl2 => ?_)
  replace hl := hl2
  clear hl2
  refine lv_aload_n hx hb dX6_readOneType_8 rfl (lv_at hl 2 rfl) ?_
  have hPc := hP.sub (ws' := [(a0, .inr (6, [.int 0, .int 0, .ref a1, .int 26, .int 1, .int 1, .int 1, .int 1, .ref a2])), (a1, .inr (5, [.ref cb, .int 81, .int 0, .ref a3, .int 3, .ref a4, .int 1, .ref a5, .int 1, .int 1, .ref a6, .int 6, .int 0, .int 1, .int 0]))]) [0, 1] rfl
  have hDc := hD.sub (ws' := [(a0, .inr (6, [.int 0, .int 0, .ref a1, .int 26, .int 1, .int 1, .int 1, .int 1, .ref a2])), (a1, .inr (5, [.ref cb, .int 81, .int 0, .ref a3, .int 3, .ref a4, .int 1, .ref a5, .int 1, .int 1, .ref a6, .int 6, .int 0, .int 1, .int 0]))]) [0, 1] (by decide) rfl
  have hFc := va_free (wc := [(a0, .inr (6, [.int 0, .int 0, .ref a1, .int 26, .int 1, .int 1, .int 1, .int 1, .ref a2])), (a1, .inr (5, [.ref cb, .int 81, .int 0, .ref a3, .int 3, .ref a4, .int 1, .ref a5, .int 1, .int 1, .ref a6, .int 6, .int 0, .int 1, .int 0]))]) hD hS hA [0, 1] rfl
  refine va_calli (va_runV (As := []) (rest := []) ⟨hx, hb, hml, hown, hts⟩ (cc_339_X6_readByte l dC dI cy s.heap.size cb a0 a1 a2 a3 a4 a5 a6) (cwV 0 hts gX6_readOneType_X6_readByte rfl rfl rfl (by decide +kernel) ⟨Nat.le_of_ble_eq_true rfl, Nat.le_of_ble_eq_true rfl⟩) ⟨fun a U g mk q => by obtain ⟨q0, q1, qP, qK, qD, qN, qS⟩ := q; exact ⟨q0, q1, qP, va_K.moved (u := U) (U := U.calling g mk a) (Vm.Alike.refl U.vm) qK, qD, qN.same rfl, SK.moved (u := U) (U := U.calling g mk a) (Vm.Alike.refl U.vm) qS⟩, va_recv hK hPc (ci := 6) (q0 := 0) rfl rfl, fun U hU hW => ⟨rfl, by rw [hU], by rw [hU]; exact hPc, va_K.moved hW.alike hK, hDc.weaken (fun _ _ _ _ => trivial), hN.warm hW, by rw [hU]; exact ((hSK.kept hS.2.1).narrow hFc).moved hW.alike⟩⟩ rfl rfl hl.1 rfl (lv_room (Nat.le_of_ble_eq_true rfl)) dX6_readOneType_9 ⟨Nat.le_of_ble_eq_true rfl, Nat.le_of_ble_eq_true rfl⟩) hS (fun q _ h => hFc q h) hFc (fun r_1 u t H_2 locs ht hvm hw hB hz1 hk1 hS2 => ?_)
  obtain ⟨hP1, hK1, hD1⟩ := hB
  rw [ht] at hP1
  obtain rfl := hw
  obtain ⟨hP2, hD2⟩ := va_join (wr := []) (w1 := [(a0, .inr (6, [.int 0, .int 0, .ref a1, .int 27, .int 1, .int 1, .int 1, .int 1, .ref a2])), (a1, .inr (5, [.ref cb, .int 81, .int 0, .ref a3, .int 3, .ref a4, .int 1, .ref a5, .int 1, .int 1, .ref a6, .int 6, .int 0, .int 1, .int 0]))]) hP hD [0, 1] [] rfl rfl (by decide) (by decide) hk1 hFc hP1 hD1
  replace hP : va_P (dC, dI) vwCl [(a0, .inr (6, [.int 0, .int 0, .ref a1, .int 27, .int 1, .int 1, .int 1, .int 1, .ref a2])), (a1, .inr (5, [.ref cb, .int 81, .int 0, .ref a3, .int 3, .ref a4, .int 1, .ref a5, .int 1, .int 1, .ref a6, .int 6, .int 0, .int 1, .int 0]))] H_2 := hP2
  replace hD : va_D A [(a0, .inr (6, [.int 0, .int 0, .ref a1, .int 27, .int 1, .int 1, .int 1, .int 1, .ref a2])), (a1, .inr (5, [.ref cb, .int 81, .int 0, .ref a3, .int 3, .ref a4, .int 1, .ref a5, .int 1, .int 1, .ref a6, .int 6, .int 0, .int 1, .int 0]))] := hD2
  replace hS := hS2
  clear hP2 hD2 hS2
  clear hPc hDc hFc hP1 hD1 hK1 hk1 hz1 hvm ht
  refine W.widen (k := 0) (n := 0) (Nat.le_of_ble_eq_true rfl) (Nat.le_of_ble_eq_true rfl) ?_
  refine lv_istore (lv' := [(5, .int 5), (4, .int 26), (2, .long 0), (0, .ref a0), (1, .int 1)]) hx hb dX6_readOneType_12 hl (by decide) rfl (fun ls hl2 => ?_)
  replace hl := hl2
  clear hl2
  refine lv_iload_n hx hb dX6_readOneType_14 rfl (lv_at hl 4 rfl) ?_
  refine lv_if_eq (tgt := 48) hx hb dX6_readOneType_15 (by decide) (fun h => absurd h (by decide)) (fun _ => ?_)
  refine lv_iload hx hb dX6_readOneType_18 (lv_at hl 0 rfl) ?_
  refine lv_bipush (v := 8) hx hb dX6_readOneType_20 (by decide) ?_
  refine lv_icmp_eq (tgt := 32) hx hb dX6_readOneType_22 (by decide) (fun h => absurd h (by decide)) (fun _ => ?_)
  refine lv_iload hx hb dX6_readOneType_25 (lv_at hl 0 rfl) ?_
  refine lv_bipush (v := 9) hx hb dX6_readOneType_27 (by decide) ?_
  refine lv_icmp_ne (tgt := 48) hx hb dX6_readOneType_29 (by decide) (fun _ => ?_) (fun h => absurd h (by decide))
  refine lv_iconst (v := 0) hx hb dX6_readOneType_48 (by decide) ?_
  refine lv_istore (lv' := [(6, .int 0), (5, .int 5), (4, .int 26), (2, .long 0), (0, .ref a0), (1, .int 1)]) hx hb dX6_readOneType_49 hl (by decide) rfl (fun ls hl2 => ?_)
  replace hl := hl2
  clear hl2
  refine lv_iload hx hb dX6_readOneType_51 (lv_at hl 0 rfl) ?_
  refine lv_iconst (v := 4) hx hb dX6_readOneType_53 (by decide) ?_
  refine lv_icmp_ge (tgt := 91) hx hb dX6_readOneType_54 (by decide) (fun h => absurd h (by decide)) (fun _ => ?_)
  refine lv_iload hx hb dX6_readOneType_57 (lv_at hl 1 rfl) ?_
  refine lv_bipush (v := 7) hx hb dX6_readOneType_59 (by decide) ?_
  refine lv_icmp_ne (tgt := 91) hx hb dX6_readOneType_61 (by decide) (fun _ => ?_) (fun h => absurd h (by decide))
  refine lv_iload hx hb dX6_readOneType_91 (lv_at hl 1 rfl) ?_
  refine lv_iconst (v := 1) hx hb dX6_readOneType_93 (by decide) ?_
  refine lv_icmp_lt (tgt := 104) hx hb dX6_readOneType_94 (by decide) (fun h => absurd h (by decide)) (fun _ => ?_)
  refine lv_iload hx hb dX6_readOneType_97 (lv_at hl 1 rfl) ?_
  refine lv_bipush (v := 6) hx hb dX6_readOneType_99 (by decide) ?_
  refine lv_icmp_le (tgt := 111) hx hb dX6_readOneType_101 (by decide) (fun _ => ?_) (fun h => absurd (by decide) h)
  refine lv_lload_n hx hb dX6_readOneType_111 rfl (lv_at hl 3 rfl) ?_
  refine lv_bipush (v := 8) hx hb dX6_readOneType_112 (by decide) ?_
  refine lv_lshl (v := 0) hx hb dX6_readOneType_114 (by decide) ?_
  refine lv_iload hx hb dX6_readOneType_115 (lv_at hl 1 rfl) ?_
  refine lv_i2l (v := 5) hx hb dX6_readOneType_117 (by decide) ?_
  refine lv_lor hx hb dX6_readOneType_118 ?_
  refine lv_topl (fun z_3 ez_3 => ?_)
  obtain rfl : z_3 = 5 := ez_3.trans (by decide)
  clear ez_3
  refine lv_lstore_n (lv' := [(2, .long 5), (6, .int 0), (5, .int 5), (4, .int 26), (0, .ref a0), (1, .int 1)]) hx hb dX6_readOneType_119 rfl hl (by decide) rfl (fun ls hl2 => ?_)
  replace hl := hl2
  clear hl2
  refine lv_iload hx hb dX6_readOneType_120 (lv_at hl 2 rfl) ?_
  refine lv_bipush (v := 6) hx hb dX6_readOneType_122 (by decide) ?_
  refine lv_icmp_eq (tgt := 129) hx hb dX6_readOneType_124 (by decide) (fun h => absurd h (by decide)) (fun _ => ?_)
  refine lv_lload_n hx hb dX6_readOneType_127 rfl (lv_at hl 0 rfl) ?_
  exact W.lret hx hb hr (fun t ht hW => ⟨⟨5, (), rfl, rfl, by rw [ht]; exact hP, va_K.moved hW.alike hK, hD⟩, hS.F ht⟩) hS.2.2 dX6_readOneType_128

set_option maxHeartbeats 4000000 in
set_option maxRecDepth 100000 in
theorem cc_341_X6_readByte (l : Launch) (dC : Nat → ClassId) (dI : Nat → Nat → Nat) (cy : Nat → ClassId) (sz : Nat) (cb : Nat) (a0 : Nat) (a1 : Nat) (a2 : Nat) (a3 : Nat) (a4 : Nat) (a5 : Nat) (a6 : Nat)  : Met l yX6_readByte wsX6_readByte ({ frames := 0, cells := 0, slots := 0, locals := 0 }) (va_Pc [.ref a0] (fun U => U.heap.size = sz ∧ va_P (dC, dI) vwCl [(a0, .inr (6, [.int 0, .int 0, .ref a1, .int 27, .int 1, .int 1, .int 1, .int 1, .ref a2])), (a1, .inr (5, [.ref cb, .int 81, .int 0, .ref a3, .int 4, .ref a4, .int 1, .ref a5, .int 1, .int 1, .ref a6, .int 6, .int 0, .int 1, .int 0]))] U.heap ∧ va_K (dC, dI) vwCl (TYS cy) U ∧ va_D (fun _ => True) [(a0, .inr (6, [.int 0, .int 0, .ref a1, .int 27, .int 1, .int 1, .int 1, .int 1, .ref a2])), (a1, .inr (5, [.ref cb, .int 81, .int 0, .ref a3, .int 4, .ref a4, .int 1, .ref a5, .int 1, .int 1, .ref a6, .int 6, .int 0, .int 1, .int 0]))] ∧ NK U ∧ SK cb (va_A [(a0, .inr (6, [.int 0, .int 0, .ref a1, .int 27, .int 1, .int 1, .int 1, .int 1, .ref a2])), (a1, .inr (5, [.ref cb, .int 81, .int 0, .ref a3, .int 4, .ref a4, .int 1, .ref a5, .int 1, .int 1, .ref a6, .int 6, .int 0, .int 1, .int 0]))] sz) U U.heap)) (va_Qi (fun (r : Int32) (u : Unit) => r = 6) (fun u t => va_P (dC, dI) vwCl [(a0, .inr (6, [.int 0, .int 0, .ref a1, .int 28, .int 1, .int 1, .int 1, .int 1, .ref a2])), (a1, .inr (5, [.ref cb, .int 81, .int 0, .ref a3, .int 4, .ref a4, .int 1, .ref a5, .int 1, .int 1, .ref a6, .int 6, .int 0, .int 1, .int 0]))] t.heap ∧ va_K (dC, dI) vwCl (TYS cy) t ∧ va_D (va_A [(a0, .inr (6, [.int 0, .int 0, .ref a1, .int 27, .int 1, .int 1, .int 1, .int 1, .ref a2])), (a1, .inr (5, [.ref cb, .int 81, .int 0, .ref a3, .int 4, .ref a4, .int 1, .ref a5, .int 1, .int 1, .ref a6, .int 6, .int 0, .int 1, .int 0]))] sz) [(a0, .inr (6, [.int 0, .int 0, .ref a1, .int 28, .int 1, .int 1, .int 1, .int 1, .ref a2])), (a1, .inr (5, [.ref cb, .int 81, .int 0, .ref a3, .int 4, .ref a4, .int 1, .ref a5, .int 1, .int 1, .ref a6, .int 6, .int 0, .int 1, .int 0]))]) (va_A [(a0, .inr (6, [.int 0, .int 0, .ref a1, .int 27, .int 1, .int 1, .int 1, .int 1, .ref a2])), (a1, .inr (5, [.ref cb, .int 81, .int 0, .ref a3, .int 4, .ref a4, .int 1, .ref a5, .int 1, .int 1, .ref a6, .int 6, .int 0, .int 1, .int 0]))] sz)) 0 0 (va_A [(a0, .inr (6, [.int 0, .int 0, .ref a1, .int 27, .int 1, .int 1, .int 1, .int 1, .ref a2])), (a1, .inr (5, [.ref cb, .int 81, .int 0, .ref a3, .int 4, .ref a4, .int 1, .ref a5, .int 1, .int 1, .ref a6, .int 6, .int 0, .int 1, .int 0]))] sz) := by
  refine Met.ofW (cc := cX6_readByte) (maxL := 1) (ret := (some .int)) (by decide) rfl ?_
  intro p e s m args below meth c s₁ B hml hv
  obtain ⟨rfl, hsz, hP, hK, hD0, hN, hSK⟩ := hv
  have hx := B.exec
  have hb := B.bytes
  have hr := B.returns
  have hts := atoms_spec (ws := wsX6_readByte) B.pre
  have hown : s.vm.findClass RX6 = some m.cls := findClass_of_methodNamed B.named
  have hlocks := B.notSynchronized
  subst hsz
  have hD := hD0.self (sz := s.heap.size)
  generalize hAe : va_A [(a0, .inr (6, [.int 0, .int 0, .ref a1, .int 27, .int 1, .int 1, .int 1, .int 1, .ref a2])), (a1, .inr (5, [.ref cb, .int 81, .int 0, .ref a3, .int 4, .ref a4, .int 1, .ref a5, .int 1, .int 1, .ref a6, .int 6, .int 0, .int 1, .int 0]))] s.heap.size = A at hD hSK ⊢
  have hA : ∀ q : Nat, s.heap.size ≤ q → A q := fun q h => by rw [← hAe]; exact Or.inr h
  have hS : va_S A s.heap s.heap [] := va_S.rf
  have hP : va_P (dC, dI) vwCl [(a0, .inr (6, [.int 0, .int 0, .ref a1, .int 27, .int 1, .int 1, .int 1, .int 1, .ref a2])), (a1, .inr (5, [.ref cb, .int 81, .int 0, .ref a3, .int 4, .ref a4, .int 1, .ref a5, .int 1, .int 1, .ref a6, .int 6, .int 0, .int 1, .int 0]))] s.heap := hP
  have hl := lv_entry ([.ref a0]) (n := 1) (Nat.le_of_ble_eq_true rfl)
  rw [lg_entry_eq]
  generalize (lg_sl ([.ref a0]) ++ List.replicate (1 - (lg_sl ([.ref a0])).length) Slot.unset).toArray = ls at hl ⊢
  replace hl : lv_has ls 1 [(0, .ref a0)] := hl
  refine lv_aload_n hx hb dX6_readByte_0 rfl (lv_at hl 0 rfl) ?_
  refine va_get (D := (dC, dI)) (ci := 6) (v := .int 0) (C := RX6) (T := TX6) (N := 9) hx hb hts iw_X6_readByte_X6 hown hK hP 0 rfl rfl 1 (by decide) (hts _ m_X6_readByte_1) (fun _ h9 => h9) rfl dX6_readByte_1 ?_
  refine lv_if_eq (tgt := 9) hx hb dX6_readByte_4 (by decide) (fun _ => ?_) (fun h => absurd (by decide) h)
  refine lv_aload_n hx hb dX6_readByte_9 rfl (lv_at hl 0 rfl) ?_
  refine va_get (D := (dC, dI)) (ci := 6) (v := .int 27) (C := RX6) (T := TX6) (N := 9) hx hb hts iw_X6_readByte_X6 hown hK hP 0 rfl rfl 3 (by decide) (hts _ m_X6_readByte_2) (fun _ h9 => h9) rfl dX6_readByte_10 ?_
  refine lv_aload_n hx hb dX6_readByte_13 rfl (lv_at hl 0 rfl) ?_
  refine va_get (D := (dC, dI)) (ci := 6) (v := .ref a1) (C := RX6) (T := TX6) (N := 9) hx hb hts iw_X6_readByte_X6 hown hK hP 0 rfl rfl 2 (by decide) (hts _ m_X6_readByte_3) (fun _ h9 => h9) rfl dX6_readByte_14 ?_
  refine va_get (D := (dC, dI)) (ci := 5) (v := .int 81) (C := RX5) (T := TX5) (N := 15) hx hb hts iw_X6_readByte_X5 hown hK hP 1 rfl rfl 1 (by decide) (hts _ m_X6_readByte_4) (fun _ h9 => h9) rfl dX6_readByte_17 ?_
  refine lv_icmp_lt (tgt := 41) hx hb dX6_readByte_20 (by decide) (fun _ => ?_) (fun h => absurd (by decide) h)
  refine lv_aload_n hx hb dX6_readByte_41 rfl (lv_at hl 0 rfl) ?_
  refine va_get (D := (dC, dI)) (ci := 6) (v := .ref a1) (C := RX6) (T := TX6) (N := 9) hx hb hts iw_X6_readByte_X6 hown hK hP 0 rfl rfl 2 (by decide) (hts _ m_X6_readByte_3) (fun _ h9 => h9) rfl dX6_readByte_42 ?_
  refine va_get (D := (dC, dI)) (ci := 5) (v := .ref cb) (C := RX5) (T := TX5) (N := 15) hx hb hts iw_X6_readByte_X5 hown hK hP 1 rfl rfl 0 (by decide) (hts _ m_X6_readByte_6) (fun _ h9 => h9) rfl dX6_readByte_45 ?_
  refine lv_aload_n hx hb dX6_readByte_48 rfl (lv_at hl 0 rfl) ?_
  refine lv_dup hx hb dX6_readByte_49 rfl ?_
  refine va_get (D := (dC, dI)) (ci := 6) (v := .int 27) (C := RX6) (T := TX6) (N := 9) hx hb hts iw_X6_readByte_X6 hown hK hP 0 rfl rfl 3 (by decide) (hts _ m_X6_readByte_2) (fun _ h9 => h9) rfl dX6_readByte_50 ?_
  refine lv_dup_x1 hx hb dX6_readByte_53 rfl rfl ?_
  refine lv_iconst (v := 1) hx hb dX6_readByte_54 (by decide) ?_
  refine lv_iadd hx hb dX6_readByte_55 ?_
  refine lv_topi (fun z_1 ez_1 => ?_)
  obtain rfl : z_1 = 28 := ez_1.trans (by decide)
  clear ez_1
  refine va_put (D := (dC, dI)) (ci := 6) (v := .int 28) (ty := .int) (C := RX6) (T := TX6) (N := 9) hx hb hts iw_X6_readByte_X6 tyX6 tyX6_ok nmX6 hown hK hP hD hS 0 rfl rfl 3 (by decide) (hts _ m_X6_readByte_2) (fun _ h9 => h9) rfl (by decide +kernel) rfl rfl (Nat.le_of_ble_eq_true rfl) dX6_readByte_56 (fun H_2 locs hP2 hD2 hS2 => ?_)
  replace hP : va_P (dC, dI) vwCl [(a0, .inr (6, [.int 0, .int 0, .ref a1, .int 28, .int 1, .int 1, .int 1, .int 1, .ref a2])), (a1, .inr (5, [.ref cb, .int 81, .int 0, .ref a3, .int 4, .ref a4, .int 1, .ref a5, .int 1, .int 1, .ref a6, .int 6, .int 0, .int 1, .int 0]))] H_2 := hP2
  replace hD : va_D A [(a0, .inr (6, [.int 0, .int 0, .ref a1, .int 28, .int 1, .int 1, .int 1, .int 1, .ref a2])), (a1, .inr (5, [.ref cb, .int 81, .int 0, .ref a3, .int 4, .ref a4, .int 1, .ref a5, .int 1, .int 1, .ref a6, .int 6, .int 0, .int 1, .int 0]))] := hD2
  replace hS := hS2
  clear hP2 hD2 hS2
  refine va_tb (v := .int 6) hx hb hSK.2 hS (by unfold vp_in; decide) rfl dX6_readByte_59 ?_
  refine lv_sipush (v := 255) hx hb dX6_readByte_60 (by decide) ?_
  refine lv_iand hx hb dX6_readByte_63 ?_
  refine lv_topi (fun z_3 ez_3 => ?_)
  obtain rfl : z_3 = 6 := ez_3.trans (by decide)
  clear ez_3
  exact W.iret hx hb hr (fun t ht hW => ⟨⟨6, (), rfl, rfl, by rw [ht]; exact hP, va_K.moved hW.alike hK, hD⟩, hS.F ht⟩) hS.2.2 dX6_readByte_64

set_option maxHeartbeats 4000000 in
set_option maxRecDepth 100000 in
theorem cc_342_X6_readByte (l : Launch) (dC : Nat → ClassId) (dI : Nat → Nat → Nat) (cy : Nat → ClassId) (sz : Nat) (cb : Nat) (a0 : Nat) (a1 : Nat) (a2 : Nat) (a3 : Nat) (a4 : Nat) (a5 : Nat) (a6 : Nat)  : Met l yX6_readByte wsX6_readByte ({ frames := 0, cells := 0, slots := 0, locals := 0 }) (va_Pc [.ref a0] (fun U => U.heap.size = sz ∧ va_P (dC, dI) vwCl [(a0, .inr (6, [.int 0, .int 0, .ref a1, .int 28, .int 1, .int 1, .int 1, .int 1, .ref a2])), (a1, .inr (5, [.ref cb, .int 81, .int 0, .ref a3, .int 4, .ref a4, .int 1, .ref a5, .int 1, .int 1, .ref a6, .int 6, .int 0, .int 1, .int 0]))] U.heap ∧ va_K (dC, dI) vwCl (TYS cy) U ∧ va_D (fun _ => True) [(a0, .inr (6, [.int 0, .int 0, .ref a1, .int 28, .int 1, .int 1, .int 1, .int 1, .ref a2])), (a1, .inr (5, [.ref cb, .int 81, .int 0, .ref a3, .int 4, .ref a4, .int 1, .ref a5, .int 1, .int 1, .ref a6, .int 6, .int 0, .int 1, .int 0]))] ∧ NK U ∧ SK cb (va_A [(a0, .inr (6, [.int 0, .int 0, .ref a1, .int 28, .int 1, .int 1, .int 1, .int 1, .ref a2])), (a1, .inr (5, [.ref cb, .int 81, .int 0, .ref a3, .int 4, .ref a4, .int 1, .ref a5, .int 1, .int 1, .ref a6, .int 6, .int 0, .int 1, .int 0]))] sz) U U.heap)) (va_Qi (fun (r : Int32) (u : Unit) => r = 0) (fun u t => va_P (dC, dI) vwCl [(a0, .inr (6, [.int 0, .int 0, .ref a1, .int 29, .int 1, .int 1, .int 1, .int 1, .ref a2])), (a1, .inr (5, [.ref cb, .int 81, .int 0, .ref a3, .int 4, .ref a4, .int 1, .ref a5, .int 1, .int 1, .ref a6, .int 6, .int 0, .int 1, .int 0]))] t.heap ∧ va_K (dC, dI) vwCl (TYS cy) t ∧ va_D (va_A [(a0, .inr (6, [.int 0, .int 0, .ref a1, .int 28, .int 1, .int 1, .int 1, .int 1, .ref a2])), (a1, .inr (5, [.ref cb, .int 81, .int 0, .ref a3, .int 4, .ref a4, .int 1, .ref a5, .int 1, .int 1, .ref a6, .int 6, .int 0, .int 1, .int 0]))] sz) [(a0, .inr (6, [.int 0, .int 0, .ref a1, .int 29, .int 1, .int 1, .int 1, .int 1, .ref a2])), (a1, .inr (5, [.ref cb, .int 81, .int 0, .ref a3, .int 4, .ref a4, .int 1, .ref a5, .int 1, .int 1, .ref a6, .int 6, .int 0, .int 1, .int 0]))]) (va_A [(a0, .inr (6, [.int 0, .int 0, .ref a1, .int 28, .int 1, .int 1, .int 1, .int 1, .ref a2])), (a1, .inr (5, [.ref cb, .int 81, .int 0, .ref a3, .int 4, .ref a4, .int 1, .ref a5, .int 1, .int 1, .ref a6, .int 6, .int 0, .int 1, .int 0]))] sz)) 0 0 (va_A [(a0, .inr (6, [.int 0, .int 0, .ref a1, .int 28, .int 1, .int 1, .int 1, .int 1, .ref a2])), (a1, .inr (5, [.ref cb, .int 81, .int 0, .ref a3, .int 4, .ref a4, .int 1, .ref a5, .int 1, .int 1, .ref a6, .int 6, .int 0, .int 1, .int 0]))] sz) := by
  refine Met.ofW (cc := cX6_readByte) (maxL := 1) (ret := (some .int)) (by decide) rfl ?_
  intro p e s m args below meth c s₁ B hml hv
  obtain ⟨rfl, hsz, hP, hK, hD0, hN, hSK⟩ := hv
  have hx := B.exec
  have hb := B.bytes
  have hr := B.returns
  have hts := atoms_spec (ws := wsX6_readByte) B.pre
  have hown : s.vm.findClass RX6 = some m.cls := findClass_of_methodNamed B.named
  have hlocks := B.notSynchronized
  subst hsz
  have hD := hD0.self (sz := s.heap.size)
  generalize hAe : va_A [(a0, .inr (6, [.int 0, .int 0, .ref a1, .int 28, .int 1, .int 1, .int 1, .int 1, .ref a2])), (a1, .inr (5, [.ref cb, .int 81, .int 0, .ref a3, .int 4, .ref a4, .int 1, .ref a5, .int 1, .int 1, .ref a6, .int 6, .int 0, .int 1, .int 0]))] s.heap.size = A at hD hSK ⊢
  have hA : ∀ q : Nat, s.heap.size ≤ q → A q := fun q h => by rw [← hAe]; exact Or.inr h
  have hS : va_S A s.heap s.heap [] := va_S.rf
  have hP : va_P (dC, dI) vwCl [(a0, .inr (6, [.int 0, .int 0, .ref a1, .int 28, .int 1, .int 1, .int 1, .int 1, .ref a2])), (a1, .inr (5, [.ref cb, .int 81, .int 0, .ref a3, .int 4, .ref a4, .int 1, .ref a5, .int 1, .int 1, .ref a6, .int 6, .int 0, .int 1, .int 0]))] s.heap := hP
  have hl := lv_entry ([.ref a0]) (n := 1) (Nat.le_of_ble_eq_true rfl)
  rw [lg_entry_eq]
  generalize (lg_sl ([.ref a0]) ++ List.replicate (1 - (lg_sl ([.ref a0])).length) Slot.unset).toArray = ls at hl ⊢
  replace hl : lv_has ls 1 [(0, .ref a0)] := hl
  refine lv_aload_n hx hb dX6_readByte_0 rfl (lv_at hl 0 rfl) ?_
  refine va_get (D := (dC, dI)) (ci := 6) (v := .int 0) (C := RX6) (T := TX6) (N := 9) hx hb hts iw_X6_readByte_X6 hown hK hP 0 rfl rfl 1 (by decide) (hts _ m_X6_readByte_1) (fun _ h9 => h9) rfl dX6_readByte_1 ?_
  refine lv_if_eq (tgt := 9) hx hb dX6_readByte_4 (by decide) (fun _ => ?_) (fun h => absurd (by decide) h)
  refine lv_aload_n hx hb dX6_readByte_9 rfl (lv_at hl 0 rfl) ?_
  refine va_get (D := (dC, dI)) (ci := 6) (v := .int 28) (C := RX6) (T := TX6) (N := 9) hx hb hts iw_X6_readByte_X6 hown hK hP 0 rfl rfl 3 (by decide) (hts _ m_X6_readByte_2) (fun _ h9 => h9) rfl dX6_readByte_10 ?_
  refine lv_aload_n hx hb dX6_readByte_13 rfl (lv_at hl 0 rfl) ?_
  refine va_get (D := (dC, dI)) (ci := 6) (v := .ref a1) (C := RX6) (T := TX6) (N := 9) hx hb hts iw_X6_readByte_X6 hown hK hP 0 rfl rfl 2 (by decide) (hts _ m_X6_readByte_3) (fun _ h9 => h9) rfl dX6_readByte_14 ?_
  refine va_get (D := (dC, dI)) (ci := 5) (v := .int 81) (C := RX5) (T := TX5) (N := 15) hx hb hts iw_X6_readByte_X5 hown hK hP 1 rfl rfl 1 (by decide) (hts _ m_X6_readByte_4) (fun _ h9 => h9) rfl dX6_readByte_17 ?_
  refine lv_icmp_lt (tgt := 41) hx hb dX6_readByte_20 (by decide) (fun _ => ?_) (fun h => absurd (by decide) h)
  refine lv_aload_n hx hb dX6_readByte_41 rfl (lv_at hl 0 rfl) ?_
  refine va_get (D := (dC, dI)) (ci := 6) (v := .ref a1) (C := RX6) (T := TX6) (N := 9) hx hb hts iw_X6_readByte_X6 hown hK hP 0 rfl rfl 2 (by decide) (hts _ m_X6_readByte_3) (fun _ h9 => h9) rfl dX6_readByte_42 ?_
  refine va_get (D := (dC, dI)) (ci := 5) (v := .ref cb) (C := RX5) (T := TX5) (N := 15) hx hb hts iw_X6_readByte_X5 hown hK hP 1 rfl rfl 0 (by decide) (hts _ m_X6_readByte_6) (fun _ h9 => h9) rfl dX6_readByte_45 ?_
  refine lv_aload_n hx hb dX6_readByte_48 rfl (lv_at hl 0 rfl) ?_
  refine lv_dup hx hb dX6_readByte_49 rfl ?_
  refine va_get (D := (dC, dI)) (ci := 6) (v := .int 28) (C := RX6) (T := TX6) (N := 9) hx hb hts iw_X6_readByte_X6 hown hK hP 0 rfl rfl 3 (by decide) (hts _ m_X6_readByte_2) (fun _ h9 => h9) rfl dX6_readByte_50 ?_
  refine lv_dup_x1 hx hb dX6_readByte_53 rfl rfl ?_
  refine lv_iconst (v := 1) hx hb dX6_readByte_54 (by decide) ?_
  refine lv_iadd hx hb dX6_readByte_55 ?_
  refine lv_topi (fun z_1 ez_1 => ?_)
  obtain rfl : z_1 = 29 := ez_1.trans (by decide)
  clear ez_1
  refine va_put (D := (dC, dI)) (ci := 6) (v := .int 29) (ty := .int) (C := RX6) (T := TX6) (N := 9) hx hb hts iw_X6_readByte_X6 tyX6 tyX6_ok nmX6 hown hK hP hD hS 0 rfl rfl 3 (by decide) (hts _ m_X6_readByte_2) (fun _ h9 => h9) rfl (by decide +kernel) rfl rfl (Nat.le_of_ble_eq_true rfl) dX6_readByte_56 (fun H_2 locs hP2 hD2 hS2 => ?_)
  replace hP : va_P (dC, dI) vwCl [(a0, .inr (6, [.int 0, .int 0, .ref a1, .int 29, .int 1, .int 1, .int 1, .int 1, .ref a2])), (a1, .inr (5, [.ref cb, .int 81, .int 0, .ref a3, .int 4, .ref a4, .int 1, .ref a5, .int 1, .int 1, .ref a6, .int 6, .int 0, .int 1, .int 0]))] H_2 := hP2
  replace hD : va_D A [(a0, .inr (6, [.int 0, .int 0, .ref a1, .int 29, .int 1, .int 1, .int 1, .int 1, .ref a2])), (a1, .inr (5, [.ref cb, .int 81, .int 0, .ref a3, .int 4, .ref a4, .int 1, .ref a5, .int 1, .int 1, .ref a6, .int 6, .int 0, .int 1, .int 0]))] := hD2
  replace hS := hS2
  clear hP2 hD2 hS2
  refine va_tb (v := .int 0) hx hb hSK.2 hS (by unfold vp_in; decide) rfl dX6_readByte_59 ?_
  refine lv_sipush (v := 255) hx hb dX6_readByte_60 (by decide) ?_
  refine lv_iand hx hb dX6_readByte_63 ?_
  refine lv_topi (fun z_3 ez_3 => ?_)
  obtain rfl : z_3 = 0 := ez_3.trans (by decide)
  clear ez_3
  exact W.iret hx hb hr (fun t ht hW => ⟨⟨0, (), rfl, rfl, by rw [ht]; exact hP, va_K.moved hW.alike hK, hD⟩, hS.F ht⟩) hS.2.2 dX6_readByte_64

set_option maxHeartbeats 4000000 in
set_option maxRecDepth 100000 in
theorem cc_340_X6_readOneType (l : Launch) (dC : Nat → ClassId) (dI : Nat → Nat → Nat) (cy : Nat → ClassId) (sz : Nat) (cb : Nat) (a0 : Nat) (a1 : Nat) (a2 : Nat) (a3 : Nat) (a4 : Nat) (a5 : Nat) (a6 : Nat)  : Met l yX6_readOneType wsX6_readOneType ({ frames := 1, cells := 0, slots := 0, locals := 20 }) (va_Pc [.ref a0, .int 1] (fun U => U.heap.size = sz ∧ va_P (dC, dI) vwCl [(a0, .inr (6, [.int 0, .int 0, .ref a1, .int 27, .int 1, .int 1, .int 1, .int 1, .ref a2])), (a1, .inr (5, [.ref cb, .int 81, .int 0, .ref a3, .int 4, .ref a4, .int 1, .ref a5, .int 1, .int 1, .ref a6, .int 6, .int 0, .int 1, .int 0]))] U.heap ∧ va_K (dC, dI) vwCl (TYS cy) U ∧ va_D (fun _ => True) [(a0, .inr (6, [.int 0, .int 0, .ref a1, .int 27, .int 1, .int 1, .int 1, .int 1, .ref a2])), (a1, .inr (5, [.ref cb, .int 81, .int 0, .ref a3, .int 4, .ref a4, .int 1, .ref a5, .int 1, .int 1, .ref a6, .int 6, .int 0, .int 1, .int 0]))] ∧ NK U ∧ SK cb (va_A [(a0, .inr (6, [.int 0, .int 0, .ref a1, .int 27, .int 1, .int 1, .int 1, .int 1, .ref a2])), (a1, .inr (5, [.ref cb, .int 81, .int 0, .ref a3, .int 4, .ref a4, .int 1, .ref a5, .int 1, .int 1, .ref a6, .int 6, .int 0, .int 1, .int 0]))] sz) U U.heap)) (va_Ql (fun (r : Int64) (u : Unit) => r = 1536) (fun u t => va_P (dC, dI) vwCl [(a0, .inr (6, [.int 0, .int 0, .ref a1, .int 29, .int 1, .int 1, .int 1, .int 1, .ref a2])), (a1, .inr (5, [.ref cb, .int 81, .int 0, .ref a3, .int 4, .ref a4, .int 1, .ref a5, .int 1, .int 1, .ref a6, .int 6, .int 0, .int 1, .int 0]))] t.heap ∧ va_K (dC, dI) vwCl (TYS cy) t ∧ va_D (va_A [(a0, .inr (6, [.int 0, .int 0, .ref a1, .int 27, .int 1, .int 1, .int 1, .int 1, .ref a2])), (a1, .inr (5, [.ref cb, .int 81, .int 0, .ref a3, .int 4, .ref a4, .int 1, .ref a5, .int 1, .int 1, .ref a6, .int 6, .int 0, .int 1, .int 0]))] sz) [(a0, .inr (6, [.int 0, .int 0, .ref a1, .int 29, .int 1, .int 1, .int 1, .int 1, .ref a2])), (a1, .inr (5, [.ref cb, .int 81, .int 0, .ref a3, .int 4, .ref a4, .int 1, .ref a5, .int 1, .int 1, .ref a6, .int 6, .int 0, .int 1, .int 0]))]) (va_A [(a0, .inr (6, [.int 0, .int 0, .ref a1, .int 27, .int 1, .int 1, .int 1, .int 1, .ref a2])), (a1, .inr (5, [.ref cb, .int 81, .int 0, .ref a3, .int 4, .ref a4, .int 1, .ref a5, .int 1, .int 1, .ref a6, .int 6, .int 0, .int 1, .int 0]))] sz)) 0 0 (va_A [(a0, .inr (6, [.int 0, .int 0, .ref a1, .int 27, .int 1, .int 1, .int 1, .int 1, .ref a2])), (a1, .inr (5, [.ref cb, .int 81, .int 0, .ref a3, .int 4, .ref a4, .int 1, .ref a5, .int 1, .int 1, .ref a6, .int 6, .int 0, .int 1, .int 0]))] sz) := by
  refine Met.ofW (cc := cX6_readOneType) (maxL := 7) (ret := (some .long)) (by decide) rfl ?_
  intro p e s m args below meth c s₁ B hml hv
  obtain ⟨rfl, hsz, hP, hK, hD0, hN, hSK⟩ := hv
  have hx := B.exec
  have hb := B.bytes
  have hr := B.returns
  have hts := atoms_spec (ws := wsX6_readOneType) B.pre
  have hown : s.vm.findClass RX6 = some m.cls := findClass_of_methodNamed B.named
  have hlocks := B.notSynchronized
  subst hsz
  have hD := hD0.self (sz := s.heap.size)
  generalize hAe : va_A [(a0, .inr (6, [.int 0, .int 0, .ref a1, .int 27, .int 1, .int 1, .int 1, .int 1, .ref a2])), (a1, .inr (5, [.ref cb, .int 81, .int 0, .ref a3, .int 4, .ref a4, .int 1, .ref a5, .int 1, .int 1, .ref a6, .int 6, .int 0, .int 1, .int 0]))] s.heap.size = A at hD hSK ⊢
  have hA : ∀ q : Nat, s.heap.size ≤ q → A q := fun q h => by rw [← hAe]; exact Or.inr h
  have hS : va_S A s.heap s.heap [] := va_S.rf
  have hP : va_P (dC, dI) vwCl [(a0, .inr (6, [.int 0, .int 0, .ref a1, .int 27, .int 1, .int 1, .int 1, .int 1, .ref a2])), (a1, .inr (5, [.ref cb, .int 81, .int 0, .ref a3, .int 4, .ref a4, .int 1, .ref a5, .int 1, .int 1, .ref a6, .int 6, .int 0, .int 1, .int 0]))] s.heap := hP
  have hl := lv_entry ([.ref a0, .int 1]) (n := 7) (Nat.le_of_ble_eq_true rfl)
  rw [lg_entry_eq]
  generalize (lg_sl ([.ref a0, .int 1]) ++ List.replicate (7 - (lg_sl ([.ref a0, .int 1])).length) Slot.unset).toArray = ls at hl ⊢
  replace hl : lv_has ls 7 [(0, .ref a0), (1, .int 1)] := hl
  refine lv_lconst (v := 0) hx hb dX6_readOneType_0 (by decide) ?_
  refine lv_lstore_n (lv' := [(2, .long 0), (0, .ref a0), (1, .int 1)]) hx hb dX6_readOneType_1 rfl hl (by decide) rfl (fun ls hl2 => ?_)
  replace hl := hl2
  clear hl2
  refine lv_aload_n hx hb dX6_readOneType_2 rfl (lv_at hl 1 rfl) ?_
  refine va_get (D := (dC, dI)) (ci := 6) (v := .int 27) (C := RX6) (T := TX6) (N := 9) hx hb hts iw_X6_readOneType_X6 hown hK hP 0 rfl rfl 3 (by decide) (hts _ m_X6_readOneType_1) (fun _ h9 => h9) rfl dX6_readOneType_3 ?_
  refine lv_istore (lv' := [(4, .int 27), (2, .long 0), (0, .ref a0), (1, .int 1)]) hx hb dX6_readOneType_6 hl (by decide) rfl (fun ls hl2 => ?_)
  replace hl := hl2
  clear hl2
  refine lv_aload_n hx hb dX6_readOneType_8 rfl (lv_at hl 2 rfl) ?_
  have hPc := hP.sub (ws' := [(a0, .inr (6, [.int 0, .int 0, .ref a1, .int 27, .int 1, .int 1, .int 1, .int 1, .ref a2])), (a1, .inr (5, [.ref cb, .int 81, .int 0, .ref a3, .int 4, .ref a4, .int 1, .ref a5, .int 1, .int 1, .ref a6, .int 6, .int 0, .int 1, .int 0]))]) [0, 1] rfl
  have hDc := hD.sub (ws' := [(a0, .inr (6, [.int 0, .int 0, .ref a1, .int 27, .int 1, .int 1, .int 1, .int 1, .ref a2])), (a1, .inr (5, [.ref cb, .int 81, .int 0, .ref a3, .int 4, .ref a4, .int 1, .ref a5, .int 1, .int 1, .ref a6, .int 6, .int 0, .int 1, .int 0]))]) [0, 1] (by decide) rfl
  have hFc := va_free (wc := [(a0, .inr (6, [.int 0, .int 0, .ref a1, .int 27, .int 1, .int 1, .int 1, .int 1, .ref a2])), (a1, .inr (5, [.ref cb, .int 81, .int 0, .ref a3, .int 4, .ref a4, .int 1, .ref a5, .int 1, .int 1, .ref a6, .int 6, .int 0, .int 1, .int 0]))]) hD hS hA [0, 1] rfl
  refine va_calli (va_runV (As := []) (rest := []) ⟨hx, hb, hml, hown, hts⟩ (cc_341_X6_readByte l dC dI cy s.heap.size cb a0 a1 a2 a3 a4 a5 a6) (cwV 0 hts gX6_readOneType_X6_readByte rfl rfl rfl (by decide +kernel) ⟨Nat.le_of_ble_eq_true rfl, Nat.le_of_ble_eq_true rfl⟩) ⟨fun a U g mk q => by obtain ⟨q0, q1, qP, qK, qD, qN, qS⟩ := q; exact ⟨q0, q1, qP, va_K.moved (u := U) (U := U.calling g mk a) (Vm.Alike.refl U.vm) qK, qD, qN.same rfl, SK.moved (u := U) (U := U.calling g mk a) (Vm.Alike.refl U.vm) qS⟩, va_recv hK hPc (ci := 6) (q0 := 0) rfl rfl, fun U hU hW => ⟨rfl, by rw [hU], by rw [hU]; exact hPc, va_K.moved hW.alike hK, hDc.weaken (fun _ _ _ _ => trivial), hN.warm hW, by rw [hU]; exact ((hSK.kept hS.2.1).narrow hFc).moved hW.alike⟩⟩ rfl rfl hl.1 rfl (lv_room (Nat.le_of_ble_eq_true rfl)) dX6_readOneType_9 ⟨Nat.le_of_ble_eq_true rfl, Nat.le_of_ble_eq_true rfl⟩) hS (fun q _ h => hFc q h) hFc (fun r_1 u t H_2 locs ht hvm hw hB hz1 hk1 hS2 => ?_)
  obtain ⟨hP1, hK1, hD1⟩ := hB
  rw [ht] at hP1
  obtain rfl := hw
  obtain ⟨hP2, hD2⟩ := va_join (wr := []) (w1 := [(a0, .inr (6, [.int 0, .int 0, .ref a1, .int 28, .int 1, .int 1, .int 1, .int 1, .ref a2])), (a1, .inr (5, [.ref cb, .int 81, .int 0, .ref a3, .int 4, .ref a4, .int 1, .ref a5, .int 1, .int 1, .ref a6, .int 6, .int 0, .int 1, .int 0]))]) hP hD [0, 1] [] rfl rfl (by decide) (by decide) hk1 hFc hP1 hD1
  replace hP : va_P (dC, dI) vwCl [(a0, .inr (6, [.int 0, .int 0, .ref a1, .int 28, .int 1, .int 1, .int 1, .int 1, .ref a2])), (a1, .inr (5, [.ref cb, .int 81, .int 0, .ref a3, .int 4, .ref a4, .int 1, .ref a5, .int 1, .int 1, .ref a6, .int 6, .int 0, .int 1, .int 0]))] H_2 := hP2
  replace hD : va_D A [(a0, .inr (6, [.int 0, .int 0, .ref a1, .int 28, .int 1, .int 1, .int 1, .int 1, .ref a2])), (a1, .inr (5, [.ref cb, .int 81, .int 0, .ref a3, .int 4, .ref a4, .int 1, .ref a5, .int 1, .int 1, .ref a6, .int 6, .int 0, .int 1, .int 0]))] := hD2
  replace hS := hS2
  clear hP2 hD2 hS2
  clear hPc hDc hFc hP1 hD1 hK1 hk1 hz1 hvm ht
  refine W.widen (k := 0) (n := 0) (Nat.le_of_ble_eq_true rfl) (Nat.le_of_ble_eq_true rfl) ?_
  refine lv_istore (lv' := [(5, .int 6), (4, .int 27), (2, .long 0), (0, .ref a0), (1, .int 1)]) hx hb dX6_readOneType_12 hl (by decide) rfl (fun ls hl2 => ?_)
  replace hl := hl2
  clear hl2
  refine lv_iload_n hx hb dX6_readOneType_14 rfl (lv_at hl 4 rfl) ?_
  refine lv_if_eq (tgt := 48) hx hb dX6_readOneType_15 (by decide) (fun h => absurd h (by decide)) (fun _ => ?_)
  refine lv_iload hx hb dX6_readOneType_18 (lv_at hl 0 rfl) ?_
  refine lv_bipush (v := 8) hx hb dX6_readOneType_20 (by decide) ?_
  refine lv_icmp_eq (tgt := 32) hx hb dX6_readOneType_22 (by decide) (fun h => absurd h (by decide)) (fun _ => ?_)
  refine lv_iload hx hb dX6_readOneType_25 (lv_at hl 0 rfl) ?_
  refine lv_bipush (v := 9) hx hb dX6_readOneType_27 (by decide) ?_
  refine lv_icmp_ne (tgt := 48) hx hb dX6_readOneType_29 (by decide) (fun _ => ?_) (fun h => absurd h (by decide))
  refine lv_iconst (v := 0) hx hb dX6_readOneType_48 (by decide) ?_
  refine lv_istore (lv' := [(6, .int 0), (5, .int 6), (4, .int 27), (2, .long 0), (0, .ref a0), (1, .int 1)]) hx hb dX6_readOneType_49 hl (by decide) rfl (fun ls hl2 => ?_)
  replace hl := hl2
  clear hl2
  refine lv_iload hx hb dX6_readOneType_51 (lv_at hl 0 rfl) ?_
  refine lv_iconst (v := 4) hx hb dX6_readOneType_53 (by decide) ?_
  refine lv_icmp_ge (tgt := 91) hx hb dX6_readOneType_54 (by decide) (fun h => absurd h (by decide)) (fun _ => ?_)
  refine lv_iload hx hb dX6_readOneType_57 (lv_at hl 1 rfl) ?_
  refine lv_bipush (v := 7) hx hb dX6_readOneType_59 (by decide) ?_
  refine lv_icmp_ne (tgt := 91) hx hb dX6_readOneType_61 (by decide) (fun _ => ?_) (fun h => absurd h (by decide))
  refine lv_iload hx hb dX6_readOneType_91 (lv_at hl 1 rfl) ?_
  refine lv_iconst (v := 1) hx hb dX6_readOneType_93 (by decide) ?_
  refine lv_icmp_lt (tgt := 104) hx hb dX6_readOneType_94 (by decide) (fun h => absurd h (by decide)) (fun _ => ?_)
  refine lv_iload hx hb dX6_readOneType_97 (lv_at hl 1 rfl) ?_
  refine lv_bipush (v := 6) hx hb dX6_readOneType_99 (by decide) ?_
  refine lv_icmp_le (tgt := 111) hx hb dX6_readOneType_101 (by decide) (fun _ => ?_) (fun h => absurd (by decide) h)
  refine lv_lload_n hx hb dX6_readOneType_111 rfl (lv_at hl 3 rfl) ?_
  refine lv_bipush (v := 8) hx hb dX6_readOneType_112 (by decide) ?_
  refine lv_lshl (v := 0) hx hb dX6_readOneType_114 (by decide) ?_
  refine lv_iload hx hb dX6_readOneType_115 (lv_at hl 1 rfl) ?_
  refine lv_i2l (v := 6) hx hb dX6_readOneType_117 (by decide) ?_
  refine lv_lor hx hb dX6_readOneType_118 ?_
  refine lv_topl (fun z_3 ez_3 => ?_)
  obtain rfl : z_3 = 6 := ez_3.trans (by decide)
  clear ez_3
  refine lv_lstore_n (lv' := [(2, .long 6), (6, .int 0), (5, .int 6), (4, .int 27), (0, .ref a0), (1, .int 1)]) hx hb dX6_readOneType_119 rfl hl (by decide) rfl (fun ls hl2 => ?_)
  replace hl := hl2
  clear hl2
  refine lv_iload hx hb dX6_readOneType_120 (lv_at hl 2 rfl) ?_
  refine lv_bipush (v := 6) hx hb dX6_readOneType_122 (by decide) ?_
  refine lv_icmp_eq (tgt := 129) hx hb dX6_readOneType_124 (by decide) (fun _ => ?_) (fun h => absurd (by decide) h)
  refine lv_aload_n hx hb dX6_readOneType_129 rfl (lv_at hl 4 rfl) ?_
  refine va_get (D := (dC, dI)) (ci := 6) (v := .int 28) (C := RX6) (T := TX6) (N := 9) hx hb hts iw_X6_readOneType_X6 hown hK hP 0 rfl rfl 3 (by decide) (hts _ m_X6_readOneType_1) (fun _ h9 => h9) rfl dX6_readOneType_130 ?_
  refine lv_istore (lv' := [(4, .int 28), (2, .long 6), (6, .int 0), (5, .int 6), (0, .ref a0), (1, .int 1)]) hx hb dX6_readOneType_133 hl (by decide) rfl (fun ls hl2 => ?_)
  replace hl := hl2
  clear hl2
  refine lv_aload_n hx hb dX6_readOneType_135 rfl (lv_at hl 4 rfl) ?_
  have hPc := hP.sub (ws' := [(a0, .inr (6, [.int 0, .int 0, .ref a1, .int 28, .int 1, .int 1, .int 1, .int 1, .ref a2])), (a1, .inr (5, [.ref cb, .int 81, .int 0, .ref a3, .int 4, .ref a4, .int 1, .ref a5, .int 1, .int 1, .ref a6, .int 6, .int 0, .int 1, .int 0]))]) [0, 1] rfl
  have hDc := hD.sub (ws' := [(a0, .inr (6, [.int 0, .int 0, .ref a1, .int 28, .int 1, .int 1, .int 1, .int 1, .ref a2])), (a1, .inr (5, [.ref cb, .int 81, .int 0, .ref a3, .int 4, .ref a4, .int 1, .ref a5, .int 1, .int 1, .ref a6, .int 6, .int 0, .int 1, .int 0]))]) [0, 1] (by decide) rfl
  have hFc := va_free (wc := [(a0, .inr (6, [.int 0, .int 0, .ref a1, .int 28, .int 1, .int 1, .int 1, .int 1, .ref a2])), (a1, .inr (5, [.ref cb, .int 81, .int 0, .ref a3, .int 4, .ref a4, .int 1, .ref a5, .int 1, .int 1, .ref a6, .int 6, .int 0, .int 1, .int 0]))]) hD hS hA [0, 1] rfl
  refine va_calli (va_runV (As := []) (rest := []) ⟨hx, hb, hml, hown, hts⟩ (cc_342_X6_readByte l dC dI cy H_2.size cb a0 a1 a2 a3 a4 a5 a6) (cwV 0 hts gX6_readOneType_X6_readByte rfl rfl rfl (by decide +kernel) ⟨Nat.le_of_ble_eq_true rfl, Nat.le_of_ble_eq_true rfl⟩) ⟨fun a U g mk q => by obtain ⟨q0, q1, qP, qK, qD, qN, qS⟩ := q; exact ⟨q0, q1, qP, va_K.moved (u := U) (U := U.calling g mk a) (Vm.Alike.refl U.vm) qK, qD, qN.same rfl, SK.moved (u := U) (U := U.calling g mk a) (Vm.Alike.refl U.vm) qS⟩, va_recv hK hPc (ci := 6) (q0 := 0) rfl rfl, fun U hU hW => ⟨rfl, by rw [hU], by rw [hU]; exact hPc, va_K.moved hW.alike hK, hDc.weaken (fun _ _ _ _ => trivial), hN.warm hW, by rw [hU]; exact ((hSK.kept hS.2.1).narrow hFc).moved hW.alike⟩⟩ rfl rfl hl.1 rfl (lv_room (Nat.le_of_ble_eq_true rfl)) dX6_readOneType_136 ⟨Nat.le_of_ble_eq_true rfl, Nat.le_of_ble_eq_true rfl⟩) hS (fun q _ h => hFc q h) hFc (fun r_4 u t H_5 locs ht hvm hw hB hz1 hk1 hS2 => ?_)
  obtain ⟨hP1, hK1, hD1⟩ := hB
  rw [ht] at hP1
  obtain rfl := hw
  obtain ⟨hP2, hD2⟩ := va_join (wr := []) (w1 := [(a0, .inr (6, [.int 0, .int 0, .ref a1, .int 29, .int 1, .int 1, .int 1, .int 1, .ref a2])), (a1, .inr (5, [.ref cb, .int 81, .int 0, .ref a3, .int 4, .ref a4, .int 1, .ref a5, .int 1, .int 1, .ref a6, .int 6, .int 0, .int 1, .int 0]))]) hP hD [0, 1] [] rfl rfl (by decide) (by decide) hk1 hFc hP1 hD1
  replace hP : va_P (dC, dI) vwCl [(a0, .inr (6, [.int 0, .int 0, .ref a1, .int 29, .int 1, .int 1, .int 1, .int 1, .ref a2])), (a1, .inr (5, [.ref cb, .int 81, .int 0, .ref a3, .int 4, .ref a4, .int 1, .ref a5, .int 1, .int 1, .ref a6, .int 6, .int 0, .int 1, .int 0]))] H_5 := hP2
  replace hD : va_D A [(a0, .inr (6, [.int 0, .int 0, .ref a1, .int 29, .int 1, .int 1, .int 1, .int 1, .ref a2])), (a1, .inr (5, [.ref cb, .int 81, .int 0, .ref a3, .int 4, .ref a4, .int 1, .ref a5, .int 1, .int 1, .ref a6, .int 6, .int 0, .int 1, .int 0]))] := hD2
  replace hS := hS2
  clear hP2 hD2 hS2
  clear hPc hDc hFc hP1 hD1 hK1 hk1 hz1 hvm ht
  refine W.widen (k := 0) (n := 0) (Nat.le_of_ble_eq_true rfl) (Nat.le_of_ble_eq_true rfl) ?_
  refine lv_istore (lv' := [(6, .int 0), (4, .int 28), (2, .long 6), (5, .int 6), (0, .ref a0), (1, .int 1)]) hx hb dX6_readOneType_139 hl (by decide) rfl (fun ls hl2 => ?_)
  replace hl := hl2
  clear hl2
  refine lv_aload_n hx hb dX6_readOneType_141 rfl (lv_at hl 4 rfl) ?_
  refine va_get (D := (dC, dI)) (ci := 6) (v := .int 1) (C := RX6) (T := TX6) (N := 9) hx hb hts iw_X6_readOneType_X6 hown hK hP 0 rfl rfl 4 (by decide) (hts _ m_X6_readOneType_2) (fun _ h9 => h9) rfl dX6_readOneType_142 ?_
  refine lv_if_eq (tgt := 168) hx hb dX6_readOneType_145 (by decide) (fun h => absurd h (by decide)) (fun _ => ?_)
  refine lv_iload hx hb dX6_readOneType_148 (lv_at hl 0 rfl) ?_
  refine lv_aload_n hx hb dX6_readOneType_150 rfl (lv_at hl 4 rfl) ?_
  refine va_get (D := (dC, dI)) (ci := 6) (v := .ref a1) (C := RX6) (T := TX6) (N := 9) hx hb hts iw_X6_readOneType_X6 hown hK hP 0 rfl rfl 2 (by decide) (hts _ m_X6_readOneType_3) (fun _ h9 => h9) rfl dX6_readOneType_151 ?_
  refine va_get (D := (dC, dI)) (ci := 5) (v := .int 1) (C := RX5) (T := TX5) (N := 15) hx hb hts iw_X6_readOneType_X5 hown hK hP 1 rfl rfl 9 (by decide) (hts _ m_X6_readOneType_4) (fun _ h9 => h9) rfl dX6_readOneType_154 ?_
  refine lv_icmp_lt (tgt := 168) hx hb dX6_readOneType_157 (by decide) (fun _ => ?_) (fun h => absurd (by decide) h)
  refine lv_lload_n hx hb dX6_readOneType_168 rfl (lv_at hl 2 rfl) ?_
  refine lv_bipush (v := 8) hx hb dX6_readOneType_169 (by decide) ?_
  refine lv_lshl (v := 1536) hx hb dX6_readOneType_171 (by decide) ?_
  refine lv_iload hx hb dX6_readOneType_172 (lv_at hl 0 rfl) ?_
  refine lv_i2l (v := 0) hx hb dX6_readOneType_174 (by decide) ?_
  refine lv_lor hx hb dX6_readOneType_175 ?_
  refine lv_topl (fun z_6 ez_6 => ?_)
  obtain rfl : z_6 = 1536 := ez_6.trans (by decide)
  clear ez_6
  exact W.lret hx hb hr (fun t ht hW => ⟨⟨1536, (), rfl, rfl, by rw [ht]; exact hP, va_K.moved hW.alike hK, hD⟩, hS.F ht⟩) hS.2.2 dX6_readOneType_176

set_option maxHeartbeats 4000000 in
set_option maxRecDepth 100000 in
theorem cc_337_X6_readTypes (l : Launch) (dC : Nat → ClassId) (dI : Nat → Nat → Nat) (cy : Nat → ClassId) (sz : Nat) (cb : Nat) (a0 : Nat) (a1 : Nat) (a2 : Nat) (a3 : Nat) (a4 : Nat) (a5 : Nat) (a6 : Nat) (f0 : Nat → Int64) (f0_0 : f0 0 = 3) : Met l yX6_readTypes wsX6_readTypes ({ frames := 2, cells := 0, slots := 0, locals := 46 }) (va_Pc [.ref a0, .int 2, .int 1] (fun U => U.heap.size = sz ∧ va_P (dC, dI) vwCl [(a0, .inr (6, [.int 0, .int 0, .ref a1, .int 26, .int 1, .int 1, .int 1, .int 1, .ref a3])), (a1, .inr (5, [.ref cb, .int 81, .int 0, .ref a2, .int 3, .ref a4, .int 1, .ref a5, .int 1, .int 1, .ref a6, .int 6, .int 0, .int 1, .int 0])), (a2, .inl (cy 2, 2048, .inr (.inl f0)))] U.heap ∧ va_K (dC, dI) vwCl (TYS cy) U ∧ va_D (fun _ => True) [(a0, .inr (6, [.int 0, .int 0, .ref a1, .int 26, .int 1, .int 1, .int 1, .int 1, .ref a3])), (a1, .inr (5, [.ref cb, .int 81, .int 0, .ref a2, .int 3, .ref a4, .int 1, .ref a5, .int 1, .int 1, .ref a6, .int 6, .int 0, .int 1, .int 0])), (a2, .inl (cy 2, 2048, .inr (.inl f0)))] ∧ NK U ∧ SK cb (va_A [(a0, .inr (6, [.int 0, .int 0, .ref a1, .int 26, .int 1, .int 1, .int 1, .int 1, .ref a3])), (a1, .inr (5, [.ref cb, .int 81, .int 0, .ref a2, .int 3, .ref a4, .int 1, .ref a5, .int 1, .int 1, .ref a6, .int 6, .int 0, .int 1, .int 0])), (a2, .inl (cy 2, 2048, .inr (.inl f0)))] sz) U U.heap)) (va_Qv (fun u : (Nat → Int64) => match u with | (u0) => u0 0 = 3) (fun u t => match u with | (u0) => va_P (dC, dI) vwCl [(a0, .inr (6, [.int 0, .int 0, .ref a1, .int 29, .int 1, .int 1, .int 1, .int 1, .ref a3])), (a1, .inr (5, [.ref cb, .int 81, .int 0, .ref a2, .int 5, .ref a4, .int 1, .ref a5, .int 1, .int 1, .ref a6, .int 6, .int 0, .int 1, .int 0])), (a2, .inl (cy 2, 2048, .inr (.inl u0)))] t.heap ∧ va_K (dC, dI) vwCl (TYS cy) t ∧ va_D (va_A [(a0, .inr (6, [.int 0, .int 0, .ref a1, .int 26, .int 1, .int 1, .int 1, .int 1, .ref a3])), (a1, .inr (5, [.ref cb, .int 81, .int 0, .ref a2, .int 3, .ref a4, .int 1, .ref a5, .int 1, .int 1, .ref a6, .int 6, .int 0, .int 1, .int 0])), (a2, .inl (cy 2, 2048, .inr (.inl f0)))] sz) [(a0, .inr (6, [.int 0, .int 0, .ref a1, .int 29, .int 1, .int 1, .int 1, .int 1, .ref a3])), (a1, .inr (5, [.ref cb, .int 81, .int 0, .ref a2, .int 5, .ref a4, .int 1, .ref a5, .int 1, .int 1, .ref a6, .int 6, .int 0, .int 1, .int 0])), (a2, .inl (cy 2, 2048, .inr (.inl u0)))]) (va_A [(a0, .inr (6, [.int 0, .int 0, .ref a1, .int 26, .int 1, .int 1, .int 1, .int 1, .ref a3])), (a1, .inr (5, [.ref cb, .int 81, .int 0, .ref a2, .int 3, .ref a4, .int 1, .ref a5, .int 1, .int 1, .ref a6, .int 6, .int 0, .int 1, .int 0])), (a2, .inl (cy 2, 2048, .inr (.inl f0)))] sz)) 0 0 (va_A [(a0, .inr (6, [.int 0, .int 0, .ref a1, .int 26, .int 1, .int 1, .int 1, .int 1, .ref a3])), (a1, .inr (5, [.ref cb, .int 81, .int 0, .ref a2, .int 3, .ref a4, .int 1, .ref a5, .int 1, .int 1, .ref a6, .int 6, .int 0, .int 1, .int 0])), (a2, .inl (cy 2, 2048, .inr (.inl f0)))] sz) := by
  refine Met.ofW (cc := cX6_readTypes) (maxL := 4) (ret := none) (by decide) rfl ?_
  intro p e s m args below meth c s₁ B hml hv
  obtain ⟨rfl, hsz, hP, hK, hD0, hN, hSK⟩ := hv
  have hx := B.exec
  have hb := B.bytes
  have hr := B.returns
  have hts := atoms_spec (ws := wsX6_readTypes) B.pre
  have hown : s.vm.findClass RX6 = some m.cls := findClass_of_methodNamed B.named
  have hlocks := B.notSynchronized
  subst hsz
  have hD := hD0.self (sz := s.heap.size)
  generalize hAe : va_A [(a0, .inr (6, [.int 0, .int 0, .ref a1, .int 26, .int 1, .int 1, .int 1, .int 1, .ref a3])), (a1, .inr (5, [.ref cb, .int 81, .int 0, .ref a2, .int 3, .ref a4, .int 1, .ref a5, .int 1, .int 1, .ref a6, .int 6, .int 0, .int 1, .int 0])), (a2, .inl (cy 2, 2048, .inr (.inl f0)))] s.heap.size = A at hD hSK ⊢
  have hA : ∀ q : Nat, s.heap.size ≤ q → A q := fun q h => by rw [← hAe]; exact Or.inr h
  have hS : va_S A s.heap s.heap [] := va_S.rf
  have hP : va_P (dC, dI) vwCl [(a0, .inr (6, [.int 0, .int 0, .ref a1, .int 26, .int 1, .int 1, .int 1, .int 1, .ref a3])), (a1, .inr (5, [.ref cb, .int 81, .int 0, .ref a2, .int 3, .ref a4, .int 1, .ref a5, .int 1, .int 1, .ref a6, .int 6, .int 0, .int 1, .int 0])), (a2, .inl (cy 2, 2048, .inr (.inl f0)))] s.heap := hP
  have hl := lv_entry ([.ref a0, .int 2, .int 1]) (n := 4) (Nat.le_of_ble_eq_true rfl)
  rw [lg_entry_eq]
  generalize (lg_sl ([.ref a0, .int 2, .int 1]) ++ List.replicate (4 - (lg_sl ([.ref a0, .int 2, .int 1])).length) Slot.unset).toArray = ls at hl ⊢
  replace hl : lv_has ls 4 [(0, .ref a0), (1, .int 2), (2, .int 1)] := hl
  refine lv_iconst (v := 0) hx hb dX6_readTypes_0 (by decide) ?_
  refine lv_istore_n (lv' := [(3, .int 0), (0, .ref a0), (1, .int 2), (2, .int 1)]) hx hb dX6_readTypes_1 rfl hl (by decide) rfl (fun ls hl2 => ?_)
  replace hl := hl2
  clear hl2
  refine lv_iload_n hx hb dX6_readTypes_2 rfl (lv_at hl 0 rfl) ?_
  refine lv_iload_n hx hb dX6_readTypes_3 rfl (lv_at hl 2 rfl) ?_
  refine lv_icmp_ge (tgt := 32) hx hb dX6_readTypes_4 (by decide) (fun h => absurd h (by decide)) (fun _ => ?_)
  refine lv_aload_n hx hb dX6_readTypes_7 rfl (lv_at hl 1 rfl) ?_
  refine va_get (D := (dC, dI)) (ci := 6) (v := .int 0) (C := RX6) (T := TX6) (N := 9) hx hb hts iw_X6_readTypes_X6 hown hK hP 0 rfl rfl 1 (by decide) (hts _ m_X6_readTypes_1) (fun _ h9 => h9) rfl dX6_readTypes_8 ?_
  refine lv_if_ne (tgt := 32) hx hb dX6_readTypes_11 (by decide) (fun h => absurd (by decide) h) (fun _ => ?_)
  refine lv_aload_n hx hb dX6_readTypes_14 rfl (lv_at hl 1 rfl) ?_
  refine va_get (D := (dC, dI)) (ci := 6) (v := .ref a1) (C := RX6) (T := TX6) (N := 9) hx hb hts iw_X6_readTypes_X6 hown hK hP 0 rfl rfl 2 (by decide) (hts _ m_X6_readTypes_2) (fun _ h9 => h9) rfl dX6_readTypes_15 ?_
  refine lv_aload_n hx hb dX6_readTypes_18 rfl (lv_at hl 1 rfl) ?_
  refine lv_iload_n hx hb dX6_readTypes_19 rfl (lv_at hl 3 rfl) ?_
  have hPc := hP.sub (ws' := [(a0, .inr (6, [.int 0, .int 0, .ref a1, .int 26, .int 1, .int 1, .int 1, .int 1, .ref a3])), (a1, .inr (5, [.ref cb, .int 81, .int 0, .ref a2, .int 3, .ref a4, .int 1, .ref a5, .int 1, .int 1, .ref a6, .int 6, .int 0, .int 1, .int 0]))]) [0, 1] rfl
  have hDc := hD.sub (ws' := [(a0, .inr (6, [.int 0, .int 0, .ref a1, .int 26, .int 1, .int 1, .int 1, .int 1, .ref a3])), (a1, .inr (5, [.ref cb, .int 81, .int 0, .ref a2, .int 3, .ref a4, .int 1, .ref a5, .int 1, .int 1, .ref a6, .int 6, .int 0, .int 1, .int 0]))]) [0, 1] (by decide) rfl
  have hFc := va_free (wc := [(a0, .inr (6, [.int 0, .int 0, .ref a1, .int 26, .int 1, .int 1, .int 1, .int 1, .ref a3])), (a1, .inr (5, [.ref cb, .int 81, .int 0, .ref a2, .int 3, .ref a4, .int 1, .ref a5, .int 1, .int 1, .ref a6, .int 6, .int 0, .int 1, .int 0]))]) hD hS hA [0, 1] rfl
  refine va_calll (va_runV (As := [.int 1]) (rest := [.ref a1]) ⟨hx, hb, hml, hown, hts⟩ (cc_338_X6_readOneType l dC dI cy s.heap.size cb a0 a1 a3 a2 a4 a5 a6) (cwV 1 hts gX6_readTypes_X6_readOneType rfl rfl rfl (by decide +kernel) ⟨Nat.le_of_ble_eq_true rfl, Nat.le_of_ble_eq_true rfl⟩) ⟨fun a U g mk q => by obtain ⟨q0, q1, qP, qK, qD, qN, qS⟩ := q; exact ⟨q0, q1, qP, va_K.moved (u := U) (U := U.calling g mk a) (Vm.Alike.refl U.vm) qK, qD, qN.same rfl, SK.moved (u := U) (U := U.calling g mk a) (Vm.Alike.refl U.vm) qS⟩, va_recv hK hPc (ci := 6) (q0 := 0) rfl rfl, fun U hU hW => ⟨rfl, by rw [hU], by rw [hU]; exact hPc, va_K.moved hW.alike hK, hDc.weaken (fun _ _ _ _ => trivial), hN.warm hW, by rw [hU]; exact ((hSK.kept hS.2.1).narrow hFc).moved hW.alike⟩⟩ rfl rfl hl.1 rfl (lv_room (Nat.le_of_ble_eq_true rfl)) dX6_readTypes_20 ⟨Nat.le_of_ble_eq_true rfl, Nat.le_of_ble_eq_true rfl⟩) hS (fun q _ h => hFc q h) hFc (fun r_1 u t H_2 locs ht hvm hw hB hz1 hk1 hS2 => ?_)
  obtain ⟨hP1, hK1, hD1⟩ := hB
  rw [ht] at hP1
  obtain rfl := hw
  obtain ⟨hP2, hD2⟩ := va_join (wr := [(a2, .inl (cy 2, 2048, .inr (.inl f0)))]) (w1 := [(a0, .inr (6, [.int 0, .int 0, .ref a1, .int 27, .int 1, .int 1, .int 1, .int 1, .ref a3])), (a1, .inr (5, [.ref cb, .int 81, .int 0, .ref a2, .int 3, .ref a4, .int 1, .ref a5, .int 1, .int 1, .ref a6, .int 6, .int 0, .int 1, .int 0]))]) hP hD [0, 1] [2] rfl rfl (by decide) (by decide) hk1 hFc hP1 hD1
  replace hP : va_P (dC, dI) vwCl [(a2, .inl (cy 2, 2048, .inr (.inl f0))), (a0, .inr (6, [.int 0, .int 0, .ref a1, .int 27, .int 1, .int 1, .int 1, .int 1, .ref a3])), (a1, .inr (5, [.ref cb, .int 81, .int 0, .ref a2, .int 3, .ref a4, .int 1, .ref a5, .int 1, .int 1, .ref a6, .int 6, .int 0, .int 1, .int 0]))] H_2 := hP2
  replace hD : va_D A [(a2, .inl (cy 2, 2048, .inr (.inl f0))), (a0, .inr (6, [.int 0, .int 0, .ref a1, .int 27, .int 1, .int 1, .int 1, .int 1, .ref a3])), (a1, .inr (5, [.ref cb, .int 81, .int 0, .ref a2, .int 3, .ref a4, .int 1, .ref a5, .int 1, .int 1, .ref a6, .int 6, .int 0, .int 1, .int 0]))] := hD2
  replace hS := hS2
  clear hP2 hD2 hS2
  clear hPc hDc hFc hP1 hD1 hK1 hk1 hz1 hvm ht
  refine W.widen (k := 0) (n := 0) (Nat.le_of_ble_eq_true rfl) (Nat.le_of_ble_eq_true rfl) ?_
  have hPc := hP.sub (ws' := [(a1, .inr (5, [.ref cb, .int 81, .int 0, .ref a2, .int 3, .ref a4, .int 1, .ref a5, .int 1, .int 1, .ref a6, .int 6, .int 0, .int 1, .int 0])), (a2, .inl (cy 2, 2048, .inr (.inl f0)))]) [2, 0] rfl
  have hDc := hD.sub (ws' := [(a1, .inr (5, [.ref cb, .int 81, .int 0, .ref a2, .int 3, .ref a4, .int 1, .ref a5, .int 1, .int 1, .ref a6, .int 6, .int 0, .int 1, .int 0])), (a2, .inl (cy 2, 2048, .inr (.inl f0)))]) [2, 0] (by decide) rfl
  have hFc := va_free (wc := [(a1, .inr (5, [.ref cb, .int 81, .int 0, .ref a2, .int 3, .ref a4, .int 1, .ref a5, .int 1, .int 1, .ref a6, .int 6, .int 0, .int 1, .int 0])), (a2, .inl (cy 2, 2048, .inr (.inl f0)))]) hD hS hA [2, 0] rfl
  refine va_callv (va_runV (As := [.long 5]) (rest := []) ⟨hx, hb, hml, hown, hts⟩ (cc_89_X5_addType l dC dI cy H_2.size cb a1 a2 a4 a5 a6 f0 f0_0) (cwV 1 hts gX6_readTypes_X5_addType rfl rfl rfl (by decide +kernel) ⟨Nat.le_of_ble_eq_true rfl, Nat.le_of_ble_eq_true rfl⟩) ⟨fun a U g mk q => by obtain ⟨q0, q1, qP, qK, qD, qN, qS⟩ := q; exact ⟨q0, q1, qP, va_K.moved (u := U) (U := U.calling g mk a) (Vm.Alike.refl U.vm) qK, qD, qN.same rfl, SK.moved (u := U) (U := U.calling g mk a) (Vm.Alike.refl U.vm) qS⟩, va_recv hK hPc (ci := 5) (q0 := 0) rfl rfl, fun U hU hW => ⟨rfl, by rw [hU], by rw [hU]; exact hPc, va_K.moved hW.alike hK, hDc.weaken (fun _ _ _ _ => trivial), hN.warm hW, by rw [hU]; exact ((hSK.kept hS.2.1).narrow hFc).moved hW.alike⟩⟩ rfl rfl hl.1 rfl (lv_room (Nat.le_of_ble_eq_true rfl)) dX6_readTypes_23 ⟨Nat.le_of_ble_eq_true rfl, Nat.le_of_ble_eq_true rfl⟩) hS (fun q _ h => hFc q h) hFc (fun u t H_3 locs ht hvm hw hB hz1 hk1 hS2 => ?_)
  obtain ⟨g_4, rfl⟩ : ∃ z, z = u := ⟨_, rfl⟩
  obtain ⟨hP1, hK1, hD1⟩ := hB
  rw [ht] at hP1
  have kp_5 := hw
  obtain ⟨hP2, hD2⟩ := va_join (wr := [(a0, .inr (6, [.int 0, .int 0, .ref a1, .int 27, .int 1, .int 1, .int 1, .int 1, .ref a3]))]) (w1 := [(a1, .inr (5, [.ref cb, .int 81, .int 0, .ref a2, .int 4, .ref a4, .int 1, .ref a5, .int 1, .int 1, .ref a6, .int 6, .int 0, .int 1, .int 0])), (a2, .inl (cy 2, 2048, .inr (.inl g_4)))]) hP hD [2, 0] [1] rfl rfl (by decide) (by decide) hk1 hFc hP1 hD1
  replace hP : va_P (dC, dI) vwCl [(a0, .inr (6, [.int 0, .int 0, .ref a1, .int 27, .int 1, .int 1, .int 1, .int 1, .ref a3])), (a1, .inr (5, [.ref cb, .int 81, .int 0, .ref a2, .int 4, .ref a4, .int 1, .ref a5, .int 1, .int 1, .ref a6, .int 6, .int 0, .int 1, .int 0])), (a2, .inl (cy 2, 2048, .inr (.inl g_4)))] H_3 := hP2
  replace hD : va_D A [(a0, .inr (6, [.int 0, .int 0, .ref a1, .int 27, .int 1, .int 1, .int 1, .int 1, .ref a3])), (a1, .inr (5, [.ref cb, .int 81, .int 0, .ref a2, .int 4, .ref a4, .int 1, .ref a5, .int 1, .int 1, .ref a6, .int 6, .int 0, .int 1, .int 0])), (a2, .inl (cy 2, 2048, .inr (.inl g_4)))] := hD2
  replace hS := hS2
  clear hP2 hD2 hS2
  clear hPc hDc hFc hP1 hD1 hK1 hk1 hz1 hvm ht
  refine W.widen (k := 0) (n := 0) (Nat.le_of_ble_eq_true rfl) (Nat.le_of_ble_eq_true rfl) ?_
  refine lv_iinc (v := 1) (lv' := [(3, .int 1), (0, .ref a0), (1, .int 2), (2, .int 1)]) hx hb dX6_readTypes_26 hl (k := 0) rfl (by decide) (by decide) rfl (fun ls hl2 => ?_)
  replace hl := hl2
  clear hl2
  refine lv_goto (tgt := 2) hx hb dX6_readTypes_29 (by decide) ?_
  refine lv_iload_n hx hb dX6_readTypes_2 rfl (lv_at hl 0 rfl) ?_
  refine lv_iload_n hx hb dX6_readTypes_3 rfl (lv_at hl 2 rfl) ?_
  refine lv_icmp_ge (tgt := 32) hx hb dX6_readTypes_4 (by decide) (fun h => absurd h (by decide)) (fun _ => ?_)
  refine lv_aload_n hx hb dX6_readTypes_7 rfl (lv_at hl 1 rfl) ?_
  refine va_get (D := (dC, dI)) (ci := 6) (v := .int 0) (C := RX6) (T := TX6) (N := 9) hx hb hts iw_X6_readTypes_X6 hown hK hP 0 rfl rfl 1 (by decide) (hts _ m_X6_readTypes_1) (fun _ h9 => h9) rfl dX6_readTypes_8 ?_
  refine lv_if_ne (tgt := 32) hx hb dX6_readTypes_11 (by decide) (fun h => absurd (by decide) h) (fun _ => ?_)
  refine lv_aload_n hx hb dX6_readTypes_14 rfl (lv_at hl 1 rfl) ?_
  refine va_get (D := (dC, dI)) (ci := 6) (v := .ref a1) (C := RX6) (T := TX6) (N := 9) hx hb hts iw_X6_readTypes_X6 hown hK hP 0 rfl rfl 2 (by decide) (hts _ m_X6_readTypes_2) (fun _ h9 => h9) rfl dX6_readTypes_15 ?_
  refine lv_aload_n hx hb dX6_readTypes_18 rfl (lv_at hl 1 rfl) ?_
  refine lv_iload_n hx hb dX6_readTypes_19 rfl (lv_at hl 3 rfl) ?_
  have hPc := hP.sub (ws' := [(a0, .inr (6, [.int 0, .int 0, .ref a1, .int 27, .int 1, .int 1, .int 1, .int 1, .ref a3])), (a1, .inr (5, [.ref cb, .int 81, .int 0, .ref a2, .int 4, .ref a4, .int 1, .ref a5, .int 1, .int 1, .ref a6, .int 6, .int 0, .int 1, .int 0]))]) [0, 1] rfl
  have hDc := hD.sub (ws' := [(a0, .inr (6, [.int 0, .int 0, .ref a1, .int 27, .int 1, .int 1, .int 1, .int 1, .ref a3])), (a1, .inr (5, [.ref cb, .int 81, .int 0, .ref a2, .int 4, .ref a4, .int 1, .ref a5, .int 1, .int 1, .ref a6, .int 6, .int 0, .int 1, .int 0]))]) [0, 1] (by decide) rfl
  have hFc := va_free (wc := [(a0, .inr (6, [.int 0, .int 0, .ref a1, .int 27, .int 1, .int 1, .int 1, .int 1, .ref a3])), (a1, .inr (5, [.ref cb, .int 81, .int 0, .ref a2, .int 4, .ref a4, .int 1, .ref a5, .int 1, .int 1, .ref a6, .int 6, .int 0, .int 1, .int 0]))]) hD hS hA [0, 1] rfl
  refine va_calll (va_runV (As := [.int 1]) (rest := [.ref a1]) ⟨hx, hb, hml, hown, hts⟩ (cc_340_X6_readOneType l dC dI cy H_3.size cb a0 a1 a3 a2 a4 a5 a6) (cwV 1 hts gX6_readTypes_X6_readOneType rfl rfl rfl (by decide +kernel) ⟨Nat.le_of_ble_eq_true rfl, Nat.le_of_ble_eq_true rfl⟩) ⟨fun a U g mk q => by obtain ⟨q0, q1, qP, qK, qD, qN, qS⟩ := q; exact ⟨q0, q1, qP, va_K.moved (u := U) (U := U.calling g mk a) (Vm.Alike.refl U.vm) qK, qD, qN.same rfl, SK.moved (u := U) (U := U.calling g mk a) (Vm.Alike.refl U.vm) qS⟩, va_recv hK hPc (ci := 6) (q0 := 0) rfl rfl, fun U hU hW => ⟨rfl, by rw [hU], by rw [hU]; exact hPc, va_K.moved hW.alike hK, hDc.weaken (fun _ _ _ _ => trivial), hN.warm hW, by rw [hU]; exact ((hSK.kept hS.2.1).narrow hFc).moved hW.alike⟩⟩ rfl rfl hl.1 rfl (lv_room (Nat.le_of_ble_eq_true rfl)) dX6_readTypes_20 ⟨Nat.le_of_ble_eq_true rfl, Nat.le_of_ble_eq_true rfl⟩) hS (fun q _ h => hFc q h) hFc (fun r_6 u t H_7 locs ht hvm hw hB hz1 hk1 hS2 => ?_)
  obtain ⟨hP1, hK1, hD1⟩ := hB
  rw [ht] at hP1
  obtain rfl := hw
  obtain ⟨hP2, hD2⟩ := va_join (wr := [(a2, .inl (cy 2, 2048, .inr (.inl g_4)))]) (w1 := [(a0, .inr (6, [.int 0, .int 0, .ref a1, .int 29, .int 1, .int 1, .int 1, .int 1, .ref a3])), (a1, .inr (5, [.ref cb, .int 81, .int 0, .ref a2, .int 4, .ref a4, .int 1, .ref a5, .int 1, .int 1, .ref a6, .int 6, .int 0, .int 1, .int 0]))]) hP hD [0, 1] [2] rfl rfl (by decide) (by decide) hk1 hFc hP1 hD1
  replace hP : va_P (dC, dI) vwCl [(a2, .inl (cy 2, 2048, .inr (.inl g_4))), (a0, .inr (6, [.int 0, .int 0, .ref a1, .int 29, .int 1, .int 1, .int 1, .int 1, .ref a3])), (a1, .inr (5, [.ref cb, .int 81, .int 0, .ref a2, .int 4, .ref a4, .int 1, .ref a5, .int 1, .int 1, .ref a6, .int 6, .int 0, .int 1, .int 0]))] H_7 := hP2
  replace hD : va_D A [(a2, .inl (cy 2, 2048, .inr (.inl g_4))), (a0, .inr (6, [.int 0, .int 0, .ref a1, .int 29, .int 1, .int 1, .int 1, .int 1, .ref a3])), (a1, .inr (5, [.ref cb, .int 81, .int 0, .ref a2, .int 4, .ref a4, .int 1, .ref a5, .int 1, .int 1, .ref a6, .int 6, .int 0, .int 1, .int 0]))] := hD2
  replace hS := hS2
  clear hP2 hD2 hS2
  clear hPc hDc hFc hP1 hD1 hK1 hk1 hz1 hvm ht
  refine W.widen (k := 0) (n := 0) (Nat.le_of_ble_eq_true rfl) (Nat.le_of_ble_eq_true rfl) ?_
  have hPc := hP.sub (ws' := [(a1, .inr (5, [.ref cb, .int 81, .int 0, .ref a2, .int 4, .ref a4, .int 1, .ref a5, .int 1, .int 1, .ref a6, .int 6, .int 0, .int 1, .int 0])), (a2, .inl (cy 2, 2048, .inr (.inl g_4)))]) [2, 0] rfl
  have hDc := hD.sub (ws' := [(a1, .inr (5, [.ref cb, .int 81, .int 0, .ref a2, .int 4, .ref a4, .int 1, .ref a5, .int 1, .int 1, .ref a6, .int 6, .int 0, .int 1, .int 0])), (a2, .inl (cy 2, 2048, .inr (.inl g_4)))]) [2, 0] (by decide) rfl
  have hFc := va_free (wc := [(a1, .inr (5, [.ref cb, .int 81, .int 0, .ref a2, .int 4, .ref a4, .int 1, .ref a5, .int 1, .int 1, .ref a6, .int 6, .int 0, .int 1, .int 0])), (a2, .inl (cy 2, 2048, .inr (.inl g_4)))]) hD hS hA [2, 0] rfl
  refine va_callv (va_runV (As := [.long 1536]) (rest := []) ⟨hx, hb, hml, hown, hts⟩ (cc_93_X5_addType l dC dI cy H_7.size cb a1 a2 a4 a5 a6 g_4 kp_5) (cwV 1 hts gX6_readTypes_X5_addType rfl rfl rfl (by decide +kernel) ⟨Nat.le_of_ble_eq_true rfl, Nat.le_of_ble_eq_true rfl⟩) ⟨fun a U g mk q => by obtain ⟨q0, q1, qP, qK, qD, qN, qS⟩ := q; exact ⟨q0, q1, qP, va_K.moved (u := U) (U := U.calling g mk a) (Vm.Alike.refl U.vm) qK, qD, qN.same rfl, SK.moved (u := U) (U := U.calling g mk a) (Vm.Alike.refl U.vm) qS⟩, va_recv hK hPc (ci := 5) (q0 := 0) rfl rfl, fun U hU hW => ⟨rfl, by rw [hU], by rw [hU]; exact hPc, va_K.moved hW.alike hK, hDc.weaken (fun _ _ _ _ => trivial), hN.warm hW, by rw [hU]; exact ((hSK.kept hS.2.1).narrow hFc).moved hW.alike⟩⟩ rfl rfl hl.1 rfl (lv_room (Nat.le_of_ble_eq_true rfl)) dX6_readTypes_23 ⟨Nat.le_of_ble_eq_true rfl, Nat.le_of_ble_eq_true rfl⟩) hS (fun q _ h => hFc q h) hFc (fun u t H_8 locs ht hvm hw hB hz1 hk1 hS2 => ?_)
  obtain ⟨g_9, rfl⟩ : ∃ z, z = u := ⟨_, rfl⟩
  obtain ⟨hP1, hK1, hD1⟩ := hB
  rw [ht] at hP1
  have kp_10 := hw
  obtain ⟨hP2, hD2⟩ := va_join (wr := [(a0, .inr (6, [.int 0, .int 0, .ref a1, .int 29, .int 1, .int 1, .int 1, .int 1, .ref a3]))]) (w1 := [(a1, .inr (5, [.ref cb, .int 81, .int 0, .ref a2, .int 5, .ref a4, .int 1, .ref a5, .int 1, .int 1, .ref a6, .int 6, .int 0, .int 1, .int 0])), (a2, .inl (cy 2, 2048, .inr (.inl g_9)))]) hP hD [2, 0] [1] rfl rfl (by decide) (by decide) hk1 hFc hP1 hD1
  replace hP : va_P (dC, dI) vwCl [(a0, .inr (6, [.int 0, .int 0, .ref a1, .int 29, .int 1, .int 1, .int 1, .int 1, .ref a3])), (a1, .inr (5, [.ref cb, .int 81, .int 0, .ref a2, .int 5, .ref a4, .int 1, .ref a5, .int 1, .int 1, .ref a6, .int 6, .int 0, .int 1, .int 0])), (a2, .inl (cy 2, 2048, .inr (.inl g_9)))] H_8 := hP2
  replace hD : va_D A [(a0, .inr (6, [.int 0, .int 0, .ref a1, .int 29, .int 1, .int 1, .int 1, .int 1, .ref a3])), (a1, .inr (5, [.ref cb, .int 81, .int 0, .ref a2, .int 5, .ref a4, .int 1, .ref a5, .int 1, .int 1, .ref a6, .int 6, .int 0, .int 1, .int 0])), (a2, .inl (cy 2, 2048, .inr (.inl g_9)))] := hD2
  replace hS := hS2
  clear hP2 hD2 hS2
  clear hPc hDc hFc hP1 hD1 hK1 hk1 hz1 hvm ht
  refine W.widen (k := 0) (n := 0) (Nat.le_of_ble_eq_true rfl) (Nat.le_of_ble_eq_true rfl) ?_
  refine lv_iinc (v := 2) (lv' := [(3, .int 2), (0, .ref a0), (1, .int 2), (2, .int 1)]) hx hb dX6_readTypes_26 hl (k := 0) rfl (by decide) (by decide) rfl (fun ls hl2 => ?_)
  replace hl := hl2
  clear hl2
  refine lv_goto (tgt := 2) hx hb dX6_readTypes_29 (by decide) ?_
  refine lv_iload_n hx hb dX6_readTypes_2 rfl (lv_at hl 0 rfl) ?_
  refine lv_iload_n hx hb dX6_readTypes_3 rfl (lv_at hl 2 rfl) ?_
  refine lv_icmp_ge (tgt := 32) hx hb dX6_readTypes_4 (by decide) (fun _ => ?_) (fun h => absurd (by decide) h)
  exact W.vret hx hb hr (fun t ht hW => ⟨⟨(g_9), rfl, kp_10, by rw [ht]; exact hP, va_K.moved hW.alike hK, hD⟩, hS.F ht⟩) hS.2.2 dX6_readTypes_32

set_option maxHeartbeats 4000000 in
set_option maxRecDepth 100000 in
theorem cc_334_X6_readList (l : Launch) (dC : Nat → ClassId) (dI : Nat → Nat → Nat) (cy : Nat → ClassId) (sz : Nat) (cb : Nat) (a0 : Nat) (a1 : Nat) (a2 : Nat) (a3 : Nat) (a4 : Nat) (a5 : Nat) (a6 : Nat) (f0 : Nat → Int64) (f0_0 : f0 0 = 3) : Met l yX6_readList wsX6_readList ({ frames := 3, cells := 0, slots := 0, locals := 69 }) (va_Pc [.ref a0, .int 8] (fun U => U.heap.size = sz ∧ va_P (dC, dI) vwCl [(a0, .inr (6, [.int 0, .int 0, .ref a1, .int 25, .int 1, .int 1, .int 1, .int 1, .ref a3])), (a1, .inr (5, [.ref cb, .int 81, .int 0, .ref a2, .int 3, .ref a4, .int 1, .ref a5, .int 1, .int 1, .ref a6, .int 6, .int 0, .int 1, .int 0])), (a2, .inl (cy 2, 2048, .inr (.inl f0)))] U.heap ∧ va_K (dC, dI) vwCl (TYS cy) U ∧ va_D (fun _ => True) [(a0, .inr (6, [.int 0, .int 0, .ref a1, .int 25, .int 1, .int 1, .int 1, .int 1, .ref a3])), (a1, .inr (5, [.ref cb, .int 81, .int 0, .ref a2, .int 3, .ref a4, .int 1, .ref a5, .int 1, .int 1, .ref a6, .int 6, .int 0, .int 1, .int 0])), (a2, .inl (cy 2, 2048, .inr (.inl f0)))] ∧ NK U ∧ SK cb (va_A [(a0, .inr (6, [.int 0, .int 0, .ref a1, .int 25, .int 1, .int 1, .int 1, .int 1, .ref a3])), (a1, .inr (5, [.ref cb, .int 81, .int 0, .ref a2, .int 3, .ref a4, .int 1, .ref a5, .int 1, .int 1, .ref a6, .int 6, .int 0, .int 1, .int 0])), (a2, .inl (cy 2, 2048, .inr (.inl f0)))] sz) U U.heap)) (va_Qi (fun (r : Int32) (u : (Nat → Int64)) => match u with | (u0) => r = 2 ∧ u0 0 = 3) (fun u t => match u with | (u0) => va_P (dC, dI) vwCl [(a0, .inr (6, [.int 0, .int 0, .ref a1, .int 29, .int 1, .int 1, .int 1, .int 1, .ref a3])), (a1, .inr (5, [.ref cb, .int 81, .int 0, .ref a2, .int 5, .ref a4, .int 1, .ref a5, .int 1, .int 1, .ref a6, .int 6, .int 0, .int 1, .int 0])), (a2, .inl (cy 2, 2048, .inr (.inl u0)))] t.heap ∧ va_K (dC, dI) vwCl (TYS cy) t ∧ va_D (va_A [(a0, .inr (6, [.int 0, .int 0, .ref a1, .int 25, .int 1, .int 1, .int 1, .int 1, .ref a3])), (a1, .inr (5, [.ref cb, .int 81, .int 0, .ref a2, .int 3, .ref a4, .int 1, .ref a5, .int 1, .int 1, .ref a6, .int 6, .int 0, .int 1, .int 0])), (a2, .inl (cy 2, 2048, .inr (.inl f0)))] sz) [(a0, .inr (6, [.int 0, .int 0, .ref a1, .int 29, .int 1, .int 1, .int 1, .int 1, .ref a3])), (a1, .inr (5, [.ref cb, .int 81, .int 0, .ref a2, .int 5, .ref a4, .int 1, .ref a5, .int 1, .int 1, .ref a6, .int 6, .int 0, .int 1, .int 0])), (a2, .inl (cy 2, 2048, .inr (.inl u0)))]) (va_A [(a0, .inr (6, [.int 0, .int 0, .ref a1, .int 25, .int 1, .int 1, .int 1, .int 1, .ref a3])), (a1, .inr (5, [.ref cb, .int 81, .int 0, .ref a2, .int 3, .ref a4, .int 1, .ref a5, .int 1, .int 1, .ref a6, .int 6, .int 0, .int 1, .int 0])), (a2, .inl (cy 2, 2048, .inr (.inl f0)))] sz)) 0 0 (va_A [(a0, .inr (6, [.int 0, .int 0, .ref a1, .int 25, .int 1, .int 1, .int 1, .int 1, .ref a3])), (a1, .inr (5, [.ref cb, .int 81, .int 0, .ref a2, .int 3, .ref a4, .int 1, .ref a5, .int 1, .int 1, .ref a6, .int 6, .int 0, .int 1, .int 0])), (a2, .inl (cy 2, 2048, .inr (.inl f0)))] sz) := by
  refine Met.ofW (cc := cX6_readList) (maxL := 3) (ret := (some .int)) (by decide) rfl ?_
  intro p e s m args below meth c s₁ B hml hv
  obtain ⟨rfl, hsz, hP, hK, hD0, hN, hSK⟩ := hv
  have hx := B.exec
  have hb := B.bytes
  have hr := B.returns
  have hts := atoms_spec (ws := wsX6_readList) B.pre
  have hown : s.vm.findClass RX6 = some m.cls := findClass_of_methodNamed B.named
  have hlocks := B.notSynchronized
  subst hsz
  have hD := hD0.self (sz := s.heap.size)
  generalize hAe : va_A [(a0, .inr (6, [.int 0, .int 0, .ref a1, .int 25, .int 1, .int 1, .int 1, .int 1, .ref a3])), (a1, .inr (5, [.ref cb, .int 81, .int 0, .ref a2, .int 3, .ref a4, .int 1, .ref a5, .int 1, .int 1, .ref a6, .int 6, .int 0, .int 1, .int 0])), (a2, .inl (cy 2, 2048, .inr (.inl f0)))] s.heap.size = A at hD hSK ⊢
  have hA : ∀ q : Nat, s.heap.size ≤ q → A q := fun q h => by rw [← hAe]; exact Or.inr h
  have hS : va_S A s.heap s.heap [] := va_S.rf
  have hP : va_P (dC, dI) vwCl [(a0, .inr (6, [.int 0, .int 0, .ref a1, .int 25, .int 1, .int 1, .int 1, .int 1, .ref a3])), (a1, .inr (5, [.ref cb, .int 81, .int 0, .ref a2, .int 3, .ref a4, .int 1, .ref a5, .int 1, .int 1, .ref a6, .int 6, .int 0, .int 1, .int 0])), (a2, .inl (cy 2, 2048, .inr (.inl f0)))] s.heap := hP
  have hl := lv_entry ([.ref a0, .int 8]) (n := 3) (Nat.le_of_ble_eq_true rfl)
  rw [lg_entry_eq]
  generalize (lg_sl ([.ref a0, .int 8]) ++ List.replicate (3 - (lg_sl ([.ref a0, .int 8])).length) Slot.unset).toArray = ls at hl ⊢
  replace hl : lv_has ls 3 [(0, .ref a0), (1, .int 8)] := hl
  refine lv_aload_n hx hb dX6_readList_0 rfl (lv_at hl 0 rfl) ?_
  refine lv_iconst (v := 0) hx hb dX6_readList_1 (by decide) ?_
  refine lv_iload_n hx hb dX6_readList_2 rfl (lv_at hl 1 rfl) ?_
  have hPc := hP.sub (ws' := [(a0, .inr (6, [.int 0, .int 0, .ref a1, .int 25, .int 1, .int 1, .int 1, .int 1, .ref a3])), (a1, .inr (5, [.ref cb, .int 81, .int 0, .ref a2, .int 3, .ref a4, .int 1, .ref a5, .int 1, .int 1, .ref a6, .int 6, .int 0, .int 1, .int 0]))]) [0, 1] rfl
  have hDc := hD.sub (ws' := [(a0, .inr (6, [.int 0, .int 0, .ref a1, .int 25, .int 1, .int 1, .int 1, .int 1, .ref a3])), (a1, .inr (5, [.ref cb, .int 81, .int 0, .ref a2, .int 3, .ref a4, .int 1, .ref a5, .int 1, .int 1, .ref a6, .int 6, .int 0, .int 1, .int 0]))]) [0, 1] (by decide) rfl
  have hFc := va_free (wc := [(a0, .inr (6, [.int 0, .int 0, .ref a1, .int 25, .int 1, .int 1, .int 1, .int 1, .ref a3])), (a1, .inr (5, [.ref cb, .int 81, .int 0, .ref a2, .int 3, .ref a4, .int 1, .ref a5, .int 1, .int 1, .ref a6, .int 6, .int 0, .int 1, .int 0]))]) hD hS hA [0, 1] rfl
  refine va_calli (va_runV (As := [.int 0, .int 8]) (rest := []) ⟨hx, hb, hml, hown, hts⟩ (cc_335_X6_readNumber l dC dI cy s.heap.size cb a0 a1 a3 a2 a4 a5 a6) (cwV 2 hts gX6_readList_X6_readNumber rfl rfl rfl (by decide +kernel) ⟨Nat.le_of_ble_eq_true rfl, Nat.le_of_ble_eq_true rfl⟩) ⟨fun a U g mk q => by obtain ⟨q0, q1, qP, qK, qD, qN, qS⟩ := q; exact ⟨q0, q1, qP, va_K.moved (u := U) (U := U.calling g mk a) (Vm.Alike.refl U.vm) qK, qD, qN.same rfl, SK.moved (u := U) (U := U.calling g mk a) (Vm.Alike.refl U.vm) qS⟩, va_recv hK hPc (ci := 6) (q0 := 0) rfl rfl, fun U hU hW => ⟨rfl, by rw [hU], by rw [hU]; exact hPc, va_K.moved hW.alike hK, hDc.weaken (fun _ _ _ _ => trivial), hN.warm hW, by rw [hU]; exact ((hSK.kept hS.2.1).narrow hFc).moved hW.alike⟩⟩ rfl rfl hl.1 rfl (lv_room (Nat.le_of_ble_eq_true rfl)) dX6_readList_3 ⟨Nat.le_of_ble_eq_true rfl, Nat.le_of_ble_eq_true rfl⟩) hS (fun q _ h => hFc q h) hFc (fun r_1 u t H_2 locs ht hvm hw hB hz1 hk1 hS2 => ?_)
  obtain ⟨hP1, hK1, hD1⟩ := hB
  rw [ht] at hP1
  obtain rfl := hw
  obtain ⟨hP2, hD2⟩ := va_join (wr := [(a2, .inl (cy 2, 2048, .inr (.inl f0)))]) (w1 := [(a0, .inr (6, [.int 0, .int 0, .ref a1, .int 26, .int 1, .int 1, .int 1, .int 1, .ref a3])), (a1, .inr (5, [.ref cb, .int 81, .int 0, .ref a2, .int 3, .ref a4, .int 1, .ref a5, .int 1, .int 1, .ref a6, .int 6, .int 0, .int 1, .int 0]))]) hP hD [0, 1] [2] rfl rfl (by decide) (by decide) hk1 hFc hP1 hD1
  replace hP : va_P (dC, dI) vwCl [(a2, .inl (cy 2, 2048, .inr (.inl f0))), (a0, .inr (6, [.int 0, .int 0, .ref a1, .int 26, .int 1, .int 1, .int 1, .int 1, .ref a3])), (a1, .inr (5, [.ref cb, .int 81, .int 0, .ref a2, .int 3, .ref a4, .int 1, .ref a5, .int 1, .int 1, .ref a6, .int 6, .int 0, .int 1, .int 0]))] H_2 := hP2
  replace hD : va_D A [(a2, .inl (cy 2, 2048, .inr (.inl f0))), (a0, .inr (6, [.int 0, .int 0, .ref a1, .int 26, .int 1, .int 1, .int 1, .int 1, .ref a3])), (a1, .inr (5, [.ref cb, .int 81, .int 0, .ref a2, .int 3, .ref a4, .int 1, .ref a5, .int 1, .int 1, .ref a6, .int 6, .int 0, .int 1, .int 0]))] := hD2
  replace hS := hS2
  clear hP2 hD2 hS2
  clear hPc hDc hFc hP1 hD1 hK1 hk1 hz1 hvm ht
  refine W.widen (k := 0) (n := 0) (Nat.le_of_ble_eq_true rfl) (Nat.le_of_ble_eq_true rfl) ?_
  refine lv_istore_n (lv' := [(2, .int 2), (0, .ref a0), (1, .int 8)]) hx hb dX6_readList_6 rfl hl (by decide) rfl (fun ls hl2 => ?_)
  replace hl := hl2
  clear hl2
  refine lv_aload_n hx hb dX6_readList_7 rfl (lv_at hl 1 rfl) ?_
  refine lv_iload_n hx hb dX6_readList_8 rfl (lv_at hl 0 rfl) ?_
  refine lv_iconst (v := 1) hx hb dX6_readList_9 (by decide) ?_
  have hPc := hP.sub (ws' := [(a0, .inr (6, [.int 0, .int 0, .ref a1, .int 26, .int 1, .int 1, .int 1, .int 1, .ref a3])), (a1, .inr (5, [.ref cb, .int 81, .int 0, .ref a2, .int 3, .ref a4, .int 1, .ref a5, .int 1, .int 1, .ref a6, .int 6, .int 0, .int 1, .int 0])), (a2, .inl (cy 2, 2048, .inr (.inl f0)))]) [1, 2, 0] rfl
  have hDc := hD.sub (ws' := [(a0, .inr (6, [.int 0, .int 0, .ref a1, .int 26, .int 1, .int 1, .int 1, .int 1, .ref a3])), (a1, .inr (5, [.ref cb, .int 81, .int 0, .ref a2, .int 3, .ref a4, .int 1, .ref a5, .int 1, .int 1, .ref a6, .int 6, .int 0, .int 1, .int 0])), (a2, .inl (cy 2, 2048, .inr (.inl f0)))]) [1, 2, 0] (by decide) rfl
  have hFc := va_free (wc := [(a0, .inr (6, [.int 0, .int 0, .ref a1, .int 26, .int 1, .int 1, .int 1, .int 1, .ref a3])), (a1, .inr (5, [.ref cb, .int 81, .int 0, .ref a2, .int 3, .ref a4, .int 1, .ref a5, .int 1, .int 1, .ref a6, .int 6, .int 0, .int 1, .int 0])), (a2, .inl (cy 2, 2048, .inr (.inl f0)))]) hD hS hA [1, 2, 0] rfl
  refine va_callv (va_runV (As := [.int 2, .int 1]) (rest := []) ⟨hx, hb, hml, hown, hts⟩ (cc_337_X6_readTypes l dC dI cy H_2.size cb a0 a1 a2 a3 a4 a5 a6 f0 f0_0) (cwV 2 hts gX6_readList_X6_readTypes rfl rfl rfl (by decide +kernel) ⟨Nat.le_of_ble_eq_true rfl, Nat.le_of_ble_eq_true rfl⟩) ⟨fun a U g mk q => by obtain ⟨q0, q1, qP, qK, qD, qN, qS⟩ := q; exact ⟨q0, q1, qP, va_K.moved (u := U) (U := U.calling g mk a) (Vm.Alike.refl U.vm) qK, qD, qN.same rfl, SK.moved (u := U) (U := U.calling g mk a) (Vm.Alike.refl U.vm) qS⟩, va_recv hK hPc (ci := 6) (q0 := 0) rfl rfl, fun U hU hW => ⟨rfl, by rw [hU], by rw [hU]; exact hPc, va_K.moved hW.alike hK, hDc.weaken (fun _ _ _ _ => trivial), hN.warm hW, by rw [hU]; exact ((hSK.kept hS.2.1).narrow hFc).moved hW.alike⟩⟩ rfl rfl hl.1 rfl (lv_room (Nat.le_of_ble_eq_true rfl)) dX6_readList_10 ⟨Nat.le_of_ble_eq_true rfl, Nat.le_of_ble_eq_true rfl⟩) hS (fun q _ h => hFc q h) hFc (fun u t H_3 locs ht hvm hw hB hz1 hk1 hS2 => ?_)
  obtain ⟨g_4, rfl⟩ : ∃ z, z = u := ⟨_, rfl⟩
  obtain ⟨hP1, hK1, hD1⟩ := hB
  rw [ht] at hP1
  have kp_5 := hw
  obtain ⟨hP2, hD2⟩ := va_join (wr := []) (w1 := [(a0, .inr (6, [.int 0, .int 0, .ref a1, .int 29, .int 1, .int 1, .int 1, .int 1, .ref a3])), (a1, .inr (5, [.ref cb, .int 81, .int 0, .ref a2, .int 5, .ref a4, .int 1, .ref a5, .int 1, .int 1, .ref a6, .int 6, .int 0, .int 1, .int 0])), (a2, .inl (cy 2, 2048, .inr (.inl g_4)))]) hP hD [1, 2, 0] [] rfl rfl (by decide) (by decide) hk1 hFc hP1 hD1
  replace hP : va_P (dC, dI) vwCl [(a0, .inr (6, [.int 0, .int 0, .ref a1, .int 29, .int 1, .int 1, .int 1, .int 1, .ref a3])), (a1, .inr (5, [.ref cb, .int 81, .int 0, .ref a2, .int 5, .ref a4, .int 1, .ref a5, .int 1, .int 1, .ref a6, .int 6, .int 0, .int 1, .int 0])), (a2, .inl (cy 2, 2048, .inr (.inl g_4)))] H_3 := hP2
  replace hD : va_D A [(a0, .inr (6, [.int 0, .int 0, .ref a1, .int 29, .int 1, .int 1, .int 1, .int 1, .ref a3])), (a1, .inr (5, [.ref cb, .int 81, .int 0, .ref a2, .int 5, .ref a4, .int 1, .ref a5, .int 1, .int 1, .ref a6, .int 6, .int 0, .int 1, .int 0])), (a2, .inl (cy 2, 2048, .inr (.inl g_4)))] := hD2
  replace hS := hS2
  clear hP2 hD2 hS2
  clear hPc hDc hFc hP1 hD1 hK1 hk1 hz1 hvm ht
  refine W.widen (k := 0) (n := 0) (Nat.le_of_ble_eq_true rfl) (Nat.le_of_ble_eq_true rfl) ?_
  refine lv_iload_n hx hb dX6_readList_13 rfl (lv_at hl 0 rfl) ?_
  exact W.iret hx hb hr (fun t ht hW => ⟨⟨2, (g_4), rfl, ⟨rfl, kp_5⟩, by rw [ht]; exact hP, va_K.moved hW.alike hK, hD⟩, hS.F ht⟩) hS.2.2 dX6_readList_14

set_option maxHeartbeats 4000000 in
set_option maxRecDepth 100000 in
theorem cc_345_X6_readByte (l : Launch) (dC : Nat → ClassId) (dI : Nat → Nat → Nat) (cy : Nat → ClassId) (sz : Nat) (cb : Nat) (a0 : Nat) (a1 : Nat) (a2 : Nat) (a3 : Nat) (a4 : Nat) (a5 : Nat) (a6 : Nat)  : Met l yX6_readByte wsX6_readByte ({ frames := 0, cells := 0, slots := 0, locals := 0 }) (va_Pc [.ref a0] (fun U => U.heap.size = sz ∧ va_P (dC, dI) vwCl [(a0, .inr (6, [.int 0, .int 0, .ref a1, .int 29, .int 1, .int 1, .int 1, .int 1, .ref a2])), (a1, .inr (5, [.ref cb, .int 81, .int 0, .ref a3, .int 5, .ref a4, .int 1, .ref a5, .int 1, .int 1, .ref a6, .int 6, .int 0, .int 1, .int 0]))] U.heap ∧ va_K (dC, dI) vwCl (TYS cy) U ∧ va_D (fun _ => True) [(a0, .inr (6, [.int 0, .int 0, .ref a1, .int 29, .int 1, .int 1, .int 1, .int 1, .ref a2])), (a1, .inr (5, [.ref cb, .int 81, .int 0, .ref a3, .int 5, .ref a4, .int 1, .ref a5, .int 1, .int 1, .ref a6, .int 6, .int 0, .int 1, .int 0]))] ∧ NK U ∧ SK cb (va_A [(a0, .inr (6, [.int 0, .int 0, .ref a1, .int 29, .int 1, .int 1, .int 1, .int 1, .ref a2])), (a1, .inr (5, [.ref cb, .int 81, .int 0, .ref a3, .int 5, .ref a4, .int 1, .ref a5, .int 1, .int 1, .ref a6, .int 6, .int 0, .int 1, .int 0]))] sz) U U.heap)) (va_Qi (fun (r : Int32) (u : Unit) => r = 0) (fun u t => va_P (dC, dI) vwCl [(a0, .inr (6, [.int 0, .int 0, .ref a1, .int 30, .int 1, .int 1, .int 1, .int 1, .ref a2])), (a1, .inr (5, [.ref cb, .int 81, .int 0, .ref a3, .int 5, .ref a4, .int 1, .ref a5, .int 1, .int 1, .ref a6, .int 6, .int 0, .int 1, .int 0]))] t.heap ∧ va_K (dC, dI) vwCl (TYS cy) t ∧ va_D (va_A [(a0, .inr (6, [.int 0, .int 0, .ref a1, .int 29, .int 1, .int 1, .int 1, .int 1, .ref a2])), (a1, .inr (5, [.ref cb, .int 81, .int 0, .ref a3, .int 5, .ref a4, .int 1, .ref a5, .int 1, .int 1, .ref a6, .int 6, .int 0, .int 1, .int 0]))] sz) [(a0, .inr (6, [.int 0, .int 0, .ref a1, .int 30, .int 1, .int 1, .int 1, .int 1, .ref a2])), (a1, .inr (5, [.ref cb, .int 81, .int 0, .ref a3, .int 5, .ref a4, .int 1, .ref a5, .int 1, .int 1, .ref a6, .int 6, .int 0, .int 1, .int 0]))]) (va_A [(a0, .inr (6, [.int 0, .int 0, .ref a1, .int 29, .int 1, .int 1, .int 1, .int 1, .ref a2])), (a1, .inr (5, [.ref cb, .int 81, .int 0, .ref a3, .int 5, .ref a4, .int 1, .ref a5, .int 1, .int 1, .ref a6, .int 6, .int 0, .int 1, .int 0]))] sz)) 0 0 (va_A [(a0, .inr (6, [.int 0, .int 0, .ref a1, .int 29, .int 1, .int 1, .int 1, .int 1, .ref a2])), (a1, .inr (5, [.ref cb, .int 81, .int 0, .ref a3, .int 5, .ref a4, .int 1, .ref a5, .int 1, .int 1, .ref a6, .int 6, .int 0, .int 1, .int 0]))] sz) := by
  refine Met.ofW (cc := cX6_readByte) (maxL := 1) (ret := (some .int)) (by decide) rfl ?_
  intro p e s m args below meth c s₁ B hml hv
  obtain ⟨rfl, hsz, hP, hK, hD0, hN, hSK⟩ := hv
  have hx := B.exec
  have hb := B.bytes
  have hr := B.returns
  have hts := atoms_spec (ws := wsX6_readByte) B.pre
  have hown : s.vm.findClass RX6 = some m.cls := findClass_of_methodNamed B.named
  have hlocks := B.notSynchronized
  subst hsz
  have hD := hD0.self (sz := s.heap.size)
  generalize hAe : va_A [(a0, .inr (6, [.int 0, .int 0, .ref a1, .int 29, .int 1, .int 1, .int 1, .int 1, .ref a2])), (a1, .inr (5, [.ref cb, .int 81, .int 0, .ref a3, .int 5, .ref a4, .int 1, .ref a5, .int 1, .int 1, .ref a6, .int 6, .int 0, .int 1, .int 0]))] s.heap.size = A at hD hSK ⊢
  have hA : ∀ q : Nat, s.heap.size ≤ q → A q := fun q h => by rw [← hAe]; exact Or.inr h
  have hS : va_S A s.heap s.heap [] := va_S.rf
  have hP : va_P (dC, dI) vwCl [(a0, .inr (6, [.int 0, .int 0, .ref a1, .int 29, .int 1, .int 1, .int 1, .int 1, .ref a2])), (a1, .inr (5, [.ref cb, .int 81, .int 0, .ref a3, .int 5, .ref a4, .int 1, .ref a5, .int 1, .int 1, .ref a6, .int 6, .int 0, .int 1, .int 0]))] s.heap := hP
  have hl := lv_entry ([.ref a0]) (n := 1) (Nat.le_of_ble_eq_true rfl)
  rw [lg_entry_eq]
  generalize (lg_sl ([.ref a0]) ++ List.replicate (1 - (lg_sl ([.ref a0])).length) Slot.unset).toArray = ls at hl ⊢
  replace hl : lv_has ls 1 [(0, .ref a0)] := hl
  refine lv_aload_n hx hb dX6_readByte_0 rfl (lv_at hl 0 rfl) ?_
  refine va_get (D := (dC, dI)) (ci := 6) (v := .int 0) (C := RX6) (T := TX6) (N := 9) hx hb hts iw_X6_readByte_X6 hown hK hP 0 rfl rfl 1 (by decide) (hts _ m_X6_readByte_1) (fun _ h9 => h9) rfl dX6_readByte_1 ?_
  refine lv_if_eq (tgt := 9) hx hb dX6_readByte_4 (by decide) (fun _ => ?_) (fun h => absurd (by decide) h)
  refine lv_aload_n hx hb dX6_readByte_9 rfl (lv_at hl 0 rfl) ?_
  refine va_get (D := (dC, dI)) (ci := 6) (v := .int 29) (C := RX6) (T := TX6) (N := 9) hx hb hts iw_X6_readByte_X6 hown hK hP 0 rfl rfl 3 (by decide) (hts _ m_X6_readByte_2) (fun _ h9 => h9) rfl dX6_readByte_10 ?_
  refine lv_aload_n hx hb dX6_readByte_13 rfl (lv_at hl 0 rfl) ?_
  refine va_get (D := (dC, dI)) (ci := 6) (v := .ref a1) (C := RX6) (T := TX6) (N := 9) hx hb hts iw_X6_readByte_X6 hown hK hP 0 rfl rfl 2 (by decide) (hts _ m_X6_readByte_3) (fun _ h9 => h9) rfl dX6_readByte_14 ?_
  refine va_get (D := (dC, dI)) (ci := 5) (v := .int 81) (C := RX5) (T := TX5) (N := 15) hx hb hts iw_X6_readByte_X5 hown hK hP 1 rfl rfl 1 (by decide) (hts _ m_X6_readByte_4) (fun _ h9 => h9) rfl dX6_readByte_17 ?_
  refine lv_icmp_lt (tgt := 41) hx hb dX6_readByte_20 (by decide) (fun _ => ?_) (fun h => absurd (by decide) h)
  refine lv_aload_n hx hb dX6_readByte_41 rfl (lv_at hl 0 rfl) ?_
  refine va_get (D := (dC, dI)) (ci := 6) (v := .ref a1) (C := RX6) (T := TX6) (N := 9) hx hb hts iw_X6_readByte_X6 hown hK hP 0 rfl rfl 2 (by decide) (hts _ m_X6_readByte_3) (fun _ h9 => h9) rfl dX6_readByte_42 ?_
  refine va_get (D := (dC, dI)) (ci := 5) (v := .ref cb) (C := RX5) (T := TX5) (N := 15) hx hb hts iw_X6_readByte_X5 hown hK hP 1 rfl rfl 0 (by decide) (hts _ m_X6_readByte_6) (fun _ h9 => h9) rfl dX6_readByte_45 ?_
  refine lv_aload_n hx hb dX6_readByte_48 rfl (lv_at hl 0 rfl) ?_
  refine lv_dup hx hb dX6_readByte_49 rfl ?_
  refine va_get (D := (dC, dI)) (ci := 6) (v := .int 29) (C := RX6) (T := TX6) (N := 9) hx hb hts iw_X6_readByte_X6 hown hK hP 0 rfl rfl 3 (by decide) (hts _ m_X6_readByte_2) (fun _ h9 => h9) rfl dX6_readByte_50 ?_
  refine lv_dup_x1 hx hb dX6_readByte_53 rfl rfl ?_
  refine lv_iconst (v := 1) hx hb dX6_readByte_54 (by decide) ?_
  refine lv_iadd hx hb dX6_readByte_55 ?_
  refine lv_topi (fun z_1 ez_1 => ?_)
  obtain rfl : z_1 = 30 := ez_1.trans (by decide)
  clear ez_1
  refine va_put (D := (dC, dI)) (ci := 6) (v := .int 30) (ty := .int) (C := RX6) (T := TX6) (N := 9) hx hb hts iw_X6_readByte_X6 tyX6 tyX6_ok nmX6 hown hK hP hD hS 0 rfl rfl 3 (by decide) (hts _ m_X6_readByte_2) (fun _ h9 => h9) rfl (by decide +kernel) rfl rfl (Nat.le_of_ble_eq_true rfl) dX6_readByte_56 (fun H_2 locs hP2 hD2 hS2 => ?_)
  replace hP : va_P (dC, dI) vwCl [(a0, .inr (6, [.int 0, .int 0, .ref a1, .int 30, .int 1, .int 1, .int 1, .int 1, .ref a2])), (a1, .inr (5, [.ref cb, .int 81, .int 0, .ref a3, .int 5, .ref a4, .int 1, .ref a5, .int 1, .int 1, .ref a6, .int 6, .int 0, .int 1, .int 0]))] H_2 := hP2
  replace hD : va_D A [(a0, .inr (6, [.int 0, .int 0, .ref a1, .int 30, .int 1, .int 1, .int 1, .int 1, .ref a2])), (a1, .inr (5, [.ref cb, .int 81, .int 0, .ref a3, .int 5, .ref a4, .int 1, .ref a5, .int 1, .int 1, .ref a6, .int 6, .int 0, .int 1, .int 0]))] := hD2
  replace hS := hS2
  clear hP2 hD2 hS2
  refine va_tb (v := .int 0) hx hb hSK.2 hS (by unfold vp_in; decide) rfl dX6_readByte_59 ?_
  refine lv_sipush (v := 255) hx hb dX6_readByte_60 (by decide) ?_
  refine lv_iand hx hb dX6_readByte_63 ?_
  refine lv_topi (fun z_3 ez_3 => ?_)
  obtain rfl : z_3 = 0 := ez_3.trans (by decide)
  clear ez_3
  exact W.iret hx hb hr (fun t ht hW => ⟨⟨0, (), rfl, rfl, by rw [ht]; exact hP, va_K.moved hW.alike hK, hD⟩, hS.F ht⟩) hS.2.2 dX6_readByte_64

set_option maxHeartbeats 4000000 in
set_option maxRecDepth 100000 in
theorem cc_344_X6_readNumber (l : Launch) (dC : Nat → ClassId) (dI : Nat → Nat → Nat) (cy : Nat → ClassId) (sz : Nat) (cb : Nat) (a0 : Nat) (a1 : Nat) (a2 : Nat) (a3 : Nat) (a4 : Nat) (a5 : Nat) (a6 : Nat)  : Met l yX6_readNumber wsX6_readNumber ({ frames := 1, cells := 0, slots := 0, locals := 20 }) (va_Pc [.ref a0, .int 0, .int 8] (fun U => U.heap.size = sz ∧ va_P (dC, dI) vwCl [(a0, .inr (6, [.int 0, .int 0, .ref a1, .int 29, .int 1, .int 1, .int 1, .int 1, .ref a2])), (a1, .inr (5, [.ref cb, .int 81, .int 0, .ref a3, .int 5, .ref a4, .int 1, .ref a5, .int 1, .int 1, .ref a6, .int 6, .int 0, .int 1, .int 0]))] U.heap ∧ va_K (dC, dI) vwCl (TYS cy) U ∧ va_D (fun _ => True) [(a0, .inr (6, [.int 0, .int 0, .ref a1, .int 29, .int 1, .int 1, .int 1, .int 1, .ref a2])), (a1, .inr (5, [.ref cb, .int 81, .int 0, .ref a3, .int 5, .ref a4, .int 1, .ref a5, .int 1, .int 1, .ref a6, .int 6, .int 0, .int 1, .int 0]))] ∧ NK U ∧ SK cb (va_A [(a0, .inr (6, [.int 0, .int 0, .ref a1, .int 29, .int 1, .int 1, .int 1, .int 1, .ref a2])), (a1, .inr (5, [.ref cb, .int 81, .int 0, .ref a3, .int 5, .ref a4, .int 1, .ref a5, .int 1, .int 1, .ref a6, .int 6, .int 0, .int 1, .int 0]))] sz) U U.heap)) (va_Qi (fun (r : Int32) (u : Unit) => r = 0) (fun u t => va_P (dC, dI) vwCl [(a0, .inr (6, [.int 0, .int 0, .ref a1, .int 30, .int 1, .int 1, .int 1, .int 1, .ref a2])), (a1, .inr (5, [.ref cb, .int 81, .int 0, .ref a3, .int 5, .ref a4, .int 1, .ref a5, .int 1, .int 1, .ref a6, .int 6, .int 0, .int 1, .int 0]))] t.heap ∧ va_K (dC, dI) vwCl (TYS cy) t ∧ va_D (va_A [(a0, .inr (6, [.int 0, .int 0, .ref a1, .int 29, .int 1, .int 1, .int 1, .int 1, .ref a2])), (a1, .inr (5, [.ref cb, .int 81, .int 0, .ref a3, .int 5, .ref a4, .int 1, .ref a5, .int 1, .int 1, .ref a6, .int 6, .int 0, .int 1, .int 0]))] sz) [(a0, .inr (6, [.int 0, .int 0, .ref a1, .int 30, .int 1, .int 1, .int 1, .int 1, .ref a2])), (a1, .inr (5, [.ref cb, .int 81, .int 0, .ref a3, .int 5, .ref a4, .int 1, .ref a5, .int 1, .int 1, .ref a6, .int 6, .int 0, .int 1, .int 0]))]) (va_A [(a0, .inr (6, [.int 0, .int 0, .ref a1, .int 29, .int 1, .int 1, .int 1, .int 1, .ref a2])), (a1, .inr (5, [.ref cb, .int 81, .int 0, .ref a3, .int 5, .ref a4, .int 1, .ref a5, .int 1, .int 1, .ref a6, .int 6, .int 0, .int 1, .int 0]))] sz)) 0 0 (va_A [(a0, .inr (6, [.int 0, .int 0, .ref a1, .int 29, .int 1, .int 1, .int 1, .int 1, .ref a2])), (a1, .inr (5, [.ref cb, .int 81, .int 0, .ref a3, .int 5, .ref a4, .int 1, .ref a5, .int 1, .int 1, .ref a6, .int 6, .int 0, .int 1, .int 0]))] sz) := by
  refine Met.ofW (cc := cX6_readNumber) (maxL := 5) (ret := (some .int)) (by decide) rfl ?_
  intro p e s m args below meth c s₁ B hml hv
  obtain ⟨rfl, hsz, hP, hK, hD0, hN, hSK⟩ := hv
  have hx := B.exec
  have hb := B.bytes
  have hr := B.returns
  have hts := atoms_spec (ws := wsX6_readNumber) B.pre
  have hown : s.vm.findClass RX6 = some m.cls := findClass_of_methodNamed B.named
  have hlocks := B.notSynchronized
  subst hsz
  have hD := hD0.self (sz := s.heap.size)
  generalize hAe : va_A [(a0, .inr (6, [.int 0, .int 0, .ref a1, .int 29, .int 1, .int 1, .int 1, .int 1, .ref a2])), (a1, .inr (5, [.ref cb, .int 81, .int 0, .ref a3, .int 5, .ref a4, .int 1, .ref a5, .int 1, .int 1, .ref a6, .int 6, .int 0, .int 1, .int 0]))] s.heap.size = A at hD hSK ⊢
  have hA : ∀ q : Nat, s.heap.size ≤ q → A q := fun q h => by rw [← hAe]; exact Or.inr h
  have hS : va_S A s.heap s.heap [] := va_S.rf
  have hP : va_P (dC, dI) vwCl [(a0, .inr (6, [.int 0, .int 0, .ref a1, .int 29, .int 1, .int 1, .int 1, .int 1, .ref a2])), (a1, .inr (5, [.ref cb, .int 81, .int 0, .ref a3, .int 5, .ref a4, .int 1, .ref a5, .int 1, .int 1, .ref a6, .int 6, .int 0, .int 1, .int 0]))] s.heap := hP
  have hl := lv_entry ([.ref a0, .int 0, .int 8]) (n := 5) (Nat.le_of_ble_eq_true rfl)
  rw [lg_entry_eq]
  generalize (lg_sl ([.ref a0, .int 0, .int 8]) ++ List.replicate (5 - (lg_sl ([.ref a0, .int 0, .int 8])).length) Slot.unset).toArray = ls at hl ⊢
  replace hl : lv_has ls 5 [(0, .ref a0), (1, .int 0), (2, .int 8)] := hl
  refine lv_aload_n hx hb dX6_readNumber_0 rfl (lv_at hl 0 rfl) ?_
  refine va_get (D := (dC, dI)) (ci := 6) (v := .int 29) (C := RX6) (T := TX6) (N := 9) hx hb hts iw_X6_readNumber_X6 hown hK hP 0 rfl rfl 3 (by decide) (hts _ m_X6_readNumber_1) (fun _ h9 => h9) rfl dX6_readNumber_1 ?_
  refine lv_istore_n (lv' := [(3, .int 29), (0, .ref a0), (1, .int 0), (2, .int 8)]) hx hb dX6_readNumber_4 rfl hl (by decide) rfl (fun ls hl2 => ?_)
  replace hl := hl2
  clear hl2
  refine lv_aload_n hx hb dX6_readNumber_5 rfl (lv_at hl 1 rfl) ?_
  have hPc := hP.sub (ws' := [(a0, .inr (6, [.int 0, .int 0, .ref a1, .int 29, .int 1, .int 1, .int 1, .int 1, .ref a2])), (a1, .inr (5, [.ref cb, .int 81, .int 0, .ref a3, .int 5, .ref a4, .int 1, .ref a5, .int 1, .int 1, .ref a6, .int 6, .int 0, .int 1, .int 0]))]) [0, 1] rfl
  have hDc := hD.sub (ws' := [(a0, .inr (6, [.int 0, .int 0, .ref a1, .int 29, .int 1, .int 1, .int 1, .int 1, .ref a2])), (a1, .inr (5, [.ref cb, .int 81, .int 0, .ref a3, .int 5, .ref a4, .int 1, .ref a5, .int 1, .int 1, .ref a6, .int 6, .int 0, .int 1, .int 0]))]) [0, 1] (by decide) rfl
  have hFc := va_free (wc := [(a0, .inr (6, [.int 0, .int 0, .ref a1, .int 29, .int 1, .int 1, .int 1, .int 1, .ref a2])), (a1, .inr (5, [.ref cb, .int 81, .int 0, .ref a3, .int 5, .ref a4, .int 1, .ref a5, .int 1, .int 1, .ref a6, .int 6, .int 0, .int 1, .int 0]))]) hD hS hA [0, 1] rfl
  refine va_calli (va_runV (As := []) (rest := []) ⟨hx, hb, hml, hown, hts⟩ (cc_345_X6_readByte l dC dI cy s.heap.size cb a0 a1 a2 a3 a4 a5 a6) (cwV 0 hts gX6_readNumber_X6_readByte rfl rfl rfl (by decide +kernel) ⟨Nat.le_of_ble_eq_true rfl, Nat.le_of_ble_eq_true rfl⟩) ⟨fun a U g mk q => by obtain ⟨q0, q1, qP, qK, qD, qN, qS⟩ := q; exact ⟨q0, q1, qP, va_K.moved (u := U) (U := U.calling g mk a) (Vm.Alike.refl U.vm) qK, qD, qN.same rfl, SK.moved (u := U) (U := U.calling g mk a) (Vm.Alike.refl U.vm) qS⟩, va_recv hK hPc (ci := 6) (q0 := 0) rfl rfl, fun U hU hW => ⟨rfl, by rw [hU], by rw [hU]; exact hPc, va_K.moved hW.alike hK, hDc.weaken (fun _ _ _ _ => trivial), hN.warm hW, by rw [hU]; exact ((hSK.kept hS.2.1).narrow hFc).moved hW.alike⟩⟩ rfl rfl hl.1 rfl (lv_room (Nat.le_of_ble_eq_true rfl)) dX6_readNumber_6 ⟨Nat.le_of_ble_eq_true rfl, Nat.le_of_ble_eq_true rfl⟩) hS (fun q _ h => hFc q h) hFc (fun r_1 u t H_2 locs ht hvm hw hB hz1 hk1 hS2 => ?_)
  obtain ⟨hP1, hK1, hD1⟩ := hB
  rw [ht] at hP1
  obtain rfl := hw
  obtain ⟨hP2, hD2⟩ := va_join (wr := []) (w1 := [(a0, .inr (6, [.int 0, .int 0, .ref a1, .int 30, .int 1, .int 1, .int 1, .int 1, .ref a2])), (a1, .inr (5, [.ref cb, .int 81, .int 0, .ref a3, .int 5, .ref a4, .int 1, .ref a5, .int 1, .int 1, .ref a6, .int 6, .int 0, .int 1, .int 0]))]) hP hD [0, 1] [] rfl rfl (by decide) (by decide) hk1 hFc hP1 hD1
  replace hP : va_P (dC, dI) vwCl [(a0, .inr (6, [.int 0, .int 0, .ref a1, .int 30, .int 1, .int 1, .int 1, .int 1, .ref a2])), (a1, .inr (5, [.ref cb, .int 81, .int 0, .ref a3, .int 5, .ref a4, .int 1, .ref a5, .int 1, .int 1, .ref a6, .int 6, .int 0, .int 1, .int 0]))] H_2 := hP2
  replace hD : va_D A [(a0, .inr (6, [.int 0, .int 0, .ref a1, .int 30, .int 1, .int 1, .int 1, .int 1, .ref a2])), (a1, .inr (5, [.ref cb, .int 81, .int 0, .ref a3, .int 5, .ref a4, .int 1, .ref a5, .int 1, .int 1, .ref a6, .int 6, .int 0, .int 1, .int 0]))] := hD2
  replace hS := hS2
  clear hP2 hD2 hS2
  clear hPc hDc hFc hP1 hD1 hK1 hk1 hz1 hvm ht
  refine W.widen (k := 0) (n := 0) (Nat.le_of_ble_eq_true rfl) (Nat.le_of_ble_eq_true rfl) ?_
  refine lv_istore (lv' := [(4, .int 0), (3, .int 29), (0, .ref a0), (1, .int 0), (2, .int 8)]) hx hb dX6_readNumber_9 hl (by decide) rfl (fun ls hl2 => ?_)
  replace hl := hl2
  clear hl2
  refine lv_iload hx hb dX6_readNumber_11 (lv_at hl 0 rfl) ?_
  refine lv_iload_n hx hb dX6_readNumber_13 rfl (lv_at hl 3 rfl) ?_
  refine lv_icmp_lt (tgt := 23) hx hb dX6_readNumber_14 (by decide) (fun h => absurd h (by decide)) (fun _ => ?_)
  refine lv_iload hx hb dX6_readNumber_17 (lv_at hl 0 rfl) ?_
  refine lv_iload_n hx hb dX6_readNumber_19 rfl (lv_at hl 4 rfl) ?_
  refine lv_icmp_le (tgt := 29) hx hb dX6_readNumber_20 (by decide) (fun _ => ?_) (fun h => absurd (by decide) h)
  refine lv_aload_n hx hb dX6_readNumber_29 rfl (lv_at hl 2 rfl) ?_
  refine va_get (D := (dC, dI)) (ci := 6) (v := .int 0) (C := RX6) (T := TX6) (N := 9) hx hb hts iw_X6_readNumber_X6 hown hK hP 0 rfl rfl 1 (by decide) (hts _ m_X6_readNumber_2) (fun _ h9 => h9) rfl dX6_readNumber_30 ?_
  refine lv_if_ne (tgt := 41) hx hb dX6_readNumber_33 (by decide) (fun h => absurd (by decide) h) (fun _ => ?_)
  refine lv_iload hx hb dX6_readNumber_36 (lv_at hl 0 rfl) ?_
  refine lv_goto (tgt := 42) hx hb dX6_readNumber_38 (by decide) ?_
  exact W.iret hx hb hr (fun t ht hW => ⟨⟨0, (), rfl, rfl, by rw [ht]; exact hP, va_K.moved hW.alike hK, hD⟩, hS.F ht⟩) hS.2.2 dX6_readNumber_42

set_option maxHeartbeats 4000000 in
set_option maxRecDepth 100000 in
theorem cc_346_X6_readTypes (l : Launch) (dC : Nat → ClassId) (dI : Nat → Nat → Nat) (cy : Nat → ClassId) (sz : Nat) (cb : Nat) (a0 : Nat) (a1 : Nat) (a2 : Nat)  : Met l yX6_readTypes wsX6_readTypes ({ frames := 0, cells := 0, slots := 0, locals := 0 }) (va_Pc [.ref a0, .int 0, .int 1] (fun U => U.heap.size = sz ∧ va_P (dC, dI) vwCl [(a0, .inr (6, [.int 0, .int 0, .ref a1, .int 30, .int 1, .int 1, .int 1, .int 1, .ref a2]))] U.heap ∧ va_K (dC, dI) vwCl (TYS cy) U ∧ va_D (fun _ => True) [(a0, .inr (6, [.int 0, .int 0, .ref a1, .int 30, .int 1, .int 1, .int 1, .int 1, .ref a2]))] ∧ NK U ∧ SK cb (va_A [(a0, .inr (6, [.int 0, .int 0, .ref a1, .int 30, .int 1, .int 1, .int 1, .int 1, .ref a2]))] sz) U U.heap)) (va_Qv (fun u : Unit => True) (fun u t => va_P (dC, dI) vwCl [(a0, .inr (6, [.int 0, .int 0, .ref a1, .int 30, .int 1, .int 1, .int 1, .int 1, .ref a2]))] t.heap ∧ va_K (dC, dI) vwCl (TYS cy) t ∧ va_D (va_A [(a0, .inr (6, [.int 0, .int 0, .ref a1, .int 30, .int 1, .int 1, .int 1, .int 1, .ref a2]))] sz) [(a0, .inr (6, [.int 0, .int 0, .ref a1, .int 30, .int 1, .int 1, .int 1, .int 1, .ref a2]))]) (va_A [(a0, .inr (6, [.int 0, .int 0, .ref a1, .int 30, .int 1, .int 1, .int 1, .int 1, .ref a2]))] sz)) 0 0 (va_A [(a0, .inr (6, [.int 0, .int 0, .ref a1, .int 30, .int 1, .int 1, .int 1, .int 1, .ref a2]))] sz) := by
  refine Met.ofW (cc := cX6_readTypes) (maxL := 4) (ret := none) (by decide) rfl ?_
  intro p e s m args below meth c s₁ B hml hv
  obtain ⟨rfl, hsz, hP, hK, hD0, hN, hSK⟩ := hv
  have hx := B.exec
  have hb := B.bytes
  have hr := B.returns
  have hts := atoms_spec (ws := wsX6_readTypes) B.pre
  have hown : s.vm.findClass RX6 = some m.cls := findClass_of_methodNamed B.named
  have hlocks := B.notSynchronized
  subst hsz
  have hD := hD0.self (sz := s.heap.size)
  generalize hAe : va_A [(a0, .inr (6, [.int 0, .int 0, .ref a1, .int 30, .int 1, .int 1, .int 1, .int 1, .ref a2]))] s.heap.size = A at hD hSK ⊢
  have hA : ∀ q : Nat, s.heap.size ≤ q → A q := fun q h => by rw [← hAe]; exact Or.inr h
  have hS : va_S A s.heap s.heap [] := va_S.rf
  have hP : va_P (dC, dI) vwCl [(a0, .inr (6, [.int 0, .int 0, .ref a1, .int 30, .int 1, .int 1, .int 1, .int 1, .ref a2]))] s.heap := hP
  have hl := lv_entry ([.ref a0, .int 0, .int 1]) (n := 4) (Nat.le_of_ble_eq_true rfl)
  rw [lg_entry_eq]
  generalize (lg_sl ([.ref a0, .int 0, .int 1]) ++ List.replicate (4 - (lg_sl ([.ref a0, .int 0, .int 1])).length) Slot.unset).toArray = ls at hl ⊢
  replace hl : lv_has ls 4 [(0, .ref a0), (1, .int 0), (2, .int 1)] := hl
  refine lv_iconst (v := 0) hx hb dX6_readTypes_0 (by decide) ?_
  refine lv_istore_n (lv' := [(3, .int 0), (0, .ref a0), (1, .int 0), (2, .int 1)]) hx hb dX6_readTypes_1 rfl hl (by decide) rfl (fun ls hl2 => ?_)
  replace hl := hl2
  clear hl2
  refine lv_iload_n hx hb dX6_readTypes_2 rfl (lv_at hl 0 rfl) ?_
  refine lv_iload_n hx hb dX6_readTypes_3 rfl (lv_at hl 2 rfl) ?_
  refine lv_icmp_ge (tgt := 32) hx hb dX6_readTypes_4 (by decide) (fun _ => ?_) (fun h => absurd (by decide) h)
  exact W.vret hx hb hr (fun t ht hW => ⟨⟨(), rfl, trivial, by rw [ht]; exact hP, va_K.moved hW.alike hK, hD⟩, hS.F ht⟩) hS.2.2 dX6_readTypes_32

set_option maxHeartbeats 4000000 in
set_option maxRecDepth 100000 in
theorem cc_343_X6_readList (l : Launch) (dC : Nat → ClassId) (dI : Nat → Nat → Nat) (cy : Nat → ClassId) (sz : Nat) (cb : Nat) (a0 : Nat) (a1 : Nat) (a2 : Nat) (a3 : Nat) (a4 : Nat) (a5 : Nat) (a6 : Nat)  : Met l yX6_readList wsX6_readList ({ frames := 2, cells := 0, slots := 0, locals := 44 }) (va_Pc [.ref a0, .int 8] (fun U => U.heap.size = sz ∧ va_P (dC, dI) vwCl [(a0, .inr (6, [.int 0, .int 0, .ref a1, .int 29, .int 1, .int 1, .int 1, .int 1, .ref a2])), (a1, .inr (5, [.ref cb, .int 81, .int 0, .ref a3, .int 5, .ref a4, .int 1, .ref a5, .int 1, .int 1, .ref a6, .int 6, .int 0, .int 1, .int 0]))] U.heap ∧ va_K (dC, dI) vwCl (TYS cy) U ∧ va_D (fun _ => True) [(a0, .inr (6, [.int 0, .int 0, .ref a1, .int 29, .int 1, .int 1, .int 1, .int 1, .ref a2])), (a1, .inr (5, [.ref cb, .int 81, .int 0, .ref a3, .int 5, .ref a4, .int 1, .ref a5, .int 1, .int 1, .ref a6, .int 6, .int 0, .int 1, .int 0]))] ∧ NK U ∧ SK cb (va_A [(a0, .inr (6, [.int 0, .int 0, .ref a1, .int 29, .int 1, .int 1, .int 1, .int 1, .ref a2])), (a1, .inr (5, [.ref cb, .int 81, .int 0, .ref a3, .int 5, .ref a4, .int 1, .ref a5, .int 1, .int 1, .ref a6, .int 6, .int 0, .int 1, .int 0]))] sz) U U.heap)) (va_Qi (fun (r : Int32) (u : Unit) => r = 0) (fun u t => va_P (dC, dI) vwCl [(a0, .inr (6, [.int 0, .int 0, .ref a1, .int 30, .int 1, .int 1, .int 1, .int 1, .ref a2])), (a1, .inr (5, [.ref cb, .int 81, .int 0, .ref a3, .int 5, .ref a4, .int 1, .ref a5, .int 1, .int 1, .ref a6, .int 6, .int 0, .int 1, .int 0]))] t.heap ∧ va_K (dC, dI) vwCl (TYS cy) t ∧ va_D (va_A [(a0, .inr (6, [.int 0, .int 0, .ref a1, .int 29, .int 1, .int 1, .int 1, .int 1, .ref a2])), (a1, .inr (5, [.ref cb, .int 81, .int 0, .ref a3, .int 5, .ref a4, .int 1, .ref a5, .int 1, .int 1, .ref a6, .int 6, .int 0, .int 1, .int 0]))] sz) [(a0, .inr (6, [.int 0, .int 0, .ref a1, .int 30, .int 1, .int 1, .int 1, .int 1, .ref a2])), (a1, .inr (5, [.ref cb, .int 81, .int 0, .ref a3, .int 5, .ref a4, .int 1, .ref a5, .int 1, .int 1, .ref a6, .int 6, .int 0, .int 1, .int 0]))]) (va_A [(a0, .inr (6, [.int 0, .int 0, .ref a1, .int 29, .int 1, .int 1, .int 1, .int 1, .ref a2])), (a1, .inr (5, [.ref cb, .int 81, .int 0, .ref a3, .int 5, .ref a4, .int 1, .ref a5, .int 1, .int 1, .ref a6, .int 6, .int 0, .int 1, .int 0]))] sz)) 0 0 (va_A [(a0, .inr (6, [.int 0, .int 0, .ref a1, .int 29, .int 1, .int 1, .int 1, .int 1, .ref a2])), (a1, .inr (5, [.ref cb, .int 81, .int 0, .ref a3, .int 5, .ref a4, .int 1, .ref a5, .int 1, .int 1, .ref a6, .int 6, .int 0, .int 1, .int 0]))] sz) := by
  refine Met.ofW (cc := cX6_readList) (maxL := 3) (ret := (some .int)) (by decide) rfl ?_
  intro p e s m args below meth c s₁ B hml hv
  obtain ⟨rfl, hsz, hP, hK, hD0, hN, hSK⟩ := hv
  have hx := B.exec
  have hb := B.bytes
  have hr := B.returns
  have hts := atoms_spec (ws := wsX6_readList) B.pre
  have hown : s.vm.findClass RX6 = some m.cls := findClass_of_methodNamed B.named
  have hlocks := B.notSynchronized
  subst hsz
  have hD := hD0.self (sz := s.heap.size)
  generalize hAe : va_A [(a0, .inr (6, [.int 0, .int 0, .ref a1, .int 29, .int 1, .int 1, .int 1, .int 1, .ref a2])), (a1, .inr (5, [.ref cb, .int 81, .int 0, .ref a3, .int 5, .ref a4, .int 1, .ref a5, .int 1, .int 1, .ref a6, .int 6, .int 0, .int 1, .int 0]))] s.heap.size = A at hD hSK ⊢
  have hA : ∀ q : Nat, s.heap.size ≤ q → A q := fun q h => by rw [← hAe]; exact Or.inr h
  have hS : va_S A s.heap s.heap [] := va_S.rf
  have hP : va_P (dC, dI) vwCl [(a0, .inr (6, [.int 0, .int 0, .ref a1, .int 29, .int 1, .int 1, .int 1, .int 1, .ref a2])), (a1, .inr (5, [.ref cb, .int 81, .int 0, .ref a3, .int 5, .ref a4, .int 1, .ref a5, .int 1, .int 1, .ref a6, .int 6, .int 0, .int 1, .int 0]))] s.heap := hP
  have hl := lv_entry ([.ref a0, .int 8]) (n := 3) (Nat.le_of_ble_eq_true rfl)
  rw [lg_entry_eq]
  generalize (lg_sl ([.ref a0, .int 8]) ++ List.replicate (3 - (lg_sl ([.ref a0, .int 8])).length) Slot.unset).toArray = ls at hl ⊢
  replace hl : lv_has ls 3 [(0, .ref a0), (1, .int 8)] := hl
  refine lv_aload_n hx hb dX6_readList_0 rfl (lv_at hl 0 rfl) ?_
  refine lv_iconst (v := 0) hx hb dX6_readList_1 (by decide) ?_
  refine lv_iload_n hx hb dX6_readList_2 rfl (lv_at hl 1 rfl) ?_
  have hPc := hP.sub (ws' := [(a0, .inr (6, [.int 0, .int 0, .ref a1, .int 29, .int 1, .int 1, .int 1, .int 1, .ref a2])), (a1, .inr (5, [.ref cb, .int 81, .int 0, .ref a3, .int 5, .ref a4, .int 1, .ref a5, .int 1, .int 1, .ref a6, .int 6, .int 0, .int 1, .int 0]))]) [0, 1] rfl
  have hDc := hD.sub (ws' := [(a0, .inr (6, [.int 0, .int 0, .ref a1, .int 29, .int 1, .int 1, .int 1, .int 1, .ref a2])), (a1, .inr (5, [.ref cb, .int 81, .int 0, .ref a3, .int 5, .ref a4, .int 1, .ref a5, .int 1, .int 1, .ref a6, .int 6, .int 0, .int 1, .int 0]))]) [0, 1] (by decide) rfl
  have hFc := va_free (wc := [(a0, .inr (6, [.int 0, .int 0, .ref a1, .int 29, .int 1, .int 1, .int 1, .int 1, .ref a2])), (a1, .inr (5, [.ref cb, .int 81, .int 0, .ref a3, .int 5, .ref a4, .int 1, .ref a5, .int 1, .int 1, .ref a6, .int 6, .int 0, .int 1, .int 0]))]) hD hS hA [0, 1] rfl
  refine va_calli (va_runV (As := [.int 0, .int 8]) (rest := []) ⟨hx, hb, hml, hown, hts⟩ (cc_344_X6_readNumber l dC dI cy s.heap.size cb a0 a1 a2 a3 a4 a5 a6) (cwV 2 hts gX6_readList_X6_readNumber rfl rfl rfl (by decide +kernel) ⟨Nat.le_of_ble_eq_true rfl, Nat.le_of_ble_eq_true rfl⟩) ⟨fun a U g mk q => by obtain ⟨q0, q1, qP, qK, qD, qN, qS⟩ := q; exact ⟨q0, q1, qP, va_K.moved (u := U) (U := U.calling g mk a) (Vm.Alike.refl U.vm) qK, qD, qN.same rfl, SK.moved (u := U) (U := U.calling g mk a) (Vm.Alike.refl U.vm) qS⟩, va_recv hK hPc (ci := 6) (q0 := 0) rfl rfl, fun U hU hW => ⟨rfl, by rw [hU], by rw [hU]; exact hPc, va_K.moved hW.alike hK, hDc.weaken (fun _ _ _ _ => trivial), hN.warm hW, by rw [hU]; exact ((hSK.kept hS.2.1).narrow hFc).moved hW.alike⟩⟩ rfl rfl hl.1 rfl (lv_room (Nat.le_of_ble_eq_true rfl)) dX6_readList_3 ⟨Nat.le_of_ble_eq_true rfl, Nat.le_of_ble_eq_true rfl⟩) hS (fun q _ h => hFc q h) hFc (fun r_1 u t H_2 locs ht hvm hw hB hz1 hk1 hS2 => ?_)
  obtain ⟨hP1, hK1, hD1⟩ := hB
  rw [ht] at hP1
  obtain rfl := hw
  obtain ⟨hP2, hD2⟩ := va_join (wr := []) (w1 := [(a0, .inr (6, [.int 0, .int 0, .ref a1, .int 30, .int 1, .int 1, .int 1, .int 1, .ref a2])), (a1, .inr (5, [.ref cb, .int 81, .int 0, .ref a3, .int 5, .ref a4, .int 1, .ref a5, .int 1, .int 1, .ref a6, .int 6, .int 0, .int 1, .int 0]))]) hP hD [0, 1] [] rfl rfl (by decide) (by decide) hk1 hFc hP1 hD1
  replace hP : va_P (dC, dI) vwCl [(a0, .inr (6, [.int 0, .int 0, .ref a1, .int 30, .int 1, .int 1, .int 1, .int 1, .ref a2])), (a1, .inr (5, [.ref cb, .int 81, .int 0, .ref a3, .int 5, .ref a4, .int 1, .ref a5, .int 1, .int 1, .ref a6, .int 6, .int 0, .int 1, .int 0]))] H_2 := hP2
  replace hD : va_D A [(a0, .inr (6, [.int 0, .int 0, .ref a1, .int 30, .int 1, .int 1, .int 1, .int 1, .ref a2])), (a1, .inr (5, [.ref cb, .int 81, .int 0, .ref a3, .int 5, .ref a4, .int 1, .ref a5, .int 1, .int 1, .ref a6, .int 6, .int 0, .int 1, .int 0]))] := hD2
  replace hS := hS2
  clear hP2 hD2 hS2
  clear hPc hDc hFc hP1 hD1 hK1 hk1 hz1 hvm ht
  refine W.widen (k := 0) (n := 0) (Nat.le_of_ble_eq_true rfl) (Nat.le_of_ble_eq_true rfl) ?_
  refine lv_istore_n (lv' := [(2, .int 0), (0, .ref a0), (1, .int 8)]) hx hb dX6_readList_6 rfl hl (by decide) rfl (fun ls hl2 => ?_)
  replace hl := hl2
  clear hl2
  refine lv_aload_n hx hb dX6_readList_7 rfl (lv_at hl 1 rfl) ?_
  refine lv_iload_n hx hb dX6_readList_8 rfl (lv_at hl 0 rfl) ?_
  refine lv_iconst (v := 1) hx hb dX6_readList_9 (by decide) ?_
  have hPc := hP.sub (ws' := [(a0, .inr (6, [.int 0, .int 0, .ref a1, .int 30, .int 1, .int 1, .int 1, .int 1, .ref a2]))]) [0] rfl
  have hDc := hD.sub (ws' := [(a0, .inr (6, [.int 0, .int 0, .ref a1, .int 30, .int 1, .int 1, .int 1, .int 1, .ref a2]))]) [0] (by decide) rfl
  have hFc := va_free (wc := [(a0, .inr (6, [.int 0, .int 0, .ref a1, .int 30, .int 1, .int 1, .int 1, .int 1, .ref a2]))]) hD hS hA [0] rfl
  refine va_callv (va_runV (As := [.int 0, .int 1]) (rest := []) ⟨hx, hb, hml, hown, hts⟩ (cc_346_X6_readTypes l dC dI cy H_2.size cb a0 a1 a2) (cwV 2 hts gX6_readList_X6_readTypes rfl rfl rfl (by decide +kernel) ⟨Nat.le_of_ble_eq_true rfl, Nat.le_of_ble_eq_true rfl⟩) ⟨fun a U g mk q => by obtain ⟨q0, q1, qP, qK, qD, qN, qS⟩ := q; exact ⟨q0, q1, qP, va_K.moved (u := U) (U := U.calling g mk a) (Vm.Alike.refl U.vm) qK, qD, qN.same rfl, SK.moved (u := U) (U := U.calling g mk a) (Vm.Alike.refl U.vm) qS⟩, va_recv hK hPc (ci := 6) (q0 := 0) rfl rfl, fun U hU hW => ⟨rfl, by rw [hU], by rw [hU]; exact hPc, va_K.moved hW.alike hK, hDc.weaken (fun _ _ _ _ => trivial), hN.warm hW, by rw [hU]; exact ((hSK.kept hS.2.1).narrow hFc).moved hW.alike⟩⟩ rfl rfl hl.1 rfl (lv_room (Nat.le_of_ble_eq_true rfl)) dX6_readList_10 ⟨Nat.le_of_ble_eq_true rfl, Nat.le_of_ble_eq_true rfl⟩) hS (fun q _ h => hFc q h) hFc (fun u t H_3 locs ht hvm hw hB hz1 hk1 hS2 => ?_)
  obtain ⟨hP1, hK1, hD1⟩ := hB
  rw [ht] at hP1
  obtain ⟨hP2, hD2⟩ := va_join (wr := [(a1, .inr (5, [.ref cb, .int 81, .int 0, .ref a3, .int 5, .ref a4, .int 1, .ref a5, .int 1, .int 1, .ref a6, .int 6, .int 0, .int 1, .int 0]))]) (w1 := [(a0, .inr (6, [.int 0, .int 0, .ref a1, .int 30, .int 1, .int 1, .int 1, .int 1, .ref a2]))]) hP hD [0] [1] rfl rfl (by decide) (by decide) hk1 hFc hP1 hD1
  replace hP : va_P (dC, dI) vwCl [(a1, .inr (5, [.ref cb, .int 81, .int 0, .ref a3, .int 5, .ref a4, .int 1, .ref a5, .int 1, .int 1, .ref a6, .int 6, .int 0, .int 1, .int 0])), (a0, .inr (6, [.int 0, .int 0, .ref a1, .int 30, .int 1, .int 1, .int 1, .int 1, .ref a2]))] H_3 := hP2
  replace hD : va_D A [(a1, .inr (5, [.ref cb, .int 81, .int 0, .ref a3, .int 5, .ref a4, .int 1, .ref a5, .int 1, .int 1, .ref a6, .int 6, .int 0, .int 1, .int 0])), (a0, .inr (6, [.int 0, .int 0, .ref a1, .int 30, .int 1, .int 1, .int 1, .int 1, .ref a2]))] := hD2
  replace hS := hS2
  clear hP2 hD2 hS2
  clear hPc hDc hFc hP1 hD1 hK1 hk1 hz1 hvm ht
  refine W.widen (k := 0) (n := 0) (Nat.le_of_ble_eq_true rfl) (Nat.le_of_ble_eq_true rfl) ?_
  refine lv_iload_n hx hb dX6_readList_13 rfl (lv_at hl 0 rfl) ?_
  have hP := hP.sub (ws' := [(a0, .inr (6, [.int 0, .int 0, .ref a1, .int 30, .int 1, .int 1, .int 1, .int 1, .ref a2])), (a1, .inr (5, [.ref cb, .int 81, .int 0, .ref a3, .int 5, .ref a4, .int 1, .ref a5, .int 1, .int 1, .ref a6, .int 6, .int 0, .int 1, .int 0]))]) [1, 0] rfl
  have hD := hD.sub (ws' := [(a0, .inr (6, [.int 0, .int 0, .ref a1, .int 30, .int 1, .int 1, .int 1, .int 1, .ref a2])), (a1, .inr (5, [.ref cb, .int 81, .int 0, .ref a3, .int 5, .ref a4, .int 1, .ref a5, .int 1, .int 1, .ref a6, .int 6, .int 0, .int 1, .int 0]))]) [1, 0] (by decide) rfl
  exact W.iret hx hb hr (fun t ht hW => ⟨⟨0, (), rfl, rfl, by rw [ht]; exact hP, va_K.moved hW.alike hK, hD⟩, hS.F ht⟩) hS.2.2 dX6_readList_14

set_option maxHeartbeats 4000000 in
set_option maxRecDepth 100000 in
theorem cc_349_X6_readByte (l : Launch) (dC : Nat → ClassId) (dI : Nat → Nat → Nat) (cy : Nat → ClassId) (sz : Nat) (cb : Nat) (a0 : Nat) (a1 : Nat) (a2 : Nat) (a3 : Nat) (a4 : Nat) (a5 : Nat) (a6 : Nat)  : Met l yX6_readByte wsX6_readByte ({ frames := 0, cells := 0, slots := 0, locals := 0 }) (va_Pc [.ref a0] (fun U => U.heap.size = sz ∧ va_P (dC, dI) vwCl [(a0, .inr (6, [.int 0, .int 0, .ref a1, .int 30, .int 1, .int 1, .int 1, .int 1, .ref a2])), (a1, .inr (5, [.ref cb, .int 81, .int 0, .ref a3, .int 5, .ref a4, .int 1, .ref a5, .int 1, .int 1, .ref a6, .int 6, .int 0, .int 1, .int 0]))] U.heap ∧ va_K (dC, dI) vwCl (TYS cy) U ∧ va_D (fun _ => True) [(a0, .inr (6, [.int 0, .int 0, .ref a1, .int 30, .int 1, .int 1, .int 1, .int 1, .ref a2])), (a1, .inr (5, [.ref cb, .int 81, .int 0, .ref a3, .int 5, .ref a4, .int 1, .ref a5, .int 1, .int 1, .ref a6, .int 6, .int 0, .int 1, .int 0]))] ∧ NK U ∧ SK cb (va_A [(a0, .inr (6, [.int 0, .int 0, .ref a1, .int 30, .int 1, .int 1, .int 1, .int 1, .ref a2])), (a1, .inr (5, [.ref cb, .int 81, .int 0, .ref a3, .int 5, .ref a4, .int 1, .ref a5, .int 1, .int 1, .ref a6, .int 6, .int 0, .int 1, .int 0]))] sz) U U.heap)) (va_Qi (fun (r : Int32) (u : Unit) => r = 0) (fun u t => va_P (dC, dI) vwCl [(a0, .inr (6, [.int 0, .int 0, .ref a1, .int 31, .int 1, .int 1, .int 1, .int 1, .ref a2])), (a1, .inr (5, [.ref cb, .int 81, .int 0, .ref a3, .int 5, .ref a4, .int 1, .ref a5, .int 1, .int 1, .ref a6, .int 6, .int 0, .int 1, .int 0]))] t.heap ∧ va_K (dC, dI) vwCl (TYS cy) t ∧ va_D (va_A [(a0, .inr (6, [.int 0, .int 0, .ref a1, .int 30, .int 1, .int 1, .int 1, .int 1, .ref a2])), (a1, .inr (5, [.ref cb, .int 81, .int 0, .ref a3, .int 5, .ref a4, .int 1, .ref a5, .int 1, .int 1, .ref a6, .int 6, .int 0, .int 1, .int 0]))] sz) [(a0, .inr (6, [.int 0, .int 0, .ref a1, .int 31, .int 1, .int 1, .int 1, .int 1, .ref a2])), (a1, .inr (5, [.ref cb, .int 81, .int 0, .ref a3, .int 5, .ref a4, .int 1, .ref a5, .int 1, .int 1, .ref a6, .int 6, .int 0, .int 1, .int 0]))]) (va_A [(a0, .inr (6, [.int 0, .int 0, .ref a1, .int 30, .int 1, .int 1, .int 1, .int 1, .ref a2])), (a1, .inr (5, [.ref cb, .int 81, .int 0, .ref a3, .int 5, .ref a4, .int 1, .ref a5, .int 1, .int 1, .ref a6, .int 6, .int 0, .int 1, .int 0]))] sz)) 0 0 (va_A [(a0, .inr (6, [.int 0, .int 0, .ref a1, .int 30, .int 1, .int 1, .int 1, .int 1, .ref a2])), (a1, .inr (5, [.ref cb, .int 81, .int 0, .ref a3, .int 5, .ref a4, .int 1, .ref a5, .int 1, .int 1, .ref a6, .int 6, .int 0, .int 1, .int 0]))] sz) := by
  refine Met.ofW (cc := cX6_readByte) (maxL := 1) (ret := (some .int)) (by decide) rfl ?_
  intro p e s m args below meth c s₁ B hml hv
  obtain ⟨rfl, hsz, hP, hK, hD0, hN, hSK⟩ := hv
  have hx := B.exec
  have hb := B.bytes
  have hr := B.returns
  have hts := atoms_spec (ws := wsX6_readByte) B.pre
  have hown : s.vm.findClass RX6 = some m.cls := findClass_of_methodNamed B.named
  have hlocks := B.notSynchronized
  subst hsz
  have hD := hD0.self (sz := s.heap.size)
  generalize hAe : va_A [(a0, .inr (6, [.int 0, .int 0, .ref a1, .int 30, .int 1, .int 1, .int 1, .int 1, .ref a2])), (a1, .inr (5, [.ref cb, .int 81, .int 0, .ref a3, .int 5, .ref a4, .int 1, .ref a5, .int 1, .int 1, .ref a6, .int 6, .int 0, .int 1, .int 0]))] s.heap.size = A at hD hSK ⊢
  have hA : ∀ q : Nat, s.heap.size ≤ q → A q := fun q h => by rw [← hAe]; exact Or.inr h
  have hS : va_S A s.heap s.heap [] := va_S.rf
  have hP : va_P (dC, dI) vwCl [(a0, .inr (6, [.int 0, .int 0, .ref a1, .int 30, .int 1, .int 1, .int 1, .int 1, .ref a2])), (a1, .inr (5, [.ref cb, .int 81, .int 0, .ref a3, .int 5, .ref a4, .int 1, .ref a5, .int 1, .int 1, .ref a6, .int 6, .int 0, .int 1, .int 0]))] s.heap := hP
  have hl := lv_entry ([.ref a0]) (n := 1) (Nat.le_of_ble_eq_true rfl)
  rw [lg_entry_eq]
  generalize (lg_sl ([.ref a0]) ++ List.replicate (1 - (lg_sl ([.ref a0])).length) Slot.unset).toArray = ls at hl ⊢
  replace hl : lv_has ls 1 [(0, .ref a0)] := hl
  refine lv_aload_n hx hb dX6_readByte_0 rfl (lv_at hl 0 rfl) ?_
  refine va_get (D := (dC, dI)) (ci := 6) (v := .int 0) (C := RX6) (T := TX6) (N := 9) hx hb hts iw_X6_readByte_X6 hown hK hP 0 rfl rfl 1 (by decide) (hts _ m_X6_readByte_1) (fun _ h9 => h9) rfl dX6_readByte_1 ?_
  refine lv_if_eq (tgt := 9) hx hb dX6_readByte_4 (by decide) (fun _ => ?_) (fun h => absurd (by decide) h)
  refine lv_aload_n hx hb dX6_readByte_9 rfl (lv_at hl 0 rfl) ?_
  refine va_get (D := (dC, dI)) (ci := 6) (v := .int 30) (C := RX6) (T := TX6) (N := 9) hx hb hts iw_X6_readByte_X6 hown hK hP 0 rfl rfl 3 (by decide) (hts _ m_X6_readByte_2) (fun _ h9 => h9) rfl dX6_readByte_10 ?_
  refine lv_aload_n hx hb dX6_readByte_13 rfl (lv_at hl 0 rfl) ?_
  refine va_get (D := (dC, dI)) (ci := 6) (v := .ref a1) (C := RX6) (T := TX6) (N := 9) hx hb hts iw_X6_readByte_X6 hown hK hP 0 rfl rfl 2 (by decide) (hts _ m_X6_readByte_3) (fun _ h9 => h9) rfl dX6_readByte_14 ?_
  refine va_get (D := (dC, dI)) (ci := 5) (v := .int 81) (C := RX5) (T := TX5) (N := 15) hx hb hts iw_X6_readByte_X5 hown hK hP 1 rfl rfl 1 (by decide) (hts _ m_X6_readByte_4) (fun _ h9 => h9) rfl dX6_readByte_17 ?_
  refine lv_icmp_lt (tgt := 41) hx hb dX6_readByte_20 (by decide) (fun _ => ?_) (fun h => absurd (by decide) h)
  refine lv_aload_n hx hb dX6_readByte_41 rfl (lv_at hl 0 rfl) ?_
  refine va_get (D := (dC, dI)) (ci := 6) (v := .ref a1) (C := RX6) (T := TX6) (N := 9) hx hb hts iw_X6_readByte_X6 hown hK hP 0 rfl rfl 2 (by decide) (hts _ m_X6_readByte_3) (fun _ h9 => h9) rfl dX6_readByte_42 ?_
  refine va_get (D := (dC, dI)) (ci := 5) (v := .ref cb) (C := RX5) (T := TX5) (N := 15) hx hb hts iw_X6_readByte_X5 hown hK hP 1 rfl rfl 0 (by decide) (hts _ m_X6_readByte_6) (fun _ h9 => h9) rfl dX6_readByte_45 ?_
  refine lv_aload_n hx hb dX6_readByte_48 rfl (lv_at hl 0 rfl) ?_
  refine lv_dup hx hb dX6_readByte_49 rfl ?_
  refine va_get (D := (dC, dI)) (ci := 6) (v := .int 30) (C := RX6) (T := TX6) (N := 9) hx hb hts iw_X6_readByte_X6 hown hK hP 0 rfl rfl 3 (by decide) (hts _ m_X6_readByte_2) (fun _ h9 => h9) rfl dX6_readByte_50 ?_
  refine lv_dup_x1 hx hb dX6_readByte_53 rfl rfl ?_
  refine lv_iconst (v := 1) hx hb dX6_readByte_54 (by decide) ?_
  refine lv_iadd hx hb dX6_readByte_55 ?_
  refine lv_topi (fun z_1 ez_1 => ?_)
  obtain rfl : z_1 = 31 := ez_1.trans (by decide)
  clear ez_1
  refine va_put (D := (dC, dI)) (ci := 6) (v := .int 31) (ty := .int) (C := RX6) (T := TX6) (N := 9) hx hb hts iw_X6_readByte_X6 tyX6 tyX6_ok nmX6 hown hK hP hD hS 0 rfl rfl 3 (by decide) (hts _ m_X6_readByte_2) (fun _ h9 => h9) rfl (by decide +kernel) rfl rfl (Nat.le_of_ble_eq_true rfl) dX6_readByte_56 (fun H_2 locs hP2 hD2 hS2 => ?_)
  replace hP : va_P (dC, dI) vwCl [(a0, .inr (6, [.int 0, .int 0, .ref a1, .int 31, .int 1, .int 1, .int 1, .int 1, .ref a2])), (a1, .inr (5, [.ref cb, .int 81, .int 0, .ref a3, .int 5, .ref a4, .int 1, .ref a5, .int 1, .int 1, .ref a6, .int 6, .int 0, .int 1, .int 0]))] H_2 := hP2
  replace hD : va_D A [(a0, .inr (6, [.int 0, .int 0, .ref a1, .int 31, .int 1, .int 1, .int 1, .int 1, .ref a2])), (a1, .inr (5, [.ref cb, .int 81, .int 0, .ref a3, .int 5, .ref a4, .int 1, .ref a5, .int 1, .int 1, .ref a6, .int 6, .int 0, .int 1, .int 0]))] := hD2
  replace hS := hS2
  clear hP2 hD2 hS2
  refine va_tb (v := .int 0) hx hb hSK.2 hS (by unfold vp_in; decide) rfl dX6_readByte_59 ?_
  refine lv_sipush (v := 255) hx hb dX6_readByte_60 (by decide) ?_
  refine lv_iand hx hb dX6_readByte_63 ?_
  refine lv_topi (fun z_3 ez_3 => ?_)
  obtain rfl : z_3 = 0 := ez_3.trans (by decide)
  clear ez_3
  exact W.iret hx hb hr (fun t ht hW => ⟨⟨0, (), rfl, rfl, by rw [ht]; exact hP, va_K.moved hW.alike hK, hD⟩, hS.F ht⟩) hS.2.2 dX6_readByte_64

set_option maxHeartbeats 4000000 in
set_option maxRecDepth 100000 in
theorem cc_348_X6_readNumber (l : Launch) (dC : Nat → ClassId) (dI : Nat → Nat → Nat) (cy : Nat → ClassId) (sz : Nat) (cb : Nat) (a0 : Nat) (a1 : Nat) (a2 : Nat) (a3 : Nat) (a4 : Nat) (a5 : Nat) (a6 : Nat)  : Met l yX6_readNumber wsX6_readNumber ({ frames := 1, cells := 0, slots := 0, locals := 20 }) (va_Pc [.ref a0, .int 0, .int 32] (fun U => U.heap.size = sz ∧ va_P (dC, dI) vwCl [(a0, .inr (6, [.int 0, .int 0, .ref a1, .int 30, .int 1, .int 1, .int 1, .int 1, .ref a2])), (a1, .inr (5, [.ref cb, .int 81, .int 0, .ref a3, .int 5, .ref a4, .int 1, .ref a5, .int 1, .int 1, .ref a6, .int 6, .int 0, .int 1, .int 0]))] U.heap ∧ va_K (dC, dI) vwCl (TYS cy) U ∧ va_D (fun _ => True) [(a0, .inr (6, [.int 0, .int 0, .ref a1, .int 30, .int 1, .int 1, .int 1, .int 1, .ref a2])), (a1, .inr (5, [.ref cb, .int 81, .int 0, .ref a3, .int 5, .ref a4, .int 1, .ref a5, .int 1, .int 1, .ref a6, .int 6, .int 0, .int 1, .int 0]))] ∧ NK U ∧ SK cb (va_A [(a0, .inr (6, [.int 0, .int 0, .ref a1, .int 30, .int 1, .int 1, .int 1, .int 1, .ref a2])), (a1, .inr (5, [.ref cb, .int 81, .int 0, .ref a3, .int 5, .ref a4, .int 1, .ref a5, .int 1, .int 1, .ref a6, .int 6, .int 0, .int 1, .int 0]))] sz) U U.heap)) (va_Qi (fun (r : Int32) (u : Unit) => r = 0) (fun u t => va_P (dC, dI) vwCl [(a0, .inr (6, [.int 0, .int 0, .ref a1, .int 31, .int 1, .int 1, .int 1, .int 1, .ref a2])), (a1, .inr (5, [.ref cb, .int 81, .int 0, .ref a3, .int 5, .ref a4, .int 1, .ref a5, .int 1, .int 1, .ref a6, .int 6, .int 0, .int 1, .int 0]))] t.heap ∧ va_K (dC, dI) vwCl (TYS cy) t ∧ va_D (va_A [(a0, .inr (6, [.int 0, .int 0, .ref a1, .int 30, .int 1, .int 1, .int 1, .int 1, .ref a2])), (a1, .inr (5, [.ref cb, .int 81, .int 0, .ref a3, .int 5, .ref a4, .int 1, .ref a5, .int 1, .int 1, .ref a6, .int 6, .int 0, .int 1, .int 0]))] sz) [(a0, .inr (6, [.int 0, .int 0, .ref a1, .int 31, .int 1, .int 1, .int 1, .int 1, .ref a2])), (a1, .inr (5, [.ref cb, .int 81, .int 0, .ref a3, .int 5, .ref a4, .int 1, .ref a5, .int 1, .int 1, .ref a6, .int 6, .int 0, .int 1, .int 0]))]) (va_A [(a0, .inr (6, [.int 0, .int 0, .ref a1, .int 30, .int 1, .int 1, .int 1, .int 1, .ref a2])), (a1, .inr (5, [.ref cb, .int 81, .int 0, .ref a3, .int 5, .ref a4, .int 1, .ref a5, .int 1, .int 1, .ref a6, .int 6, .int 0, .int 1, .int 0]))] sz)) 0 0 (va_A [(a0, .inr (6, [.int 0, .int 0, .ref a1, .int 30, .int 1, .int 1, .int 1, .int 1, .ref a2])), (a1, .inr (5, [.ref cb, .int 81, .int 0, .ref a3, .int 5, .ref a4, .int 1, .ref a5, .int 1, .int 1, .ref a6, .int 6, .int 0, .int 1, .int 0]))] sz) := by
  refine Met.ofW (cc := cX6_readNumber) (maxL := 5) (ret := (some .int)) (by decide) rfl ?_
  intro p e s m args below meth c s₁ B hml hv
  obtain ⟨rfl, hsz, hP, hK, hD0, hN, hSK⟩ := hv
  have hx := B.exec
  have hb := B.bytes
  have hr := B.returns
  have hts := atoms_spec (ws := wsX6_readNumber) B.pre
  have hown : s.vm.findClass RX6 = some m.cls := findClass_of_methodNamed B.named
  have hlocks := B.notSynchronized
  subst hsz
  have hD := hD0.self (sz := s.heap.size)
  generalize hAe : va_A [(a0, .inr (6, [.int 0, .int 0, .ref a1, .int 30, .int 1, .int 1, .int 1, .int 1, .ref a2])), (a1, .inr (5, [.ref cb, .int 81, .int 0, .ref a3, .int 5, .ref a4, .int 1, .ref a5, .int 1, .int 1, .ref a6, .int 6, .int 0, .int 1, .int 0]))] s.heap.size = A at hD hSK ⊢
  have hA : ∀ q : Nat, s.heap.size ≤ q → A q := fun q h => by rw [← hAe]; exact Or.inr h
  have hS : va_S A s.heap s.heap [] := va_S.rf
  have hP : va_P (dC, dI) vwCl [(a0, .inr (6, [.int 0, .int 0, .ref a1, .int 30, .int 1, .int 1, .int 1, .int 1, .ref a2])), (a1, .inr (5, [.ref cb, .int 81, .int 0, .ref a3, .int 5, .ref a4, .int 1, .ref a5, .int 1, .int 1, .ref a6, .int 6, .int 0, .int 1, .int 0]))] s.heap := hP
  have hl := lv_entry ([.ref a0, .int 0, .int 32]) (n := 5) (Nat.le_of_ble_eq_true rfl)
  rw [lg_entry_eq]
  generalize (lg_sl ([.ref a0, .int 0, .int 32]) ++ List.replicate (5 - (lg_sl ([.ref a0, .int 0, .int 32])).length) Slot.unset).toArray = ls at hl ⊢
  replace hl : lv_has ls 5 [(0, .ref a0), (1, .int 0), (2, .int 32)] := hl
  refine lv_aload_n hx hb dX6_readNumber_0 rfl (lv_at hl 0 rfl) ?_
  refine va_get (D := (dC, dI)) (ci := 6) (v := .int 30) (C := RX6) (T := TX6) (N := 9) hx hb hts iw_X6_readNumber_X6 hown hK hP 0 rfl rfl 3 (by decide) (hts _ m_X6_readNumber_1) (fun _ h9 => h9) rfl dX6_readNumber_1 ?_
  refine lv_istore_n (lv' := [(3, .int 30), (0, .ref a0), (1, .int 0), (2, .int 32)]) hx hb dX6_readNumber_4 rfl hl (by decide) rfl (fun ls hl2 => ?_)
  replace hl := hl2
  clear hl2
  refine lv_aload_n hx hb dX6_readNumber_5 rfl (lv_at hl 1 rfl) ?_
  have hPc := hP.sub (ws' := [(a0, .inr (6, [.int 0, .int 0, .ref a1, .int 30, .int 1, .int 1, .int 1, .int 1, .ref a2])), (a1, .inr (5, [.ref cb, .int 81, .int 0, .ref a3, .int 5, .ref a4, .int 1, .ref a5, .int 1, .int 1, .ref a6, .int 6, .int 0, .int 1, .int 0]))]) [0, 1] rfl
  have hDc := hD.sub (ws' := [(a0, .inr (6, [.int 0, .int 0, .ref a1, .int 30, .int 1, .int 1, .int 1, .int 1, .ref a2])), (a1, .inr (5, [.ref cb, .int 81, .int 0, .ref a3, .int 5, .ref a4, .int 1, .ref a5, .int 1, .int 1, .ref a6, .int 6, .int 0, .int 1, .int 0]))]) [0, 1] (by decide) rfl
  have hFc := va_free (wc := [(a0, .inr (6, [.int 0, .int 0, .ref a1, .int 30, .int 1, .int 1, .int 1, .int 1, .ref a2])), (a1, .inr (5, [.ref cb, .int 81, .int 0, .ref a3, .int 5, .ref a4, .int 1, .ref a5, .int 1, .int 1, .ref a6, .int 6, .int 0, .int 1, .int 0]))]) hD hS hA [0, 1] rfl
  refine va_calli (va_runV (As := []) (rest := []) ⟨hx, hb, hml, hown, hts⟩ (cc_349_X6_readByte l dC dI cy s.heap.size cb a0 a1 a2 a3 a4 a5 a6) (cwV 0 hts gX6_readNumber_X6_readByte rfl rfl rfl (by decide +kernel) ⟨Nat.le_of_ble_eq_true rfl, Nat.le_of_ble_eq_true rfl⟩) ⟨fun a U g mk q => by obtain ⟨q0, q1, qP, qK, qD, qN, qS⟩ := q; exact ⟨q0, q1, qP, va_K.moved (u := U) (U := U.calling g mk a) (Vm.Alike.refl U.vm) qK, qD, qN.same rfl, SK.moved (u := U) (U := U.calling g mk a) (Vm.Alike.refl U.vm) qS⟩, va_recv hK hPc (ci := 6) (q0 := 0) rfl rfl, fun U hU hW => ⟨rfl, by rw [hU], by rw [hU]; exact hPc, va_K.moved hW.alike hK, hDc.weaken (fun _ _ _ _ => trivial), hN.warm hW, by rw [hU]; exact ((hSK.kept hS.2.1).narrow hFc).moved hW.alike⟩⟩ rfl rfl hl.1 rfl (lv_room (Nat.le_of_ble_eq_true rfl)) dX6_readNumber_6 ⟨Nat.le_of_ble_eq_true rfl, Nat.le_of_ble_eq_true rfl⟩) hS (fun q _ h => hFc q h) hFc (fun r_1 u t H_2 locs ht hvm hw hB hz1 hk1 hS2 => ?_)
  obtain ⟨hP1, hK1, hD1⟩ := hB
  rw [ht] at hP1
  obtain rfl := hw
  obtain ⟨hP2, hD2⟩ := va_join (wr := []) (w1 := [(a0, .inr (6, [.int 0, .int 0, .ref a1, .int 31, .int 1, .int 1, .int 1, .int 1, .ref a2])), (a1, .inr (5, [.ref cb, .int 81, .int 0, .ref a3, .int 5, .ref a4, .int 1, .ref a5, .int 1, .int 1, .ref a6, .int 6, .int 0, .int 1, .int 0]))]) hP hD [0, 1] [] rfl rfl (by decide) (by decide) hk1 hFc hP1 hD1
  replace hP : va_P (dC, dI) vwCl [(a0, .inr (6, [.int 0, .int 0, .ref a1, .int 31, .int 1, .int 1, .int 1, .int 1, .ref a2])), (a1, .inr (5, [.ref cb, .int 81, .int 0, .ref a3, .int 5, .ref a4, .int 1, .ref a5, .int 1, .int 1, .ref a6, .int 6, .int 0, .int 1, .int 0]))] H_2 := hP2
  replace hD : va_D A [(a0, .inr (6, [.int 0, .int 0, .ref a1, .int 31, .int 1, .int 1, .int 1, .int 1, .ref a2])), (a1, .inr (5, [.ref cb, .int 81, .int 0, .ref a3, .int 5, .ref a4, .int 1, .ref a5, .int 1, .int 1, .ref a6, .int 6, .int 0, .int 1, .int 0]))] := hD2
  replace hS := hS2
  clear hP2 hD2 hS2
  clear hPc hDc hFc hP1 hD1 hK1 hk1 hz1 hvm ht
  refine W.widen (k := 0) (n := 0) (Nat.le_of_ble_eq_true rfl) (Nat.le_of_ble_eq_true rfl) ?_
  refine lv_istore (lv' := [(4, .int 0), (3, .int 30), (0, .ref a0), (1, .int 0), (2, .int 32)]) hx hb dX6_readNumber_9 hl (by decide) rfl (fun ls hl2 => ?_)
  replace hl := hl2
  clear hl2
  refine lv_iload hx hb dX6_readNumber_11 (lv_at hl 0 rfl) ?_
  refine lv_iload_n hx hb dX6_readNumber_13 rfl (lv_at hl 3 rfl) ?_
  refine lv_icmp_lt (tgt := 23) hx hb dX6_readNumber_14 (by decide) (fun h => absurd h (by decide)) (fun _ => ?_)
  refine lv_iload hx hb dX6_readNumber_17 (lv_at hl 0 rfl) ?_
  refine lv_iload_n hx hb dX6_readNumber_19 rfl (lv_at hl 4 rfl) ?_
  refine lv_icmp_le (tgt := 29) hx hb dX6_readNumber_20 (by decide) (fun _ => ?_) (fun h => absurd (by decide) h)
  refine lv_aload_n hx hb dX6_readNumber_29 rfl (lv_at hl 2 rfl) ?_
  refine va_get (D := (dC, dI)) (ci := 6) (v := .int 0) (C := RX6) (T := TX6) (N := 9) hx hb hts iw_X6_readNumber_X6 hown hK hP 0 rfl rfl 1 (by decide) (hts _ m_X6_readNumber_2) (fun _ h9 => h9) rfl dX6_readNumber_30 ?_
  refine lv_if_ne (tgt := 41) hx hb dX6_readNumber_33 (by decide) (fun h => absurd (by decide) h) (fun _ => ?_)
  refine lv_iload hx hb dX6_readNumber_36 (lv_at hl 0 rfl) ?_
  refine lv_goto (tgt := 42) hx hb dX6_readNumber_38 (by decide) ?_
  exact W.iret hx hb hr (fun t ht hW => ⟨⟨0, (), rfl, rfl, by rw [ht]; exact hP, va_K.moved hW.alike hK, hD⟩, hS.F ht⟩) hS.2.2 dX6_readNumber_42

set_option maxHeartbeats 4000000 in
set_option maxRecDepth 100000 in
theorem cc_350_X6_readTypes (l : Launch) (dC : Nat → ClassId) (dI : Nat → Nat → Nat) (cy : Nat → ClassId) (sz : Nat) (cb : Nat) (a0 : Nat) (a1 : Nat) (a2 : Nat)  : Met l yX6_readTypes wsX6_readTypes ({ frames := 0, cells := 0, slots := 0, locals := 0 }) (va_Pc [.ref a0, .int 0, .int 1] (fun U => U.heap.size = sz ∧ va_P (dC, dI) vwCl [(a0, .inr (6, [.int 0, .int 0, .ref a1, .int 31, .int 1, .int 1, .int 1, .int 1, .ref a2]))] U.heap ∧ va_K (dC, dI) vwCl (TYS cy) U ∧ va_D (fun _ => True) [(a0, .inr (6, [.int 0, .int 0, .ref a1, .int 31, .int 1, .int 1, .int 1, .int 1, .ref a2]))] ∧ NK U ∧ SK cb (va_A [(a0, .inr (6, [.int 0, .int 0, .ref a1, .int 31, .int 1, .int 1, .int 1, .int 1, .ref a2]))] sz) U U.heap)) (va_Qv (fun u : Unit => True) (fun u t => va_P (dC, dI) vwCl [(a0, .inr (6, [.int 0, .int 0, .ref a1, .int 31, .int 1, .int 1, .int 1, .int 1, .ref a2]))] t.heap ∧ va_K (dC, dI) vwCl (TYS cy) t ∧ va_D (va_A [(a0, .inr (6, [.int 0, .int 0, .ref a1, .int 31, .int 1, .int 1, .int 1, .int 1, .ref a2]))] sz) [(a0, .inr (6, [.int 0, .int 0, .ref a1, .int 31, .int 1, .int 1, .int 1, .int 1, .ref a2]))]) (va_A [(a0, .inr (6, [.int 0, .int 0, .ref a1, .int 31, .int 1, .int 1, .int 1, .int 1, .ref a2]))] sz)) 0 0 (va_A [(a0, .inr (6, [.int 0, .int 0, .ref a1, .int 31, .int 1, .int 1, .int 1, .int 1, .ref a2]))] sz) := by
  refine Met.ofW (cc := cX6_readTypes) (maxL := 4) (ret := none) (by decide) rfl ?_
  intro p e s m args below meth c s₁ B hml hv
  obtain ⟨rfl, hsz, hP, hK, hD0, hN, hSK⟩ := hv
  have hx := B.exec
  have hb := B.bytes
  have hr := B.returns
  have hts := atoms_spec (ws := wsX6_readTypes) B.pre
  have hown : s.vm.findClass RX6 = some m.cls := findClass_of_methodNamed B.named
  have hlocks := B.notSynchronized
  subst hsz
  have hD := hD0.self (sz := s.heap.size)
  generalize hAe : va_A [(a0, .inr (6, [.int 0, .int 0, .ref a1, .int 31, .int 1, .int 1, .int 1, .int 1, .ref a2]))] s.heap.size = A at hD hSK ⊢
  have hA : ∀ q : Nat, s.heap.size ≤ q → A q := fun q h => by rw [← hAe]; exact Or.inr h
  have hS : va_S A s.heap s.heap [] := va_S.rf
  have hP : va_P (dC, dI) vwCl [(a0, .inr (6, [.int 0, .int 0, .ref a1, .int 31, .int 1, .int 1, .int 1, .int 1, .ref a2]))] s.heap := hP
  have hl := lv_entry ([.ref a0, .int 0, .int 1]) (n := 4) (Nat.le_of_ble_eq_true rfl)
  rw [lg_entry_eq]
  generalize (lg_sl ([.ref a0, .int 0, .int 1]) ++ List.replicate (4 - (lg_sl ([.ref a0, .int 0, .int 1])).length) Slot.unset).toArray = ls at hl ⊢
  replace hl : lv_has ls 4 [(0, .ref a0), (1, .int 0), (2, .int 1)] := hl
  refine lv_iconst (v := 0) hx hb dX6_readTypes_0 (by decide) ?_
  refine lv_istore_n (lv' := [(3, .int 0), (0, .ref a0), (1, .int 0), (2, .int 1)]) hx hb dX6_readTypes_1 rfl hl (by decide) rfl (fun ls hl2 => ?_)
  replace hl := hl2
  clear hl2
  refine lv_iload_n hx hb dX6_readTypes_2 rfl (lv_at hl 0 rfl) ?_
  refine lv_iload_n hx hb dX6_readTypes_3 rfl (lv_at hl 2 rfl) ?_
  refine lv_icmp_ge (tgt := 32) hx hb dX6_readTypes_4 (by decide) (fun _ => ?_) (fun h => absurd (by decide) h)
  exact W.vret hx hb hr (fun t ht hW => ⟨⟨(), rfl, trivial, by rw [ht]; exact hP, va_K.moved hW.alike hK, hD⟩, hS.F ht⟩) hS.2.2 dX6_readTypes_32

set_option maxHeartbeats 4000000 in
set_option maxRecDepth 100000 in
theorem cc_347_X6_readList (l : Launch) (dC : Nat → ClassId) (dI : Nat → Nat → Nat) (cy : Nat → ClassId) (sz : Nat) (cb : Nat) (a0 : Nat) (a1 : Nat) (a2 : Nat) (a3 : Nat) (a4 : Nat) (a5 : Nat) (a6 : Nat)  : Met l yX6_readList wsX6_readList ({ frames := 2, cells := 0, slots := 0, locals := 44 }) (va_Pc [.ref a0, .int 32] (fun U => U.heap.size = sz ∧ va_P (dC, dI) vwCl [(a0, .inr (6, [.int 0, .int 0, .ref a1, .int 30, .int 1, .int 1, .int 1, .int 1, .ref a2])), (a1, .inr (5, [.ref cb, .int 81, .int 0, .ref a3, .int 5, .ref a4, .int 1, .ref a5, .int 1, .int 1, .ref a6, .int 6, .int 0, .int 1, .int 0]))] U.heap ∧ va_K (dC, dI) vwCl (TYS cy) U ∧ va_D (fun _ => True) [(a0, .inr (6, [.int 0, .int 0, .ref a1, .int 30, .int 1, .int 1, .int 1, .int 1, .ref a2])), (a1, .inr (5, [.ref cb, .int 81, .int 0, .ref a3, .int 5, .ref a4, .int 1, .ref a5, .int 1, .int 1, .ref a6, .int 6, .int 0, .int 1, .int 0]))] ∧ NK U ∧ SK cb (va_A [(a0, .inr (6, [.int 0, .int 0, .ref a1, .int 30, .int 1, .int 1, .int 1, .int 1, .ref a2])), (a1, .inr (5, [.ref cb, .int 81, .int 0, .ref a3, .int 5, .ref a4, .int 1, .ref a5, .int 1, .int 1, .ref a6, .int 6, .int 0, .int 1, .int 0]))] sz) U U.heap)) (va_Qi (fun (r : Int32) (u : Unit) => r = 0) (fun u t => va_P (dC, dI) vwCl [(a0, .inr (6, [.int 0, .int 0, .ref a1, .int 31, .int 1, .int 1, .int 1, .int 1, .ref a2])), (a1, .inr (5, [.ref cb, .int 81, .int 0, .ref a3, .int 5, .ref a4, .int 1, .ref a5, .int 1, .int 1, .ref a6, .int 6, .int 0, .int 1, .int 0]))] t.heap ∧ va_K (dC, dI) vwCl (TYS cy) t ∧ va_D (va_A [(a0, .inr (6, [.int 0, .int 0, .ref a1, .int 30, .int 1, .int 1, .int 1, .int 1, .ref a2])), (a1, .inr (5, [.ref cb, .int 81, .int 0, .ref a3, .int 5, .ref a4, .int 1, .ref a5, .int 1, .int 1, .ref a6, .int 6, .int 0, .int 1, .int 0]))] sz) [(a0, .inr (6, [.int 0, .int 0, .ref a1, .int 31, .int 1, .int 1, .int 1, .int 1, .ref a2])), (a1, .inr (5, [.ref cb, .int 81, .int 0, .ref a3, .int 5, .ref a4, .int 1, .ref a5, .int 1, .int 1, .ref a6, .int 6, .int 0, .int 1, .int 0]))]) (va_A [(a0, .inr (6, [.int 0, .int 0, .ref a1, .int 30, .int 1, .int 1, .int 1, .int 1, .ref a2])), (a1, .inr (5, [.ref cb, .int 81, .int 0, .ref a3, .int 5, .ref a4, .int 1, .ref a5, .int 1, .int 1, .ref a6, .int 6, .int 0, .int 1, .int 0]))] sz)) 0 0 (va_A [(a0, .inr (6, [.int 0, .int 0, .ref a1, .int 30, .int 1, .int 1, .int 1, .int 1, .ref a2])), (a1, .inr (5, [.ref cb, .int 81, .int 0, .ref a3, .int 5, .ref a4, .int 1, .ref a5, .int 1, .int 1, .ref a6, .int 6, .int 0, .int 1, .int 0]))] sz) := by
  refine Met.ofW (cc := cX6_readList) (maxL := 3) (ret := (some .int)) (by decide) rfl ?_
  intro p e s m args below meth c s₁ B hml hv
  obtain ⟨rfl, hsz, hP, hK, hD0, hN, hSK⟩ := hv
  have hx := B.exec
  have hb := B.bytes
  have hr := B.returns
  have hts := atoms_spec (ws := wsX6_readList) B.pre
  have hown : s.vm.findClass RX6 = some m.cls := findClass_of_methodNamed B.named
  have hlocks := B.notSynchronized
  subst hsz
  have hD := hD0.self (sz := s.heap.size)
  generalize hAe : va_A [(a0, .inr (6, [.int 0, .int 0, .ref a1, .int 30, .int 1, .int 1, .int 1, .int 1, .ref a2])), (a1, .inr (5, [.ref cb, .int 81, .int 0, .ref a3, .int 5, .ref a4, .int 1, .ref a5, .int 1, .int 1, .ref a6, .int 6, .int 0, .int 1, .int 0]))] s.heap.size = A at hD hSK ⊢
  have hA : ∀ q : Nat, s.heap.size ≤ q → A q := fun q h => by rw [← hAe]; exact Or.inr h
  have hS : va_S A s.heap s.heap [] := va_S.rf
  have hP : va_P (dC, dI) vwCl [(a0, .inr (6, [.int 0, .int 0, .ref a1, .int 30, .int 1, .int 1, .int 1, .int 1, .ref a2])), (a1, .inr (5, [.ref cb, .int 81, .int 0, .ref a3, .int 5, .ref a4, .int 1, .ref a5, .int 1, .int 1, .ref a6, .int 6, .int 0, .int 1, .int 0]))] s.heap := hP
  have hl := lv_entry ([.ref a0, .int 32]) (n := 3) (Nat.le_of_ble_eq_true rfl)
  rw [lg_entry_eq]
  generalize (lg_sl ([.ref a0, .int 32]) ++ List.replicate (3 - (lg_sl ([.ref a0, .int 32])).length) Slot.unset).toArray = ls at hl ⊢
  replace hl : lv_has ls 3 [(0, .ref a0), (1, .int 32)] := hl
  refine lv_aload_n hx hb dX6_readList_0 rfl (lv_at hl 0 rfl) ?_
  refine lv_iconst (v := 0) hx hb dX6_readList_1 (by decide) ?_
  refine lv_iload_n hx hb dX6_readList_2 rfl (lv_at hl 1 rfl) ?_
  have hPc := hP.sub (ws' := [(a0, .inr (6, [.int 0, .int 0, .ref a1, .int 30, .int 1, .int 1, .int 1, .int 1, .ref a2])), (a1, .inr (5, [.ref cb, .int 81, .int 0, .ref a3, .int 5, .ref a4, .int 1, .ref a5, .int 1, .int 1, .ref a6, .int 6, .int 0, .int 1, .int 0]))]) [0, 1] rfl
  have hDc := hD.sub (ws' := [(a0, .inr (6, [.int 0, .int 0, .ref a1, .int 30, .int 1, .int 1, .int 1, .int 1, .ref a2])), (a1, .inr (5, [.ref cb, .int 81, .int 0, .ref a3, .int 5, .ref a4, .int 1, .ref a5, .int 1, .int 1, .ref a6, .int 6, .int 0, .int 1, .int 0]))]) [0, 1] (by decide) rfl
  have hFc := va_free (wc := [(a0, .inr (6, [.int 0, .int 0, .ref a1, .int 30, .int 1, .int 1, .int 1, .int 1, .ref a2])), (a1, .inr (5, [.ref cb, .int 81, .int 0, .ref a3, .int 5, .ref a4, .int 1, .ref a5, .int 1, .int 1, .ref a6, .int 6, .int 0, .int 1, .int 0]))]) hD hS hA [0, 1] rfl
  refine va_calli (va_runV (As := [.int 0, .int 32]) (rest := []) ⟨hx, hb, hml, hown, hts⟩ (cc_348_X6_readNumber l dC dI cy s.heap.size cb a0 a1 a2 a3 a4 a5 a6) (cwV 2 hts gX6_readList_X6_readNumber rfl rfl rfl (by decide +kernel) ⟨Nat.le_of_ble_eq_true rfl, Nat.le_of_ble_eq_true rfl⟩) ⟨fun a U g mk q => by obtain ⟨q0, q1, qP, qK, qD, qN, qS⟩ := q; exact ⟨q0, q1, qP, va_K.moved (u := U) (U := U.calling g mk a) (Vm.Alike.refl U.vm) qK, qD, qN.same rfl, SK.moved (u := U) (U := U.calling g mk a) (Vm.Alike.refl U.vm) qS⟩, va_recv hK hPc (ci := 6) (q0 := 0) rfl rfl, fun U hU hW => ⟨rfl, by rw [hU], by rw [hU]; exact hPc, va_K.moved hW.alike hK, hDc.weaken (fun _ _ _ _ => trivial), hN.warm hW, by rw [hU]; exact ((hSK.kept hS.2.1).narrow hFc).moved hW.alike⟩⟩ rfl rfl hl.1 rfl (lv_room (Nat.le_of_ble_eq_true rfl)) dX6_readList_3 ⟨Nat.le_of_ble_eq_true rfl, Nat.le_of_ble_eq_true rfl⟩) hS (fun q _ h => hFc q h) hFc (fun r_1 u t H_2 locs ht hvm hw hB hz1 hk1 hS2 => ?_)
  obtain ⟨hP1, hK1, hD1⟩ := hB
  rw [ht] at hP1
  obtain rfl := hw
  obtain ⟨hP2, hD2⟩ := va_join (wr := []) (w1 := [(a0, .inr (6, [.int 0, .int 0, .ref a1, .int 31, .int 1, .int 1, .int 1, .int 1, .ref a2])), (a1, .inr (5, [.ref cb, .int 81, .int 0, .ref a3, .int 5, .ref a4, .int 1, .ref a5, .int 1, .int 1, .ref a6, .int 6, .int 0, .int 1, .int 0]))]) hP hD [0, 1] [] rfl rfl (by decide) (by decide) hk1 hFc hP1 hD1
  replace hP : va_P (dC, dI) vwCl [(a0, .inr (6, [.int 0, .int 0, .ref a1, .int 31, .int 1, .int 1, .int 1, .int 1, .ref a2])), (a1, .inr (5, [.ref cb, .int 81, .int 0, .ref a3, .int 5, .ref a4, .int 1, .ref a5, .int 1, .int 1, .ref a6, .int 6, .int 0, .int 1, .int 0]))] H_2 := hP2
  replace hD : va_D A [(a0, .inr (6, [.int 0, .int 0, .ref a1, .int 31, .int 1, .int 1, .int 1, .int 1, .ref a2])), (a1, .inr (5, [.ref cb, .int 81, .int 0, .ref a3, .int 5, .ref a4, .int 1, .ref a5, .int 1, .int 1, .ref a6, .int 6, .int 0, .int 1, .int 0]))] := hD2
  replace hS := hS2
  clear hP2 hD2 hS2
  clear hPc hDc hFc hP1 hD1 hK1 hk1 hz1 hvm ht
  refine W.widen (k := 0) (n := 0) (Nat.le_of_ble_eq_true rfl) (Nat.le_of_ble_eq_true rfl) ?_
  refine lv_istore_n (lv' := [(2, .int 0), (0, .ref a0), (1, .int 32)]) hx hb dX6_readList_6 rfl hl (by decide) rfl (fun ls hl2 => ?_)
  replace hl := hl2
  clear hl2
  refine lv_aload_n hx hb dX6_readList_7 rfl (lv_at hl 1 rfl) ?_
  refine lv_iload_n hx hb dX6_readList_8 rfl (lv_at hl 0 rfl) ?_
  refine lv_iconst (v := 1) hx hb dX6_readList_9 (by decide) ?_
  have hPc := hP.sub (ws' := [(a0, .inr (6, [.int 0, .int 0, .ref a1, .int 31, .int 1, .int 1, .int 1, .int 1, .ref a2]))]) [0] rfl
  have hDc := hD.sub (ws' := [(a0, .inr (6, [.int 0, .int 0, .ref a1, .int 31, .int 1, .int 1, .int 1, .int 1, .ref a2]))]) [0] (by decide) rfl
  have hFc := va_free (wc := [(a0, .inr (6, [.int 0, .int 0, .ref a1, .int 31, .int 1, .int 1, .int 1, .int 1, .ref a2]))]) hD hS hA [0] rfl
  refine va_callv (va_runV (As := [.int 0, .int 1]) (rest := []) ⟨hx, hb, hml, hown, hts⟩ (cc_350_X6_readTypes l dC dI cy H_2.size cb a0 a1 a2) (cwV 2 hts gX6_readList_X6_readTypes rfl rfl rfl (by decide +kernel) ⟨Nat.le_of_ble_eq_true rfl, Nat.le_of_ble_eq_true rfl⟩) ⟨fun a U g mk q => by obtain ⟨q0, q1, qP, qK, qD, qN, qS⟩ := q; exact ⟨q0, q1, qP, va_K.moved (u := U) (U := U.calling g mk a) (Vm.Alike.refl U.vm) qK, qD, qN.same rfl, SK.moved (u := U) (U := U.calling g mk a) (Vm.Alike.refl U.vm) qS⟩, va_recv hK hPc (ci := 6) (q0 := 0) rfl rfl, fun U hU hW => ⟨rfl, by rw [hU], by rw [hU]; exact hPc, va_K.moved hW.alike hK, hDc.weaken (fun _ _ _ _ => trivial), hN.warm hW, by rw [hU]; exact ((hSK.kept hS.2.1).narrow hFc).moved hW.alike⟩⟩ rfl rfl hl.1 rfl (lv_room (Nat.le_of_ble_eq_true rfl)) dX6_readList_10 ⟨Nat.le_of_ble_eq_true rfl, Nat.le_of_ble_eq_true rfl⟩) hS (fun q _ h => hFc q h) hFc (fun u t H_3 locs ht hvm hw hB hz1 hk1 hS2 => ?_)
  obtain ⟨hP1, hK1, hD1⟩ := hB
  rw [ht] at hP1
  obtain ⟨hP2, hD2⟩ := va_join (wr := [(a1, .inr (5, [.ref cb, .int 81, .int 0, .ref a3, .int 5, .ref a4, .int 1, .ref a5, .int 1, .int 1, .ref a6, .int 6, .int 0, .int 1, .int 0]))]) (w1 := [(a0, .inr (6, [.int 0, .int 0, .ref a1, .int 31, .int 1, .int 1, .int 1, .int 1, .ref a2]))]) hP hD [0] [1] rfl rfl (by decide) (by decide) hk1 hFc hP1 hD1
  replace hP : va_P (dC, dI) vwCl [(a1, .inr (5, [.ref cb, .int 81, .int 0, .ref a3, .int 5, .ref a4, .int 1, .ref a5, .int 1, .int 1, .ref a6, .int 6, .int 0, .int 1, .int 0])), (a0, .inr (6, [.int 0, .int 0, .ref a1, .int 31, .int 1, .int 1, .int 1, .int 1, .ref a2]))] H_3 := hP2
  replace hD : va_D A [(a1, .inr (5, [.ref cb, .int 81, .int 0, .ref a3, .int 5, .ref a4, .int 1, .ref a5, .int 1, .int 1, .ref a6, .int 6, .int 0, .int 1, .int 0])), (a0, .inr (6, [.int 0, .int 0, .ref a1, .int 31, .int 1, .int 1, .int 1, .int 1, .ref a2]))] := hD2
  replace hS := hS2
  clear hP2 hD2 hS2
  clear hPc hDc hFc hP1 hD1 hK1 hk1 hz1 hvm ht
  refine W.widen (k := 0) (n := 0) (Nat.le_of_ble_eq_true rfl) (Nat.le_of_ble_eq_true rfl) ?_
  refine lv_iload_n hx hb dX6_readList_13 rfl (lv_at hl 0 rfl) ?_
  have hP := hP.sub (ws' := [(a0, .inr (6, [.int 0, .int 0, .ref a1, .int 31, .int 1, .int 1, .int 1, .int 1, .ref a2])), (a1, .inr (5, [.ref cb, .int 81, .int 0, .ref a3, .int 5, .ref a4, .int 1, .ref a5, .int 1, .int 1, .ref a6, .int 6, .int 0, .int 1, .int 0]))]) [1, 0] rfl
  have hD := hD.sub (ws' := [(a0, .inr (6, [.int 0, .int 0, .ref a1, .int 31, .int 1, .int 1, .int 1, .int 1, .ref a2])), (a1, .inr (5, [.ref cb, .int 81, .int 0, .ref a3, .int 5, .ref a4, .int 1, .ref a5, .int 1, .int 1, .ref a6, .int 6, .int 0, .int 1, .int 0]))]) [1, 0] (by decide) rfl
  exact W.iret hx hb hr (fun t ht hW => ⟨⟨0, (), rfl, rfl, by rw [ht]; exact hP, va_K.moved hW.alike hK, hD⟩, hS.F ht⟩) hS.2.2 dX6_readList_14

set_option maxHeartbeats 4000000 in
set_option maxRecDepth 100000 in
theorem cc_352_X6_readByte (l : Launch) (dC : Nat → ClassId) (dI : Nat → Nat → Nat) (cy : Nat → ClassId) (sz : Nat) (cb : Nat) (a0 : Nat) (a1 : Nat) (a2 : Nat) (a3 : Nat) (a4 : Nat) (a5 : Nat) (a6 : Nat)  : Met l yX6_readByte wsX6_readByte ({ frames := 0, cells := 0, slots := 0, locals := 0 }) (va_Pc [.ref a0] (fun U => U.heap.size = sz ∧ va_P (dC, dI) vwCl [(a0, .inr (6, [.int 0, .int 0, .ref a1, .int 31, .int 1, .int 1, .int 2, .int 1, .ref a2])), (a1, .inr (5, [.ref cb, .int 81, .int 0, .ref a3, .int 5, .ref a4, .int 1, .ref a5, .int 1, .int 1, .ref a6, .int 6, .int 0, .int 1, .int 0]))] U.heap ∧ va_K (dC, dI) vwCl (TYS cy) U ∧ va_D (fun _ => True) [(a0, .inr (6, [.int 0, .int 0, .ref a1, .int 31, .int 1, .int 1, .int 2, .int 1, .ref a2])), (a1, .inr (5, [.ref cb, .int 81, .int 0, .ref a3, .int 5, .ref a4, .int 1, .ref a5, .int 1, .int 1, .ref a6, .int 6, .int 0, .int 1, .int 0]))] ∧ NK U ∧ SK cb (va_A [(a0, .inr (6, [.int 0, .int 0, .ref a1, .int 31, .int 1, .int 1, .int 2, .int 1, .ref a2])), (a1, .inr (5, [.ref cb, .int 81, .int 0, .ref a3, .int 5, .ref a4, .int 1, .ref a5, .int 1, .int 1, .ref a6, .int 6, .int 0, .int 1, .int 0]))] sz) U U.heap)) (va_Qi (fun (r : Int32) (u : Unit) => r = 0) (fun u t => va_P (dC, dI) vwCl [(a0, .inr (6, [.int 0, .int 0, .ref a1, .int 32, .int 1, .int 1, .int 2, .int 1, .ref a2])), (a1, .inr (5, [.ref cb, .int 81, .int 0, .ref a3, .int 5, .ref a4, .int 1, .ref a5, .int 1, .int 1, .ref a6, .int 6, .int 0, .int 1, .int 0]))] t.heap ∧ va_K (dC, dI) vwCl (TYS cy) t ∧ va_D (va_A [(a0, .inr (6, [.int 0, .int 0, .ref a1, .int 31, .int 1, .int 1, .int 2, .int 1, .ref a2])), (a1, .inr (5, [.ref cb, .int 81, .int 0, .ref a3, .int 5, .ref a4, .int 1, .ref a5, .int 1, .int 1, .ref a6, .int 6, .int 0, .int 1, .int 0]))] sz) [(a0, .inr (6, [.int 0, .int 0, .ref a1, .int 32, .int 1, .int 1, .int 2, .int 1, .ref a2])), (a1, .inr (5, [.ref cb, .int 81, .int 0, .ref a3, .int 5, .ref a4, .int 1, .ref a5, .int 1, .int 1, .ref a6, .int 6, .int 0, .int 1, .int 0]))]) (va_A [(a0, .inr (6, [.int 0, .int 0, .ref a1, .int 31, .int 1, .int 1, .int 2, .int 1, .ref a2])), (a1, .inr (5, [.ref cb, .int 81, .int 0, .ref a3, .int 5, .ref a4, .int 1, .ref a5, .int 1, .int 1, .ref a6, .int 6, .int 0, .int 1, .int 0]))] sz)) 0 0 (va_A [(a0, .inr (6, [.int 0, .int 0, .ref a1, .int 31, .int 1, .int 1, .int 2, .int 1, .ref a2])), (a1, .inr (5, [.ref cb, .int 81, .int 0, .ref a3, .int 5, .ref a4, .int 1, .ref a5, .int 1, .int 1, .ref a6, .int 6, .int 0, .int 1, .int 0]))] sz) := by
  refine Met.ofW (cc := cX6_readByte) (maxL := 1) (ret := (some .int)) (by decide) rfl ?_
  intro p e s m args below meth c s₁ B hml hv
  obtain ⟨rfl, hsz, hP, hK, hD0, hN, hSK⟩ := hv
  have hx := B.exec
  have hb := B.bytes
  have hr := B.returns
  have hts := atoms_spec (ws := wsX6_readByte) B.pre
  have hown : s.vm.findClass RX6 = some m.cls := findClass_of_methodNamed B.named
  have hlocks := B.notSynchronized
  subst hsz
  have hD := hD0.self (sz := s.heap.size)
  generalize hAe : va_A [(a0, .inr (6, [.int 0, .int 0, .ref a1, .int 31, .int 1, .int 1, .int 2, .int 1, .ref a2])), (a1, .inr (5, [.ref cb, .int 81, .int 0, .ref a3, .int 5, .ref a4, .int 1, .ref a5, .int 1, .int 1, .ref a6, .int 6, .int 0, .int 1, .int 0]))] s.heap.size = A at hD hSK ⊢
  have hA : ∀ q : Nat, s.heap.size ≤ q → A q := fun q h => by rw [← hAe]; exact Or.inr h
  have hS : va_S A s.heap s.heap [] := va_S.rf
  have hP : va_P (dC, dI) vwCl [(a0, .inr (6, [.int 0, .int 0, .ref a1, .int 31, .int 1, .int 1, .int 2, .int 1, .ref a2])), (a1, .inr (5, [.ref cb, .int 81, .int 0, .ref a3, .int 5, .ref a4, .int 1, .ref a5, .int 1, .int 1, .ref a6, .int 6, .int 0, .int 1, .int 0]))] s.heap := hP
  have hl := lv_entry ([.ref a0]) (n := 1) (Nat.le_of_ble_eq_true rfl)
  rw [lg_entry_eq]
  generalize (lg_sl ([.ref a0]) ++ List.replicate (1 - (lg_sl ([.ref a0])).length) Slot.unset).toArray = ls at hl ⊢
  replace hl : lv_has ls 1 [(0, .ref a0)] := hl
  refine lv_aload_n hx hb dX6_readByte_0 rfl (lv_at hl 0 rfl) ?_
  refine va_get (D := (dC, dI)) (ci := 6) (v := .int 0) (C := RX6) (T := TX6) (N := 9) hx hb hts iw_X6_readByte_X6 hown hK hP 0 rfl rfl 1 (by decide) (hts _ m_X6_readByte_1) (fun _ h9 => h9) rfl dX6_readByte_1 ?_
  refine lv_if_eq (tgt := 9) hx hb dX6_readByte_4 (by decide) (fun _ => ?_) (fun h => absurd (by decide) h)
  refine lv_aload_n hx hb dX6_readByte_9 rfl (lv_at hl 0 rfl) ?_
  refine va_get (D := (dC, dI)) (ci := 6) (v := .int 31) (C := RX6) (T := TX6) (N := 9) hx hb hts iw_X6_readByte_X6 hown hK hP 0 rfl rfl 3 (by decide) (hts _ m_X6_readByte_2) (fun _ h9 => h9) rfl dX6_readByte_10 ?_
  refine lv_aload_n hx hb dX6_readByte_13 rfl (lv_at hl 0 rfl) ?_
  refine va_get (D := (dC, dI)) (ci := 6) (v := .ref a1) (C := RX6) (T := TX6) (N := 9) hx hb hts iw_X6_readByte_X6 hown hK hP 0 rfl rfl 2 (by decide) (hts _ m_X6_readByte_3) (fun _ h9 => h9) rfl dX6_readByte_14 ?_
  refine va_get (D := (dC, dI)) (ci := 5) (v := .int 81) (C := RX5) (T := TX5) (N := 15) hx hb hts iw_X6_readByte_X5 hown hK hP 1 rfl rfl 1 (by decide) (hts _ m_X6_readByte_4) (fun _ h9 => h9) rfl dX6_readByte_17 ?_
  refine lv_icmp_lt (tgt := 41) hx hb dX6_readByte_20 (by decide) (fun _ => ?_) (fun h => absurd (by decide) h)
  refine lv_aload_n hx hb dX6_readByte_41 rfl (lv_at hl 0 rfl) ?_
  refine va_get (D := (dC, dI)) (ci := 6) (v := .ref a1) (C := RX6) (T := TX6) (N := 9) hx hb hts iw_X6_readByte_X6 hown hK hP 0 rfl rfl 2 (by decide) (hts _ m_X6_readByte_3) (fun _ h9 => h9) rfl dX6_readByte_42 ?_
  refine va_get (D := (dC, dI)) (ci := 5) (v := .ref cb) (C := RX5) (T := TX5) (N := 15) hx hb hts iw_X6_readByte_X5 hown hK hP 1 rfl rfl 0 (by decide) (hts _ m_X6_readByte_6) (fun _ h9 => h9) rfl dX6_readByte_45 ?_
  refine lv_aload_n hx hb dX6_readByte_48 rfl (lv_at hl 0 rfl) ?_
  refine lv_dup hx hb dX6_readByte_49 rfl ?_
  refine va_get (D := (dC, dI)) (ci := 6) (v := .int 31) (C := RX6) (T := TX6) (N := 9) hx hb hts iw_X6_readByte_X6 hown hK hP 0 rfl rfl 3 (by decide) (hts _ m_X6_readByte_2) (fun _ h9 => h9) rfl dX6_readByte_50 ?_
  refine lv_dup_x1 hx hb dX6_readByte_53 rfl rfl ?_
  refine lv_iconst (v := 1) hx hb dX6_readByte_54 (by decide) ?_
  refine lv_iadd hx hb dX6_readByte_55 ?_
  refine lv_topi (fun z_1 ez_1 => ?_)
  obtain rfl : z_1 = 32 := ez_1.trans (by decide)
  clear ez_1
  refine va_put (D := (dC, dI)) (ci := 6) (v := .int 32) (ty := .int) (C := RX6) (T := TX6) (N := 9) hx hb hts iw_X6_readByte_X6 tyX6 tyX6_ok nmX6 hown hK hP hD hS 0 rfl rfl 3 (by decide) (hts _ m_X6_readByte_2) (fun _ h9 => h9) rfl (by decide +kernel) rfl rfl (Nat.le_of_ble_eq_true rfl) dX6_readByte_56 (fun H_2 locs hP2 hD2 hS2 => ?_)
  replace hP : va_P (dC, dI) vwCl [(a0, .inr (6, [.int 0, .int 0, .ref a1, .int 32, .int 1, .int 1, .int 2, .int 1, .ref a2])), (a1, .inr (5, [.ref cb, .int 81, .int 0, .ref a3, .int 5, .ref a4, .int 1, .ref a5, .int 1, .int 1, .ref a6, .int 6, .int 0, .int 1, .int 0]))] H_2 := hP2
  replace hD : va_D A [(a0, .inr (6, [.int 0, .int 0, .ref a1, .int 32, .int 1, .int 1, .int 2, .int 1, .ref a2])), (a1, .inr (5, [.ref cb, .int 81, .int 0, .ref a3, .int 5, .ref a4, .int 1, .ref a5, .int 1, .int 1, .ref a6, .int 6, .int 0, .int 1, .int 0]))] := hD2
  replace hS := hS2
  clear hP2 hD2 hS2
  refine va_tb (v := .int 0) hx hb hSK.2 hS (by unfold vp_in; decide) rfl dX6_readByte_59 ?_
  refine lv_sipush (v := 255) hx hb dX6_readByte_60 (by decide) ?_
  refine lv_iand hx hb dX6_readByte_63 ?_
  refine lv_topi (fun z_3 ez_3 => ?_)
  obtain rfl : z_3 = 0 := ez_3.trans (by decide)
  clear ez_3
  exact W.iret hx hb hr (fun t ht hW => ⟨⟨0, (), rfl, rfl, by rw [ht]; exact hP, va_K.moved hW.alike hK, hD⟩, hS.F ht⟩) hS.2.2 dX6_readByte_64

set_option maxHeartbeats 4000000 in
set_option maxRecDepth 100000 in
theorem cc_353_X6_readByte (l : Launch) (dC : Nat → ClassId) (dI : Nat → Nat → Nat) (cy : Nat → ClassId) (sz : Nat) (cb : Nat) (a0 : Nat) (a1 : Nat) (a2 : Nat) (a3 : Nat) (a4 : Nat) (a5 : Nat) (a6 : Nat)  : Met l yX6_readByte wsX6_readByte ({ frames := 0, cells := 0, slots := 0, locals := 0 }) (va_Pc [.ref a0] (fun U => U.heap.size = sz ∧ va_P (dC, dI) vwCl [(a0, .inr (6, [.int 0, .int 0, .ref a1, .int 32, .int 1, .int 1, .int 2, .int 1, .ref a2])), (a1, .inr (5, [.ref cb, .int 81, .int 0, .ref a3, .int 5, .ref a4, .int 1, .ref a5, .int 1, .int 1, .ref a6, .int 6, .int 0, .int 1, .int 0]))] U.heap ∧ va_K (dC, dI) vwCl (TYS cy) U ∧ va_D (fun _ => True) [(a0, .inr (6, [.int 0, .int 0, .ref a1, .int 32, .int 1, .int 1, .int 2, .int 1, .ref a2])), (a1, .inr (5, [.ref cb, .int 81, .int 0, .ref a3, .int 5, .ref a4, .int 1, .ref a5, .int 1, .int 1, .ref a6, .int 6, .int 0, .int 1, .int 0]))] ∧ NK U ∧ SK cb (va_A [(a0, .inr (6, [.int 0, .int 0, .ref a1, .int 32, .int 1, .int 1, .int 2, .int 1, .ref a2])), (a1, .inr (5, [.ref cb, .int 81, .int 0, .ref a3, .int 5, .ref a4, .int 1, .ref a5, .int 1, .int 1, .ref a6, .int 6, .int 0, .int 1, .int 0]))] sz) U U.heap)) (va_Qi (fun (r : Int32) (u : Unit) => r = 1) (fun u t => va_P (dC, dI) vwCl [(a0, .inr (6, [.int 0, .int 0, .ref a1, .int 33, .int 1, .int 1, .int 2, .int 1, .ref a2])), (a1, .inr (5, [.ref cb, .int 81, .int 0, .ref a3, .int 5, .ref a4, .int 1, .ref a5, .int 1, .int 1, .ref a6, .int 6, .int 0, .int 1, .int 0]))] t.heap ∧ va_K (dC, dI) vwCl (TYS cy) t ∧ va_D (va_A [(a0, .inr (6, [.int 0, .int 0, .ref a1, .int 32, .int 1, .int 1, .int 2, .int 1, .ref a2])), (a1, .inr (5, [.ref cb, .int 81, .int 0, .ref a3, .int 5, .ref a4, .int 1, .ref a5, .int 1, .int 1, .ref a6, .int 6, .int 0, .int 1, .int 0]))] sz) [(a0, .inr (6, [.int 0, .int 0, .ref a1, .int 33, .int 1, .int 1, .int 2, .int 1, .ref a2])), (a1, .inr (5, [.ref cb, .int 81, .int 0, .ref a3, .int 5, .ref a4, .int 1, .ref a5, .int 1, .int 1, .ref a6, .int 6, .int 0, .int 1, .int 0]))]) (va_A [(a0, .inr (6, [.int 0, .int 0, .ref a1, .int 32, .int 1, .int 1, .int 2, .int 1, .ref a2])), (a1, .inr (5, [.ref cb, .int 81, .int 0, .ref a3, .int 5, .ref a4, .int 1, .ref a5, .int 1, .int 1, .ref a6, .int 6, .int 0, .int 1, .int 0]))] sz)) 0 0 (va_A [(a0, .inr (6, [.int 0, .int 0, .ref a1, .int 32, .int 1, .int 1, .int 2, .int 1, .ref a2])), (a1, .inr (5, [.ref cb, .int 81, .int 0, .ref a3, .int 5, .ref a4, .int 1, .ref a5, .int 1, .int 1, .ref a6, .int 6, .int 0, .int 1, .int 0]))] sz) := by
  refine Met.ofW (cc := cX6_readByte) (maxL := 1) (ret := (some .int)) (by decide) rfl ?_
  intro p e s m args below meth c s₁ B hml hv
  obtain ⟨rfl, hsz, hP, hK, hD0, hN, hSK⟩ := hv
  have hx := B.exec
  have hb := B.bytes
  have hr := B.returns
  have hts := atoms_spec (ws := wsX6_readByte) B.pre
  have hown : s.vm.findClass RX6 = some m.cls := findClass_of_methodNamed B.named
  have hlocks := B.notSynchronized
  subst hsz
  have hD := hD0.self (sz := s.heap.size)
  generalize hAe : va_A [(a0, .inr (6, [.int 0, .int 0, .ref a1, .int 32, .int 1, .int 1, .int 2, .int 1, .ref a2])), (a1, .inr (5, [.ref cb, .int 81, .int 0, .ref a3, .int 5, .ref a4, .int 1, .ref a5, .int 1, .int 1, .ref a6, .int 6, .int 0, .int 1, .int 0]))] s.heap.size = A at hD hSK ⊢
  have hA : ∀ q : Nat, s.heap.size ≤ q → A q := fun q h => by rw [← hAe]; exact Or.inr h
  have hS : va_S A s.heap s.heap [] := va_S.rf
  have hP : va_P (dC, dI) vwCl [(a0, .inr (6, [.int 0, .int 0, .ref a1, .int 32, .int 1, .int 1, .int 2, .int 1, .ref a2])), (a1, .inr (5, [.ref cb, .int 81, .int 0, .ref a3, .int 5, .ref a4, .int 1, .ref a5, .int 1, .int 1, .ref a6, .int 6, .int 0, .int 1, .int 0]))] s.heap := hP
  have hl := lv_entry ([.ref a0]) (n := 1) (Nat.le_of_ble_eq_true rfl)
  rw [lg_entry_eq]
  generalize (lg_sl ([.ref a0]) ++ List.replicate (1 - (lg_sl ([.ref a0])).length) Slot.unset).toArray = ls at hl ⊢
  replace hl : lv_has ls 1 [(0, .ref a0)] := hl
  refine lv_aload_n hx hb dX6_readByte_0 rfl (lv_at hl 0 rfl) ?_
  refine va_get (D := (dC, dI)) (ci := 6) (v := .int 0) (C := RX6) (T := TX6) (N := 9) hx hb hts iw_X6_readByte_X6 hown hK hP 0 rfl rfl 1 (by decide) (hts _ m_X6_readByte_1) (fun _ h9 => h9) rfl dX6_readByte_1 ?_
  refine lv_if_eq (tgt := 9) hx hb dX6_readByte_4 (by decide) (fun _ => ?_) (fun h => absurd (by decide) h)
  refine lv_aload_n hx hb dX6_readByte_9 rfl (lv_at hl 0 rfl) ?_
  refine va_get (D := (dC, dI)) (ci := 6) (v := .int 32) (C := RX6) (T := TX6) (N := 9) hx hb hts iw_X6_readByte_X6 hown hK hP 0 rfl rfl 3 (by decide) (hts _ m_X6_readByte_2) (fun _ h9 => h9) rfl dX6_readByte_10 ?_
  refine lv_aload_n hx hb dX6_readByte_13 rfl (lv_at hl 0 rfl) ?_
  refine va_get (D := (dC, dI)) (ci := 6) (v := .ref a1) (C := RX6) (T := TX6) (N := 9) hx hb hts iw_X6_readByte_X6 hown hK hP 0 rfl rfl 2 (by decide) (hts _ m_X6_readByte_3) (fun _ h9 => h9) rfl dX6_readByte_14 ?_
  refine va_get (D := (dC, dI)) (ci := 5) (v := .int 81) (C := RX5) (T := TX5) (N := 15) hx hb hts iw_X6_readByte_X5 hown hK hP 1 rfl rfl 1 (by decide) (hts _ m_X6_readByte_4) (fun _ h9 => h9) rfl dX6_readByte_17 ?_
  refine lv_icmp_lt (tgt := 41) hx hb dX6_readByte_20 (by decide) (fun _ => ?_) (fun h => absurd (by decide) h)
  refine lv_aload_n hx hb dX6_readByte_41 rfl (lv_at hl 0 rfl) ?_
  refine va_get (D := (dC, dI)) (ci := 6) (v := .ref a1) (C := RX6) (T := TX6) (N := 9) hx hb hts iw_X6_readByte_X6 hown hK hP 0 rfl rfl 2 (by decide) (hts _ m_X6_readByte_3) (fun _ h9 => h9) rfl dX6_readByte_42 ?_
  refine va_get (D := (dC, dI)) (ci := 5) (v := .ref cb) (C := RX5) (T := TX5) (N := 15) hx hb hts iw_X6_readByte_X5 hown hK hP 1 rfl rfl 0 (by decide) (hts _ m_X6_readByte_6) (fun _ h9 => h9) rfl dX6_readByte_45 ?_
  refine lv_aload_n hx hb dX6_readByte_48 rfl (lv_at hl 0 rfl) ?_
  refine lv_dup hx hb dX6_readByte_49 rfl ?_
  refine va_get (D := (dC, dI)) (ci := 6) (v := .int 32) (C := RX6) (T := TX6) (N := 9) hx hb hts iw_X6_readByte_X6 hown hK hP 0 rfl rfl 3 (by decide) (hts _ m_X6_readByte_2) (fun _ h9 => h9) rfl dX6_readByte_50 ?_
  refine lv_dup_x1 hx hb dX6_readByte_53 rfl rfl ?_
  refine lv_iconst (v := 1) hx hb dX6_readByte_54 (by decide) ?_
  refine lv_iadd hx hb dX6_readByte_55 ?_
  refine lv_topi (fun z_1 ez_1 => ?_)
  obtain rfl : z_1 = 33 := ez_1.trans (by decide)
  clear ez_1
  refine va_put (D := (dC, dI)) (ci := 6) (v := .int 33) (ty := .int) (C := RX6) (T := TX6) (N := 9) hx hb hts iw_X6_readByte_X6 tyX6 tyX6_ok nmX6 hown hK hP hD hS 0 rfl rfl 3 (by decide) (hts _ m_X6_readByte_2) (fun _ h9 => h9) rfl (by decide +kernel) rfl rfl (Nat.le_of_ble_eq_true rfl) dX6_readByte_56 (fun H_2 locs hP2 hD2 hS2 => ?_)
  replace hP : va_P (dC, dI) vwCl [(a0, .inr (6, [.int 0, .int 0, .ref a1, .int 33, .int 1, .int 1, .int 2, .int 1, .ref a2])), (a1, .inr (5, [.ref cb, .int 81, .int 0, .ref a3, .int 5, .ref a4, .int 1, .ref a5, .int 1, .int 1, .ref a6, .int 6, .int 0, .int 1, .int 0]))] H_2 := hP2
  replace hD : va_D A [(a0, .inr (6, [.int 0, .int 0, .ref a1, .int 33, .int 1, .int 1, .int 2, .int 1, .ref a2])), (a1, .inr (5, [.ref cb, .int 81, .int 0, .ref a3, .int 5, .ref a4, .int 1, .ref a5, .int 1, .int 1, .ref a6, .int 6, .int 0, .int 1, .int 0]))] := hD2
  replace hS := hS2
  clear hP2 hD2 hS2
  refine va_tb (v := .int 1) hx hb hSK.2 hS (by unfold vp_in; decide) rfl dX6_readByte_59 ?_
  refine lv_sipush (v := 255) hx hb dX6_readByte_60 (by decide) ?_
  refine lv_iand hx hb dX6_readByte_63 ?_
  refine lv_topi (fun z_3 ez_3 => ?_)
  obtain rfl : z_3 = 1 := ez_3.trans (by decide)
  clear ez_3
  exact W.iret hx hb hr (fun t ht hW => ⟨⟨1, (), rfl, rfl, by rw [ht]; exact hP, va_K.moved hW.alike hK, hD⟩, hS.F ht⟩) hS.2.2 dX6_readByte_64

set_option maxHeartbeats 4000000 in
set_option maxRecDepth 100000 in
theorem cc_351_X6_readShort (l : Launch) (dC : Nat → ClassId) (dI : Nat → Nat → Nat) (cy : Nat → ClassId) (sz : Nat) (cb : Nat) (a0 : Nat) (a1 : Nat) (a2 : Nat) (a3 : Nat) (a4 : Nat) (a5 : Nat) (a6 : Nat)  : Met l yX6_readShort wsX6_readShort ({ frames := 1, cells := 0, slots := 0, locals := 20 }) (va_Pc [.ref a0] (fun U => U.heap.size = sz ∧ va_P (dC, dI) vwCl [(a0, .inr (6, [.int 0, .int 0, .ref a1, .int 31, .int 1, .int 1, .int 2, .int 1, .ref a2])), (a1, .inr (5, [.ref cb, .int 81, .int 0, .ref a3, .int 5, .ref a4, .int 1, .ref a5, .int 1, .int 1, .ref a6, .int 6, .int 0, .int 1, .int 0]))] U.heap ∧ va_K (dC, dI) vwCl (TYS cy) U ∧ va_D (fun _ => True) [(a0, .inr (6, [.int 0, .int 0, .ref a1, .int 31, .int 1, .int 1, .int 2, .int 1, .ref a2])), (a1, .inr (5, [.ref cb, .int 81, .int 0, .ref a3, .int 5, .ref a4, .int 1, .ref a5, .int 1, .int 1, .ref a6, .int 6, .int 0, .int 1, .int 0]))] ∧ NK U ∧ SK cb (va_A [(a0, .inr (6, [.int 0, .int 0, .ref a1, .int 31, .int 1, .int 1, .int 2, .int 1, .ref a2])), (a1, .inr (5, [.ref cb, .int 81, .int 0, .ref a3, .int 5, .ref a4, .int 1, .ref a5, .int 1, .int 1, .ref a6, .int 6, .int 0, .int 1, .int 0]))] sz) U U.heap)) (va_Qi (fun (r : Int32) (u : Unit) => r = 1) (fun u t => va_P (dC, dI) vwCl [(a0, .inr (6, [.int 0, .int 0, .ref a1, .int 33, .int 1, .int 1, .int 2, .int 1, .ref a2])), (a1, .inr (5, [.ref cb, .int 81, .int 0, .ref a3, .int 5, .ref a4, .int 1, .ref a5, .int 1, .int 1, .ref a6, .int 6, .int 0, .int 1, .int 0]))] t.heap ∧ va_K (dC, dI) vwCl (TYS cy) t ∧ va_D (va_A [(a0, .inr (6, [.int 0, .int 0, .ref a1, .int 31, .int 1, .int 1, .int 2, .int 1, .ref a2])), (a1, .inr (5, [.ref cb, .int 81, .int 0, .ref a3, .int 5, .ref a4, .int 1, .ref a5, .int 1, .int 1, .ref a6, .int 6, .int 0, .int 1, .int 0]))] sz) [(a0, .inr (6, [.int 0, .int 0, .ref a1, .int 33, .int 1, .int 1, .int 2, .int 1, .ref a2])), (a1, .inr (5, [.ref cb, .int 81, .int 0, .ref a3, .int 5, .ref a4, .int 1, .ref a5, .int 1, .int 1, .ref a6, .int 6, .int 0, .int 1, .int 0]))]) (va_A [(a0, .inr (6, [.int 0, .int 0, .ref a1, .int 31, .int 1, .int 1, .int 2, .int 1, .ref a2])), (a1, .inr (5, [.ref cb, .int 81, .int 0, .ref a3, .int 5, .ref a4, .int 1, .ref a5, .int 1, .int 1, .ref a6, .int 6, .int 0, .int 1, .int 0]))] sz)) 0 0 (va_A [(a0, .inr (6, [.int 0, .int 0, .ref a1, .int 31, .int 1, .int 1, .int 2, .int 1, .ref a2])), (a1, .inr (5, [.ref cb, .int 81, .int 0, .ref a3, .int 5, .ref a4, .int 1, .ref a5, .int 1, .int 1, .ref a6, .int 6, .int 0, .int 1, .int 0]))] sz) := by
  refine Met.ofW (cc := cX6_readShort) (maxL := 2) (ret := (some .int)) (by decide) rfl ?_
  intro p e s m args below meth c s₁ B hml hv
  obtain ⟨rfl, hsz, hP, hK, hD0, hN, hSK⟩ := hv
  have hx := B.exec
  have hb := B.bytes
  have hr := B.returns
  have hts := atoms_spec (ws := wsX6_readShort) B.pre
  have hown : s.vm.findClass RX6 = some m.cls := findClass_of_methodNamed B.named
  have hlocks := B.notSynchronized
  subst hsz
  have hD := hD0.self (sz := s.heap.size)
  generalize hAe : va_A [(a0, .inr (6, [.int 0, .int 0, .ref a1, .int 31, .int 1, .int 1, .int 2, .int 1, .ref a2])), (a1, .inr (5, [.ref cb, .int 81, .int 0, .ref a3, .int 5, .ref a4, .int 1, .ref a5, .int 1, .int 1, .ref a6, .int 6, .int 0, .int 1, .int 0]))] s.heap.size = A at hD hSK ⊢
  have hA : ∀ q : Nat, s.heap.size ≤ q → A q := fun q h => by rw [← hAe]; exact Or.inr h
  have hS : va_S A s.heap s.heap [] := va_S.rf
  have hP : va_P (dC, dI) vwCl [(a0, .inr (6, [.int 0, .int 0, .ref a1, .int 31, .int 1, .int 1, .int 2, .int 1, .ref a2])), (a1, .inr (5, [.ref cb, .int 81, .int 0, .ref a3, .int 5, .ref a4, .int 1, .ref a5, .int 1, .int 1, .ref a6, .int 6, .int 0, .int 1, .int 0]))] s.heap := hP
  have hl := lv_entry ([.ref a0]) (n := 2) (Nat.le_of_ble_eq_true rfl)
  rw [lg_entry_eq]
  generalize (lg_sl ([.ref a0]) ++ List.replicate (2 - (lg_sl ([.ref a0])).length) Slot.unset).toArray = ls at hl ⊢
  replace hl : lv_has ls 2 [(0, .ref a0)] := hl
  refine lv_aload_n hx hb dX6_readShort_0 rfl (lv_at hl 0 rfl) ?_
  have hPc := hP.sub (ws' := [(a0, .inr (6, [.int 0, .int 0, .ref a1, .int 31, .int 1, .int 1, .int 2, .int 1, .ref a2])), (a1, .inr (5, [.ref cb, .int 81, .int 0, .ref a3, .int 5, .ref a4, .int 1, .ref a5, .int 1, .int 1, .ref a6, .int 6, .int 0, .int 1, .int 0]))]) [0, 1] rfl
  have hDc := hD.sub (ws' := [(a0, .inr (6, [.int 0, .int 0, .ref a1, .int 31, .int 1, .int 1, .int 2, .int 1, .ref a2])), (a1, .inr (5, [.ref cb, .int 81, .int 0, .ref a3, .int 5, .ref a4, .int 1, .ref a5, .int 1, .int 1, .ref a6, .int 6, .int 0, .int 1, .int 0]))]) [0, 1] (by decide) rfl
  have hFc := va_free (wc := [(a0, .inr (6, [.int 0, .int 0, .ref a1, .int 31, .int 1, .int 1, .int 2, .int 1, .ref a2])), (a1, .inr (5, [.ref cb, .int 81, .int 0, .ref a3, .int 5, .ref a4, .int 1, .ref a5, .int 1, .int 1, .ref a6, .int 6, .int 0, .int 1, .int 0]))]) hD hS hA [0, 1] rfl
  refine va_calli (va_runV (As := []) (rest := []) ⟨hx, hb, hml, hown, hts⟩ (cc_352_X6_readByte l dC dI cy s.heap.size cb a0 a1 a2 a3 a4 a5 a6) (cwV 0 hts gX6_readShort_X6_readByte rfl rfl rfl (by decide +kernel) ⟨Nat.le_of_ble_eq_true rfl, Nat.le_of_ble_eq_true rfl⟩) ⟨fun a U g mk q => by obtain ⟨q0, q1, qP, qK, qD, qN, qS⟩ := q; exact ⟨q0, q1, qP, va_K.moved (u := U) (U := U.calling g mk a) (Vm.Alike.refl U.vm) qK, qD, qN.same rfl, SK.moved (u := U) (U := U.calling g mk a) (Vm.Alike.refl U.vm) qS⟩, va_recv hK hPc (ci := 6) (q0 := 0) rfl rfl, fun U hU hW => ⟨rfl, by rw [hU], by rw [hU]; exact hPc, va_K.moved hW.alike hK, hDc.weaken (fun _ _ _ _ => trivial), hN.warm hW, by rw [hU]; exact ((hSK.kept hS.2.1).narrow hFc).moved hW.alike⟩⟩ rfl rfl hl.1 rfl (lv_room (Nat.le_of_ble_eq_true rfl)) dX6_readShort_1 ⟨Nat.le_of_ble_eq_true rfl, Nat.le_of_ble_eq_true rfl⟩) hS (fun q _ h => hFc q h) hFc (fun r_1 u t H_2 locs ht hvm hw hB hz1 hk1 hS2 => ?_)
  obtain ⟨hP1, hK1, hD1⟩ := hB
  rw [ht] at hP1
  obtain rfl := hw
  obtain ⟨hP2, hD2⟩ := va_join (wr := []) (w1 := [(a0, .inr (6, [.int 0, .int 0, .ref a1, .int 32, .int 1, .int 1, .int 2, .int 1, .ref a2])), (a1, .inr (5, [.ref cb, .int 81, .int 0, .ref a3, .int 5, .ref a4, .int 1, .ref a5, .int 1, .int 1, .ref a6, .int 6, .int 0, .int 1, .int 0]))]) hP hD [0, 1] [] rfl rfl (by decide) (by decide) hk1 hFc hP1 hD1
  replace hP : va_P (dC, dI) vwCl [(a0, .inr (6, [.int 0, .int 0, .ref a1, .int 32, .int 1, .int 1, .int 2, .int 1, .ref a2])), (a1, .inr (5, [.ref cb, .int 81, .int 0, .ref a3, .int 5, .ref a4, .int 1, .ref a5, .int 1, .int 1, .ref a6, .int 6, .int 0, .int 1, .int 0]))] H_2 := hP2
  replace hD : va_D A [(a0, .inr (6, [.int 0, .int 0, .ref a1, .int 32, .int 1, .int 1, .int 2, .int 1, .ref a2])), (a1, .inr (5, [.ref cb, .int 81, .int 0, .ref a3, .int 5, .ref a4, .int 1, .ref a5, .int 1, .int 1, .ref a6, .int 6, .int 0, .int 1, .int 0]))] := hD2
  replace hS := hS2
  clear hP2 hD2 hS2
  clear hPc hDc hFc hP1 hD1 hK1 hk1 hz1 hvm ht
  refine W.widen (k := 0) (n := 0) (Nat.le_of_ble_eq_true rfl) (Nat.le_of_ble_eq_true rfl) ?_
  refine lv_istore_n (lv' := [(1, .int 0), (0, .ref a0)]) hx hb dX6_readShort_4 rfl hl (by decide) rfl (fun ls hl2 => ?_)
  replace hl := hl2
  clear hl2
  refine lv_iload_n hx hb dX6_readShort_5 rfl (lv_at hl 0 rfl) ?_
  refine lv_bipush (v := 8) hx hb dX6_readShort_6 (by decide) ?_
  refine lv_ishl hx hb dX6_readShort_8 ?_
  refine lv_topi (fun z_3 ez_3 => ?_)
  obtain rfl : z_3 = 0 := ez_3.trans (by decide)
  clear ez_3
  refine lv_aload_n hx hb dX6_readShort_9 rfl (lv_at hl 1 rfl) ?_
  have hPc := hP.sub (ws' := [(a0, .inr (6, [.int 0, .int 0, .ref a1, .int 32, .int 1, .int 1, .int 2, .int 1, .ref a2])), (a1, .inr (5, [.ref cb, .int 81, .int 0, .ref a3, .int 5, .ref a4, .int 1, .ref a5, .int 1, .int 1, .ref a6, .int 6, .int 0, .int 1, .int 0]))]) [0, 1] rfl
  have hDc := hD.sub (ws' := [(a0, .inr (6, [.int 0, .int 0, .ref a1, .int 32, .int 1, .int 1, .int 2, .int 1, .ref a2])), (a1, .inr (5, [.ref cb, .int 81, .int 0, .ref a3, .int 5, .ref a4, .int 1, .ref a5, .int 1, .int 1, .ref a6, .int 6, .int 0, .int 1, .int 0]))]) [0, 1] (by decide) rfl
  have hFc := va_free (wc := [(a0, .inr (6, [.int 0, .int 0, .ref a1, .int 32, .int 1, .int 1, .int 2, .int 1, .ref a2])), (a1, .inr (5, [.ref cb, .int 81, .int 0, .ref a3, .int 5, .ref a4, .int 1, .ref a5, .int 1, .int 1, .ref a6, .int 6, .int 0, .int 1, .int 0]))]) hD hS hA [0, 1] rfl
  refine va_calli (va_runV (As := []) (rest := [.int 0]) ⟨hx, hb, hml, hown, hts⟩ (cc_353_X6_readByte l dC dI cy H_2.size cb a0 a1 a2 a3 a4 a5 a6) (cwV 0 hts gX6_readShort_X6_readByte rfl rfl rfl (by decide +kernel) ⟨Nat.le_of_ble_eq_true rfl, Nat.le_of_ble_eq_true rfl⟩) ⟨fun a U g mk q => by obtain ⟨q0, q1, qP, qK, qD, qN, qS⟩ := q; exact ⟨q0, q1, qP, va_K.moved (u := U) (U := U.calling g mk a) (Vm.Alike.refl U.vm) qK, qD, qN.same rfl, SK.moved (u := U) (U := U.calling g mk a) (Vm.Alike.refl U.vm) qS⟩, va_recv hK hPc (ci := 6) (q0 := 0) rfl rfl, fun U hU hW => ⟨rfl, by rw [hU], by rw [hU]; exact hPc, va_K.moved hW.alike hK, hDc.weaken (fun _ _ _ _ => trivial), hN.warm hW, by rw [hU]; exact ((hSK.kept hS.2.1).narrow hFc).moved hW.alike⟩⟩ rfl rfl hl.1 rfl (lv_room (Nat.le_of_ble_eq_true rfl)) dX6_readShort_10 ⟨Nat.le_of_ble_eq_true rfl, Nat.le_of_ble_eq_true rfl⟩) hS (fun q _ h => hFc q h) hFc (fun r_4 u t H_5 locs ht hvm hw hB hz1 hk1 hS2 => ?_)
  obtain ⟨hP1, hK1, hD1⟩ := hB
  rw [ht] at hP1
  obtain rfl := hw
  obtain ⟨hP2, hD2⟩ := va_join (wr := []) (w1 := [(a0, .inr (6, [.int 0, .int 0, .ref a1, .int 33, .int 1, .int 1, .int 2, .int 1, .ref a2])), (a1, .inr (5, [.ref cb, .int 81, .int 0, .ref a3, .int 5, .ref a4, .int 1, .ref a5, .int 1, .int 1, .ref a6, .int 6, .int 0, .int 1, .int 0]))]) hP hD [0, 1] [] rfl rfl (by decide) (by decide) hk1 hFc hP1 hD1
  replace hP : va_P (dC, dI) vwCl [(a0, .inr (6, [.int 0, .int 0, .ref a1, .int 33, .int 1, .int 1, .int 2, .int 1, .ref a2])), (a1, .inr (5, [.ref cb, .int 81, .int 0, .ref a3, .int 5, .ref a4, .int 1, .ref a5, .int 1, .int 1, .ref a6, .int 6, .int 0, .int 1, .int 0]))] H_5 := hP2
  replace hD : va_D A [(a0, .inr (6, [.int 0, .int 0, .ref a1, .int 33, .int 1, .int 1, .int 2, .int 1, .ref a2])), (a1, .inr (5, [.ref cb, .int 81, .int 0, .ref a3, .int 5, .ref a4, .int 1, .ref a5, .int 1, .int 1, .ref a6, .int 6, .int 0, .int 1, .int 0]))] := hD2
  replace hS := hS2
  clear hP2 hD2 hS2
  clear hPc hDc hFc hP1 hD1 hK1 hk1 hz1 hvm ht
  refine W.widen (k := 0) (n := 0) (Nat.le_of_ble_eq_true rfl) (Nat.le_of_ble_eq_true rfl) ?_
  refine lv_ior hx hb dX6_readShort_13 ?_
  refine lv_topi (fun z_6 ez_6 => ?_)
  obtain rfl : z_6 = 1 := ez_6.trans (by decide)
  clear ez_6
  exact W.iret hx hb hr (fun t ht hW => ⟨⟨1, (), rfl, rfl, by rw [ht]; exact hP, va_K.moved hW.alike hK, hD⟩, hS.F ht⟩) hS.2.2 dX6_readShort_14

set_option maxHeartbeats 4000000 in
set_option maxRecDepth 100000 in
theorem cc_355_X6_readByte (l : Launch) (dC : Nat → ClassId) (dI : Nat → Nat → Nat) (cy : Nat → ClassId) (sz : Nat) (cb : Nat) (a0 : Nat) (a1 : Nat) (a2 : Nat) (a3 : Nat) (a4 : Nat) (a5 : Nat) (a6 : Nat)  : Met l yX6_readByte wsX6_readByte ({ frames := 0, cells := 0, slots := 0, locals := 0 }) (va_Pc [.ref a0] (fun U => U.heap.size = sz ∧ va_P (dC, dI) vwCl [(a0, .inr (6, [.int 0, .int 0, .ref a1, .int 33, .int 1, .int 2, .int 2, .int 1, .ref a2])), (a1, .inr (5, [.ref cb, .int 81, .int 0, .ref a3, .int 5, .ref a4, .int 2, .ref a5, .int 1, .int 1, .ref a6, .int 6, .int 0, .int 1, .int 0]))] U.heap ∧ va_K (dC, dI) vwCl (TYS cy) U ∧ va_D (fun _ => True) [(a0, .inr (6, [.int 0, .int 0, .ref a1, .int 33, .int 1, .int 2, .int 2, .int 1, .ref a2])), (a1, .inr (5, [.ref cb, .int 81, .int 0, .ref a3, .int 5, .ref a4, .int 2, .ref a5, .int 1, .int 1, .ref a6, .int 6, .int 0, .int 1, .int 0]))] ∧ NK U ∧ SK cb (va_A [(a0, .inr (6, [.int 0, .int 0, .ref a1, .int 33, .int 1, .int 2, .int 2, .int 1, .ref a2])), (a1, .inr (5, [.ref cb, .int 81, .int 0, .ref a3, .int 5, .ref a4, .int 2, .ref a5, .int 1, .int 1, .ref a6, .int 6, .int 0, .int 1, .int 0]))] sz) U U.heap)) (va_Qi (fun (r : Int32) (u : Unit) => r = 35) (fun u t => va_P (dC, dI) vwCl [(a0, .inr (6, [.int 0, .int 0, .ref a1, .int 34, .int 1, .int 2, .int 2, .int 1, .ref a2])), (a1, .inr (5, [.ref cb, .int 81, .int 0, .ref a3, .int 5, .ref a4, .int 2, .ref a5, .int 1, .int 1, .ref a6, .int 6, .int 0, .int 1, .int 0]))] t.heap ∧ va_K (dC, dI) vwCl (TYS cy) t ∧ va_D (va_A [(a0, .inr (6, [.int 0, .int 0, .ref a1, .int 33, .int 1, .int 2, .int 2, .int 1, .ref a2])), (a1, .inr (5, [.ref cb, .int 81, .int 0, .ref a3, .int 5, .ref a4, .int 2, .ref a5, .int 1, .int 1, .ref a6, .int 6, .int 0, .int 1, .int 0]))] sz) [(a0, .inr (6, [.int 0, .int 0, .ref a1, .int 34, .int 1, .int 2, .int 2, .int 1, .ref a2])), (a1, .inr (5, [.ref cb, .int 81, .int 0, .ref a3, .int 5, .ref a4, .int 2, .ref a5, .int 1, .int 1, .ref a6, .int 6, .int 0, .int 1, .int 0]))]) (va_A [(a0, .inr (6, [.int 0, .int 0, .ref a1, .int 33, .int 1, .int 2, .int 2, .int 1, .ref a2])), (a1, .inr (5, [.ref cb, .int 81, .int 0, .ref a3, .int 5, .ref a4, .int 2, .ref a5, .int 1, .int 1, .ref a6, .int 6, .int 0, .int 1, .int 0]))] sz)) 0 0 (va_A [(a0, .inr (6, [.int 0, .int 0, .ref a1, .int 33, .int 1, .int 2, .int 2, .int 1, .ref a2])), (a1, .inr (5, [.ref cb, .int 81, .int 0, .ref a3, .int 5, .ref a4, .int 2, .ref a5, .int 1, .int 1, .ref a6, .int 6, .int 0, .int 1, .int 0]))] sz) := by
  refine Met.ofW (cc := cX6_readByte) (maxL := 1) (ret := (some .int)) (by decide) rfl ?_
  intro p e s m args below meth c s₁ B hml hv
  obtain ⟨rfl, hsz, hP, hK, hD0, hN, hSK⟩ := hv
  have hx := B.exec
  have hb := B.bytes
  have hr := B.returns
  have hts := atoms_spec (ws := wsX6_readByte) B.pre
  have hown : s.vm.findClass RX6 = some m.cls := findClass_of_methodNamed B.named
  have hlocks := B.notSynchronized
  subst hsz
  have hD := hD0.self (sz := s.heap.size)
  generalize hAe : va_A [(a0, .inr (6, [.int 0, .int 0, .ref a1, .int 33, .int 1, .int 2, .int 2, .int 1, .ref a2])), (a1, .inr (5, [.ref cb, .int 81, .int 0, .ref a3, .int 5, .ref a4, .int 2, .ref a5, .int 1, .int 1, .ref a6, .int 6, .int 0, .int 1, .int 0]))] s.heap.size = A at hD hSK ⊢
  have hA : ∀ q : Nat, s.heap.size ≤ q → A q := fun q h => by rw [← hAe]; exact Or.inr h
  have hS : va_S A s.heap s.heap [] := va_S.rf
  have hP : va_P (dC, dI) vwCl [(a0, .inr (6, [.int 0, .int 0, .ref a1, .int 33, .int 1, .int 2, .int 2, .int 1, .ref a2])), (a1, .inr (5, [.ref cb, .int 81, .int 0, .ref a3, .int 5, .ref a4, .int 2, .ref a5, .int 1, .int 1, .ref a6, .int 6, .int 0, .int 1, .int 0]))] s.heap := hP
  have hl := lv_entry ([.ref a0]) (n := 1) (Nat.le_of_ble_eq_true rfl)
  rw [lg_entry_eq]
  generalize (lg_sl ([.ref a0]) ++ List.replicate (1 - (lg_sl ([.ref a0])).length) Slot.unset).toArray = ls at hl ⊢
  replace hl : lv_has ls 1 [(0, .ref a0)] := hl
  refine lv_aload_n hx hb dX6_readByte_0 rfl (lv_at hl 0 rfl) ?_
  refine va_get (D := (dC, dI)) (ci := 6) (v := .int 0) (C := RX6) (T := TX6) (N := 9) hx hb hts iw_X6_readByte_X6 hown hK hP 0 rfl rfl 1 (by decide) (hts _ m_X6_readByte_1) (fun _ h9 => h9) rfl dX6_readByte_1 ?_
  refine lv_if_eq (tgt := 9) hx hb dX6_readByte_4 (by decide) (fun _ => ?_) (fun h => absurd (by decide) h)
  refine lv_aload_n hx hb dX6_readByte_9 rfl (lv_at hl 0 rfl) ?_
  refine va_get (D := (dC, dI)) (ci := 6) (v := .int 33) (C := RX6) (T := TX6) (N := 9) hx hb hts iw_X6_readByte_X6 hown hK hP 0 rfl rfl 3 (by decide) (hts _ m_X6_readByte_2) (fun _ h9 => h9) rfl dX6_readByte_10 ?_
  refine lv_aload_n hx hb dX6_readByte_13 rfl (lv_at hl 0 rfl) ?_
  refine va_get (D := (dC, dI)) (ci := 6) (v := .ref a1) (C := RX6) (T := TX6) (N := 9) hx hb hts iw_X6_readByte_X6 hown hK hP 0 rfl rfl 2 (by decide) (hts _ m_X6_readByte_3) (fun _ h9 => h9) rfl dX6_readByte_14 ?_
  refine va_get (D := (dC, dI)) (ci := 5) (v := .int 81) (C := RX5) (T := TX5) (N := 15) hx hb hts iw_X6_readByte_X5 hown hK hP 1 rfl rfl 1 (by decide) (hts _ m_X6_readByte_4) (fun _ h9 => h9) rfl dX6_readByte_17 ?_
  refine lv_icmp_lt (tgt := 41) hx hb dX6_readByte_20 (by decide) (fun _ => ?_) (fun h => absurd (by decide) h)
  refine lv_aload_n hx hb dX6_readByte_41 rfl (lv_at hl 0 rfl) ?_
  refine va_get (D := (dC, dI)) (ci := 6) (v := .ref a1) (C := RX6) (T := TX6) (N := 9) hx hb hts iw_X6_readByte_X6 hown hK hP 0 rfl rfl 2 (by decide) (hts _ m_X6_readByte_3) (fun _ h9 => h9) rfl dX6_readByte_42 ?_
  refine va_get (D := (dC, dI)) (ci := 5) (v := .ref cb) (C := RX5) (T := TX5) (N := 15) hx hb hts iw_X6_readByte_X5 hown hK hP 1 rfl rfl 0 (by decide) (hts _ m_X6_readByte_6) (fun _ h9 => h9) rfl dX6_readByte_45 ?_
  refine lv_aload_n hx hb dX6_readByte_48 rfl (lv_at hl 0 rfl) ?_
  refine lv_dup hx hb dX6_readByte_49 rfl ?_
  refine va_get (D := (dC, dI)) (ci := 6) (v := .int 33) (C := RX6) (T := TX6) (N := 9) hx hb hts iw_X6_readByte_X6 hown hK hP 0 rfl rfl 3 (by decide) (hts _ m_X6_readByte_2) (fun _ h9 => h9) rfl dX6_readByte_50 ?_
  refine lv_dup_x1 hx hb dX6_readByte_53 rfl rfl ?_
  refine lv_iconst (v := 1) hx hb dX6_readByte_54 (by decide) ?_
  refine lv_iadd hx hb dX6_readByte_55 ?_
  refine lv_topi (fun z_1 ez_1 => ?_)
  obtain rfl : z_1 = 34 := ez_1.trans (by decide)
  clear ez_1
  refine va_put (D := (dC, dI)) (ci := 6) (v := .int 34) (ty := .int) (C := RX6) (T := TX6) (N := 9) hx hb hts iw_X6_readByte_X6 tyX6 tyX6_ok nmX6 hown hK hP hD hS 0 rfl rfl 3 (by decide) (hts _ m_X6_readByte_2) (fun _ h9 => h9) rfl (by decide +kernel) rfl rfl (Nat.le_of_ble_eq_true rfl) dX6_readByte_56 (fun H_2 locs hP2 hD2 hS2 => ?_)
  replace hP : va_P (dC, dI) vwCl [(a0, .inr (6, [.int 0, .int 0, .ref a1, .int 34, .int 1, .int 2, .int 2, .int 1, .ref a2])), (a1, .inr (5, [.ref cb, .int 81, .int 0, .ref a3, .int 5, .ref a4, .int 2, .ref a5, .int 1, .int 1, .ref a6, .int 6, .int 0, .int 1, .int 0]))] H_2 := hP2
  replace hD : va_D A [(a0, .inr (6, [.int 0, .int 0, .ref a1, .int 34, .int 1, .int 2, .int 2, .int 1, .ref a2])), (a1, .inr (5, [.ref cb, .int 81, .int 0, .ref a3, .int 5, .ref a4, .int 2, .ref a5, .int 1, .int 1, .ref a6, .int 6, .int 0, .int 1, .int 0]))] := hD2
  replace hS := hS2
  clear hP2 hD2 hS2
  refine va_tb (v := .int 35) hx hb hSK.2 hS (by unfold vp_in; decide) rfl dX6_readByte_59 ?_
  refine lv_sipush (v := 255) hx hb dX6_readByte_60 (by decide) ?_
  refine lv_iand hx hb dX6_readByte_63 ?_
  refine lv_topi (fun z_3 ez_3 => ?_)
  obtain rfl : z_3 = 35 := ez_3.trans (by decide)
  clear ez_3
  exact W.iret hx hb hr (fun t ht hW => ⟨⟨35, (), rfl, rfl, by rw [ht]; exact hP, va_K.moved hW.alike hK, hD⟩, hS.F ht⟩) hS.2.2 dX6_readByte_64

set_option maxHeartbeats 4000000 in
set_option maxRecDepth 100000 in
theorem cc_354_X6_readInstruction (l : Launch) (dC : Nat → ClassId) (dI : Nat → Nat → Nat) (cy : Nat → ClassId) (sz : Nat) (cb : Nat) (a0 : Nat) (a1 : Nat) (a2 : Nat) (a3 : Nat) (a4 : Nat) (a5 : Nat) (a6 : Nat) (f0 : Nat → Int32)  : Met l yX6_readInstruction wsX6_readInstruction ({ frames := 1, cells := 0, slots := 0, locals := 21 }) (va_Pc [.ref a0] (fun U => U.heap.size = sz ∧ va_P (dC, dI) vwCl [(a0, .inr (6, [.int 0, .int 0, .ref a1, .int 33, .int 1, .int 2, .int 2, .int 1, .ref a3])), (a1, .inr (5, [.ref cb, .int 81, .int 0, .ref a4, .int 5, .ref a2, .int 1, .ref a5, .int 1, .int 1, .ref a6, .int 6, .int 0, .int 1, .int 0])), (a2, .inl (cy 1, 2048, .inl f0))] U.heap ∧ va_K (dC, dI) vwCl (TYS cy) U ∧ va_D (fun _ => True) [(a0, .inr (6, [.int 0, .int 0, .ref a1, .int 33, .int 1, .int 2, .int 2, .int 1, .ref a3])), (a1, .inr (5, [.ref cb, .int 81, .int 0, .ref a4, .int 5, .ref a2, .int 1, .ref a5, .int 1, .int 1, .ref a6, .int 6, .int 0, .int 1, .int 0])), (a2, .inl (cy 1, 2048, .inl f0))] ∧ NK U ∧ SK cb (va_A [(a0, .inr (6, [.int 0, .int 0, .ref a1, .int 33, .int 1, .int 2, .int 2, .int 1, .ref a3])), (a1, .inr (5, [.ref cb, .int 81, .int 0, .ref a4, .int 5, .ref a2, .int 1, .ref a5, .int 1, .int 1, .ref a6, .int 6, .int 0, .int 1, .int 0])), (a2, .inl (cy 1, 2048, .inl f0))] sz) U U.heap)) (va_Qv (fun u : (Nat → Int32) => True) (fun u t => match u with | (u0) => va_P (dC, dI) vwCl [(a0, .inr (6, [.int 0, .int 0, .ref a1, .int 34, .int 1, .int 2, .int 2, .int 1, .ref a3])), (a1, .inr (5, [.ref cb, .int 81, .int 0, .ref a4, .int 5, .ref a2, .int 2, .ref a5, .int 1, .int 1, .ref a6, .int 6, .int 0, .int 1, .int 0])), (a2, .inl (cy 1, 2048, .inl u0))] t.heap ∧ va_K (dC, dI) vwCl (TYS cy) t ∧ va_D (va_A [(a0, .inr (6, [.int 0, .int 0, .ref a1, .int 33, .int 1, .int 2, .int 2, .int 1, .ref a3])), (a1, .inr (5, [.ref cb, .int 81, .int 0, .ref a4, .int 5, .ref a2, .int 1, .ref a5, .int 1, .int 1, .ref a6, .int 6, .int 0, .int 1, .int 0])), (a2, .inl (cy 1, 2048, .inl f0))] sz) [(a0, .inr (6, [.int 0, .int 0, .ref a1, .int 34, .int 1, .int 2, .int 2, .int 1, .ref a3])), (a1, .inr (5, [.ref cb, .int 81, .int 0, .ref a4, .int 5, .ref a2, .int 2, .ref a5, .int 1, .int 1, .ref a6, .int 6, .int 0, .int 1, .int 0])), (a2, .inl (cy 1, 2048, .inl u0))]) (va_A [(a0, .inr (6, [.int 0, .int 0, .ref a1, .int 33, .int 1, .int 2, .int 2, .int 1, .ref a3])), (a1, .inr (5, [.ref cb, .int 81, .int 0, .ref a4, .int 5, .ref a2, .int 1, .ref a5, .int 1, .int 1, .ref a6, .int 6, .int 0, .int 1, .int 0])), (a2, .inl (cy 1, 2048, .inl f0))] sz)) 0 0 (va_A [(a0, .inr (6, [.int 0, .int 0, .ref a1, .int 33, .int 1, .int 2, .int 2, .int 1, .ref a3])), (a1, .inr (5, [.ref cb, .int 81, .int 0, .ref a4, .int 5, .ref a2, .int 1, .ref a5, .int 1, .int 1, .ref a6, .int 6, .int 0, .int 1, .int 0])), (a2, .inl (cy 1, 2048, .inl f0))] sz) := by
  refine Met.ofW (cc := cX6_readInstruction) (maxL := 4) (ret := none) (by decide) rfl ?_
  intro p e s m args below meth c s₁ B hml hv
  obtain ⟨rfl, hsz, hP, hK, hD0, hN, hSK⟩ := hv
  have hx := B.exec
  have hb := B.bytes
  have hr := B.returns
  have hts := atoms_spec (ws := wsX6_readInstruction) B.pre
  have hown : s.vm.findClass RX6 = some m.cls := findClass_of_methodNamed B.named
  have hlocks := B.notSynchronized
  subst hsz
  have hD := hD0.self (sz := s.heap.size)
  generalize hAe : va_A [(a0, .inr (6, [.int 0, .int 0, .ref a1, .int 33, .int 1, .int 2, .int 2, .int 1, .ref a3])), (a1, .inr (5, [.ref cb, .int 81, .int 0, .ref a4, .int 5, .ref a2, .int 1, .ref a5, .int 1, .int 1, .ref a6, .int 6, .int 0, .int 1, .int 0])), (a2, .inl (cy 1, 2048, .inl f0))] s.heap.size = A at hD hSK ⊢
  have hA : ∀ q : Nat, s.heap.size ≤ q → A q := fun q h => by rw [← hAe]; exact Or.inr h
  have hS : va_S A s.heap s.heap [] := va_S.rf
  have hP : va_P (dC, dI) vwCl [(a0, .inr (6, [.int 0, .int 0, .ref a1, .int 33, .int 1, .int 2, .int 2, .int 1, .ref a3])), (a1, .inr (5, [.ref cb, .int 81, .int 0, .ref a4, .int 5, .ref a2, .int 1, .ref a5, .int 1, .int 1, .ref a6, .int 6, .int 0, .int 1, .int 0])), (a2, .inl (cy 1, 2048, .inl f0))] s.heap := hP
  have hl := lv_entry ([.ref a0]) (n := 4) (Nat.le_of_ble_eq_true rfl)
  rw [lg_entry_eq]
  generalize (lg_sl ([.ref a0]) ++ List.replicate (4 - (lg_sl ([.ref a0])).length) Slot.unset).toArray = ls at hl ⊢
  replace hl : lv_has ls 4 [(0, .ref a0)] := hl
  refine lv_aload_n hx hb dX6_readInstruction_0 rfl (lv_at hl 0 rfl) ?_
  refine va_get (D := (dC, dI)) (ci := 6) (v := .ref a1) (C := RX6) (T := TX6) (N := 9) hx hb hts iw_X6_readInstruction_X6 hown hK hP 0 rfl rfl 2 (by decide) (hts _ m_X6_readInstruction_1) (fun _ h9 => h9) rfl dX6_readInstruction_1 ?_
  refine lv_aload_n hx hb dX6_readInstruction_4 rfl (lv_at hl 0 rfl) ?_
  refine va_get (D := (dC, dI)) (ci := 6) (v := .int 33) (C := RX6) (T := TX6) (N := 9) hx hb hts iw_X6_readInstruction_X6 hown hK hP 0 rfl rfl 3 (by decide) (hts _ m_X6_readInstruction_2) (fun _ h9 => h9) rfl dX6_readInstruction_5 ?_
  have hPc := hP.sub (ws' := [(a1, .inr (5, [.ref cb, .int 81, .int 0, .ref a4, .int 5, .ref a2, .int 1, .ref a5, .int 1, .int 1, .ref a6, .int 6, .int 0, .int 1, .int 0])), (a2, .inl (cy 1, 2048, .inl f0))]) [1, 2] rfl
  have hDc := hD.sub (ws' := [(a1, .inr (5, [.ref cb, .int 81, .int 0, .ref a4, .int 5, .ref a2, .int 1, .ref a5, .int 1, .int 1, .ref a6, .int 6, .int 0, .int 1, .int 0])), (a2, .inl (cy 1, 2048, .inl f0))]) [1, 2] (by decide) rfl
  have hFc := va_free (wc := [(a1, .inr (5, [.ref cb, .int 81, .int 0, .ref a4, .int 5, .ref a2, .int 1, .ref a5, .int 1, .int 1, .ref a6, .int 6, .int 0, .int 1, .int 0])), (a2, .inl (cy 1, 2048, .inl f0))]) hD hS hA [1, 2] rfl
  refine va_callv (va_runV (As := [.int 33]) (rest := []) ⟨hx, hb, hml, hown, hts⟩ (cc_111_X5_addStart l dC dI cy s.heap.size cb a1 a2 a4 a5 a6 f0) (cwV 1 hts gX6_readInstruction_X5_addStart rfl rfl rfl (by decide +kernel) ⟨Nat.le_of_ble_eq_true rfl, Nat.le_of_ble_eq_true rfl⟩) ⟨fun a U g mk q => by obtain ⟨q0, q1, qP, qK, qD, qN, qS⟩ := q; exact ⟨q0, q1, qP, va_K.moved (u := U) (U := U.calling g mk a) (Vm.Alike.refl U.vm) qK, qD, qN.same rfl, SK.moved (u := U) (U := U.calling g mk a) (Vm.Alike.refl U.vm) qS⟩, va_recv hK hPc (ci := 5) (q0 := 0) rfl rfl, fun U hU hW => ⟨rfl, by rw [hU], by rw [hU]; exact hPc, va_K.moved hW.alike hK, hDc.weaken (fun _ _ _ _ => trivial), hN.warm hW, by rw [hU]; exact ((hSK.kept hS.2.1).narrow hFc).moved hW.alike⟩⟩ rfl rfl hl.1 rfl (lv_room (Nat.le_of_ble_eq_true rfl)) dX6_readInstruction_8 ⟨Nat.le_of_ble_eq_true rfl, Nat.le_of_ble_eq_true rfl⟩) hS (fun q _ h => hFc q h) hFc (fun u t H_1 locs ht hvm hw hB hz1 hk1 hS2 => ?_)
  obtain ⟨g_2, rfl⟩ : ∃ z, z = u := ⟨_, rfl⟩
  obtain ⟨hP1, hK1, hD1⟩ := hB
  rw [ht] at hP1
  obtain ⟨hP2, hD2⟩ := va_join (wr := [(a0, .inr (6, [.int 0, .int 0, .ref a1, .int 33, .int 1, .int 2, .int 2, .int 1, .ref a3]))]) (w1 := [(a1, .inr (5, [.ref cb, .int 81, .int 0, .ref a4, .int 5, .ref a2, .int 2, .ref a5, .int 1, .int 1, .ref a6, .int 6, .int 0, .int 1, .int 0])), (a2, .inl (cy 1, 2048, .inl g_2))]) hP hD [1, 2] [0] rfl rfl (by decide) (by decide) hk1 hFc hP1 hD1
  replace hP : va_P (dC, dI) vwCl [(a0, .inr (6, [.int 0, .int 0, .ref a1, .int 33, .int 1, .int 2, .int 2, .int 1, .ref a3])), (a1, .inr (5, [.ref cb, .int 81, .int 0, .ref a4, .int 5, .ref a2, .int 2, .ref a5, .int 1, .int 1, .ref a6, .int 6, .int 0, .int 1, .int 0])), (a2, .inl (cy 1, 2048, .inl g_2))] H_1 := hP2
  replace hD : va_D A [(a0, .inr (6, [.int 0, .int 0, .ref a1, .int 33, .int 1, .int 2, .int 2, .int 1, .ref a3])), (a1, .inr (5, [.ref cb, .int 81, .int 0, .ref a4, .int 5, .ref a2, .int 2, .ref a5, .int 1, .int 1, .ref a6, .int 6, .int 0, .int 1, .int 0])), (a2, .inl (cy 1, 2048, .inl g_2))] := hD2
  replace hS := hS2
  clear hP2 hD2 hS2
  clear hPc hDc hFc hP1 hD1 hK1 hk1 hz1 hvm ht
  refine W.widen (k := 0) (n := 0) (Nat.le_of_ble_eq_true rfl) (Nat.le_of_ble_eq_true rfl) ?_
  refine lv_aload_n hx hb dX6_readInstruction_11 rfl (lv_at hl 0 rfl) ?_
  refine va_get (D := (dC, dI)) (ci := 6) (v := .int 33) (C := RX6) (T := TX6) (N := 9) hx hb hts iw_X6_readInstruction_X6 hown hK hP 0 rfl rfl 3 (by decide) (hts _ m_X6_readInstruction_2) (fun _ h9 => h9) rfl dX6_readInstruction_12 ?_
  refine lv_istore_n (lv' := [(1, .int 33), (0, .ref a0)]) hx hb dX6_readInstruction_15 rfl hl (by decide) rfl (fun ls hl2 => ?_)
  replace hl := hl2
  clear hl2
  refine lv_aload_n hx hb dX6_readInstruction_16 rfl (lv_at hl 1 rfl) ?_
  have hPc := hP.sub (ws' := [(a0, .inr (6, [.int 0, .int 0, .ref a1, .int 33, .int 1, .int 2, .int 2, .int 1, .ref a3])), (a1, .inr (5, [.ref cb, .int 81, .int 0, .ref a4, .int 5, .ref a2, .int 2, .ref a5, .int 1, .int 1, .ref a6, .int 6, .int 0, .int 1, .int 0]))]) [0, 1] rfl
  have hDc := hD.sub (ws' := [(a0, .inr (6, [.int 0, .int 0, .ref a1, .int 33, .int 1, .int 2, .int 2, .int 1, .ref a3])), (a1, .inr (5, [.ref cb, .int 81, .int 0, .ref a4, .int 5, .ref a2, .int 2, .ref a5, .int 1, .int 1, .ref a6, .int 6, .int 0, .int 1, .int 0]))]) [0, 1] (by decide) rfl
  have hFc := va_free (wc := [(a0, .inr (6, [.int 0, .int 0, .ref a1, .int 33, .int 1, .int 2, .int 2, .int 1, .ref a3])), (a1, .inr (5, [.ref cb, .int 81, .int 0, .ref a4, .int 5, .ref a2, .int 2, .ref a5, .int 1, .int 1, .ref a6, .int 6, .int 0, .int 1, .int 0]))]) hD hS hA [0, 1] rfl
  refine va_calli (va_runV (As := []) (rest := []) ⟨hx, hb, hml, hown, hts⟩ (cc_355_X6_readByte l dC dI cy H_1.size cb a0 a1 a3 a4 a2 a5 a6) (cwV 0 hts gX6_readInstruction_X6_readByte rfl rfl rfl (by decide +kernel) ⟨Nat.le_of_ble_eq_true rfl, Nat.le_of_ble_eq_true rfl⟩) ⟨fun a U g mk q => by obtain ⟨q0, q1, qP, qK, qD, qN, qS⟩ := q; exact ⟨q0, q1, qP, va_K.moved (u := U) (U := U.calling g mk a) (Vm.Alike.refl U.vm) qK, qD, qN.same rfl, SK.moved (u := U) (U := U.calling g mk a) (Vm.Alike.refl U.vm) qS⟩, va_recv hK hPc (ci := 6) (q0 := 0) rfl rfl, fun U hU hW => ⟨rfl, by rw [hU], by rw [hU]; exact hPc, va_K.moved hW.alike hK, hDc.weaken (fun _ _ _ _ => trivial), hN.warm hW, by rw [hU]; exact ((hSK.kept hS.2.1).narrow hFc).moved hW.alike⟩⟩ rfl rfl hl.1 rfl (lv_room (Nat.le_of_ble_eq_true rfl)) dX6_readInstruction_17 ⟨Nat.le_of_ble_eq_true rfl, Nat.le_of_ble_eq_true rfl⟩) hS (fun q _ h => hFc q h) hFc (fun r_3 u t H_4 locs ht hvm hw hB hz1 hk1 hS2 => ?_)
  obtain ⟨hP1, hK1, hD1⟩ := hB
  rw [ht] at hP1
  obtain rfl := hw
  obtain ⟨hP2, hD2⟩ := va_join (wr := [(a2, .inl (cy 1, 2048, .inl g_2))]) (w1 := [(a0, .inr (6, [.int 0, .int 0, .ref a1, .int 34, .int 1, .int 2, .int 2, .int 1, .ref a3])), (a1, .inr (5, [.ref cb, .int 81, .int 0, .ref a4, .int 5, .ref a2, .int 2, .ref a5, .int 1, .int 1, .ref a6, .int 6, .int 0, .int 1, .int 0]))]) hP hD [0, 1] [2] rfl rfl (by decide) (by decide) hk1 hFc hP1 hD1
  replace hP : va_P (dC, dI) vwCl [(a2, .inl (cy 1, 2048, .inl g_2)), (a0, .inr (6, [.int 0, .int 0, .ref a1, .int 34, .int 1, .int 2, .int 2, .int 1, .ref a3])), (a1, .inr (5, [.ref cb, .int 81, .int 0, .ref a4, .int 5, .ref a2, .int 2, .ref a5, .int 1, .int 1, .ref a6, .int 6, .int 0, .int 1, .int 0]))] H_4 := hP2
  replace hD : va_D A [(a2, .inl (cy 1, 2048, .inl g_2)), (a0, .inr (6, [.int 0, .int 0, .ref a1, .int 34, .int 1, .int 2, .int 2, .int 1, .ref a3])), (a1, .inr (5, [.ref cb, .int 81, .int 0, .ref a4, .int 5, .ref a2, .int 2, .ref a5, .int 1, .int 1, .ref a6, .int 6, .int 0, .int 1, .int 0]))] := hD2
  replace hS := hS2
  clear hP2 hD2 hS2
  clear hPc hDc hFc hP1 hD1 hK1 hk1 hz1 hvm ht
  refine W.widen (k := 0) (n := 0) (Nat.le_of_ble_eq_true rfl) (Nat.le_of_ble_eq_true rfl) ?_
  refine lv_istore_n (lv' := [(2, .int 35), (1, .int 33), (0, .ref a0)]) hx hb dX6_readInstruction_20 rfl hl (by decide) rfl (fun ls hl2 => ?_)
  replace hl := hl2
  clear hl2
  refine lv_iload_n hx hb dX6_readInstruction_21 rfl (lv_at hl 0 rfl) ?_
  refine lv_bipush (v := 59) hx hb dX6_readInstruction_22 (by decide) ?_
  refine lv_icmp_le (tgt := 36) hx hb dX6_readInstruction_24 (by decide) (fun _ => ?_) (fun h => absurd (by decide) h)
  refine lv_iload_n hx hb dX6_readInstruction_36 rfl (lv_at hl 0 rfl) ?_
  refine lv_iconst (v := 2) hx hb dX6_readInstruction_37 (by decide) ?_
  refine lv_icmp_lt (tgt := 79) hx hb dX6_readInstruction_38 (by decide) (fun h => absurd h (by decide)) (fun _ => ?_)
  refine lv_iload_n hx hb dX6_readInstruction_41 rfl (lv_at hl 0 rfl) ?_
  refine lv_iconst (v := 4) hx hb dX6_readInstruction_42 (by decide) ?_
  refine lv_icmp_gt (tgt := 79) hx hb dX6_readInstruction_43 (by decide) (fun _ => ?_) (fun h => absurd (by decide) h)
  refine lv_iload_n hx hb dX6_readInstruction_79 rfl (lv_at hl 0 rfl) ?_
  refine lv_iconst (v := 5) hx hb dX6_readInstruction_80 (by decide) ?_
  refine lv_icmp_lt (tgt := 135) hx hb dX6_readInstruction_81 (by decide) (fun h => absurd h (by decide)) (fun _ => ?_)
  refine lv_iload_n hx hb dX6_readInstruction_84 rfl (lv_at hl 0 rfl) ?_
  refine lv_bipush (v := 10) hx hb dX6_readInstruction_85 (by decide) ?_
  refine lv_icmp_gt (tgt := 135) hx hb dX6_readInstruction_87 (by decide) (fun _ => ?_) (fun h => absurd (by decide) h)
  refine lv_iload_n hx hb dX6_readInstruction_135 rfl (lv_at hl 0 rfl) ?_
  refine lv_bipush (v := 11) hx hb dX6_readInstruction_136 (by decide) ?_
  refine lv_icmp_lt (tgt := 161) hx hb dX6_readInstruction_138 (by decide) (fun h => absurd h (by decide)) (fun _ => ?_)
  refine lv_iload_n hx hb dX6_readInstruction_141 rfl (lv_at hl 0 rfl) ?_
  refine lv_bipush (v := 15) hx hb dX6_readInstruction_142 (by decide) ?_
  refine lv_icmp_gt (tgt := 161) hx hb dX6_readInstruction_144 (by decide) (fun _ => ?_) (fun h => absurd (by decide) h)
  refine lv_iload_n hx hb dX6_readInstruction_161 rfl (lv_at hl 0 rfl) ?_
  refine lv_bipush (v := 16) hx hb dX6_readInstruction_162 (by decide) ?_
  refine lv_icmp_eq (tgt := 173) hx hb dX6_readInstruction_164 (by decide) (fun h => absurd h (by decide)) (fun _ => ?_)
  refine lv_iload_n hx hb dX6_readInstruction_167 rfl (lv_at hl 0 rfl) ?_
  refine lv_bipush (v := 17) hx hb dX6_readInstruction_168 (by decide) ?_
  refine lv_icmp_ne (tgt := 196) hx hb dX6_readInstruction_170 (by decide) (fun _ => ?_) (fun h => absurd h (by decide))
  refine lv_iload_n hx hb dX6_readInstruction_196 rfl (lv_at hl 0 rfl) ?_
  refine lv_bipush (v := 21) hx hb dX6_readInstruction_197 (by decide) ?_
  refine lv_icmp_eq (tgt := 220) hx hb dX6_readInstruction_199 (by decide) (fun h => absurd h (by decide)) (fun _ => ?_)
  refine lv_iload_n hx hb dX6_readInstruction_202 rfl (lv_at hl 0 rfl) ?_
  refine lv_bipush (v := 22) hx hb dX6_readInstruction_203 (by decide) ?_
  refine lv_icmp_eq (tgt := 220) hx hb dX6_readInstruction_205 (by decide) (fun h => absurd h (by decide)) (fun _ => ?_)
  refine lv_iload_n hx hb dX6_readInstruction_208 rfl (lv_at hl 0 rfl) ?_
  refine lv_bipush (v := 47) hx hb dX6_readInstruction_209 (by decide) ?_
  refine lv_icmp_lt (tgt := 228) hx hb dX6_readInstruction_211 (by decide) (fun _ => ?_) (fun h => absurd (by decide) h)
  refine lv_iload_n hx hb dX6_readInstruction_228 rfl (lv_at hl 0 rfl) ?_
  refine lv_bipush (v := 23) hx hb dX6_readInstruction_229 (by decide) ?_
  refine lv_icmp_ne (tgt := 259) hx hb dX6_readInstruction_231 (by decide) (fun _ => ?_) (fun h => absurd h (by decide))
  refine lv_iload_n hx hb dX6_readInstruction_259 rfl (lv_at hl 0 rfl) ?_
  refine lv_bipush (v := 52) hx hb dX6_readInstruction_260 (by decide) ?_
  refine lv_icmp_lt (tgt := 299) hx hb dX6_readInstruction_262 (by decide) (fun _ => ?_) (fun h => absurd (by decide) h)
  have hP := hP.sub (ws' := [(a0, .inr (6, [.int 0, .int 0, .ref a1, .int 34, .int 1, .int 2, .int 2, .int 1, .ref a3])), (a1, .inr (5, [.ref cb, .int 81, .int 0, .ref a4, .int 5, .ref a2, .int 2, .ref a5, .int 1, .int 1, .ref a6, .int 6, .int 0, .int 1, .int 0])), (a2, .inl (cy 1, 2048, .inl g_2))]) [1, 2, 0] rfl
  have hD := hD.sub (ws' := [(a0, .inr (6, [.int 0, .int 0, .ref a1, .int 34, .int 1, .int 2, .int 2, .int 1, .ref a3])), (a1, .inr (5, [.ref cb, .int 81, .int 0, .ref a4, .int 5, .ref a2, .int 2, .ref a5, .int 1, .int 1, .ref a6, .int 6, .int 0, .int 1, .int 0])), (a2, .inl (cy 1, 2048, .inl g_2))]) [1, 2, 0] (by decide) rfl
  exact W.vret hx hb hr (fun t ht hW => ⟨⟨(g_2), rfl, trivial, by rw [ht]; exact hP, va_K.moved hW.alike hK, hD⟩, hS.F ht⟩) hS.2.2 dX6_readInstruction_299

set_option maxHeartbeats 4000000 in
set_option maxRecDepth 100000 in
theorem cc_357_X6_readByte (l : Launch) (dC : Nat → ClassId) (dI : Nat → Nat → Nat) (cy : Nat → ClassId) (sz : Nat) (cb : Nat) (a0 : Nat) (a1 : Nat) (a2 : Nat) (a3 : Nat) (a4 : Nat) (a5 : Nat) (a6 : Nat)  : Met l yX6_readByte wsX6_readByte ({ frames := 0, cells := 0, slots := 0, locals := 0 }) (va_Pc [.ref a0] (fun U => U.heap.size = sz ∧ va_P (dC, dI) vwCl [(a0, .inr (6, [.int 0, .int 0, .ref a1, .int 34, .int 1, .int 2, .int 2, .int 1, .ref a2])), (a1, .inr (5, [.ref cb, .int 81, .int 0, .ref a3, .int 5, .ref a4, .int 2, .ref a5, .int 1, .int 1, .ref a6, .int 6, .int 0, .int 1, .int 0]))] U.heap ∧ va_K (dC, dI) vwCl (TYS cy) U ∧ va_D (fun _ => True) [(a0, .inr (6, [.int 0, .int 0, .ref a1, .int 34, .int 1, .int 2, .int 2, .int 1, .ref a2])), (a1, .inr (5, [.ref cb, .int 81, .int 0, .ref a3, .int 5, .ref a4, .int 2, .ref a5, .int 1, .int 1, .ref a6, .int 6, .int 0, .int 1, .int 0]))] ∧ NK U ∧ SK cb (va_A [(a0, .inr (6, [.int 0, .int 0, .ref a1, .int 34, .int 1, .int 2, .int 2, .int 1, .ref a2])), (a1, .inr (5, [.ref cb, .int 81, .int 0, .ref a3, .int 5, .ref a4, .int 2, .ref a5, .int 1, .int 1, .ref a6, .int 6, .int 0, .int 1, .int 0]))] sz) U U.heap)) (va_Qi (fun (r : Int32) (u : Unit) => r = 1) (fun u t => va_P (dC, dI) vwCl [(a0, .inr (6, [.int 0, .int 0, .ref a1, .int 35, .int 1, .int 2, .int 2, .int 1, .ref a2])), (a1, .inr (5, [.ref cb, .int 81, .int 0, .ref a3, .int 5, .ref a4, .int 2, .ref a5, .int 1, .int 1, .ref a6, .int 6, .int 0, .int 1, .int 0]))] t.heap ∧ va_K (dC, dI) vwCl (TYS cy) t ∧ va_D (va_A [(a0, .inr (6, [.int 0, .int 0, .ref a1, .int 34, .int 1, .int 2, .int 2, .int 1, .ref a2])), (a1, .inr (5, [.ref cb, .int 81, .int 0, .ref a3, .int 5, .ref a4, .int 2, .ref a5, .int 1, .int 1, .ref a6, .int 6, .int 0, .int 1, .int 0]))] sz) [(a0, .inr (6, [.int 0, .int 0, .ref a1, .int 35, .int 1, .int 2, .int 2, .int 1, .ref a2])), (a1, .inr (5, [.ref cb, .int 81, .int 0, .ref a3, .int 5, .ref a4, .int 2, .ref a5, .int 1, .int 1, .ref a6, .int 6, .int 0, .int 1, .int 0]))]) (va_A [(a0, .inr (6, [.int 0, .int 0, .ref a1, .int 34, .int 1, .int 2, .int 2, .int 1, .ref a2])), (a1, .inr (5, [.ref cb, .int 81, .int 0, .ref a3, .int 5, .ref a4, .int 2, .ref a5, .int 1, .int 1, .ref a6, .int 6, .int 0, .int 1, .int 0]))] sz)) 0 0 (va_A [(a0, .inr (6, [.int 0, .int 0, .ref a1, .int 34, .int 1, .int 2, .int 2, .int 1, .ref a2])), (a1, .inr (5, [.ref cb, .int 81, .int 0, .ref a3, .int 5, .ref a4, .int 2, .ref a5, .int 1, .int 1, .ref a6, .int 6, .int 0, .int 1, .int 0]))] sz) := by
  refine Met.ofW (cc := cX6_readByte) (maxL := 1) (ret := (some .int)) (by decide) rfl ?_
  intro p e s m args below meth c s₁ B hml hv
  obtain ⟨rfl, hsz, hP, hK, hD0, hN, hSK⟩ := hv
  have hx := B.exec
  have hb := B.bytes
  have hr := B.returns
  have hts := atoms_spec (ws := wsX6_readByte) B.pre
  have hown : s.vm.findClass RX6 = some m.cls := findClass_of_methodNamed B.named
  have hlocks := B.notSynchronized
  subst hsz
  have hD := hD0.self (sz := s.heap.size)
  generalize hAe : va_A [(a0, .inr (6, [.int 0, .int 0, .ref a1, .int 34, .int 1, .int 2, .int 2, .int 1, .ref a2])), (a1, .inr (5, [.ref cb, .int 81, .int 0, .ref a3, .int 5, .ref a4, .int 2, .ref a5, .int 1, .int 1, .ref a6, .int 6, .int 0, .int 1, .int 0]))] s.heap.size = A at hD hSK ⊢
  have hA : ∀ q : Nat, s.heap.size ≤ q → A q := fun q h => by rw [← hAe]; exact Or.inr h
  have hS : va_S A s.heap s.heap [] := va_S.rf
  have hP : va_P (dC, dI) vwCl [(a0, .inr (6, [.int 0, .int 0, .ref a1, .int 34, .int 1, .int 2, .int 2, .int 1, .ref a2])), (a1, .inr (5, [.ref cb, .int 81, .int 0, .ref a3, .int 5, .ref a4, .int 2, .ref a5, .int 1, .int 1, .ref a6, .int 6, .int 0, .int 1, .int 0]))] s.heap := hP
  have hl := lv_entry ([.ref a0]) (n := 1) (Nat.le_of_ble_eq_true rfl)
  rw [lg_entry_eq]
  generalize (lg_sl ([.ref a0]) ++ List.replicate (1 - (lg_sl ([.ref a0])).length) Slot.unset).toArray = ls at hl ⊢
  replace hl : lv_has ls 1 [(0, .ref a0)] := hl
  refine lv_aload_n hx hb dX6_readByte_0 rfl (lv_at hl 0 rfl) ?_
  refine va_get (D := (dC, dI)) (ci := 6) (v := .int 0) (C := RX6) (T := TX6) (N := 9) hx hb hts iw_X6_readByte_X6 hown hK hP 0 rfl rfl 1 (by decide) (hts _ m_X6_readByte_1) (fun _ h9 => h9) rfl dX6_readByte_1 ?_
  refine lv_if_eq (tgt := 9) hx hb dX6_readByte_4 (by decide) (fun _ => ?_) (fun h => absurd (by decide) h)
  refine lv_aload_n hx hb dX6_readByte_9 rfl (lv_at hl 0 rfl) ?_
  refine va_get (D := (dC, dI)) (ci := 6) (v := .int 34) (C := RX6) (T := TX6) (N := 9) hx hb hts iw_X6_readByte_X6 hown hK hP 0 rfl rfl 3 (by decide) (hts _ m_X6_readByte_2) (fun _ h9 => h9) rfl dX6_readByte_10 ?_
  refine lv_aload_n hx hb dX6_readByte_13 rfl (lv_at hl 0 rfl) ?_
  refine va_get (D := (dC, dI)) (ci := 6) (v := .ref a1) (C := RX6) (T := TX6) (N := 9) hx hb hts iw_X6_readByte_X6 hown hK hP 0 rfl rfl 2 (by decide) (hts _ m_X6_readByte_3) (fun _ h9 => h9) rfl dX6_readByte_14 ?_
  refine va_get (D := (dC, dI)) (ci := 5) (v := .int 81) (C := RX5) (T := TX5) (N := 15) hx hb hts iw_X6_readByte_X5 hown hK hP 1 rfl rfl 1 (by decide) (hts _ m_X6_readByte_4) (fun _ h9 => h9) rfl dX6_readByte_17 ?_
  refine lv_icmp_lt (tgt := 41) hx hb dX6_readByte_20 (by decide) (fun _ => ?_) (fun h => absurd (by decide) h)
  refine lv_aload_n hx hb dX6_readByte_41 rfl (lv_at hl 0 rfl) ?_
  refine va_get (D := (dC, dI)) (ci := 6) (v := .ref a1) (C := RX6) (T := TX6) (N := 9) hx hb hts iw_X6_readByte_X6 hown hK hP 0 rfl rfl 2 (by decide) (hts _ m_X6_readByte_3) (fun _ h9 => h9) rfl dX6_readByte_42 ?_
  refine va_get (D := (dC, dI)) (ci := 5) (v := .ref cb) (C := RX5) (T := TX5) (N := 15) hx hb hts iw_X6_readByte_X5 hown hK hP 1 rfl rfl 0 (by decide) (hts _ m_X6_readByte_6) (fun _ h9 => h9) rfl dX6_readByte_45 ?_
  refine lv_aload_n hx hb dX6_readByte_48 rfl (lv_at hl 0 rfl) ?_
  refine lv_dup hx hb dX6_readByte_49 rfl ?_
  refine va_get (D := (dC, dI)) (ci := 6) (v := .int 34) (C := RX6) (T := TX6) (N := 9) hx hb hts iw_X6_readByte_X6 hown hK hP 0 rfl rfl 3 (by decide) (hts _ m_X6_readByte_2) (fun _ h9 => h9) rfl dX6_readByte_50 ?_
  refine lv_dup_x1 hx hb dX6_readByte_53 rfl rfl ?_
  refine lv_iconst (v := 1) hx hb dX6_readByte_54 (by decide) ?_
  refine lv_iadd hx hb dX6_readByte_55 ?_
  refine lv_topi (fun z_1 ez_1 => ?_)
  obtain rfl : z_1 = 35 := ez_1.trans (by decide)
  clear ez_1
  refine va_put (D := (dC, dI)) (ci := 6) (v := .int 35) (ty := .int) (C := RX6) (T := TX6) (N := 9) hx hb hts iw_X6_readByte_X6 tyX6 tyX6_ok nmX6 hown hK hP hD hS 0 rfl rfl 3 (by decide) (hts _ m_X6_readByte_2) (fun _ h9 => h9) rfl (by decide +kernel) rfl rfl (Nat.le_of_ble_eq_true rfl) dX6_readByte_56 (fun H_2 locs hP2 hD2 hS2 => ?_)
  replace hP : va_P (dC, dI) vwCl [(a0, .inr (6, [.int 0, .int 0, .ref a1, .int 35, .int 1, .int 2, .int 2, .int 1, .ref a2])), (a1, .inr (5, [.ref cb, .int 81, .int 0, .ref a3, .int 5, .ref a4, .int 2, .ref a5, .int 1, .int 1, .ref a6, .int 6, .int 0, .int 1, .int 0]))] H_2 := hP2
  replace hD : va_D A [(a0, .inr (6, [.int 0, .int 0, .ref a1, .int 35, .int 1, .int 2, .int 2, .int 1, .ref a2])), (a1, .inr (5, [.ref cb, .int 81, .int 0, .ref a3, .int 5, .ref a4, .int 2, .ref a5, .int 1, .int 1, .ref a6, .int 6, .int 0, .int 1, .int 0]))] := hD2
  replace hS := hS2
  clear hP2 hD2 hS2
  refine va_tb (v := .int 1) hx hb hSK.2 hS (by unfold vp_in; decide) rfl dX6_readByte_59 ?_
  refine lv_sipush (v := 255) hx hb dX6_readByte_60 (by decide) ?_
  refine lv_iand hx hb dX6_readByte_63 ?_
  refine lv_topi (fun z_3 ez_3 => ?_)
  obtain rfl : z_3 = 1 := ez_3.trans (by decide)
  clear ez_3
  exact W.iret hx hb hr (fun t ht hW => ⟨⟨1, (), rfl, rfl, by rw [ht]; exact hP, va_K.moved hW.alike hK, hD⟩, hS.F ht⟩) hS.2.2 dX6_readByte_64

set_option maxHeartbeats 4000000 in
set_option maxRecDepth 100000 in
theorem cc_356_X6_readNumber (l : Launch) (dC : Nat → ClassId) (dI : Nat → Nat → Nat) (cy : Nat → ClassId) (sz : Nat) (cb : Nat) (a0 : Nat) (a1 : Nat) (a2 : Nat) (a3 : Nat) (a4 : Nat) (a5 : Nat) (a6 : Nat)  : Met l yX6_readNumber wsX6_readNumber ({ frames := 1, cells := 0, slots := 0, locals := 20 }) (va_Pc [.ref a0, .int 0, .int 7] (fun U => U.heap.size = sz ∧ va_P (dC, dI) vwCl [(a0, .inr (6, [.int 0, .int 0, .ref a1, .int 34, .int 1, .int 2, .int 2, .int 1, .ref a2])), (a1, .inr (5, [.ref cb, .int 81, .int 0, .ref a3, .int 5, .ref a4, .int 2, .ref a5, .int 1, .int 1, .ref a6, .int 6, .int 0, .int 1, .int 0]))] U.heap ∧ va_K (dC, dI) vwCl (TYS cy) U ∧ va_D (fun _ => True) [(a0, .inr (6, [.int 0, .int 0, .ref a1, .int 34, .int 1, .int 2, .int 2, .int 1, .ref a2])), (a1, .inr (5, [.ref cb, .int 81, .int 0, .ref a3, .int 5, .ref a4, .int 2, .ref a5, .int 1, .int 1, .ref a6, .int 6, .int 0, .int 1, .int 0]))] ∧ NK U ∧ SK cb (va_A [(a0, .inr (6, [.int 0, .int 0, .ref a1, .int 34, .int 1, .int 2, .int 2, .int 1, .ref a2])), (a1, .inr (5, [.ref cb, .int 81, .int 0, .ref a3, .int 5, .ref a4, .int 2, .ref a5, .int 1, .int 1, .ref a6, .int 6, .int 0, .int 1, .int 0]))] sz) U U.heap)) (va_Qi (fun (r : Int32) (u : Unit) => r = 1) (fun u t => va_P (dC, dI) vwCl [(a0, .inr (6, [.int 0, .int 0, .ref a1, .int 35, .int 1, .int 2, .int 2, .int 1, .ref a2])), (a1, .inr (5, [.ref cb, .int 81, .int 0, .ref a3, .int 5, .ref a4, .int 2, .ref a5, .int 1, .int 1, .ref a6, .int 6, .int 0, .int 1, .int 0]))] t.heap ∧ va_K (dC, dI) vwCl (TYS cy) t ∧ va_D (va_A [(a0, .inr (6, [.int 0, .int 0, .ref a1, .int 34, .int 1, .int 2, .int 2, .int 1, .ref a2])), (a1, .inr (5, [.ref cb, .int 81, .int 0, .ref a3, .int 5, .ref a4, .int 2, .ref a5, .int 1, .int 1, .ref a6, .int 6, .int 0, .int 1, .int 0]))] sz) [(a0, .inr (6, [.int 0, .int 0, .ref a1, .int 35, .int 1, .int 2, .int 2, .int 1, .ref a2])), (a1, .inr (5, [.ref cb, .int 81, .int 0, .ref a3, .int 5, .ref a4, .int 2, .ref a5, .int 1, .int 1, .ref a6, .int 6, .int 0, .int 1, .int 0]))]) (va_A [(a0, .inr (6, [.int 0, .int 0, .ref a1, .int 34, .int 1, .int 2, .int 2, .int 1, .ref a2])), (a1, .inr (5, [.ref cb, .int 81, .int 0, .ref a3, .int 5, .ref a4, .int 2, .ref a5, .int 1, .int 1, .ref a6, .int 6, .int 0, .int 1, .int 0]))] sz)) 0 0 (va_A [(a0, .inr (6, [.int 0, .int 0, .ref a1, .int 34, .int 1, .int 2, .int 2, .int 1, .ref a2])), (a1, .inr (5, [.ref cb, .int 81, .int 0, .ref a3, .int 5, .ref a4, .int 2, .ref a5, .int 1, .int 1, .ref a6, .int 6, .int 0, .int 1, .int 0]))] sz) := by
  refine Met.ofW (cc := cX6_readNumber) (maxL := 5) (ret := (some .int)) (by decide) rfl ?_
  intro p e s m args below meth c s₁ B hml hv
  obtain ⟨rfl, hsz, hP, hK, hD0, hN, hSK⟩ := hv
  have hx := B.exec
  have hb := B.bytes
  have hr := B.returns
  have hts := atoms_spec (ws := wsX6_readNumber) B.pre
  have hown : s.vm.findClass RX6 = some m.cls := findClass_of_methodNamed B.named
  have hlocks := B.notSynchronized
  subst hsz
  have hD := hD0.self (sz := s.heap.size)
  generalize hAe : va_A [(a0, .inr (6, [.int 0, .int 0, .ref a1, .int 34, .int 1, .int 2, .int 2, .int 1, .ref a2])), (a1, .inr (5, [.ref cb, .int 81, .int 0, .ref a3, .int 5, .ref a4, .int 2, .ref a5, .int 1, .int 1, .ref a6, .int 6, .int 0, .int 1, .int 0]))] s.heap.size = A at hD hSK ⊢
  have hA : ∀ q : Nat, s.heap.size ≤ q → A q := fun q h => by rw [← hAe]; exact Or.inr h
  have hS : va_S A s.heap s.heap [] := va_S.rf
  have hP : va_P (dC, dI) vwCl [(a0, .inr (6, [.int 0, .int 0, .ref a1, .int 34, .int 1, .int 2, .int 2, .int 1, .ref a2])), (a1, .inr (5, [.ref cb, .int 81, .int 0, .ref a3, .int 5, .ref a4, .int 2, .ref a5, .int 1, .int 1, .ref a6, .int 6, .int 0, .int 1, .int 0]))] s.heap := hP
  have hl := lv_entry ([.ref a0, .int 0, .int 7]) (n := 5) (Nat.le_of_ble_eq_true rfl)
  rw [lg_entry_eq]
  generalize (lg_sl ([.ref a0, .int 0, .int 7]) ++ List.replicate (5 - (lg_sl ([.ref a0, .int 0, .int 7])).length) Slot.unset).toArray = ls at hl ⊢
  replace hl : lv_has ls 5 [(0, .ref a0), (1, .int 0), (2, .int 7)] := hl
  refine lv_aload_n hx hb dX6_readNumber_0 rfl (lv_at hl 0 rfl) ?_
  refine va_get (D := (dC, dI)) (ci := 6) (v := .int 34) (C := RX6) (T := TX6) (N := 9) hx hb hts iw_X6_readNumber_X6 hown hK hP 0 rfl rfl 3 (by decide) (hts _ m_X6_readNumber_1) (fun _ h9 => h9) rfl dX6_readNumber_1 ?_
  refine lv_istore_n (lv' := [(3, .int 34), (0, .ref a0), (1, .int 0), (2, .int 7)]) hx hb dX6_readNumber_4 rfl hl (by decide) rfl (fun ls hl2 => ?_)
  replace hl := hl2
  clear hl2
  refine lv_aload_n hx hb dX6_readNumber_5 rfl (lv_at hl 1 rfl) ?_
  have hPc := hP.sub (ws' := [(a0, .inr (6, [.int 0, .int 0, .ref a1, .int 34, .int 1, .int 2, .int 2, .int 1, .ref a2])), (a1, .inr (5, [.ref cb, .int 81, .int 0, .ref a3, .int 5, .ref a4, .int 2, .ref a5, .int 1, .int 1, .ref a6, .int 6, .int 0, .int 1, .int 0]))]) [0, 1] rfl
  have hDc := hD.sub (ws' := [(a0, .inr (6, [.int 0, .int 0, .ref a1, .int 34, .int 1, .int 2, .int 2, .int 1, .ref a2])), (a1, .inr (5, [.ref cb, .int 81, .int 0, .ref a3, .int 5, .ref a4, .int 2, .ref a5, .int 1, .int 1, .ref a6, .int 6, .int 0, .int 1, .int 0]))]) [0, 1] (by decide) rfl
  have hFc := va_free (wc := [(a0, .inr (6, [.int 0, .int 0, .ref a1, .int 34, .int 1, .int 2, .int 2, .int 1, .ref a2])), (a1, .inr (5, [.ref cb, .int 81, .int 0, .ref a3, .int 5, .ref a4, .int 2, .ref a5, .int 1, .int 1, .ref a6, .int 6, .int 0, .int 1, .int 0]))]) hD hS hA [0, 1] rfl
  refine va_calli (va_runV (As := []) (rest := []) ⟨hx, hb, hml, hown, hts⟩ (cc_357_X6_readByte l dC dI cy s.heap.size cb a0 a1 a2 a3 a4 a5 a6) (cwV 0 hts gX6_readNumber_X6_readByte rfl rfl rfl (by decide +kernel) ⟨Nat.le_of_ble_eq_true rfl, Nat.le_of_ble_eq_true rfl⟩) ⟨fun a U g mk q => by obtain ⟨q0, q1, qP, qK, qD, qN, qS⟩ := q; exact ⟨q0, q1, qP, va_K.moved (u := U) (U := U.calling g mk a) (Vm.Alike.refl U.vm) qK, qD, qN.same rfl, SK.moved (u := U) (U := U.calling g mk a) (Vm.Alike.refl U.vm) qS⟩, va_recv hK hPc (ci := 6) (q0 := 0) rfl rfl, fun U hU hW => ⟨rfl, by rw [hU], by rw [hU]; exact hPc, va_K.moved hW.alike hK, hDc.weaken (fun _ _ _ _ => trivial), hN.warm hW, by rw [hU]; exact ((hSK.kept hS.2.1).narrow hFc).moved hW.alike⟩⟩ rfl rfl hl.1 rfl (lv_room (Nat.le_of_ble_eq_true rfl)) dX6_readNumber_6 ⟨Nat.le_of_ble_eq_true rfl, Nat.le_of_ble_eq_true rfl⟩) hS (fun q _ h => hFc q h) hFc (fun r_1 u t H_2 locs ht hvm hw hB hz1 hk1 hS2 => ?_)
  obtain ⟨hP1, hK1, hD1⟩ := hB
  rw [ht] at hP1
  obtain rfl := hw
  obtain ⟨hP2, hD2⟩ := va_join (wr := []) (w1 := [(a0, .inr (6, [.int 0, .int 0, .ref a1, .int 35, .int 1, .int 2, .int 2, .int 1, .ref a2])), (a1, .inr (5, [.ref cb, .int 81, .int 0, .ref a3, .int 5, .ref a4, .int 2, .ref a5, .int 1, .int 1, .ref a6, .int 6, .int 0, .int 1, .int 0]))]) hP hD [0, 1] [] rfl rfl (by decide) (by decide) hk1 hFc hP1 hD1
  replace hP : va_P (dC, dI) vwCl [(a0, .inr (6, [.int 0, .int 0, .ref a1, .int 35, .int 1, .int 2, .int 2, .int 1, .ref a2])), (a1, .inr (5, [.ref cb, .int 81, .int 0, .ref a3, .int 5, .ref a4, .int 2, .ref a5, .int 1, .int 1, .ref a6, .int 6, .int 0, .int 1, .int 0]))] H_2 := hP2
  replace hD : va_D A [(a0, .inr (6, [.int 0, .int 0, .ref a1, .int 35, .int 1, .int 2, .int 2, .int 1, .ref a2])), (a1, .inr (5, [.ref cb, .int 81, .int 0, .ref a3, .int 5, .ref a4, .int 2, .ref a5, .int 1, .int 1, .ref a6, .int 6, .int 0, .int 1, .int 0]))] := hD2
  replace hS := hS2
  clear hP2 hD2 hS2
  clear hPc hDc hFc hP1 hD1 hK1 hk1 hz1 hvm ht
  refine W.widen (k := 0) (n := 0) (Nat.le_of_ble_eq_true rfl) (Nat.le_of_ble_eq_true rfl) ?_
  refine lv_istore (lv' := [(4, .int 1), (3, .int 34), (0, .ref a0), (1, .int 0), (2, .int 7)]) hx hb dX6_readNumber_9 hl (by decide) rfl (fun ls hl2 => ?_)
  replace hl := hl2
  clear hl2
  refine lv_iload hx hb dX6_readNumber_11 (lv_at hl 0 rfl) ?_
  refine lv_iload_n hx hb dX6_readNumber_13 rfl (lv_at hl 3 rfl) ?_
  refine lv_icmp_lt (tgt := 23) hx hb dX6_readNumber_14 (by decide) (fun h => absurd h (by decide)) (fun _ => ?_)
  refine lv_iload hx hb dX6_readNumber_17 (lv_at hl 0 rfl) ?_
  refine lv_iload_n hx hb dX6_readNumber_19 rfl (lv_at hl 4 rfl) ?_
  refine lv_icmp_le (tgt := 29) hx hb dX6_readNumber_20 (by decide) (fun _ => ?_) (fun h => absurd (by decide) h)
  refine lv_aload_n hx hb dX6_readNumber_29 rfl (lv_at hl 2 rfl) ?_
  refine va_get (D := (dC, dI)) (ci := 6) (v := .int 0) (C := RX6) (T := TX6) (N := 9) hx hb hts iw_X6_readNumber_X6 hown hK hP 0 rfl rfl 1 (by decide) (hts _ m_X6_readNumber_2) (fun _ h9 => h9) rfl dX6_readNumber_30 ?_
  refine lv_if_ne (tgt := 41) hx hb dX6_readNumber_33 (by decide) (fun h => absurd (by decide) h) (fun _ => ?_)
  refine lv_iload hx hb dX6_readNumber_36 (lv_at hl 0 rfl) ?_
  refine lv_goto (tgt := 42) hx hb dX6_readNumber_38 (by decide) ?_
  exact W.iret hx hb hr (fun t ht hW => ⟨⟨1, (), rfl, rfl, by rw [ht]; exact hP, va_K.moved hW.alike hK, hD⟩, hS.F ht⟩) hS.2.2 dX6_readNumber_42

set_option maxHeartbeats 4000000 in
set_option maxRecDepth 100000 in
theorem cc_360_X6_readByte (l : Launch) (dC : Nat → ClassId) (dI : Nat → Nat → Nat) (cy : Nat → ClassId) (sz : Nat) (cb : Nat) (a0 : Nat) (a1 : Nat) (a2 : Nat) (a3 : Nat) (a4 : Nat) (a5 : Nat) (a6 : Nat)  : Met l yX6_readByte wsX6_readByte ({ frames := 0, cells := 0, slots := 0, locals := 0 }) (va_Pc [.ref a0] (fun U => U.heap.size = sz ∧ va_P (dC, dI) vwCl [(a0, .inr (6, [.int 0, .int 0, .ref a1, .int 35, .int 1, .int 2, .int 2, .int 1, .ref a2])), (a1, .inr (5, [.ref cb, .int 81, .int 0, .ref a3, .int 5, .ref a4, .int 2, .ref a5, .int 1, .int 1, .ref a6, .int 6, .int 0, .int 1, .int 0]))] U.heap ∧ va_K (dC, dI) vwCl (TYS cy) U ∧ va_D (fun _ => True) [(a0, .inr (6, [.int 0, .int 0, .ref a1, .int 35, .int 1, .int 2, .int 2, .int 1, .ref a2])), (a1, .inr (5, [.ref cb, .int 81, .int 0, .ref a3, .int 5, .ref a4, .int 2, .ref a5, .int 1, .int 1, .ref a6, .int 6, .int 0, .int 1, .int 0]))] ∧ NK U ∧ SK cb (va_A [(a0, .inr (6, [.int 0, .int 0, .ref a1, .int 35, .int 1, .int 2, .int 2, .int 1, .ref a2])), (a1, .inr (5, [.ref cb, .int 81, .int 0, .ref a3, .int 5, .ref a4, .int 2, .ref a5, .int 1, .int 1, .ref a6, .int 6, .int 0, .int 1, .int 0]))] sz) U U.heap)) (va_Qi (fun (r : Int32) (u : Unit) => r = 1) (fun u t => va_P (dC, dI) vwCl [(a0, .inr (6, [.int 0, .int 0, .ref a1, .int 36, .int 1, .int 2, .int 2, .int 1, .ref a2])), (a1, .inr (5, [.ref cb, .int 81, .int 0, .ref a3, .int 5, .ref a4, .int 2, .ref a5, .int 1, .int 1, .ref a6, .int 6, .int 0, .int 1, .int 0]))] t.heap ∧ va_K (dC, dI) vwCl (TYS cy) t ∧ va_D (va_A [(a0, .inr (6, [.int 0, .int 0, .ref a1, .int 35, .int 1, .int 2, .int 2, .int 1, .ref a2])), (a1, .inr (5, [.ref cb, .int 81, .int 0, .ref a3, .int 5, .ref a4, .int 2, .ref a5, .int 1, .int 1, .ref a6, .int 6, .int 0, .int 1, .int 0]))] sz) [(a0, .inr (6, [.int 0, .int 0, .ref a1, .int 36, .int 1, .int 2, .int 2, .int 1, .ref a2])), (a1, .inr (5, [.ref cb, .int 81, .int 0, .ref a3, .int 5, .ref a4, .int 2, .ref a5, .int 1, .int 1, .ref a6, .int 6, .int 0, .int 1, .int 0]))]) (va_A [(a0, .inr (6, [.int 0, .int 0, .ref a1, .int 35, .int 1, .int 2, .int 2, .int 1, .ref a2])), (a1, .inr (5, [.ref cb, .int 81, .int 0, .ref a3, .int 5, .ref a4, .int 2, .ref a5, .int 1, .int 1, .ref a6, .int 6, .int 0, .int 1, .int 0]))] sz)) 0 0 (va_A [(a0, .inr (6, [.int 0, .int 0, .ref a1, .int 35, .int 1, .int 2, .int 2, .int 1, .ref a2])), (a1, .inr (5, [.ref cb, .int 81, .int 0, .ref a3, .int 5, .ref a4, .int 2, .ref a5, .int 1, .int 1, .ref a6, .int 6, .int 0, .int 1, .int 0]))] sz) := by
  refine Met.ofW (cc := cX6_readByte) (maxL := 1) (ret := (some .int)) (by decide) rfl ?_
  intro p e s m args below meth c s₁ B hml hv
  obtain ⟨rfl, hsz, hP, hK, hD0, hN, hSK⟩ := hv
  have hx := B.exec
  have hb := B.bytes
  have hr := B.returns
  have hts := atoms_spec (ws := wsX6_readByte) B.pre
  have hown : s.vm.findClass RX6 = some m.cls := findClass_of_methodNamed B.named
  have hlocks := B.notSynchronized
  subst hsz
  have hD := hD0.self (sz := s.heap.size)
  generalize hAe : va_A [(a0, .inr (6, [.int 0, .int 0, .ref a1, .int 35, .int 1, .int 2, .int 2, .int 1, .ref a2])), (a1, .inr (5, [.ref cb, .int 81, .int 0, .ref a3, .int 5, .ref a4, .int 2, .ref a5, .int 1, .int 1, .ref a6, .int 6, .int 0, .int 1, .int 0]))] s.heap.size = A at hD hSK ⊢
  have hA : ∀ q : Nat, s.heap.size ≤ q → A q := fun q h => by rw [← hAe]; exact Or.inr h
  have hS : va_S A s.heap s.heap [] := va_S.rf
  have hP : va_P (dC, dI) vwCl [(a0, .inr (6, [.int 0, .int 0, .ref a1, .int 35, .int 1, .int 2, .int 2, .int 1, .ref a2])), (a1, .inr (5, [.ref cb, .int 81, .int 0, .ref a3, .int 5, .ref a4, .int 2, .ref a5, .int 1, .int 1, .ref a6, .int 6, .int 0, .int 1, .int 0]))] s.heap := hP
  have hl := lv_entry ([.ref a0]) (n := 1) (Nat.le_of_ble_eq_true rfl)
  rw [lg_entry_eq]
  generalize (lg_sl ([.ref a0]) ++ List.replicate (1 - (lg_sl ([.ref a0])).length) Slot.unset).toArray = ls at hl ⊢
  replace hl : lv_has ls 1 [(0, .ref a0)] := hl
  refine lv_aload_n hx hb dX6_readByte_0 rfl (lv_at hl 0 rfl) ?_
  refine va_get (D := (dC, dI)) (ci := 6) (v := .int 0) (C := RX6) (T := TX6) (N := 9) hx hb hts iw_X6_readByte_X6 hown hK hP 0 rfl rfl 1 (by decide) (hts _ m_X6_readByte_1) (fun _ h9 => h9) rfl dX6_readByte_1 ?_
  refine lv_if_eq (tgt := 9) hx hb dX6_readByte_4 (by decide) (fun _ => ?_) (fun h => absurd (by decide) h)
  refine lv_aload_n hx hb dX6_readByte_9 rfl (lv_at hl 0 rfl) ?_
  refine va_get (D := (dC, dI)) (ci := 6) (v := .int 35) (C := RX6) (T := TX6) (N := 9) hx hb hts iw_X6_readByte_X6 hown hK hP 0 rfl rfl 3 (by decide) (hts _ m_X6_readByte_2) (fun _ h9 => h9) rfl dX6_readByte_10 ?_
  refine lv_aload_n hx hb dX6_readByte_13 rfl (lv_at hl 0 rfl) ?_
  refine va_get (D := (dC, dI)) (ci := 6) (v := .ref a1) (C := RX6) (T := TX6) (N := 9) hx hb hts iw_X6_readByte_X6 hown hK hP 0 rfl rfl 2 (by decide) (hts _ m_X6_readByte_3) (fun _ h9 => h9) rfl dX6_readByte_14 ?_
  refine va_get (D := (dC, dI)) (ci := 5) (v := .int 81) (C := RX5) (T := TX5) (N := 15) hx hb hts iw_X6_readByte_X5 hown hK hP 1 rfl rfl 1 (by decide) (hts _ m_X6_readByte_4) (fun _ h9 => h9) rfl dX6_readByte_17 ?_
  refine lv_icmp_lt (tgt := 41) hx hb dX6_readByte_20 (by decide) (fun _ => ?_) (fun h => absurd (by decide) h)
  refine lv_aload_n hx hb dX6_readByte_41 rfl (lv_at hl 0 rfl) ?_
  refine va_get (D := (dC, dI)) (ci := 6) (v := .ref a1) (C := RX6) (T := TX6) (N := 9) hx hb hts iw_X6_readByte_X6 hown hK hP 0 rfl rfl 2 (by decide) (hts _ m_X6_readByte_3) (fun _ h9 => h9) rfl dX6_readByte_42 ?_
  refine va_get (D := (dC, dI)) (ci := 5) (v := .ref cb) (C := RX5) (T := TX5) (N := 15) hx hb hts iw_X6_readByte_X5 hown hK hP 1 rfl rfl 0 (by decide) (hts _ m_X6_readByte_6) (fun _ h9 => h9) rfl dX6_readByte_45 ?_
  refine lv_aload_n hx hb dX6_readByte_48 rfl (lv_at hl 0 rfl) ?_
  refine lv_dup hx hb dX6_readByte_49 rfl ?_
  refine va_get (D := (dC, dI)) (ci := 6) (v := .int 35) (C := RX6) (T := TX6) (N := 9) hx hb hts iw_X6_readByte_X6 hown hK hP 0 rfl rfl 3 (by decide) (hts _ m_X6_readByte_2) (fun _ h9 => h9) rfl dX6_readByte_50 ?_
  refine lv_dup_x1 hx hb dX6_readByte_53 rfl rfl ?_
  refine lv_iconst (v := 1) hx hb dX6_readByte_54 (by decide) ?_
  refine lv_iadd hx hb dX6_readByte_55 ?_
  refine lv_topi (fun z_1 ez_1 => ?_)
  obtain rfl : z_1 = 36 := ez_1.trans (by decide)
  clear ez_1
  refine va_put (D := (dC, dI)) (ci := 6) (v := .int 36) (ty := .int) (C := RX6) (T := TX6) (N := 9) hx hb hts iw_X6_readByte_X6 tyX6 tyX6_ok nmX6 hown hK hP hD hS 0 rfl rfl 3 (by decide) (hts _ m_X6_readByte_2) (fun _ h9 => h9) rfl (by decide +kernel) rfl rfl (Nat.le_of_ble_eq_true rfl) dX6_readByte_56 (fun H_2 locs hP2 hD2 hS2 => ?_)
  replace hP : va_P (dC, dI) vwCl [(a0, .inr (6, [.int 0, .int 0, .ref a1, .int 36, .int 1, .int 2, .int 2, .int 1, .ref a2])), (a1, .inr (5, [.ref cb, .int 81, .int 0, .ref a3, .int 5, .ref a4, .int 2, .ref a5, .int 1, .int 1, .ref a6, .int 6, .int 0, .int 1, .int 0]))] H_2 := hP2
  replace hD : va_D A [(a0, .inr (6, [.int 0, .int 0, .ref a1, .int 36, .int 1, .int 2, .int 2, .int 1, .ref a2])), (a1, .inr (5, [.ref cb, .int 81, .int 0, .ref a3, .int 5, .ref a4, .int 2, .ref a5, .int 1, .int 1, .ref a6, .int 6, .int 0, .int 1, .int 0]))] := hD2
  replace hS := hS2
  clear hP2 hD2 hS2
  refine va_tb (v := .int 1) hx hb hSK.2 hS (by unfold vp_in; decide) rfl dX6_readByte_59 ?_
  refine lv_sipush (v := 255) hx hb dX6_readByte_60 (by decide) ?_
  refine lv_iand hx hb dX6_readByte_63 ?_
  refine lv_topi (fun z_3 ez_3 => ?_)
  obtain rfl : z_3 = 1 := ez_3.trans (by decide)
  clear ez_3
  exact W.iret hx hb hr (fun t ht hW => ⟨⟨1, (), rfl, rfl, by rw [ht]; exact hP, va_K.moved hW.alike hK, hD⟩, hS.F ht⟩) hS.2.2 dX6_readByte_64

set_option maxHeartbeats 4000000 in
set_option maxRecDepth 100000 in
theorem cc_359_X6_readNumber (l : Launch) (dC : Nat → ClassId) (dI : Nat → Nat → Nat) (cy : Nat → ClassId) (sz : Nat) (cb : Nat) (a0 : Nat) (a1 : Nat) (a2 : Nat) (a3 : Nat) (a4 : Nat) (a5 : Nat) (a6 : Nat)  : Met l yX6_readNumber wsX6_readNumber ({ frames := 1, cells := 0, slots := 0, locals := 20 }) (va_Pc [.ref a0, .int 0, .int 8] (fun U => U.heap.size = sz ∧ va_P (dC, dI) vwCl [(a0, .inr (6, [.int 0, .int 0, .ref a1, .int 35, .int 1, .int 2, .int 2, .int 1, .ref a2])), (a1, .inr (5, [.ref cb, .int 81, .int 0, .ref a3, .int 5, .ref a4, .int 2, .ref a5, .int 1, .int 1, .ref a6, .int 6, .int 0, .int 1, .int 0]))] U.heap ∧ va_K (dC, dI) vwCl (TYS cy) U ∧ va_D (fun _ => True) [(a0, .inr (6, [.int 0, .int 0, .ref a1, .int 35, .int 1, .int 2, .int 2, .int 1, .ref a2])), (a1, .inr (5, [.ref cb, .int 81, .int 0, .ref a3, .int 5, .ref a4, .int 2, .ref a5, .int 1, .int 1, .ref a6, .int 6, .int 0, .int 1, .int 0]))] ∧ NK U ∧ SK cb (va_A [(a0, .inr (6, [.int 0, .int 0, .ref a1, .int 35, .int 1, .int 2, .int 2, .int 1, .ref a2])), (a1, .inr (5, [.ref cb, .int 81, .int 0, .ref a3, .int 5, .ref a4, .int 2, .ref a5, .int 1, .int 1, .ref a6, .int 6, .int 0, .int 1, .int 0]))] sz) U U.heap)) (va_Qi (fun (r : Int32) (u : Unit) => r = 1) (fun u t => va_P (dC, dI) vwCl [(a0, .inr (6, [.int 0, .int 0, .ref a1, .int 36, .int 1, .int 2, .int 2, .int 1, .ref a2])), (a1, .inr (5, [.ref cb, .int 81, .int 0, .ref a3, .int 5, .ref a4, .int 2, .ref a5, .int 1, .int 1, .ref a6, .int 6, .int 0, .int 1, .int 0]))] t.heap ∧ va_K (dC, dI) vwCl (TYS cy) t ∧ va_D (va_A [(a0, .inr (6, [.int 0, .int 0, .ref a1, .int 35, .int 1, .int 2, .int 2, .int 1, .ref a2])), (a1, .inr (5, [.ref cb, .int 81, .int 0, .ref a3, .int 5, .ref a4, .int 2, .ref a5, .int 1, .int 1, .ref a6, .int 6, .int 0, .int 1, .int 0]))] sz) [(a0, .inr (6, [.int 0, .int 0, .ref a1, .int 36, .int 1, .int 2, .int 2, .int 1, .ref a2])), (a1, .inr (5, [.ref cb, .int 81, .int 0, .ref a3, .int 5, .ref a4, .int 2, .ref a5, .int 1, .int 1, .ref a6, .int 6, .int 0, .int 1, .int 0]))]) (va_A [(a0, .inr (6, [.int 0, .int 0, .ref a1, .int 35, .int 1, .int 2, .int 2, .int 1, .ref a2])), (a1, .inr (5, [.ref cb, .int 81, .int 0, .ref a3, .int 5, .ref a4, .int 2, .ref a5, .int 1, .int 1, .ref a6, .int 6, .int 0, .int 1, .int 0]))] sz)) 0 0 (va_A [(a0, .inr (6, [.int 0, .int 0, .ref a1, .int 35, .int 1, .int 2, .int 2, .int 1, .ref a2])), (a1, .inr (5, [.ref cb, .int 81, .int 0, .ref a3, .int 5, .ref a4, .int 2, .ref a5, .int 1, .int 1, .ref a6, .int 6, .int 0, .int 1, .int 0]))] sz) := by
  refine Met.ofW (cc := cX6_readNumber) (maxL := 5) (ret := (some .int)) (by decide) rfl ?_
  intro p e s m args below meth c s₁ B hml hv
  obtain ⟨rfl, hsz, hP, hK, hD0, hN, hSK⟩ := hv
  have hx := B.exec
  have hb := B.bytes
  have hr := B.returns
  have hts := atoms_spec (ws := wsX6_readNumber) B.pre
  have hown : s.vm.findClass RX6 = some m.cls := findClass_of_methodNamed B.named
  have hlocks := B.notSynchronized
  subst hsz
  have hD := hD0.self (sz := s.heap.size)
  generalize hAe : va_A [(a0, .inr (6, [.int 0, .int 0, .ref a1, .int 35, .int 1, .int 2, .int 2, .int 1, .ref a2])), (a1, .inr (5, [.ref cb, .int 81, .int 0, .ref a3, .int 5, .ref a4, .int 2, .ref a5, .int 1, .int 1, .ref a6, .int 6, .int 0, .int 1, .int 0]))] s.heap.size = A at hD hSK ⊢
  have hA : ∀ q : Nat, s.heap.size ≤ q → A q := fun q h => by rw [← hAe]; exact Or.inr h
  have hS : va_S A s.heap s.heap [] := va_S.rf
  have hP : va_P (dC, dI) vwCl [(a0, .inr (6, [.int 0, .int 0, .ref a1, .int 35, .int 1, .int 2, .int 2, .int 1, .ref a2])), (a1, .inr (5, [.ref cb, .int 81, .int 0, .ref a3, .int 5, .ref a4, .int 2, .ref a5, .int 1, .int 1, .ref a6, .int 6, .int 0, .int 1, .int 0]))] s.heap := hP
  have hl := lv_entry ([.ref a0, .int 0, .int 8]) (n := 5) (Nat.le_of_ble_eq_true rfl)
  rw [lg_entry_eq]
  generalize (lg_sl ([.ref a0, .int 0, .int 8]) ++ List.replicate (5 - (lg_sl ([.ref a0, .int 0, .int 8])).length) Slot.unset).toArray = ls at hl ⊢
  replace hl : lv_has ls 5 [(0, .ref a0), (1, .int 0), (2, .int 8)] := hl
  refine lv_aload_n hx hb dX6_readNumber_0 rfl (lv_at hl 0 rfl) ?_
  refine va_get (D := (dC, dI)) (ci := 6) (v := .int 35) (C := RX6) (T := TX6) (N := 9) hx hb hts iw_X6_readNumber_X6 hown hK hP 0 rfl rfl 3 (by decide) (hts _ m_X6_readNumber_1) (fun _ h9 => h9) rfl dX6_readNumber_1 ?_
  refine lv_istore_n (lv' := [(3, .int 35), (0, .ref a0), (1, .int 0), (2, .int 8)]) hx hb dX6_readNumber_4 rfl hl (by decide) rfl (fun ls hl2 => ?_)
  replace hl := hl2
  clear hl2
  refine lv_aload_n hx hb dX6_readNumber_5 rfl (lv_at hl 1 rfl) ?_
  have hPc := hP.sub (ws' := [(a0, .inr (6, [.int 0, .int 0, .ref a1, .int 35, .int 1, .int 2, .int 2, .int 1, .ref a2])), (a1, .inr (5, [.ref cb, .int 81, .int 0, .ref a3, .int 5, .ref a4, .int 2, .ref a5, .int 1, .int 1, .ref a6, .int 6, .int 0, .int 1, .int 0]))]) [0, 1] rfl
  have hDc := hD.sub (ws' := [(a0, .inr (6, [.int 0, .int 0, .ref a1, .int 35, .int 1, .int 2, .int 2, .int 1, .ref a2])), (a1, .inr (5, [.ref cb, .int 81, .int 0, .ref a3, .int 5, .ref a4, .int 2, .ref a5, .int 1, .int 1, .ref a6, .int 6, .int 0, .int 1, .int 0]))]) [0, 1] (by decide) rfl
  have hFc := va_free (wc := [(a0, .inr (6, [.int 0, .int 0, .ref a1, .int 35, .int 1, .int 2, .int 2, .int 1, .ref a2])), (a1, .inr (5, [.ref cb, .int 81, .int 0, .ref a3, .int 5, .ref a4, .int 2, .ref a5, .int 1, .int 1, .ref a6, .int 6, .int 0, .int 1, .int 0]))]) hD hS hA [0, 1] rfl
  refine va_calli (va_runV (As := []) (rest := []) ⟨hx, hb, hml, hown, hts⟩ (cc_360_X6_readByte l dC dI cy s.heap.size cb a0 a1 a2 a3 a4 a5 a6) (cwV 0 hts gX6_readNumber_X6_readByte rfl rfl rfl (by decide +kernel) ⟨Nat.le_of_ble_eq_true rfl, Nat.le_of_ble_eq_true rfl⟩) ⟨fun a U g mk q => by obtain ⟨q0, q1, qP, qK, qD, qN, qS⟩ := q; exact ⟨q0, q1, qP, va_K.moved (u := U) (U := U.calling g mk a) (Vm.Alike.refl U.vm) qK, qD, qN.same rfl, SK.moved (u := U) (U := U.calling g mk a) (Vm.Alike.refl U.vm) qS⟩, va_recv hK hPc (ci := 6) (q0 := 0) rfl rfl, fun U hU hW => ⟨rfl, by rw [hU], by rw [hU]; exact hPc, va_K.moved hW.alike hK, hDc.weaken (fun _ _ _ _ => trivial), hN.warm hW, by rw [hU]; exact ((hSK.kept hS.2.1).narrow hFc).moved hW.alike⟩⟩ rfl rfl hl.1 rfl (lv_room (Nat.le_of_ble_eq_true rfl)) dX6_readNumber_6 ⟨Nat.le_of_ble_eq_true rfl, Nat.le_of_ble_eq_true rfl⟩) hS (fun q _ h => hFc q h) hFc (fun r_1 u t H_2 locs ht hvm hw hB hz1 hk1 hS2 => ?_)
  obtain ⟨hP1, hK1, hD1⟩ := hB
  rw [ht] at hP1
  obtain rfl := hw
  obtain ⟨hP2, hD2⟩ := va_join (wr := []) (w1 := [(a0, .inr (6, [.int 0, .int 0, .ref a1, .int 36, .int 1, .int 2, .int 2, .int 1, .ref a2])), (a1, .inr (5, [.ref cb, .int 81, .int 0, .ref a3, .int 5, .ref a4, .int 2, .ref a5, .int 1, .int 1, .ref a6, .int 6, .int 0, .int 1, .int 0]))]) hP hD [0, 1] [] rfl rfl (by decide) (by decide) hk1 hFc hP1 hD1
  replace hP : va_P (dC, dI) vwCl [(a0, .inr (6, [.int 0, .int 0, .ref a1, .int 36, .int 1, .int 2, .int 2, .int 1, .ref a2])), (a1, .inr (5, [.ref cb, .int 81, .int 0, .ref a3, .int 5, .ref a4, .int 2, .ref a5, .int 1, .int 1, .ref a6, .int 6, .int 0, .int 1, .int 0]))] H_2 := hP2
  replace hD : va_D A [(a0, .inr (6, [.int 0, .int 0, .ref a1, .int 36, .int 1, .int 2, .int 2, .int 1, .ref a2])), (a1, .inr (5, [.ref cb, .int 81, .int 0, .ref a3, .int 5, .ref a4, .int 2, .ref a5, .int 1, .int 1, .ref a6, .int 6, .int 0, .int 1, .int 0]))] := hD2
  replace hS := hS2
  clear hP2 hD2 hS2
  clear hPc hDc hFc hP1 hD1 hK1 hk1 hz1 hvm ht
  refine W.widen (k := 0) (n := 0) (Nat.le_of_ble_eq_true rfl) (Nat.le_of_ble_eq_true rfl) ?_
  refine lv_istore (lv' := [(4, .int 1), (3, .int 35), (0, .ref a0), (1, .int 0), (2, .int 8)]) hx hb dX6_readNumber_9 hl (by decide) rfl (fun ls hl2 => ?_)
  replace hl := hl2
  clear hl2
  refine lv_iload hx hb dX6_readNumber_11 (lv_at hl 0 rfl) ?_
  refine lv_iload_n hx hb dX6_readNumber_13 rfl (lv_at hl 3 rfl) ?_
  refine lv_icmp_lt (tgt := 23) hx hb dX6_readNumber_14 (by decide) (fun h => absurd h (by decide)) (fun _ => ?_)
  refine lv_iload hx hb dX6_readNumber_17 (lv_at hl 0 rfl) ?_
  refine lv_iload_n hx hb dX6_readNumber_19 rfl (lv_at hl 4 rfl) ?_
  refine lv_icmp_le (tgt := 29) hx hb dX6_readNumber_20 (by decide) (fun _ => ?_) (fun h => absurd (by decide) h)
  refine lv_aload_n hx hb dX6_readNumber_29 rfl (lv_at hl 2 rfl) ?_
  refine va_get (D := (dC, dI)) (ci := 6) (v := .int 0) (C := RX6) (T := TX6) (N := 9) hx hb hts iw_X6_readNumber_X6 hown hK hP 0 rfl rfl 1 (by decide) (hts _ m_X6_readNumber_2) (fun _ h9 => h9) rfl dX6_readNumber_30 ?_
  refine lv_if_ne (tgt := 41) hx hb dX6_readNumber_33 (by decide) (fun h => absurd (by decide) h) (fun _ => ?_)
  refine lv_iload hx hb dX6_readNumber_36 (lv_at hl 0 rfl) ?_
  refine lv_goto (tgt := 42) hx hb dX6_readNumber_38 (by decide) ?_
  exact W.iret hx hb hr (fun t ht hW => ⟨⟨1, (), rfl, rfl, by rw [ht]; exact hP, va_K.moved hW.alike hK, hD⟩, hS.F ht⟩) hS.2.2 dX6_readNumber_42

set_option maxHeartbeats 4000000 in
set_option maxRecDepth 100000 in
theorem cc_363_X6_readByte (l : Launch) (dC : Nat → ClassId) (dI : Nat → Nat → Nat) (cy : Nat → ClassId) (sz : Nat) (cb : Nat) (a0 : Nat) (a1 : Nat) (a2 : Nat) (a3 : Nat) (a4 : Nat) (a5 : Nat) (a6 : Nat)  : Met l yX6_readByte wsX6_readByte ({ frames := 0, cells := 0, slots := 0, locals := 0 }) (va_Pc [.ref a0] (fun U => U.heap.size = sz ∧ va_P (dC, dI) vwCl [(a0, .inr (6, [.int 0, .int 0, .ref a1, .int 36, .int 1, .int 2, .int 2, .int 1, .ref a2])), (a1, .inr (5, [.ref cb, .int 81, .int 0, .ref a3, .int 5, .ref a4, .int 2, .ref a5, .int 1, .int 1, .ref a6, .int 6, .int 0, .int 1, .int 0]))] U.heap ∧ va_K (dC, dI) vwCl (TYS cy) U ∧ va_D (fun _ => True) [(a0, .inr (6, [.int 0, .int 0, .ref a1, .int 36, .int 1, .int 2, .int 2, .int 1, .ref a2])), (a1, .inr (5, [.ref cb, .int 81, .int 0, .ref a3, .int 5, .ref a4, .int 2, .ref a5, .int 1, .int 1, .ref a6, .int 6, .int 0, .int 1, .int 0]))] ∧ NK U ∧ SK cb (va_A [(a0, .inr (6, [.int 0, .int 0, .ref a1, .int 36, .int 1, .int 2, .int 2, .int 1, .ref a2])), (a1, .inr (5, [.ref cb, .int 81, .int 0, .ref a3, .int 5, .ref a4, .int 2, .ref a5, .int 1, .int 1, .ref a6, .int 6, .int 0, .int 1, .int 0]))] sz) U U.heap)) (va_Qi (fun (r : Int32) (u : Unit) => r = 8) (fun u t => va_P (dC, dI) vwCl [(a0, .inr (6, [.int 0, .int 0, .ref a1, .int 37, .int 1, .int 2, .int 2, .int 1, .ref a2])), (a1, .inr (5, [.ref cb, .int 81, .int 0, .ref a3, .int 5, .ref a4, .int 2, .ref a5, .int 1, .int 1, .ref a6, .int 6, .int 0, .int 1, .int 0]))] t.heap ∧ va_K (dC, dI) vwCl (TYS cy) t ∧ va_D (va_A [(a0, .inr (6, [.int 0, .int 0, .ref a1, .int 36, .int 1, .int 2, .int 2, .int 1, .ref a2])), (a1, .inr (5, [.ref cb, .int 81, .int 0, .ref a3, .int 5, .ref a4, .int 2, .ref a5, .int 1, .int 1, .ref a6, .int 6, .int 0, .int 1, .int 0]))] sz) [(a0, .inr (6, [.int 0, .int 0, .ref a1, .int 37, .int 1, .int 2, .int 2, .int 1, .ref a2])), (a1, .inr (5, [.ref cb, .int 81, .int 0, .ref a3, .int 5, .ref a4, .int 2, .ref a5, .int 1, .int 1, .ref a6, .int 6, .int 0, .int 1, .int 0]))]) (va_A [(a0, .inr (6, [.int 0, .int 0, .ref a1, .int 36, .int 1, .int 2, .int 2, .int 1, .ref a2])), (a1, .inr (5, [.ref cb, .int 81, .int 0, .ref a3, .int 5, .ref a4, .int 2, .ref a5, .int 1, .int 1, .ref a6, .int 6, .int 0, .int 1, .int 0]))] sz)) 0 0 (va_A [(a0, .inr (6, [.int 0, .int 0, .ref a1, .int 36, .int 1, .int 2, .int 2, .int 1, .ref a2])), (a1, .inr (5, [.ref cb, .int 81, .int 0, .ref a3, .int 5, .ref a4, .int 2, .ref a5, .int 1, .int 1, .ref a6, .int 6, .int 0, .int 1, .int 0]))] sz) := by
  refine Met.ofW (cc := cX6_readByte) (maxL := 1) (ret := (some .int)) (by decide) rfl ?_
  intro p e s m args below meth c s₁ B hml hv
  obtain ⟨rfl, hsz, hP, hK, hD0, hN, hSK⟩ := hv
  have hx := B.exec
  have hb := B.bytes
  have hr := B.returns
  have hts := atoms_spec (ws := wsX6_readByte) B.pre
  have hown : s.vm.findClass RX6 = some m.cls := findClass_of_methodNamed B.named
  have hlocks := B.notSynchronized
  subst hsz
  have hD := hD0.self (sz := s.heap.size)
  generalize hAe : va_A [(a0, .inr (6, [.int 0, .int 0, .ref a1, .int 36, .int 1, .int 2, .int 2, .int 1, .ref a2])), (a1, .inr (5, [.ref cb, .int 81, .int 0, .ref a3, .int 5, .ref a4, .int 2, .ref a5, .int 1, .int 1, .ref a6, .int 6, .int 0, .int 1, .int 0]))] s.heap.size = A at hD hSK ⊢
  have hA : ∀ q : Nat, s.heap.size ≤ q → A q := fun q h => by rw [← hAe]; exact Or.inr h
  have hS : va_S A s.heap s.heap [] := va_S.rf
  have hP : va_P (dC, dI) vwCl [(a0, .inr (6, [.int 0, .int 0, .ref a1, .int 36, .int 1, .int 2, .int 2, .int 1, .ref a2])), (a1, .inr (5, [.ref cb, .int 81, .int 0, .ref a3, .int 5, .ref a4, .int 2, .ref a5, .int 1, .int 1, .ref a6, .int 6, .int 0, .int 1, .int 0]))] s.heap := hP
  have hl := lv_entry ([.ref a0]) (n := 1) (Nat.le_of_ble_eq_true rfl)
  rw [lg_entry_eq]
  generalize (lg_sl ([.ref a0]) ++ List.replicate (1 - (lg_sl ([.ref a0])).length) Slot.unset).toArray = ls at hl ⊢
  replace hl : lv_has ls 1 [(0, .ref a0)] := hl
  refine lv_aload_n hx hb dX6_readByte_0 rfl (lv_at hl 0 rfl) ?_
  refine va_get (D := (dC, dI)) (ci := 6) (v := .int 0) (C := RX6) (T := TX6) (N := 9) hx hb hts iw_X6_readByte_X6 hown hK hP 0 rfl rfl 1 (by decide) (hts _ m_X6_readByte_1) (fun _ h9 => h9) rfl dX6_readByte_1 ?_
  refine lv_if_eq (tgt := 9) hx hb dX6_readByte_4 (by decide) (fun _ => ?_) (fun h => absurd (by decide) h)
  refine lv_aload_n hx hb dX6_readByte_9 rfl (lv_at hl 0 rfl) ?_
  refine va_get (D := (dC, dI)) (ci := 6) (v := .int 36) (C := RX6) (T := TX6) (N := 9) hx hb hts iw_X6_readByte_X6 hown hK hP 0 rfl rfl 3 (by decide) (hts _ m_X6_readByte_2) (fun _ h9 => h9) rfl dX6_readByte_10 ?_
  refine lv_aload_n hx hb dX6_readByte_13 rfl (lv_at hl 0 rfl) ?_
  refine va_get (D := (dC, dI)) (ci := 6) (v := .ref a1) (C := RX6) (T := TX6) (N := 9) hx hb hts iw_X6_readByte_X6 hown hK hP 0 rfl rfl 2 (by decide) (hts _ m_X6_readByte_3) (fun _ h9 => h9) rfl dX6_readByte_14 ?_
  refine va_get (D := (dC, dI)) (ci := 5) (v := .int 81) (C := RX5) (T := TX5) (N := 15) hx hb hts iw_X6_readByte_X5 hown hK hP 1 rfl rfl 1 (by decide) (hts _ m_X6_readByte_4) (fun _ h9 => h9) rfl dX6_readByte_17 ?_
  refine lv_icmp_lt (tgt := 41) hx hb dX6_readByte_20 (by decide) (fun _ => ?_) (fun h => absurd (by decide) h)
  refine lv_aload_n hx hb dX6_readByte_41 rfl (lv_at hl 0 rfl) ?_
  refine va_get (D := (dC, dI)) (ci := 6) (v := .ref a1) (C := RX6) (T := TX6) (N := 9) hx hb hts iw_X6_readByte_X6 hown hK hP 0 rfl rfl 2 (by decide) (hts _ m_X6_readByte_3) (fun _ h9 => h9) rfl dX6_readByte_42 ?_
  refine va_get (D := (dC, dI)) (ci := 5) (v := .ref cb) (C := RX5) (T := TX5) (N := 15) hx hb hts iw_X6_readByte_X5 hown hK hP 1 rfl rfl 0 (by decide) (hts _ m_X6_readByte_6) (fun _ h9 => h9) rfl dX6_readByte_45 ?_
  refine lv_aload_n hx hb dX6_readByte_48 rfl (lv_at hl 0 rfl) ?_
  refine lv_dup hx hb dX6_readByte_49 rfl ?_
  refine va_get (D := (dC, dI)) (ci := 6) (v := .int 36) (C := RX6) (T := TX6) (N := 9) hx hb hts iw_X6_readByte_X6 hown hK hP 0 rfl rfl 3 (by decide) (hts _ m_X6_readByte_2) (fun _ h9 => h9) rfl dX6_readByte_50 ?_
  refine lv_dup_x1 hx hb dX6_readByte_53 rfl rfl ?_
  refine lv_iconst (v := 1) hx hb dX6_readByte_54 (by decide) ?_
  refine lv_iadd hx hb dX6_readByte_55 ?_
  refine lv_topi (fun z_1 ez_1 => ?_)
  obtain rfl : z_1 = 37 := ez_1.trans (by decide)
  clear ez_1
  refine va_put (D := (dC, dI)) (ci := 6) (v := .int 37) (ty := .int) (C := RX6) (T := TX6) (N := 9) hx hb hts iw_X6_readByte_X6 tyX6 tyX6_ok nmX6 hown hK hP hD hS 0 rfl rfl 3 (by decide) (hts _ m_X6_readByte_2) (fun _ h9 => h9) rfl (by decide +kernel) rfl rfl (Nat.le_of_ble_eq_true rfl) dX6_readByte_56 (fun H_2 locs hP2 hD2 hS2 => ?_)
  replace hP : va_P (dC, dI) vwCl [(a0, .inr (6, [.int 0, .int 0, .ref a1, .int 37, .int 1, .int 2, .int 2, .int 1, .ref a2])), (a1, .inr (5, [.ref cb, .int 81, .int 0, .ref a3, .int 5, .ref a4, .int 2, .ref a5, .int 1, .int 1, .ref a6, .int 6, .int 0, .int 1, .int 0]))] H_2 := hP2
  replace hD : va_D A [(a0, .inr (6, [.int 0, .int 0, .ref a1, .int 37, .int 1, .int 2, .int 2, .int 1, .ref a2])), (a1, .inr (5, [.ref cb, .int 81, .int 0, .ref a3, .int 5, .ref a4, .int 2, .ref a5, .int 1, .int 1, .ref a6, .int 6, .int 0, .int 1, .int 0]))] := hD2
  replace hS := hS2
  clear hP2 hD2 hS2
  refine va_tb (v := .int 8) hx hb hSK.2 hS (by unfold vp_in; decide) rfl dX6_readByte_59 ?_
  refine lv_sipush (v := 255) hx hb dX6_readByte_60 (by decide) ?_
  refine lv_iand hx hb dX6_readByte_63 ?_
  refine lv_topi (fun z_3 ez_3 => ?_)
  obtain rfl : z_3 = 8 := ez_3.trans (by decide)
  clear ez_3
  exact W.iret hx hb hr (fun t ht hW => ⟨⟨8, (), rfl, rfl, by rw [ht]; exact hP, va_K.moved hW.alike hK, hD⟩, hS.F ht⟩) hS.2.2 dX6_readByte_64

set_option maxHeartbeats 4000000 in
set_option maxRecDepth 100000 in
theorem cc_364_X6_readByte (l : Launch) (dC : Nat → ClassId) (dI : Nat → Nat → Nat) (cy : Nat → ClassId) (sz : Nat) (cb : Nat) (a0 : Nat) (a1 : Nat) (a2 : Nat) (a3 : Nat) (a4 : Nat) (a5 : Nat) (a6 : Nat)  : Met l yX6_readByte wsX6_readByte ({ frames := 0, cells := 0, slots := 0, locals := 0 }) (va_Pc [.ref a0] (fun U => U.heap.size = sz ∧ va_P (dC, dI) vwCl [(a0, .inr (6, [.int 0, .int 0, .ref a1, .int 37, .int 1, .int 2, .int 2, .int 1, .ref a2])), (a1, .inr (5, [.ref cb, .int 81, .int 0, .ref a3, .int 5, .ref a4, .int 2, .ref a5, .int 1, .int 1, .ref a6, .int 6, .int 0, .int 1, .int 0]))] U.heap ∧ va_K (dC, dI) vwCl (TYS cy) U ∧ va_D (fun _ => True) [(a0, .inr (6, [.int 0, .int 0, .ref a1, .int 37, .int 1, .int 2, .int 2, .int 1, .ref a2])), (a1, .inr (5, [.ref cb, .int 81, .int 0, .ref a3, .int 5, .ref a4, .int 2, .ref a5, .int 1, .int 1, .ref a6, .int 6, .int 0, .int 1, .int 0]))] ∧ NK U ∧ SK cb (va_A [(a0, .inr (6, [.int 0, .int 0, .ref a1, .int 37, .int 1, .int 2, .int 2, .int 1, .ref a2])), (a1, .inr (5, [.ref cb, .int 81, .int 0, .ref a3, .int 5, .ref a4, .int 2, .ref a5, .int 1, .int 1, .ref a6, .int 6, .int 0, .int 1, .int 0]))] sz) U U.heap)) (va_Qi (fun (r : Int32) (u : Unit) => r = 6) (fun u t => va_P (dC, dI) vwCl [(a0, .inr (6, [.int 0, .int 0, .ref a1, .int 38, .int 1, .int 2, .int 2, .int 1, .ref a2])), (a1, .inr (5, [.ref cb, .int 81, .int 0, .ref a3, .int 5, .ref a4, .int 2, .ref a5, .int 1, .int 1, .ref a6, .int 6, .int 0, .int 1, .int 0]))] t.heap ∧ va_K (dC, dI) vwCl (TYS cy) t ∧ va_D (va_A [(a0, .inr (6, [.int 0, .int 0, .ref a1, .int 37, .int 1, .int 2, .int 2, .int 1, .ref a2])), (a1, .inr (5, [.ref cb, .int 81, .int 0, .ref a3, .int 5, .ref a4, .int 2, .ref a5, .int 1, .int 1, .ref a6, .int 6, .int 0, .int 1, .int 0]))] sz) [(a0, .inr (6, [.int 0, .int 0, .ref a1, .int 38, .int 1, .int 2, .int 2, .int 1, .ref a2])), (a1, .inr (5, [.ref cb, .int 81, .int 0, .ref a3, .int 5, .ref a4, .int 2, .ref a5, .int 1, .int 1, .ref a6, .int 6, .int 0, .int 1, .int 0]))]) (va_A [(a0, .inr (6, [.int 0, .int 0, .ref a1, .int 37, .int 1, .int 2, .int 2, .int 1, .ref a2])), (a1, .inr (5, [.ref cb, .int 81, .int 0, .ref a3, .int 5, .ref a4, .int 2, .ref a5, .int 1, .int 1, .ref a6, .int 6, .int 0, .int 1, .int 0]))] sz)) 0 0 (va_A [(a0, .inr (6, [.int 0, .int 0, .ref a1, .int 37, .int 1, .int 2, .int 2, .int 1, .ref a2])), (a1, .inr (5, [.ref cb, .int 81, .int 0, .ref a3, .int 5, .ref a4, .int 2, .ref a5, .int 1, .int 1, .ref a6, .int 6, .int 0, .int 1, .int 0]))] sz) := by
  refine Met.ofW (cc := cX6_readByte) (maxL := 1) (ret := (some .int)) (by decide) rfl ?_
  intro p e s m args below meth c s₁ B hml hv
  obtain ⟨rfl, hsz, hP, hK, hD0, hN, hSK⟩ := hv
  have hx := B.exec
  have hb := B.bytes
  have hr := B.returns
  have hts := atoms_spec (ws := wsX6_readByte) B.pre
  have hown : s.vm.findClass RX6 = some m.cls := findClass_of_methodNamed B.named
  have hlocks := B.notSynchronized
  subst hsz
  have hD := hD0.self (sz := s.heap.size)
  generalize hAe : va_A [(a0, .inr (6, [.int 0, .int 0, .ref a1, .int 37, .int 1, .int 2, .int 2, .int 1, .ref a2])), (a1, .inr (5, [.ref cb, .int 81, .int 0, .ref a3, .int 5, .ref a4, .int 2, .ref a5, .int 1, .int 1, .ref a6, .int 6, .int 0, .int 1, .int 0]))] s.heap.size = A at hD hSK ⊢
  have hA : ∀ q : Nat, s.heap.size ≤ q → A q := fun q h => by rw [← hAe]; exact Or.inr h
  have hS : va_S A s.heap s.heap [] := va_S.rf
  have hP : va_P (dC, dI) vwCl [(a0, .inr (6, [.int 0, .int 0, .ref a1, .int 37, .int 1, .int 2, .int 2, .int 1, .ref a2])), (a1, .inr (5, [.ref cb, .int 81, .int 0, .ref a3, .int 5, .ref a4, .int 2, .ref a5, .int 1, .int 1, .ref a6, .int 6, .int 0, .int 1, .int 0]))] s.heap := hP
  have hl := lv_entry ([.ref a0]) (n := 1) (Nat.le_of_ble_eq_true rfl)
  rw [lg_entry_eq]
  generalize (lg_sl ([.ref a0]) ++ List.replicate (1 - (lg_sl ([.ref a0])).length) Slot.unset).toArray = ls at hl ⊢
  replace hl : lv_has ls 1 [(0, .ref a0)] := hl
  refine lv_aload_n hx hb dX6_readByte_0 rfl (lv_at hl 0 rfl) ?_
  refine va_get (D := (dC, dI)) (ci := 6) (v := .int 0) (C := RX6) (T := TX6) (N := 9) hx hb hts iw_X6_readByte_X6 hown hK hP 0 rfl rfl 1 (by decide) (hts _ m_X6_readByte_1) (fun _ h9 => h9) rfl dX6_readByte_1 ?_
  refine lv_if_eq (tgt := 9) hx hb dX6_readByte_4 (by decide) (fun _ => ?_) (fun h => absurd (by decide) h)
  refine lv_aload_n hx hb dX6_readByte_9 rfl (lv_at hl 0 rfl) ?_
  refine va_get (D := (dC, dI)) (ci := 6) (v := .int 37) (C := RX6) (T := TX6) (N := 9) hx hb hts iw_X6_readByte_X6 hown hK hP 0 rfl rfl 3 (by decide) (hts _ m_X6_readByte_2) (fun _ h9 => h9) rfl dX6_readByte_10 ?_
  refine lv_aload_n hx hb dX6_readByte_13 rfl (lv_at hl 0 rfl) ?_
  refine va_get (D := (dC, dI)) (ci := 6) (v := .ref a1) (C := RX6) (T := TX6) (N := 9) hx hb hts iw_X6_readByte_X6 hown hK hP 0 rfl rfl 2 (by decide) (hts _ m_X6_readByte_3) (fun _ h9 => h9) rfl dX6_readByte_14 ?_
  refine va_get (D := (dC, dI)) (ci := 5) (v := .int 81) (C := RX5) (T := TX5) (N := 15) hx hb hts iw_X6_readByte_X5 hown hK hP 1 rfl rfl 1 (by decide) (hts _ m_X6_readByte_4) (fun _ h9 => h9) rfl dX6_readByte_17 ?_
  refine lv_icmp_lt (tgt := 41) hx hb dX6_readByte_20 (by decide) (fun _ => ?_) (fun h => absurd (by decide) h)
  refine lv_aload_n hx hb dX6_readByte_41 rfl (lv_at hl 0 rfl) ?_
  refine va_get (D := (dC, dI)) (ci := 6) (v := .ref a1) (C := RX6) (T := TX6) (N := 9) hx hb hts iw_X6_readByte_X6 hown hK hP 0 rfl rfl 2 (by decide) (hts _ m_X6_readByte_3) (fun _ h9 => h9) rfl dX6_readByte_42 ?_
  refine va_get (D := (dC, dI)) (ci := 5) (v := .ref cb) (C := RX5) (T := TX5) (N := 15) hx hb hts iw_X6_readByte_X5 hown hK hP 1 rfl rfl 0 (by decide) (hts _ m_X6_readByte_6) (fun _ h9 => h9) rfl dX6_readByte_45 ?_
  refine lv_aload_n hx hb dX6_readByte_48 rfl (lv_at hl 0 rfl) ?_
  refine lv_dup hx hb dX6_readByte_49 rfl ?_
  refine va_get (D := (dC, dI)) (ci := 6) (v := .int 37) (C := RX6) (T := TX6) (N := 9) hx hb hts iw_X6_readByte_X6 hown hK hP 0 rfl rfl 3 (by decide) (hts _ m_X6_readByte_2) (fun _ h9 => h9) rfl dX6_readByte_50 ?_
  refine lv_dup_x1 hx hb dX6_readByte_53 rfl rfl ?_
  refine lv_iconst (v := 1) hx hb dX6_readByte_54 (by decide) ?_
  refine lv_iadd hx hb dX6_readByte_55 ?_
  refine lv_topi (fun z_1 ez_1 => ?_)
  obtain rfl : z_1 = 38 := ez_1.trans (by decide)
  clear ez_1
  refine va_put (D := (dC, dI)) (ci := 6) (v := .int 38) (ty := .int) (C := RX6) (T := TX6) (N := 9) hx hb hts iw_X6_readByte_X6 tyX6 tyX6_ok nmX6 hown hK hP hD hS 0 rfl rfl 3 (by decide) (hts _ m_X6_readByte_2) (fun _ h9 => h9) rfl (by decide +kernel) rfl rfl (Nat.le_of_ble_eq_true rfl) dX6_readByte_56 (fun H_2 locs hP2 hD2 hS2 => ?_)
  replace hP : va_P (dC, dI) vwCl [(a0, .inr (6, [.int 0, .int 0, .ref a1, .int 38, .int 1, .int 2, .int 2, .int 1, .ref a2])), (a1, .inr (5, [.ref cb, .int 81, .int 0, .ref a3, .int 5, .ref a4, .int 2, .ref a5, .int 1, .int 1, .ref a6, .int 6, .int 0, .int 1, .int 0]))] H_2 := hP2
  replace hD : va_D A [(a0, .inr (6, [.int 0, .int 0, .ref a1, .int 38, .int 1, .int 2, .int 2, .int 1, .ref a2])), (a1, .inr (5, [.ref cb, .int 81, .int 0, .ref a3, .int 5, .ref a4, .int 2, .ref a5, .int 1, .int 1, .ref a6, .int 6, .int 0, .int 1, .int 0]))] := hD2
  replace hS := hS2
  clear hP2 hD2 hS2
  refine va_tb (v := .int 6) hx hb hSK.2 hS (by unfold vp_in; decide) rfl dX6_readByte_59 ?_
  refine lv_sipush (v := 255) hx hb dX6_readByte_60 (by decide) ?_
  refine lv_iand hx hb dX6_readByte_63 ?_
  refine lv_topi (fun z_3 ez_3 => ?_)
  obtain rfl : z_3 = 6 := ez_3.trans (by decide)
  clear ez_3
  exact W.iret hx hb hr (fun t ht hW => ⟨⟨6, (), rfl, rfl, by rw [ht]; exact hP, va_K.moved hW.alike hK, hD⟩, hS.F ht⟩) hS.2.2 dX6_readByte_64

set_option maxHeartbeats 4000000 in
set_option maxRecDepth 100000 in
theorem cc_365_X6_readByte (l : Launch) (dC : Nat → ClassId) (dI : Nat → Nat → Nat) (cy : Nat → ClassId) (sz : Nat) (cb : Nat) (a0 : Nat) (a1 : Nat) (a2 : Nat) (a3 : Nat) (a4 : Nat) (a5 : Nat) (a6 : Nat)  : Met l yX6_readByte wsX6_readByte ({ frames := 0, cells := 0, slots := 0, locals := 0 }) (va_Pc [.ref a0] (fun U => U.heap.size = sz ∧ va_P (dC, dI) vwCl [(a0, .inr (6, [.int 0, .int 0, .ref a1, .int 38, .int 1, .int 2, .int 2, .int 1, .ref a2])), (a1, .inr (5, [.ref cb, .int 81, .int 0, .ref a3, .int 5, .ref a4, .int 2, .ref a5, .int 1, .int 1, .ref a6, .int 6, .int 0, .int 1, .int 0]))] U.heap ∧ va_K (dC, dI) vwCl (TYS cy) U ∧ va_D (fun _ => True) [(a0, .inr (6, [.int 0, .int 0, .ref a1, .int 38, .int 1, .int 2, .int 2, .int 1, .ref a2])), (a1, .inr (5, [.ref cb, .int 81, .int 0, .ref a3, .int 5, .ref a4, .int 2, .ref a5, .int 1, .int 1, .ref a6, .int 6, .int 0, .int 1, .int 0]))] ∧ NK U ∧ SK cb (va_A [(a0, .inr (6, [.int 0, .int 0, .ref a1, .int 38, .int 1, .int 2, .int 2, .int 1, .ref a2])), (a1, .inr (5, [.ref cb, .int 81, .int 0, .ref a3, .int 5, .ref a4, .int 2, .ref a5, .int 1, .int 1, .ref a6, .int 6, .int 0, .int 1, .int 0]))] sz) U U.heap)) (va_Qi (fun (r : Int32) (u : Unit) => r = 0) (fun u t => va_P (dC, dI) vwCl [(a0, .inr (6, [.int 0, .int 0, .ref a1, .int 39, .int 1, .int 2, .int 2, .int 1, .ref a2])), (a1, .inr (5, [.ref cb, .int 81, .int 0, .ref a3, .int 5, .ref a4, .int 2, .ref a5, .int 1, .int 1, .ref a6, .int 6, .int 0, .int 1, .int 0]))] t.heap ∧ va_K (dC, dI) vwCl (TYS cy) t ∧ va_D (va_A [(a0, .inr (6, [.int 0, .int 0, .ref a1, .int 38, .int 1, .int 2, .int 2, .int 1, .ref a2])), (a1, .inr (5, [.ref cb, .int 81, .int 0, .ref a3, .int 5, .ref a4, .int 2, .ref a5, .int 1, .int 1, .ref a6, .int 6, .int 0, .int 1, .int 0]))] sz) [(a0, .inr (6, [.int 0, .int 0, .ref a1, .int 39, .int 1, .int 2, .int 2, .int 1, .ref a2])), (a1, .inr (5, [.ref cb, .int 81, .int 0, .ref a3, .int 5, .ref a4, .int 2, .ref a5, .int 1, .int 1, .ref a6, .int 6, .int 0, .int 1, .int 0]))]) (va_A [(a0, .inr (6, [.int 0, .int 0, .ref a1, .int 38, .int 1, .int 2, .int 2, .int 1, .ref a2])), (a1, .inr (5, [.ref cb, .int 81, .int 0, .ref a3, .int 5, .ref a4, .int 2, .ref a5, .int 1, .int 1, .ref a6, .int 6, .int 0, .int 1, .int 0]))] sz)) 0 0 (va_A [(a0, .inr (6, [.int 0, .int 0, .ref a1, .int 38, .int 1, .int 2, .int 2, .int 1, .ref a2])), (a1, .inr (5, [.ref cb, .int 81, .int 0, .ref a3, .int 5, .ref a4, .int 2, .ref a5, .int 1, .int 1, .ref a6, .int 6, .int 0, .int 1, .int 0]))] sz) := by
  refine Met.ofW (cc := cX6_readByte) (maxL := 1) (ret := (some .int)) (by decide) rfl ?_
  intro p e s m args below meth c s₁ B hml hv
  obtain ⟨rfl, hsz, hP, hK, hD0, hN, hSK⟩ := hv
  have hx := B.exec
  have hb := B.bytes
  have hr := B.returns
  have hts := atoms_spec (ws := wsX6_readByte) B.pre
  have hown : s.vm.findClass RX6 = some m.cls := findClass_of_methodNamed B.named
  have hlocks := B.notSynchronized
  subst hsz
  have hD := hD0.self (sz := s.heap.size)
  generalize hAe : va_A [(a0, .inr (6, [.int 0, .int 0, .ref a1, .int 38, .int 1, .int 2, .int 2, .int 1, .ref a2])), (a1, .inr (5, [.ref cb, .int 81, .int 0, .ref a3, .int 5, .ref a4, .int 2, .ref a5, .int 1, .int 1, .ref a6, .int 6, .int 0, .int 1, .int 0]))] s.heap.size = A at hD hSK ⊢
  have hA : ∀ q : Nat, s.heap.size ≤ q → A q := fun q h => by rw [← hAe]; exact Or.inr h
  have hS : va_S A s.heap s.heap [] := va_S.rf
  have hP : va_P (dC, dI) vwCl [(a0, .inr (6, [.int 0, .int 0, .ref a1, .int 38, .int 1, .int 2, .int 2, .int 1, .ref a2])), (a1, .inr (5, [.ref cb, .int 81, .int 0, .ref a3, .int 5, .ref a4, .int 2, .ref a5, .int 1, .int 1, .ref a6, .int 6, .int 0, .int 1, .int 0]))] s.heap := hP
  have hl := lv_entry ([.ref a0]) (n := 1) (Nat.le_of_ble_eq_true rfl)
  rw [lg_entry_eq]
  generalize (lg_sl ([.ref a0]) ++ List.replicate (1 - (lg_sl ([.ref a0])).length) Slot.unset).toArray = ls at hl ⊢
  replace hl : lv_has ls 1 [(0, .ref a0)] := hl
  refine lv_aload_n hx hb dX6_readByte_0 rfl (lv_at hl 0 rfl) ?_
  refine va_get (D := (dC, dI)) (ci := 6) (v := .int 0) (C := RX6) (T := TX6) (N := 9) hx hb hts iw_X6_readByte_X6 hown hK hP 0 rfl rfl 1 (by decide) (hts _ m_X6_readByte_1) (fun _ h9 => h9) rfl dX6_readByte_1 ?_
  refine lv_if_eq (tgt := 9) hx hb dX6_readByte_4 (by decide) (fun _ => ?_) (fun h => absurd (by decide) h)
  refine lv_aload_n hx hb dX6_readByte_9 rfl (lv_at hl 0 rfl) ?_
  refine va_get (D := (dC, dI)) (ci := 6) (v := .int 38) (C := RX6) (T := TX6) (N := 9) hx hb hts iw_X6_readByte_X6 hown hK hP 0 rfl rfl 3 (by decide) (hts _ m_X6_readByte_2) (fun _ h9 => h9) rfl dX6_readByte_10 ?_
  refine lv_aload_n hx hb dX6_readByte_13 rfl (lv_at hl 0 rfl) ?_
  refine va_get (D := (dC, dI)) (ci := 6) (v := .ref a1) (C := RX6) (T := TX6) (N := 9) hx hb hts iw_X6_readByte_X6 hown hK hP 0 rfl rfl 2 (by decide) (hts _ m_X6_readByte_3) (fun _ h9 => h9) rfl dX6_readByte_14 ?_
  refine va_get (D := (dC, dI)) (ci := 5) (v := .int 81) (C := RX5) (T := TX5) (N := 15) hx hb hts iw_X6_readByte_X5 hown hK hP 1 rfl rfl 1 (by decide) (hts _ m_X6_readByte_4) (fun _ h9 => h9) rfl dX6_readByte_17 ?_
  refine lv_icmp_lt (tgt := 41) hx hb dX6_readByte_20 (by decide) (fun _ => ?_) (fun h => absurd (by decide) h)
  refine lv_aload_n hx hb dX6_readByte_41 rfl (lv_at hl 0 rfl) ?_
  refine va_get (D := (dC, dI)) (ci := 6) (v := .ref a1) (C := RX6) (T := TX6) (N := 9) hx hb hts iw_X6_readByte_X6 hown hK hP 0 rfl rfl 2 (by decide) (hts _ m_X6_readByte_3) (fun _ h9 => h9) rfl dX6_readByte_42 ?_
  refine va_get (D := (dC, dI)) (ci := 5) (v := .ref cb) (C := RX5) (T := TX5) (N := 15) hx hb hts iw_X6_readByte_X5 hown hK hP 1 rfl rfl 0 (by decide) (hts _ m_X6_readByte_6) (fun _ h9 => h9) rfl dX6_readByte_45 ?_
  refine lv_aload_n hx hb dX6_readByte_48 rfl (lv_at hl 0 rfl) ?_
  refine lv_dup hx hb dX6_readByte_49 rfl ?_
  refine va_get (D := (dC, dI)) (ci := 6) (v := .int 38) (C := RX6) (T := TX6) (N := 9) hx hb hts iw_X6_readByte_X6 hown hK hP 0 rfl rfl 3 (by decide) (hts _ m_X6_readByte_2) (fun _ h9 => h9) rfl dX6_readByte_50 ?_
  refine lv_dup_x1 hx hb dX6_readByte_53 rfl rfl ?_
  refine lv_iconst (v := 1) hx hb dX6_readByte_54 (by decide) ?_
  refine lv_iadd hx hb dX6_readByte_55 ?_
  refine lv_topi (fun z_1 ez_1 => ?_)
  obtain rfl : z_1 = 39 := ez_1.trans (by decide)
  clear ez_1
  refine va_put (D := (dC, dI)) (ci := 6) (v := .int 39) (ty := .int) (C := RX6) (T := TX6) (N := 9) hx hb hts iw_X6_readByte_X6 tyX6 tyX6_ok nmX6 hown hK hP hD hS 0 rfl rfl 3 (by decide) (hts _ m_X6_readByte_2) (fun _ h9 => h9) rfl (by decide +kernel) rfl rfl (Nat.le_of_ble_eq_true rfl) dX6_readByte_56 (fun H_2 locs hP2 hD2 hS2 => ?_)
  replace hP : va_P (dC, dI) vwCl [(a0, .inr (6, [.int 0, .int 0, .ref a1, .int 39, .int 1, .int 2, .int 2, .int 1, .ref a2])), (a1, .inr (5, [.ref cb, .int 81, .int 0, .ref a3, .int 5, .ref a4, .int 2, .ref a5, .int 1, .int 1, .ref a6, .int 6, .int 0, .int 1, .int 0]))] H_2 := hP2
  replace hD : va_D A [(a0, .inr (6, [.int 0, .int 0, .ref a1, .int 39, .int 1, .int 2, .int 2, .int 1, .ref a2])), (a1, .inr (5, [.ref cb, .int 81, .int 0, .ref a3, .int 5, .ref a4, .int 2, .ref a5, .int 1, .int 1, .ref a6, .int 6, .int 0, .int 1, .int 0]))] := hD2
  replace hS := hS2
  clear hP2 hD2 hS2
  refine va_tb (v := .int 0) hx hb hSK.2 hS (by unfold vp_in; decide) rfl dX6_readByte_59 ?_
  refine lv_sipush (v := 255) hx hb dX6_readByte_60 (by decide) ?_
  refine lv_iand hx hb dX6_readByte_63 ?_
  refine lv_topi (fun z_3 ez_3 => ?_)
  obtain rfl : z_3 = 0 := ez_3.trans (by decide)
  clear ez_3
  exact W.iret hx hb hr (fun t ht hW => ⟨⟨0, (), rfl, rfl, by rw [ht]; exact hP, va_K.moved hW.alike hK, hD⟩, hS.F ht⟩) hS.2.2 dX6_readByte_64

set_option maxHeartbeats 4000000 in
set_option maxRecDepth 100000 in
theorem cc_362_X6_readOneType (l : Launch) (dC : Nat → ClassId) (dI : Nat → Nat → Nat) (cy : Nat → ClassId) (sz : Nat) (cb : Nat) (a0 : Nat) (a1 : Nat) (a2 : Nat) (a3 : Nat) (a4 : Nat) (a5 : Nat) (a6 : Nat)  : Met l yX6_readOneType wsX6_readOneType ({ frames := 1, cells := 0, slots := 0, locals := 20 }) (va_Pc [.ref a0, .int 1] (fun U => U.heap.size = sz ∧ va_P (dC, dI) vwCl [(a0, .inr (6, [.int 0, .int 0, .ref a1, .int 36, .int 1, .int 2, .int 2, .int 1, .ref a2])), (a1, .inr (5, [.ref cb, .int 81, .int 0, .ref a3, .int 5, .ref a4, .int 2, .ref a5, .int 1, .int 1, .ref a6, .int 6, .int 0, .int 1, .int 0]))] U.heap ∧ va_K (dC, dI) vwCl (TYS cy) U ∧ va_D (fun _ => True) [(a0, .inr (6, [.int 0, .int 0, .ref a1, .int 36, .int 1, .int 2, .int 2, .int 1, .ref a2])), (a1, .inr (5, [.ref cb, .int 81, .int 0, .ref a3, .int 5, .ref a4, .int 2, .ref a5, .int 1, .int 1, .ref a6, .int 6, .int 0, .int 1, .int 0]))] ∧ NK U ∧ SK cb (va_A [(a0, .inr (6, [.int 0, .int 0, .ref a1, .int 36, .int 1, .int 2, .int 2, .int 1, .ref a2])), (a1, .inr (5, [.ref cb, .int 81, .int 0, .ref a3, .int 5, .ref a4, .int 2, .ref a5, .int 1, .int 1, .ref a6, .int 6, .int 0, .int 1, .int 0]))] sz) U U.heap)) (va_Ql (fun (r : Int64) (u : Unit) => r = 525824) (fun u t => va_P (dC, dI) vwCl [(a0, .inr (6, [.int 0, .int 0, .ref a1, .int 39, .int 1, .int 2, .int 2, .int 1, .ref a2])), (a1, .inr (5, [.ref cb, .int 81, .int 0, .ref a3, .int 5, .ref a4, .int 2, .ref a5, .int 1, .int 1, .ref a6, .int 6, .int 0, .int 1, .int 0]))] t.heap ∧ va_K (dC, dI) vwCl (TYS cy) t ∧ va_D (va_A [(a0, .inr (6, [.int 0, .int 0, .ref a1, .int 36, .int 1, .int 2, .int 2, .int 1, .ref a2])), (a1, .inr (5, [.ref cb, .int 81, .int 0, .ref a3, .int 5, .ref a4, .int 2, .ref a5, .int 1, .int 1, .ref a6, .int 6, .int 0, .int 1, .int 0]))] sz) [(a0, .inr (6, [.int 0, .int 0, .ref a1, .int 39, .int 1, .int 2, .int 2, .int 1, .ref a2])), (a1, .inr (5, [.ref cb, .int 81, .int 0, .ref a3, .int 5, .ref a4, .int 2, .ref a5, .int 1, .int 1, .ref a6, .int 6, .int 0, .int 1, .int 0]))]) (va_A [(a0, .inr (6, [.int 0, .int 0, .ref a1, .int 36, .int 1, .int 2, .int 2, .int 1, .ref a2])), (a1, .inr (5, [.ref cb, .int 81, .int 0, .ref a3, .int 5, .ref a4, .int 2, .ref a5, .int 1, .int 1, .ref a6, .int 6, .int 0, .int 1, .int 0]))] sz)) 0 0 (va_A [(a0, .inr (6, [.int 0, .int 0, .ref a1, .int 36, .int 1, .int 2, .int 2, .int 1, .ref a2])), (a1, .inr (5, [.ref cb, .int 81, .int 0, .ref a3, .int 5, .ref a4, .int 2, .ref a5, .int 1, .int 1, .ref a6, .int 6, .int 0, .int 1, .int 0]))] sz) := by
  refine Met.ofW (cc := cX6_readOneType) (maxL := 7) (ret := (some .long)) (by decide) rfl ?_
  intro p e s m args below meth c s₁ B hml hv
  obtain ⟨rfl, hsz, hP, hK, hD0, hN, hSK⟩ := hv
  have hx := B.exec
  have hb := B.bytes
  have hr := B.returns
  have hts := atoms_spec (ws := wsX6_readOneType) B.pre
  have hown : s.vm.findClass RX6 = some m.cls := findClass_of_methodNamed B.named
  have hlocks := B.notSynchronized
  subst hsz
  have hD := hD0.self (sz := s.heap.size)
  generalize hAe : va_A [(a0, .inr (6, [.int 0, .int 0, .ref a1, .int 36, .int 1, .int 2, .int 2, .int 1, .ref a2])), (a1, .inr (5, [.ref cb, .int 81, .int 0, .ref a3, .int 5, .ref a4, .int 2, .ref a5, .int 1, .int 1, .ref a6, .int 6, .int 0, .int 1, .int 0]))] s.heap.size = A at hD hSK ⊢
  have hA : ∀ q : Nat, s.heap.size ≤ q → A q := fun q h => by rw [← hAe]; exact Or.inr h
  have hS : va_S A s.heap s.heap [] := va_S.rf
  have hP : va_P (dC, dI) vwCl [(a0, .inr (6, [.int 0, .int 0, .ref a1, .int 36, .int 1, .int 2, .int 2, .int 1, .ref a2])), (a1, .inr (5, [.ref cb, .int 81, .int 0, .ref a3, .int 5, .ref a4, .int 2, .ref a5, .int 1, .int 1, .ref a6, .int 6, .int 0, .int 1, .int 0]))] s.heap := hP
  have hl := lv_entry ([.ref a0, .int 1]) (n := 7) (Nat.le_of_ble_eq_true rfl)
  rw [lg_entry_eq]
  generalize (lg_sl ([.ref a0, .int 1]) ++ List.replicate (7 - (lg_sl ([.ref a0, .int 1])).length) Slot.unset).toArray = ls at hl ⊢
  replace hl : lv_has ls 7 [(0, .ref a0), (1, .int 1)] := hl
  refine lv_lconst (v := 0) hx hb dX6_readOneType_0 (by decide) ?_
  refine lv_lstore_n (lv' := [(2, .long 0), (0, .ref a0), (1, .int 1)]) hx hb dX6_readOneType_1 rfl hl (by decide) rfl (fun ls hl2 => ?_)
  replace hl := hl2
  clear hl2
  refine lv_aload_n hx hb dX6_readOneType_2 rfl (lv_at hl 1 rfl) ?_
  refine va_get (D := (dC, dI)) (ci := 6) (v := .int 36) (C := RX6) (T := TX6) (N := 9) hx hb hts iw_X6_readOneType_X6 hown hK hP 0 rfl rfl 3 (by decide) (hts _ m_X6_readOneType_1) (fun _ h9 => h9) rfl dX6_readOneType_3 ?_
  refine lv_istore (lv' := [(4, .int 36), (2, .long 0), (0, .ref a0), (1, .int 1)]) hx hb dX6_readOneType_6 hl (by decide) rfl (fun ls hl2 => ?_)
  replace hl := hl2
  clear hl2
  refine lv_aload_n hx hb dX6_readOneType_8 rfl (lv_at hl 2 rfl) ?_
  have hPc := hP.sub (ws' := [(a0, .inr (6, [.int 0, .int 0, .ref a1, .int 36, .int 1, .int 2, .int 2, .int 1, .ref a2])), (a1, .inr (5, [.ref cb, .int 81, .int 0, .ref a3, .int 5, .ref a4, .int 2, .ref a5, .int 1, .int 1, .ref a6, .int 6, .int 0, .int 1, .int 0]))]) [0, 1] rfl
  have hDc := hD.sub (ws' := [(a0, .inr (6, [.int 0, .int 0, .ref a1, .int 36, .int 1, .int 2, .int 2, .int 1, .ref a2])), (a1, .inr (5, [.ref cb, .int 81, .int 0, .ref a3, .int 5, .ref a4, .int 2, .ref a5, .int 1, .int 1, .ref a6, .int 6, .int 0, .int 1, .int 0]))]) [0, 1] (by decide) rfl
  have hFc := va_free (wc := [(a0, .inr (6, [.int 0, .int 0, .ref a1, .int 36, .int 1, .int 2, .int 2, .int 1, .ref a2])), (a1, .inr (5, [.ref cb, .int 81, .int 0, .ref a3, .int 5, .ref a4, .int 2, .ref a5, .int 1, .int 1, .ref a6, .int 6, .int 0, .int 1, .int 0]))]) hD hS hA [0, 1] rfl
  refine va_calli (va_runV (As := []) (rest := []) ⟨hx, hb, hml, hown, hts⟩ (cc_363_X6_readByte l dC dI cy s.heap.size cb a0 a1 a2 a3 a4 a5 a6) (cwV 0 hts gX6_readOneType_X6_readByte rfl rfl rfl (by decide +kernel) ⟨Nat.le_of_ble_eq_true rfl, Nat.le_of_ble_eq_true rfl⟩) ⟨fun a U g mk q => by obtain ⟨q0, q1, qP, qK, qD, qN, qS⟩ := q; exact ⟨q0, q1, qP, va_K.moved (u := U) (U := U.calling g mk a) (Vm.Alike.refl U.vm) qK, qD, qN.same rfl, SK.moved (u := U) (U := U.calling g mk a) (Vm.Alike.refl U.vm) qS⟩, va_recv hK hPc (ci := 6) (q0 := 0) rfl rfl, fun U hU hW => ⟨rfl, by rw [hU], by rw [hU]; exact hPc, va_K.moved hW.alike hK, hDc.weaken (fun _ _ _ _ => trivial), hN.warm hW, by rw [hU]; exact ((hSK.kept hS.2.1).narrow hFc).moved hW.alike⟩⟩ rfl rfl hl.1 rfl (lv_room (Nat.le_of_ble_eq_true rfl)) dX6_readOneType_9 ⟨Nat.le_of_ble_eq_true rfl, Nat.le_of_ble_eq_true rfl⟩) hS (fun q _ h => hFc q h) hFc (fun r_1 u t H_2 locs ht hvm hw hB hz1 hk1 hS2 => ?_)
  obtain ⟨hP1, hK1, hD1⟩ := hB
  rw [ht] at hP1
  obtain rfl := hw
  obtain ⟨hP2, hD2⟩ := va_join (wr := []) (w1 := [(a0, .inr (6, [.int 0, .int 0, .ref a1, .int 37, .int 1, .int 2, .int 2, .int 1, .ref a2])), (a1, .inr (5, [.ref cb, .int 81, .int 0, .ref a3, .int 5, .ref a4, .int 2, .ref a5, .int 1, .int 1, .ref a6, .int 6, .int 0, .int 1, .int 0]))]) hP hD [0, 1] [] rfl rfl (by decide) (by decide) hk1 hFc hP1 hD1
  replace hP : va_P (dC, dI) vwCl [(a0, .inr (6, [.int 0, .int 0, .ref a1, .int 37, .int 1, .int 2, .int 2, .int 1, .ref a2])), (a1, .inr (5, [.ref cb, .int 81, .int 0, .ref a3, .int 5, .ref a4, .int 2, .ref a5, .int 1, .int 1, .ref a6, .int 6, .int 0, .int 1, .int 0]))] H_2 := hP2
  replace hD : va_D A [(a0, .inr (6, [.int 0, .int 0, .ref a1, .int 37, .int 1, .int 2, .int 2, .int 1, .ref a2])), (a1, .inr (5, [.ref cb, .int 81, .int 0, .ref a3, .int 5, .ref a4, .int 2, .ref a5, .int 1, .int 1, .ref a6, .int 6, .int 0, .int 1, .int 0]))] := hD2
  replace hS := hS2
  clear hP2 hD2 hS2
  clear hPc hDc hFc hP1 hD1 hK1 hk1 hz1 hvm ht
  refine W.widen (k := 0) (n := 0) (Nat.le_of_ble_eq_true rfl) (Nat.le_of_ble_eq_true rfl) ?_
  refine lv_istore (lv' := [(5, .int 8), (4, .int 36), (2, .long 0), (0, .ref a0), (1, .int 1)]) hx hb dX6_readOneType_12 hl (by decide) rfl (fun ls hl2 => ?_)
  replace hl := hl2
  clear hl2
  refine lv_iload_n hx hb dX6_readOneType_14 rfl (lv_at hl 4 rfl) ?_
  refine lv_if_eq (tgt := 48) hx hb dX6_readOneType_15 (by decide) (fun h => absurd h (by decide)) (fun _ => ?_)
  refine lv_iload hx hb dX6_readOneType_18 (lv_at hl 0 rfl) ?_
  refine lv_bipush (v := 8) hx hb dX6_readOneType_20 (by decide) ?_
  refine lv_icmp_eq (tgt := 32) hx hb dX6_readOneType_22 (by decide) (fun _ => ?_) (fun h => absurd (by decide) h)
  refine lv_iload hx hb dX6_readOneType_32 (lv_at hl 0 rfl) ?_
  refine lv_i2l (v := 8) hx hb dX6_readOneType_34 (by decide) ?_
  refine lv_lstore_n (lv' := [(2, .long 8), (5, .int 8), (4, .int 36), (0, .ref a0), (1, .int 1)]) hx hb dX6_readOneType_35 rfl hl (by decide) rfl (fun ls hl2 => ?_)
  replace hl := hl2
  clear hl2
  refine lv_aload_n hx hb dX6_readOneType_36 rfl (lv_at hl 3 rfl) ?_
  refine va_get (D := (dC, dI)) (ci := 6) (v := .int 37) (C := RX6) (T := TX6) (N := 9) hx hb hts iw_X6_readOneType_X6 hown hK hP 0 rfl rfl 3 (by decide) (hts _ m_X6_readOneType_1) (fun _ h9 => h9) rfl dX6_readOneType_37 ?_
  refine lv_istore (lv' := [(4, .int 37), (2, .long 8), (5, .int 8), (0, .ref a0), (1, .int 1)]) hx hb dX6_readOneType_40 hl (by decide) rfl (fun ls hl2 => ?_)
  replace hl := hl2
  clear hl2
  refine lv_aload_n hx hb dX6_readOneType_42 rfl (lv_at hl 3 rfl) ?_
  have hPc := hP.sub (ws' := [(a0, .inr (6, [.int 0, .int 0, .ref a1, .int 37, .int 1, .int 2, .int 2, .int 1, .ref a2])), (a1, .inr (5, [.ref cb, .int 81, .int 0, .ref a3, .int 5, .ref a4, .int 2, .ref a5, .int 1, .int 1, .ref a6, .int 6, .int 0, .int 1, .int 0]))]) [0, 1] rfl
  have hDc := hD.sub (ws' := [(a0, .inr (6, [.int 0, .int 0, .ref a1, .int 37, .int 1, .int 2, .int 2, .int 1, .ref a2])), (a1, .inr (5, [.ref cb, .int 81, .int 0, .ref a3, .int 5, .ref a4, .int 2, .ref a5, .int 1, .int 1, .ref a6, .int 6, .int 0, .int 1, .int 0]))]) [0, 1] (by decide) rfl
  have hFc := va_free (wc := [(a0, .inr (6, [.int 0, .int 0, .ref a1, .int 37, .int 1, .int 2, .int 2, .int 1, .ref a2])), (a1, .inr (5, [.ref cb, .int 81, .int 0, .ref a3, .int 5, .ref a4, .int 2, .ref a5, .int 1, .int 1, .ref a6, .int 6, .int 0, .int 1, .int 0]))]) hD hS hA [0, 1] rfl
  refine va_calli (va_runV (As := []) (rest := []) ⟨hx, hb, hml, hown, hts⟩ (cc_364_X6_readByte l dC dI cy H_2.size cb a0 a1 a2 a3 a4 a5 a6) (cwV 0 hts gX6_readOneType_X6_readByte rfl rfl rfl (by decide +kernel) ⟨Nat.le_of_ble_eq_true rfl, Nat.le_of_ble_eq_true rfl⟩) ⟨fun a U g mk q => by obtain ⟨q0, q1, qP, qK, qD, qN, qS⟩ := q; exact ⟨q0, q1, qP, va_K.moved (u := U) (U := U.calling g mk a) (Vm.Alike.refl U.vm) qK, qD, qN.same rfl, SK.moved (u := U) (U := U.calling g mk a) (Vm.Alike.refl U.vm) qS⟩, va_recv hK hPc (ci := 6) (q0 := 0) rfl rfl, fun U hU hW => ⟨rfl, by rw [hU], by rw [hU]; exact hPc, va_K.moved hW.alike hK, hDc.weaken (fun _ _ _ _ => trivial), hN.warm hW, by rw [hU]; exact ((hSK.kept hS.2.1).narrow hFc).moved hW.alike⟩⟩ rfl rfl hl.1 rfl (lv_room (Nat.le_of_ble_eq_true rfl)) dX6_readOneType_43 ⟨Nat.le_of_ble_eq_true rfl, Nat.le_of_ble_eq_true rfl⟩) hS (fun q _ h => hFc q h) hFc (fun r_3 u t H_4 locs ht hvm hw hB hz1 hk1 hS2 => ?_)
  obtain ⟨hP1, hK1, hD1⟩ := hB
  rw [ht] at hP1
  obtain rfl := hw
  obtain ⟨hP2, hD2⟩ := va_join (wr := []) (w1 := [(a0, .inr (6, [.int 0, .int 0, .ref a1, .int 38, .int 1, .int 2, .int 2, .int 1, .ref a2])), (a1, .inr (5, [.ref cb, .int 81, .int 0, .ref a3, .int 5, .ref a4, .int 2, .ref a5, .int 1, .int 1, .ref a6, .int 6, .int 0, .int 1, .int 0]))]) hP hD [0, 1] [] rfl rfl (by decide) (by decide) hk1 hFc hP1 hD1
  replace hP : va_P (dC, dI) vwCl [(a0, .inr (6, [.int 0, .int 0, .ref a1, .int 38, .int 1, .int 2, .int 2, .int 1, .ref a2])), (a1, .inr (5, [.ref cb, .int 81, .int 0, .ref a3, .int 5, .ref a4, .int 2, .ref a5, .int 1, .int 1, .ref a6, .int 6, .int 0, .int 1, .int 0]))] H_4 := hP2
  replace hD : va_D A [(a0, .inr (6, [.int 0, .int 0, .ref a1, .int 38, .int 1, .int 2, .int 2, .int 1, .ref a2])), (a1, .inr (5, [.ref cb, .int 81, .int 0, .ref a3, .int 5, .ref a4, .int 2, .ref a5, .int 1, .int 1, .ref a6, .int 6, .int 0, .int 1, .int 0]))] := hD2
  replace hS := hS2
  clear hP2 hD2 hS2
  clear hPc hDc hFc hP1 hD1 hK1 hk1 hz1 hvm ht
  refine W.widen (k := 0) (n := 0) (Nat.le_of_ble_eq_true rfl) (Nat.le_of_ble_eq_true rfl) ?_
  refine lv_istore (lv' := [(5, .int 6), (4, .int 37), (2, .long 8), (0, .ref a0), (1, .int 1)]) hx hb dX6_readOneType_46 hl (by decide) rfl (fun ls hl2 => ?_)
  replace hl := hl2
  clear hl2
  refine lv_iconst (v := 0) hx hb dX6_readOneType_48 (by decide) ?_
  refine lv_istore (lv' := [(6, .int 0), (5, .int 6), (4, .int 37), (2, .long 8), (0, .ref a0), (1, .int 1)]) hx hb dX6_readOneType_49 hl (by decide) rfl (fun ls hl2 => ?_)
  replace hl := hl2
  clear hl2
  refine lv_iload hx hb dX6_readOneType_51 (lv_at hl 0 rfl) ?_
  refine lv_iconst (v := 4) hx hb dX6_readOneType_53 (by decide) ?_
  refine lv_icmp_ge (tgt := 91) hx hb dX6_readOneType_54 (by decide) (fun h => absurd h (by decide)) (fun _ => ?_)
  refine lv_iload hx hb dX6_readOneType_57 (lv_at hl 1 rfl) ?_
  refine lv_bipush (v := 7) hx hb dX6_readOneType_59 (by decide) ?_
  refine lv_icmp_ne (tgt := 91) hx hb dX6_readOneType_61 (by decide) (fun _ => ?_) (fun h => absurd h (by decide))
  refine lv_iload hx hb dX6_readOneType_91 (lv_at hl 1 rfl) ?_
  refine lv_iconst (v := 1) hx hb dX6_readOneType_93 (by decide) ?_
  refine lv_icmp_lt (tgt := 104) hx hb dX6_readOneType_94 (by decide) (fun h => absurd h (by decide)) (fun _ => ?_)
  refine lv_iload hx hb dX6_readOneType_97 (lv_at hl 1 rfl) ?_
  refine lv_bipush (v := 6) hx hb dX6_readOneType_99 (by decide) ?_
  refine lv_icmp_le (tgt := 111) hx hb dX6_readOneType_101 (by decide) (fun _ => ?_) (fun h => absurd (by decide) h)
  refine lv_lload_n hx hb dX6_readOneType_111 rfl (lv_at hl 3 rfl) ?_
  refine lv_bipush (v := 8) hx hb dX6_readOneType_112 (by decide) ?_
  refine lv_lshl (v := 2048) hx hb dX6_readOneType_114 (by decide) ?_
  refine lv_iload hx hb dX6_readOneType_115 (lv_at hl 1 rfl) ?_
  refine lv_i2l (v := 6) hx hb dX6_readOneType_117 (by decide) ?_
  refine lv_lor hx hb dX6_readOneType_118 ?_
  refine lv_topl (fun z_5 ez_5 => ?_)
  obtain rfl : z_5 = 2054 := ez_5.trans (by decide)
  clear ez_5
  refine lv_lstore_n (lv' := [(2, .long 2054), (6, .int 0), (5, .int 6), (4, .int 37), (0, .ref a0), (1, .int 1)]) hx hb dX6_readOneType_119 rfl hl (by decide) rfl (fun ls hl2 => ?_)
  replace hl := hl2
  clear hl2
  refine lv_iload hx hb dX6_readOneType_120 (lv_at hl 2 rfl) ?_
  refine lv_bipush (v := 6) hx hb dX6_readOneType_122 (by decide) ?_
  refine lv_icmp_eq (tgt := 129) hx hb dX6_readOneType_124 (by decide) (fun _ => ?_) (fun h => absurd (by decide) h)
  refine lv_aload_n hx hb dX6_readOneType_129 rfl (lv_at hl 4 rfl) ?_
  refine va_get (D := (dC, dI)) (ci := 6) (v := .int 38) (C := RX6) (T := TX6) (N := 9) hx hb hts iw_X6_readOneType_X6 hown hK hP 0 rfl rfl 3 (by decide) (hts _ m_X6_readOneType_1) (fun _ h9 => h9) rfl dX6_readOneType_130 ?_
  refine lv_istore (lv' := [(4, .int 38), (2, .long 2054), (6, .int 0), (5, .int 6), (0, .ref a0), (1, .int 1)]) hx hb dX6_readOneType_133 hl (by decide) rfl (fun ls hl2 => ?_)
  replace hl := hl2
  clear hl2
  refine lv_aload_n hx hb dX6_readOneType_135 rfl (lv_at hl 4 rfl) ?_
  have hPc := hP.sub (ws' := [(a0, .inr (6, [.int 0, .int 0, .ref a1, .int 38, .int 1, .int 2, .int 2, .int 1, .ref a2])), (a1, .inr (5, [.ref cb, .int 81, .int 0, .ref a3, .int 5, .ref a4, .int 2, .ref a5, .int 1, .int 1, .ref a6, .int 6, .int 0, .int 1, .int 0]))]) [0, 1] rfl
  have hDc := hD.sub (ws' := [(a0, .inr (6, [.int 0, .int 0, .ref a1, .int 38, .int 1, .int 2, .int 2, .int 1, .ref a2])), (a1, .inr (5, [.ref cb, .int 81, .int 0, .ref a3, .int 5, .ref a4, .int 2, .ref a5, .int 1, .int 1, .ref a6, .int 6, .int 0, .int 1, .int 0]))]) [0, 1] (by decide) rfl
  have hFc := va_free (wc := [(a0, .inr (6, [.int 0, .int 0, .ref a1, .int 38, .int 1, .int 2, .int 2, .int 1, .ref a2])), (a1, .inr (5, [.ref cb, .int 81, .int 0, .ref a3, .int 5, .ref a4, .int 2, .ref a5, .int 1, .int 1, .ref a6, .int 6, .int 0, .int 1, .int 0]))]) hD hS hA [0, 1] rfl
  refine va_calli (va_runV (As := []) (rest := []) ⟨hx, hb, hml, hown, hts⟩ (cc_365_X6_readByte l dC dI cy H_4.size cb a0 a1 a2 a3 a4 a5 a6) (cwV 0 hts gX6_readOneType_X6_readByte rfl rfl rfl (by decide +kernel) ⟨Nat.le_of_ble_eq_true rfl, Nat.le_of_ble_eq_true rfl⟩) ⟨fun a U g mk q => by obtain ⟨q0, q1, qP, qK, qD, qN, qS⟩ := q; exact ⟨q0, q1, qP, va_K.moved (u := U) (U := U.calling g mk a) (Vm.Alike.refl U.vm) qK, qD, qN.same rfl, SK.moved (u := U) (U := U.calling g mk a) (Vm.Alike.refl U.vm) qS⟩, va_recv hK hPc (ci := 6) (q0 := 0) rfl rfl, fun U hU hW => ⟨rfl, by rw [hU], by rw [hU]; exact hPc, va_K.moved hW.alike hK, hDc.weaken (fun _ _ _ _ => trivial), hN.warm hW, by rw [hU]; exact ((hSK.kept hS.2.1).narrow hFc).moved hW.alike⟩⟩ rfl rfl hl.1 rfl (lv_room (Nat.le_of_ble_eq_true rfl)) dX6_readOneType_136 ⟨Nat.le_of_ble_eq_true rfl, Nat.le_of_ble_eq_true rfl⟩) hS (fun q _ h => hFc q h) hFc (fun r_6 u t H_7 locs ht hvm hw hB hz1 hk1 hS2 => ?_)
  obtain ⟨hP1, hK1, hD1⟩ := hB
  rw [ht] at hP1
  obtain rfl := hw
  obtain ⟨hP2, hD2⟩ := va_join (wr := []) (w1 := [(a0, .inr (6, [.int 0, .int 0, .ref a1, .int 39, .int 1, .int 2, .int 2, .int 1, .ref a2])), (a1, .inr (5, [.ref cb, .int 81, .int 0, .ref a3, .int 5, .ref a4, .int 2, .ref a5, .int 1, .int 1, .ref a6, .int 6, .int 0, .int 1, .int 0]))]) hP hD [0, 1] [] rfl rfl (by decide) (by decide) hk1 hFc hP1 hD1
  replace hP : va_P (dC, dI) vwCl [(a0, .inr (6, [.int 0, .int 0, .ref a1, .int 39, .int 1, .int 2, .int 2, .int 1, .ref a2])), (a1, .inr (5, [.ref cb, .int 81, .int 0, .ref a3, .int 5, .ref a4, .int 2, .ref a5, .int 1, .int 1, .ref a6, .int 6, .int 0, .int 1, .int 0]))] H_7 := hP2
  replace hD : va_D A [(a0, .inr (6, [.int 0, .int 0, .ref a1, .int 39, .int 1, .int 2, .int 2, .int 1, .ref a2])), (a1, .inr (5, [.ref cb, .int 81, .int 0, .ref a3, .int 5, .ref a4, .int 2, .ref a5, .int 1, .int 1, .ref a6, .int 6, .int 0, .int 1, .int 0]))] := hD2
  replace hS := hS2
  clear hP2 hD2 hS2
  clear hPc hDc hFc hP1 hD1 hK1 hk1 hz1 hvm ht
  refine W.widen (k := 0) (n := 0) (Nat.le_of_ble_eq_true rfl) (Nat.le_of_ble_eq_true rfl) ?_
  refine lv_istore (lv' := [(6, .int 0), (4, .int 38), (2, .long 2054), (5, .int 6), (0, .ref a0), (1, .int 1)]) hx hb dX6_readOneType_139 hl (by decide) rfl (fun ls hl2 => ?_)
  replace hl := hl2
  clear hl2
  refine lv_aload_n hx hb dX6_readOneType_141 rfl (lv_at hl 4 rfl) ?_
  refine va_get (D := (dC, dI)) (ci := 6) (v := .int 1) (C := RX6) (T := TX6) (N := 9) hx hb hts iw_X6_readOneType_X6 hown hK hP 0 rfl rfl 4 (by decide) (hts _ m_X6_readOneType_2) (fun _ h9 => h9) rfl dX6_readOneType_142 ?_
  refine lv_if_eq (tgt := 168) hx hb dX6_readOneType_145 (by decide) (fun h => absurd h (by decide)) (fun _ => ?_)
  refine lv_iload hx hb dX6_readOneType_148 (lv_at hl 0 rfl) ?_
  refine lv_aload_n hx hb dX6_readOneType_150 rfl (lv_at hl 4 rfl) ?_
  refine va_get (D := (dC, dI)) (ci := 6) (v := .ref a1) (C := RX6) (T := TX6) (N := 9) hx hb hts iw_X6_readOneType_X6 hown hK hP 0 rfl rfl 2 (by decide) (hts _ m_X6_readOneType_3) (fun _ h9 => h9) rfl dX6_readOneType_151 ?_
  refine va_get (D := (dC, dI)) (ci := 5) (v := .int 1) (C := RX5) (T := TX5) (N := 15) hx hb hts iw_X6_readOneType_X5 hown hK hP 1 rfl rfl 9 (by decide) (hts _ m_X6_readOneType_4) (fun _ h9 => h9) rfl dX6_readOneType_154 ?_
  refine lv_icmp_lt (tgt := 168) hx hb dX6_readOneType_157 (by decide) (fun _ => ?_) (fun h => absurd (by decide) h)
  refine lv_lload_n hx hb dX6_readOneType_168 rfl (lv_at hl 2 rfl) ?_
  refine lv_bipush (v := 8) hx hb dX6_readOneType_169 (by decide) ?_
  refine lv_lshl (v := 525824) hx hb dX6_readOneType_171 (by decide) ?_
  refine lv_iload hx hb dX6_readOneType_172 (lv_at hl 0 rfl) ?_
  refine lv_i2l (v := 0) hx hb dX6_readOneType_174 (by decide) ?_
  refine lv_lor hx hb dX6_readOneType_175 ?_
  refine lv_topl (fun z_8 ez_8 => ?_)
  obtain rfl : z_8 = 525824 := ez_8.trans (by decide)
  clear ez_8
  exact W.lret hx hb hr (fun t ht hW => ⟨⟨525824, (), rfl, rfl, by rw [ht]; exact hP, va_K.moved hW.alike hK, hD⟩, hS.F ht⟩) hS.2.2 dX6_readOneType_176

set_option maxHeartbeats 4000000 in
set_option maxRecDepth 100000 in
theorem cc_361_X6_readTypes (l : Launch) (dC : Nat → ClassId) (dI : Nat → Nat → Nat) (cy : Nat → ClassId) (sz : Nat) (cb : Nat) (a0 : Nat) (a1 : Nat) (a2 : Nat) (a3 : Nat) (a4 : Nat) (a5 : Nat) (a6 : Nat) (f0 : Nat → Int64) (f0_0 : f0 0 = 3) : Met l yX6_readTypes wsX6_readTypes ({ frames := 2, cells := 0, slots := 0, locals := 46 }) (va_Pc [.ref a0, .int 1, .int 1] (fun U => U.heap.size = sz ∧ va_P (dC, dI) vwCl [(a0, .inr (6, [.int 0, .int 0, .ref a1, .int 36, .int 1, .int 2, .int 2, .int 1, .ref a3])), (a1, .inr (5, [.ref cb, .int 81, .int 0, .ref a2, .int 5, .ref a4, .int 2, .ref a5, .int 1, .int 1, .ref a6, .int 6, .int 0, .int 1, .int 0])), (a2, .inl (cy 2, 2048, .inr (.inl f0)))] U.heap ∧ va_K (dC, dI) vwCl (TYS cy) U ∧ va_D (fun _ => True) [(a0, .inr (6, [.int 0, .int 0, .ref a1, .int 36, .int 1, .int 2, .int 2, .int 1, .ref a3])), (a1, .inr (5, [.ref cb, .int 81, .int 0, .ref a2, .int 5, .ref a4, .int 2, .ref a5, .int 1, .int 1, .ref a6, .int 6, .int 0, .int 1, .int 0])), (a2, .inl (cy 2, 2048, .inr (.inl f0)))] ∧ NK U ∧ SK cb (va_A [(a0, .inr (6, [.int 0, .int 0, .ref a1, .int 36, .int 1, .int 2, .int 2, .int 1, .ref a3])), (a1, .inr (5, [.ref cb, .int 81, .int 0, .ref a2, .int 5, .ref a4, .int 2, .ref a5, .int 1, .int 1, .ref a6, .int 6, .int 0, .int 1, .int 0])), (a2, .inl (cy 2, 2048, .inr (.inl f0)))] sz) U U.heap)) (va_Qv (fun u : (Nat → Int64) => match u with | (u0) => u0 0 = 3) (fun u t => match u with | (u0) => va_P (dC, dI) vwCl [(a0, .inr (6, [.int 0, .int 0, .ref a1, .int 39, .int 1, .int 2, .int 2, .int 1, .ref a3])), (a1, .inr (5, [.ref cb, .int 81, .int 0, .ref a2, .int 6, .ref a4, .int 2, .ref a5, .int 1, .int 1, .ref a6, .int 6, .int 0, .int 1, .int 0])), (a2, .inl (cy 2, 2048, .inr (.inl u0)))] t.heap ∧ va_K (dC, dI) vwCl (TYS cy) t ∧ va_D (va_A [(a0, .inr (6, [.int 0, .int 0, .ref a1, .int 36, .int 1, .int 2, .int 2, .int 1, .ref a3])), (a1, .inr (5, [.ref cb, .int 81, .int 0, .ref a2, .int 5, .ref a4, .int 2, .ref a5, .int 1, .int 1, .ref a6, .int 6, .int 0, .int 1, .int 0])), (a2, .inl (cy 2, 2048, .inr (.inl f0)))] sz) [(a0, .inr (6, [.int 0, .int 0, .ref a1, .int 39, .int 1, .int 2, .int 2, .int 1, .ref a3])), (a1, .inr (5, [.ref cb, .int 81, .int 0, .ref a2, .int 6, .ref a4, .int 2, .ref a5, .int 1, .int 1, .ref a6, .int 6, .int 0, .int 1, .int 0])), (a2, .inl (cy 2, 2048, .inr (.inl u0)))]) (va_A [(a0, .inr (6, [.int 0, .int 0, .ref a1, .int 36, .int 1, .int 2, .int 2, .int 1, .ref a3])), (a1, .inr (5, [.ref cb, .int 81, .int 0, .ref a2, .int 5, .ref a4, .int 2, .ref a5, .int 1, .int 1, .ref a6, .int 6, .int 0, .int 1, .int 0])), (a2, .inl (cy 2, 2048, .inr (.inl f0)))] sz)) 0 0 (va_A [(a0, .inr (6, [.int 0, .int 0, .ref a1, .int 36, .int 1, .int 2, .int 2, .int 1, .ref a3])), (a1, .inr (5, [.ref cb, .int 81, .int 0, .ref a2, .int 5, .ref a4, .int 2, .ref a5, .int 1, .int 1, .ref a6, .int 6, .int 0, .int 1, .int 0])), (a2, .inl (cy 2, 2048, .inr (.inl f0)))] sz) := by
  refine Met.ofW (cc := cX6_readTypes) (maxL := 4) (ret := none) (by decide) rfl ?_
  intro p e s m args below meth c s₁ B hml hv
  obtain ⟨rfl, hsz, hP, hK, hD0, hN, hSK⟩ := hv
  have hx := B.exec
  have hb := B.bytes
  have hr := B.returns
  have hts := atoms_spec (ws := wsX6_readTypes) B.pre
  have hown : s.vm.findClass RX6 = some m.cls := findClass_of_methodNamed B.named
  have hlocks := B.notSynchronized
  subst hsz
  have hD := hD0.self (sz := s.heap.size)
  generalize hAe : va_A [(a0, .inr (6, [.int 0, .int 0, .ref a1, .int 36, .int 1, .int 2, .int 2, .int 1, .ref a3])), (a1, .inr (5, [.ref cb, .int 81, .int 0, .ref a2, .int 5, .ref a4, .int 2, .ref a5, .int 1, .int 1, .ref a6, .int 6, .int 0, .int 1, .int 0])), (a2, .inl (cy 2, 2048, .inr (.inl f0)))] s.heap.size = A at hD hSK ⊢
  have hA : ∀ q : Nat, s.heap.size ≤ q → A q := fun q h => by rw [← hAe]; exact Or.inr h
  have hS : va_S A s.heap s.heap [] := va_S.rf
  have hP : va_P (dC, dI) vwCl [(a0, .inr (6, [.int 0, .int 0, .ref a1, .int 36, .int 1, .int 2, .int 2, .int 1, .ref a3])), (a1, .inr (5, [.ref cb, .int 81, .int 0, .ref a2, .int 5, .ref a4, .int 2, .ref a5, .int 1, .int 1, .ref a6, .int 6, .int 0, .int 1, .int 0])), (a2, .inl (cy 2, 2048, .inr (.inl f0)))] s.heap := hP
  have hl := lv_entry ([.ref a0, .int 1, .int 1]) (n := 4) (Nat.le_of_ble_eq_true rfl)
  rw [lg_entry_eq]
  generalize (lg_sl ([.ref a0, .int 1, .int 1]) ++ List.replicate (4 - (lg_sl ([.ref a0, .int 1, .int 1])).length) Slot.unset).toArray = ls at hl ⊢
  replace hl : lv_has ls 4 [(0, .ref a0), (1, .int 1), (2, .int 1)] := hl
  refine lv_iconst (v := 0) hx hb dX6_readTypes_0 (by decide) ?_
  refine lv_istore_n (lv' := [(3, .int 0), (0, .ref a0), (1, .int 1), (2, .int 1)]) hx hb dX6_readTypes_1 rfl hl (by decide) rfl (fun ls hl2 => ?_)
  replace hl := hl2
  clear hl2
  refine lv_iload_n hx hb dX6_readTypes_2 rfl (lv_at hl 0 rfl) ?_
  refine lv_iload_n hx hb dX6_readTypes_3 rfl (lv_at hl 2 rfl) ?_
  refine lv_icmp_ge (tgt := 32) hx hb dX6_readTypes_4 (by decide) (fun h => absurd h (by decide)) (fun _ => ?_)
  refine lv_aload_n hx hb dX6_readTypes_7 rfl (lv_at hl 1 rfl) ?_
  refine va_get (D := (dC, dI)) (ci := 6) (v := .int 0) (C := RX6) (T := TX6) (N := 9) hx hb hts iw_X6_readTypes_X6 hown hK hP 0 rfl rfl 1 (by decide) (hts _ m_X6_readTypes_1) (fun _ h9 => h9) rfl dX6_readTypes_8 ?_
  refine lv_if_ne (tgt := 32) hx hb dX6_readTypes_11 (by decide) (fun h => absurd (by decide) h) (fun _ => ?_)
  refine lv_aload_n hx hb dX6_readTypes_14 rfl (lv_at hl 1 rfl) ?_
  refine va_get (D := (dC, dI)) (ci := 6) (v := .ref a1) (C := RX6) (T := TX6) (N := 9) hx hb hts iw_X6_readTypes_X6 hown hK hP 0 rfl rfl 2 (by decide) (hts _ m_X6_readTypes_2) (fun _ h9 => h9) rfl dX6_readTypes_15 ?_
  refine lv_aload_n hx hb dX6_readTypes_18 rfl (lv_at hl 1 rfl) ?_
  refine lv_iload_n hx hb dX6_readTypes_19 rfl (lv_at hl 3 rfl) ?_
  have hPc := hP.sub (ws' := [(a0, .inr (6, [.int 0, .int 0, .ref a1, .int 36, .int 1, .int 2, .int 2, .int 1, .ref a3])), (a1, .inr (5, [.ref cb, .int 81, .int 0, .ref a2, .int 5, .ref a4, .int 2, .ref a5, .int 1, .int 1, .ref a6, .int 6, .int 0, .int 1, .int 0]))]) [0, 1] rfl
  have hDc := hD.sub (ws' := [(a0, .inr (6, [.int 0, .int 0, .ref a1, .int 36, .int 1, .int 2, .int 2, .int 1, .ref a3])), (a1, .inr (5, [.ref cb, .int 81, .int 0, .ref a2, .int 5, .ref a4, .int 2, .ref a5, .int 1, .int 1, .ref a6, .int 6, .int 0, .int 1, .int 0]))]) [0, 1] (by decide) rfl
  have hFc := va_free (wc := [(a0, .inr (6, [.int 0, .int 0, .ref a1, .int 36, .int 1, .int 2, .int 2, .int 1, .ref a3])), (a1, .inr (5, [.ref cb, .int 81, .int 0, .ref a2, .int 5, .ref a4, .int 2, .ref a5, .int 1, .int 1, .ref a6, .int 6, .int 0, .int 1, .int 0]))]) hD hS hA [0, 1] rfl
  refine va_calll (va_runV (As := [.int 1]) (rest := [.ref a1]) ⟨hx, hb, hml, hown, hts⟩ (cc_362_X6_readOneType l dC dI cy s.heap.size cb a0 a1 a3 a2 a4 a5 a6) (cwV 1 hts gX6_readTypes_X6_readOneType rfl rfl rfl (by decide +kernel) ⟨Nat.le_of_ble_eq_true rfl, Nat.le_of_ble_eq_true rfl⟩) ⟨fun a U g mk q => by obtain ⟨q0, q1, qP, qK, qD, qN, qS⟩ := q; exact ⟨q0, q1, qP, va_K.moved (u := U) (U := U.calling g mk a) (Vm.Alike.refl U.vm) qK, qD, qN.same rfl, SK.moved (u := U) (U := U.calling g mk a) (Vm.Alike.refl U.vm) qS⟩, va_recv hK hPc (ci := 6) (q0 := 0) rfl rfl, fun U hU hW => ⟨rfl, by rw [hU], by rw [hU]; exact hPc, va_K.moved hW.alike hK, hDc.weaken (fun _ _ _ _ => trivial), hN.warm hW, by rw [hU]; exact ((hSK.kept hS.2.1).narrow hFc).moved hW.alike⟩⟩ rfl rfl hl.1 rfl (lv_room (Nat.le_of_ble_eq_true rfl)) dX6_readTypes_20 ⟨Nat.le_of_ble_eq_true rfl, Nat.le_of_ble_eq_true rfl⟩) hS (fun q _ h => hFc q h) hFc (fun r_1 u t H_2 locs ht hvm hw hB hz1 hk1 hS2 => ?_)
  obtain ⟨hP1, hK1, hD1⟩ := hB
  rw [ht] at hP1
  obtain rfl := hw
  obtain ⟨hP2, hD2⟩ := va_join (wr := [(a2, .inl (cy 2, 2048, .inr (.inl f0)))]) (w1 := [(a0, .inr (6, [.int 0, .int 0, .ref a1, .int 39, .int 1, .int 2, .int 2, .int 1, .ref a3])), (a1, .inr (5, [.ref cb, .int 81, .int 0, .ref a2, .int 5, .ref a4, .int 2, .ref a5, .int 1, .int 1, .ref a6, .int 6, .int 0, .int 1, .int 0]))]) hP hD [0, 1] [2] rfl rfl (by decide) (by decide) hk1 hFc hP1 hD1
  replace hP : va_P (dC, dI) vwCl [(a2, .inl (cy 2, 2048, .inr (.inl f0))), (a0, .inr (6, [.int 0, .int 0, .ref a1, .int 39, .int 1, .int 2, .int 2, .int 1, .ref a3])), (a1, .inr (5, [.ref cb, .int 81, .int 0, .ref a2, .int 5, .ref a4, .int 2, .ref a5, .int 1, .int 1, .ref a6, .int 6, .int 0, .int 1, .int 0]))] H_2 := hP2
  replace hD : va_D A [(a2, .inl (cy 2, 2048, .inr (.inl f0))), (a0, .inr (6, [.int 0, .int 0, .ref a1, .int 39, .int 1, .int 2, .int 2, .int 1, .ref a3])), (a1, .inr (5, [.ref cb, .int 81, .int 0, .ref a2, .int 5, .ref a4, .int 2, .ref a5, .int 1, .int 1, .ref a6, .int 6, .int 0, .int 1, .int 0]))] := hD2
  replace hS := hS2
  clear hP2 hD2 hS2
  clear hPc hDc hFc hP1 hD1 hK1 hk1 hz1 hvm ht
  refine W.widen (k := 0) (n := 0) (Nat.le_of_ble_eq_true rfl) (Nat.le_of_ble_eq_true rfl) ?_
  have hPc := hP.sub (ws' := [(a1, .inr (5, [.ref cb, .int 81, .int 0, .ref a2, .int 5, .ref a4, .int 2, .ref a5, .int 1, .int 1, .ref a6, .int 6, .int 0, .int 1, .int 0])), (a2, .inl (cy 2, 2048, .inr (.inl f0)))]) [2, 0] rfl
  have hDc := hD.sub (ws' := [(a1, .inr (5, [.ref cb, .int 81, .int 0, .ref a2, .int 5, .ref a4, .int 2, .ref a5, .int 1, .int 1, .ref a6, .int 6, .int 0, .int 1, .int 0])), (a2, .inl (cy 2, 2048, .inr (.inl f0)))]) [2, 0] (by decide) rfl
  have hFc := va_free (wc := [(a1, .inr (5, [.ref cb, .int 81, .int 0, .ref a2, .int 5, .ref a4, .int 2, .ref a5, .int 1, .int 1, .ref a6, .int 6, .int 0, .int 1, .int 0])), (a2, .inl (cy 2, 2048, .inr (.inl f0)))]) hD hS hA [2, 0] rfl
  refine va_callv (va_runV (As := [.long 525824]) (rest := []) ⟨hx, hb, hml, hown, hts⟩ (cc_127_X5_addType l dC dI cy H_2.size cb a1 a2 a4 a5 a6 f0 f0_0) (cwV 1 hts gX6_readTypes_X5_addType rfl rfl rfl (by decide +kernel) ⟨Nat.le_of_ble_eq_true rfl, Nat.le_of_ble_eq_true rfl⟩) ⟨fun a U g mk q => by obtain ⟨q0, q1, qP, qK, qD, qN, qS⟩ := q; exact ⟨q0, q1, qP, va_K.moved (u := U) (U := U.calling g mk a) (Vm.Alike.refl U.vm) qK, qD, qN.same rfl, SK.moved (u := U) (U := U.calling g mk a) (Vm.Alike.refl U.vm) qS⟩, va_recv hK hPc (ci := 5) (q0 := 0) rfl rfl, fun U hU hW => ⟨rfl, by rw [hU], by rw [hU]; exact hPc, va_K.moved hW.alike hK, hDc.weaken (fun _ _ _ _ => trivial), hN.warm hW, by rw [hU]; exact ((hSK.kept hS.2.1).narrow hFc).moved hW.alike⟩⟩ rfl rfl hl.1 rfl (lv_room (Nat.le_of_ble_eq_true rfl)) dX6_readTypes_23 ⟨Nat.le_of_ble_eq_true rfl, Nat.le_of_ble_eq_true rfl⟩) hS (fun q _ h => hFc q h) hFc (fun u t H_3 locs ht hvm hw hB hz1 hk1 hS2 => ?_)
  obtain ⟨g_4, rfl⟩ : ∃ z, z = u := ⟨_, rfl⟩
  obtain ⟨hP1, hK1, hD1⟩ := hB
  rw [ht] at hP1
  have kp_5 := hw
  obtain ⟨hP2, hD2⟩ := va_join (wr := [(a0, .inr (6, [.int 0, .int 0, .ref a1, .int 39, .int 1, .int 2, .int 2, .int 1, .ref a3]))]) (w1 := [(a1, .inr (5, [.ref cb, .int 81, .int 0, .ref a2, .int 6, .ref a4, .int 2, .ref a5, .int 1, .int 1, .ref a6, .int 6, .int 0, .int 1, .int 0])), (a2, .inl (cy 2, 2048, .inr (.inl g_4)))]) hP hD [2, 0] [1] rfl rfl (by decide) (by decide) hk1 hFc hP1 hD1
  replace hP : va_P (dC, dI) vwCl [(a0, .inr (6, [.int 0, .int 0, .ref a1, .int 39, .int 1, .int 2, .int 2, .int 1, .ref a3])), (a1, .inr (5, [.ref cb, .int 81, .int 0, .ref a2, .int 6, .ref a4, .int 2, .ref a5, .int 1, .int 1, .ref a6, .int 6, .int 0, .int 1, .int 0])), (a2, .inl (cy 2, 2048, .inr (.inl g_4)))] H_3 := hP2
  replace hD : va_D A [(a0, .inr (6, [.int 0, .int 0, .ref a1, .int 39, .int 1, .int 2, .int 2, .int 1, .ref a3])), (a1, .inr (5, [.ref cb, .int 81, .int 0, .ref a2, .int 6, .ref a4, .int 2, .ref a5, .int 1, .int 1, .ref a6, .int 6, .int 0, .int 1, .int 0])), (a2, .inl (cy 2, 2048, .inr (.inl g_4)))] := hD2
  replace hS := hS2
  clear hP2 hD2 hS2
  clear hPc hDc hFc hP1 hD1 hK1 hk1 hz1 hvm ht
  refine W.widen (k := 0) (n := 0) (Nat.le_of_ble_eq_true rfl) (Nat.le_of_ble_eq_true rfl) ?_
  refine lv_iinc (v := 1) (lv' := [(3, .int 1), (0, .ref a0), (1, .int 1), (2, .int 1)]) hx hb dX6_readTypes_26 hl (k := 0) rfl (by decide) (by decide) rfl (fun ls hl2 => ?_)
  replace hl := hl2
  clear hl2
  refine lv_goto (tgt := 2) hx hb dX6_readTypes_29 (by decide) ?_
  refine lv_iload_n hx hb dX6_readTypes_2 rfl (lv_at hl 0 rfl) ?_
  refine lv_iload_n hx hb dX6_readTypes_3 rfl (lv_at hl 2 rfl) ?_
  refine lv_icmp_ge (tgt := 32) hx hb dX6_readTypes_4 (by decide) (fun _ => ?_) (fun h => absurd (by decide) h)
  exact W.vret hx hb hr (fun t ht hW => ⟨⟨(g_4), rfl, kp_5, by rw [ht]; exact hP, va_K.moved hW.alike hK, hD⟩, hS.F ht⟩) hS.2.2 dX6_readTypes_32

set_option maxHeartbeats 4000000 in
set_option maxRecDepth 100000 in
theorem cc_358_X6_readList (l : Launch) (dC : Nat → ClassId) (dI : Nat → Nat → Nat) (cy : Nat → ClassId) (sz : Nat) (cb : Nat) (a0 : Nat) (a1 : Nat) (a2 : Nat) (a3 : Nat) (a4 : Nat) (a5 : Nat) (a6 : Nat) (f0 : Nat → Int64) (f0_0 : f0 0 = 3) : Met l yX6_readList wsX6_readList ({ frames := 3, cells := 0, slots := 0, locals := 69 }) (va_Pc [.ref a0, .int 8] (fun U => U.heap.size = sz ∧ va_P (dC, dI) vwCl [(a0, .inr (6, [.int 0, .int 0, .ref a1, .int 35, .int 1, .int 2, .int 2, .int 1, .ref a3])), (a1, .inr (5, [.ref cb, .int 81, .int 0, .ref a2, .int 5, .ref a4, .int 2, .ref a5, .int 1, .int 1, .ref a6, .int 6, .int 0, .int 1, .int 0])), (a2, .inl (cy 2, 2048, .inr (.inl f0)))] U.heap ∧ va_K (dC, dI) vwCl (TYS cy) U ∧ va_D (fun _ => True) [(a0, .inr (6, [.int 0, .int 0, .ref a1, .int 35, .int 1, .int 2, .int 2, .int 1, .ref a3])), (a1, .inr (5, [.ref cb, .int 81, .int 0, .ref a2, .int 5, .ref a4, .int 2, .ref a5, .int 1, .int 1, .ref a6, .int 6, .int 0, .int 1, .int 0])), (a2, .inl (cy 2, 2048, .inr (.inl f0)))] ∧ NK U ∧ SK cb (va_A [(a0, .inr (6, [.int 0, .int 0, .ref a1, .int 35, .int 1, .int 2, .int 2, .int 1, .ref a3])), (a1, .inr (5, [.ref cb, .int 81, .int 0, .ref a2, .int 5, .ref a4, .int 2, .ref a5, .int 1, .int 1, .ref a6, .int 6, .int 0, .int 1, .int 0])), (a2, .inl (cy 2, 2048, .inr (.inl f0)))] sz) U U.heap)) (va_Qi (fun (r : Int32) (u : (Nat → Int64)) => match u with | (u0) => r = 1 ∧ u0 0 = 3) (fun u t => match u with | (u0) => va_P (dC, dI) vwCl [(a0, .inr (6, [.int 0, .int 0, .ref a1, .int 39, .int 1, .int 2, .int 2, .int 1, .ref a3])), (a1, .inr (5, [.ref cb, .int 81, .int 0, .ref a2, .int 6, .ref a4, .int 2, .ref a5, .int 1, .int 1, .ref a6, .int 6, .int 0, .int 1, .int 0])), (a2, .inl (cy 2, 2048, .inr (.inl u0)))] t.heap ∧ va_K (dC, dI) vwCl (TYS cy) t ∧ va_D (va_A [(a0, .inr (6, [.int 0, .int 0, .ref a1, .int 35, .int 1, .int 2, .int 2, .int 1, .ref a3])), (a1, .inr (5, [.ref cb, .int 81, .int 0, .ref a2, .int 5, .ref a4, .int 2, .ref a5, .int 1, .int 1, .ref a6, .int 6, .int 0, .int 1, .int 0])), (a2, .inl (cy 2, 2048, .inr (.inl f0)))] sz) [(a0, .inr (6, [.int 0, .int 0, .ref a1, .int 39, .int 1, .int 2, .int 2, .int 1, .ref a3])), (a1, .inr (5, [.ref cb, .int 81, .int 0, .ref a2, .int 6, .ref a4, .int 2, .ref a5, .int 1, .int 1, .ref a6, .int 6, .int 0, .int 1, .int 0])), (a2, .inl (cy 2, 2048, .inr (.inl u0)))]) (va_A [(a0, .inr (6, [.int 0, .int 0, .ref a1, .int 35, .int 1, .int 2, .int 2, .int 1, .ref a3])), (a1, .inr (5, [.ref cb, .int 81, .int 0, .ref a2, .int 5, .ref a4, .int 2, .ref a5, .int 1, .int 1, .ref a6, .int 6, .int 0, .int 1, .int 0])), (a2, .inl (cy 2, 2048, .inr (.inl f0)))] sz)) 0 0 (va_A [(a0, .inr (6, [.int 0, .int 0, .ref a1, .int 35, .int 1, .int 2, .int 2, .int 1, .ref a3])), (a1, .inr (5, [.ref cb, .int 81, .int 0, .ref a2, .int 5, .ref a4, .int 2, .ref a5, .int 1, .int 1, .ref a6, .int 6, .int 0, .int 1, .int 0])), (a2, .inl (cy 2, 2048, .inr (.inl f0)))] sz) := by
  refine Met.ofW (cc := cX6_readList) (maxL := 3) (ret := (some .int)) (by decide) rfl ?_
  intro p e s m args below meth c s₁ B hml hv
  obtain ⟨rfl, hsz, hP, hK, hD0, hN, hSK⟩ := hv
  have hx := B.exec
  have hb := B.bytes
  have hr := B.returns
  have hts := atoms_spec (ws := wsX6_readList) B.pre
  have hown : s.vm.findClass RX6 = some m.cls := findClass_of_methodNamed B.named
  have hlocks := B.notSynchronized
  subst hsz
  have hD := hD0.self (sz := s.heap.size)
  generalize hAe : va_A [(a0, .inr (6, [.int 0, .int 0, .ref a1, .int 35, .int 1, .int 2, .int 2, .int 1, .ref a3])), (a1, .inr (5, [.ref cb, .int 81, .int 0, .ref a2, .int 5, .ref a4, .int 2, .ref a5, .int 1, .int 1, .ref a6, .int 6, .int 0, .int 1, .int 0])), (a2, .inl (cy 2, 2048, .inr (.inl f0)))] s.heap.size = A at hD hSK ⊢
  have hA : ∀ q : Nat, s.heap.size ≤ q → A q := fun q h => by rw [← hAe]; exact Or.inr h
  have hS : va_S A s.heap s.heap [] := va_S.rf
  have hP : va_P (dC, dI) vwCl [(a0, .inr (6, [.int 0, .int 0, .ref a1, .int 35, .int 1, .int 2, .int 2, .int 1, .ref a3])), (a1, .inr (5, [.ref cb, .int 81, .int 0, .ref a2, .int 5, .ref a4, .int 2, .ref a5, .int 1, .int 1, .ref a6, .int 6, .int 0, .int 1, .int 0])), (a2, .inl (cy 2, 2048, .inr (.inl f0)))] s.heap := hP
  have hl := lv_entry ([.ref a0, .int 8]) (n := 3) (Nat.le_of_ble_eq_true rfl)
  rw [lg_entry_eq]
  generalize (lg_sl ([.ref a0, .int 8]) ++ List.replicate (3 - (lg_sl ([.ref a0, .int 8])).length) Slot.unset).toArray = ls at hl ⊢
  replace hl : lv_has ls 3 [(0, .ref a0), (1, .int 8)] := hl
  refine lv_aload_n hx hb dX6_readList_0 rfl (lv_at hl 0 rfl) ?_
  refine lv_iconst (v := 0) hx hb dX6_readList_1 (by decide) ?_
  refine lv_iload_n hx hb dX6_readList_2 rfl (lv_at hl 1 rfl) ?_
  have hPc := hP.sub (ws' := [(a0, .inr (6, [.int 0, .int 0, .ref a1, .int 35, .int 1, .int 2, .int 2, .int 1, .ref a3])), (a1, .inr (5, [.ref cb, .int 81, .int 0, .ref a2, .int 5, .ref a4, .int 2, .ref a5, .int 1, .int 1, .ref a6, .int 6, .int 0, .int 1, .int 0]))]) [0, 1] rfl
  have hDc := hD.sub (ws' := [(a0, .inr (6, [.int 0, .int 0, .ref a1, .int 35, .int 1, .int 2, .int 2, .int 1, .ref a3])), (a1, .inr (5, [.ref cb, .int 81, .int 0, .ref a2, .int 5, .ref a4, .int 2, .ref a5, .int 1, .int 1, .ref a6, .int 6, .int 0, .int 1, .int 0]))]) [0, 1] (by decide) rfl
  have hFc := va_free (wc := [(a0, .inr (6, [.int 0, .int 0, .ref a1, .int 35, .int 1, .int 2, .int 2, .int 1, .ref a3])), (a1, .inr (5, [.ref cb, .int 81, .int 0, .ref a2, .int 5, .ref a4, .int 2, .ref a5, .int 1, .int 1, .ref a6, .int 6, .int 0, .int 1, .int 0]))]) hD hS hA [0, 1] rfl
  refine va_calli (va_runV (As := [.int 0, .int 8]) (rest := []) ⟨hx, hb, hml, hown, hts⟩ (cc_359_X6_readNumber l dC dI cy s.heap.size cb a0 a1 a3 a2 a4 a5 a6) (cwV 2 hts gX6_readList_X6_readNumber rfl rfl rfl (by decide +kernel) ⟨Nat.le_of_ble_eq_true rfl, Nat.le_of_ble_eq_true rfl⟩) ⟨fun a U g mk q => by obtain ⟨q0, q1, qP, qK, qD, qN, qS⟩ := q; exact ⟨q0, q1, qP, va_K.moved (u := U) (U := U.calling g mk a) (Vm.Alike.refl U.vm) qK, qD, qN.same rfl, SK.moved (u := U) (U := U.calling g mk a) (Vm.Alike.refl U.vm) qS⟩, va_recv hK hPc (ci := 6) (q0 := 0) rfl rfl, fun U hU hW => ⟨rfl, by rw [hU], by rw [hU]; exact hPc, va_K.moved hW.alike hK, hDc.weaken (fun _ _ _ _ => trivial), hN.warm hW, by rw [hU]; exact ((hSK.kept hS.2.1).narrow hFc).moved hW.alike⟩⟩ rfl rfl hl.1 rfl (lv_room (Nat.le_of_ble_eq_true rfl)) dX6_readList_3 ⟨Nat.le_of_ble_eq_true rfl, Nat.le_of_ble_eq_true rfl⟩) hS (fun q _ h => hFc q h) hFc (fun r_1 u t H_2 locs ht hvm hw hB hz1 hk1 hS2 => ?_)
  obtain ⟨hP1, hK1, hD1⟩ := hB
  rw [ht] at hP1
  obtain rfl := hw
  obtain ⟨hP2, hD2⟩ := va_join (wr := [(a2, .inl (cy 2, 2048, .inr (.inl f0)))]) (w1 := [(a0, .inr (6, [.int 0, .int 0, .ref a1, .int 36, .int 1, .int 2, .int 2, .int 1, .ref a3])), (a1, .inr (5, [.ref cb, .int 81, .int 0, .ref a2, .int 5, .ref a4, .int 2, .ref a5, .int 1, .int 1, .ref a6, .int 6, .int 0, .int 1, .int 0]))]) hP hD [0, 1] [2] rfl rfl (by decide) (by decide) hk1 hFc hP1 hD1
  replace hP : va_P (dC, dI) vwCl [(a2, .inl (cy 2, 2048, .inr (.inl f0))), (a0, .inr (6, [.int 0, .int 0, .ref a1, .int 36, .int 1, .int 2, .int 2, .int 1, .ref a3])), (a1, .inr (5, [.ref cb, .int 81, .int 0, .ref a2, .int 5, .ref a4, .int 2, .ref a5, .int 1, .int 1, .ref a6, .int 6, .int 0, .int 1, .int 0]))] H_2 := hP2
  replace hD : va_D A [(a2, .inl (cy 2, 2048, .inr (.inl f0))), (a0, .inr (6, [.int 0, .int 0, .ref a1, .int 36, .int 1, .int 2, .int 2, .int 1, .ref a3])), (a1, .inr (5, [.ref cb, .int 81, .int 0, .ref a2, .int 5, .ref a4, .int 2, .ref a5, .int 1, .int 1, .ref a6, .int 6, .int 0, .int 1, .int 0]))] := hD2
  replace hS := hS2
  clear hP2 hD2 hS2
  clear hPc hDc hFc hP1 hD1 hK1 hk1 hz1 hvm ht
  refine W.widen (k := 0) (n := 0) (Nat.le_of_ble_eq_true rfl) (Nat.le_of_ble_eq_true rfl) ?_
  refine lv_istore_n (lv' := [(2, .int 1), (0, .ref a0), (1, .int 8)]) hx hb dX6_readList_6 rfl hl (by decide) rfl (fun ls hl2 => ?_)
  replace hl := hl2
  clear hl2
  refine lv_aload_n hx hb dX6_readList_7 rfl (lv_at hl 1 rfl) ?_
  refine lv_iload_n hx hb dX6_readList_8 rfl (lv_at hl 0 rfl) ?_
  refine lv_iconst (v := 1) hx hb dX6_readList_9 (by decide) ?_
  have hPc := hP.sub (ws' := [(a0, .inr (6, [.int 0, .int 0, .ref a1, .int 36, .int 1, .int 2, .int 2, .int 1, .ref a3])), (a1, .inr (5, [.ref cb, .int 81, .int 0, .ref a2, .int 5, .ref a4, .int 2, .ref a5, .int 1, .int 1, .ref a6, .int 6, .int 0, .int 1, .int 0])), (a2, .inl (cy 2, 2048, .inr (.inl f0)))]) [1, 2, 0] rfl
  have hDc := hD.sub (ws' := [(a0, .inr (6, [.int 0, .int 0, .ref a1, .int 36, .int 1, .int 2, .int 2, .int 1, .ref a3])), (a1, .inr (5, [.ref cb, .int 81, .int 0, .ref a2, .int 5, .ref a4, .int 2, .ref a5, .int 1, .int 1, .ref a6, .int 6, .int 0, .int 1, .int 0])), (a2, .inl (cy 2, 2048, .inr (.inl f0)))]) [1, 2, 0] (by decide) rfl
  have hFc := va_free (wc := [(a0, .inr (6, [.int 0, .int 0, .ref a1, .int 36, .int 1, .int 2, .int 2, .int 1, .ref a3])), (a1, .inr (5, [.ref cb, .int 81, .int 0, .ref a2, .int 5, .ref a4, .int 2, .ref a5, .int 1, .int 1, .ref a6, .int 6, .int 0, .int 1, .int 0])), (a2, .inl (cy 2, 2048, .inr (.inl f0)))]) hD hS hA [1, 2, 0] rfl
  refine va_callv (va_runV (As := [.int 1, .int 1]) (rest := []) ⟨hx, hb, hml, hown, hts⟩ (cc_361_X6_readTypes l dC dI cy H_2.size cb a0 a1 a2 a3 a4 a5 a6 f0 f0_0) (cwV 2 hts gX6_readList_X6_readTypes rfl rfl rfl (by decide +kernel) ⟨Nat.le_of_ble_eq_true rfl, Nat.le_of_ble_eq_true rfl⟩) ⟨fun a U g mk q => by obtain ⟨q0, q1, qP, qK, qD, qN, qS⟩ := q; exact ⟨q0, q1, qP, va_K.moved (u := U) (U := U.calling g mk a) (Vm.Alike.refl U.vm) qK, qD, qN.same rfl, SK.moved (u := U) (U := U.calling g mk a) (Vm.Alike.refl U.vm) qS⟩, va_recv hK hPc (ci := 6) (q0 := 0) rfl rfl, fun U hU hW => ⟨rfl, by rw [hU], by rw [hU]; exact hPc, va_K.moved hW.alike hK, hDc.weaken (fun _ _ _ _ => trivial), hN.warm hW, by rw [hU]; exact ((hSK.kept hS.2.1).narrow hFc).moved hW.alike⟩⟩ rfl rfl hl.1 rfl (lv_room (Nat.le_of_ble_eq_true rfl)) dX6_readList_10 ⟨Nat.le_of_ble_eq_true rfl, Nat.le_of_ble_eq_true rfl⟩) hS (fun q _ h => hFc q h) hFc (fun u t H_3 locs ht hvm hw hB hz1 hk1 hS2 => ?_)
  obtain ⟨g_4, rfl⟩ : ∃ z, z = u := ⟨_, rfl⟩
  obtain ⟨hP1, hK1, hD1⟩ := hB
  rw [ht] at hP1
  have kp_5 := hw
  obtain ⟨hP2, hD2⟩ := va_join (wr := []) (w1 := [(a0, .inr (6, [.int 0, .int 0, .ref a1, .int 39, .int 1, .int 2, .int 2, .int 1, .ref a3])), (a1, .inr (5, [.ref cb, .int 81, .int 0, .ref a2, .int 6, .ref a4, .int 2, .ref a5, .int 1, .int 1, .ref a6, .int 6, .int 0, .int 1, .int 0])), (a2, .inl (cy 2, 2048, .inr (.inl g_4)))]) hP hD [1, 2, 0] [] rfl rfl (by decide) (by decide) hk1 hFc hP1 hD1
  replace hP : va_P (dC, dI) vwCl [(a0, .inr (6, [.int 0, .int 0, .ref a1, .int 39, .int 1, .int 2, .int 2, .int 1, .ref a3])), (a1, .inr (5, [.ref cb, .int 81, .int 0, .ref a2, .int 6, .ref a4, .int 2, .ref a5, .int 1, .int 1, .ref a6, .int 6, .int 0, .int 1, .int 0])), (a2, .inl (cy 2, 2048, .inr (.inl g_4)))] H_3 := hP2
  replace hD : va_D A [(a0, .inr (6, [.int 0, .int 0, .ref a1, .int 39, .int 1, .int 2, .int 2, .int 1, .ref a3])), (a1, .inr (5, [.ref cb, .int 81, .int 0, .ref a2, .int 6, .ref a4, .int 2, .ref a5, .int 1, .int 1, .ref a6, .int 6, .int 0, .int 1, .int 0])), (a2, .inl (cy 2, 2048, .inr (.inl g_4)))] := hD2
  replace hS := hS2
  clear hP2 hD2 hS2
  clear hPc hDc hFc hP1 hD1 hK1 hk1 hz1 hvm ht
  refine W.widen (k := 0) (n := 0) (Nat.le_of_ble_eq_true rfl) (Nat.le_of_ble_eq_true rfl) ?_
  refine lv_iload_n hx hb dX6_readList_13 rfl (lv_at hl 0 rfl) ?_
  exact W.iret hx hb hr (fun t ht hW => ⟨⟨1, (g_4), rfl, ⟨rfl, kp_5⟩, by rw [ht]; exact hP, va_K.moved hW.alike hK, hD⟩, hS.F ht⟩) hS.2.2 dX6_readList_14

set_option maxHeartbeats 4000000 in
set_option maxRecDepth 100000 in
theorem cc_368_X6_readByte (l : Launch) (dC : Nat → ClassId) (dI : Nat → Nat → Nat) (cy : Nat → ClassId) (sz : Nat) (cb : Nat) (a0 : Nat) (a1 : Nat) (a2 : Nat) (a3 : Nat) (a4 : Nat) (a5 : Nat) (a6 : Nat)  : Met l yX6_readByte wsX6_readByte ({ frames := 0, cells := 0, slots := 0, locals := 0 }) (va_Pc [.ref a0] (fun U => U.heap.size = sz ∧ va_P (dC, dI) vwCl [(a0, .inr (6, [.int 0, .int 0, .ref a1, .int 39, .int 1, .int 2, .int 2, .int 1, .ref a2])), (a1, .inr (5, [.ref cb, .int 81, .int 0, .ref a3, .int 6, .ref a4, .int 2, .ref a5, .int 1, .int 1, .ref a6, .int 6, .int 0, .int 1, .int 0]))] U.heap ∧ va_K (dC, dI) vwCl (TYS cy) U ∧ va_D (fun _ => True) [(a0, .inr (6, [.int 0, .int 0, .ref a1, .int 39, .int 1, .int 2, .int 2, .int 1, .ref a2])), (a1, .inr (5, [.ref cb, .int 81, .int 0, .ref a3, .int 6, .ref a4, .int 2, .ref a5, .int 1, .int 1, .ref a6, .int 6, .int 0, .int 1, .int 0]))] ∧ NK U ∧ SK cb (va_A [(a0, .inr (6, [.int 0, .int 0, .ref a1, .int 39, .int 1, .int 2, .int 2, .int 1, .ref a2])), (a1, .inr (5, [.ref cb, .int 81, .int 0, .ref a3, .int 6, .ref a4, .int 2, .ref a5, .int 1, .int 1, .ref a6, .int 6, .int 0, .int 1, .int 0]))] sz) U U.heap)) (va_Qi (fun (r : Int32) (u : Unit) => r = 1) (fun u t => va_P (dC, dI) vwCl [(a0, .inr (6, [.int 0, .int 0, .ref a1, .int 40, .int 1, .int 2, .int 2, .int 1, .ref a2])), (a1, .inr (5, [.ref cb, .int 81, .int 0, .ref a3, .int 6, .ref a4, .int 2, .ref a5, .int 1, .int 1, .ref a6, .int 6, .int 0, .int 1, .int 0]))] t.heap ∧ va_K (dC, dI) vwCl (TYS cy) t ∧ va_D (va_A [(a0, .inr (6, [.int 0, .int 0, .ref a1, .int 39, .int 1, .int 2, .int 2, .int 1, .ref a2])), (a1, .inr (5, [.ref cb, .int 81, .int 0, .ref a3, .int 6, .ref a4, .int 2, .ref a5, .int 1, .int 1, .ref a6, .int 6, .int 0, .int 1, .int 0]))] sz) [(a0, .inr (6, [.int 0, .int 0, .ref a1, .int 40, .int 1, .int 2, .int 2, .int 1, .ref a2])), (a1, .inr (5, [.ref cb, .int 81, .int 0, .ref a3, .int 6, .ref a4, .int 2, .ref a5, .int 1, .int 1, .ref a6, .int 6, .int 0, .int 1, .int 0]))]) (va_A [(a0, .inr (6, [.int 0, .int 0, .ref a1, .int 39, .int 1, .int 2, .int 2, .int 1, .ref a2])), (a1, .inr (5, [.ref cb, .int 81, .int 0, .ref a3, .int 6, .ref a4, .int 2, .ref a5, .int 1, .int 1, .ref a6, .int 6, .int 0, .int 1, .int 0]))] sz)) 0 0 (va_A [(a0, .inr (6, [.int 0, .int 0, .ref a1, .int 39, .int 1, .int 2, .int 2, .int 1, .ref a2])), (a1, .inr (5, [.ref cb, .int 81, .int 0, .ref a3, .int 6, .ref a4, .int 2, .ref a5, .int 1, .int 1, .ref a6, .int 6, .int 0, .int 1, .int 0]))] sz) := by
  refine Met.ofW (cc := cX6_readByte) (maxL := 1) (ret := (some .int)) (by decide) rfl ?_
  intro p e s m args below meth c s₁ B hml hv
  obtain ⟨rfl, hsz, hP, hK, hD0, hN, hSK⟩ := hv
  have hx := B.exec
  have hb := B.bytes
  have hr := B.returns
  have hts := atoms_spec (ws := wsX6_readByte) B.pre
  have hown : s.vm.findClass RX6 = some m.cls := findClass_of_methodNamed B.named
  have hlocks := B.notSynchronized
  subst hsz
  have hD := hD0.self (sz := s.heap.size)
  generalize hAe : va_A [(a0, .inr (6, [.int 0, .int 0, .ref a1, .int 39, .int 1, .int 2, .int 2, .int 1, .ref a2])), (a1, .inr (5, [.ref cb, .int 81, .int 0, .ref a3, .int 6, .ref a4, .int 2, .ref a5, .int 1, .int 1, .ref a6, .int 6, .int 0, .int 1, .int 0]))] s.heap.size = A at hD hSK ⊢
  have hA : ∀ q : Nat, s.heap.size ≤ q → A q := fun q h => by rw [← hAe]; exact Or.inr h
  have hS : va_S A s.heap s.heap [] := va_S.rf
  have hP : va_P (dC, dI) vwCl [(a0, .inr (6, [.int 0, .int 0, .ref a1, .int 39, .int 1, .int 2, .int 2, .int 1, .ref a2])), (a1, .inr (5, [.ref cb, .int 81, .int 0, .ref a3, .int 6, .ref a4, .int 2, .ref a5, .int 1, .int 1, .ref a6, .int 6, .int 0, .int 1, .int 0]))] s.heap := hP
  have hl := lv_entry ([.ref a0]) (n := 1) (Nat.le_of_ble_eq_true rfl)
  rw [lg_entry_eq]
  generalize (lg_sl ([.ref a0]) ++ List.replicate (1 - (lg_sl ([.ref a0])).length) Slot.unset).toArray = ls at hl ⊢
  replace hl : lv_has ls 1 [(0, .ref a0)] := hl
  refine lv_aload_n hx hb dX6_readByte_0 rfl (lv_at hl 0 rfl) ?_
  refine va_get (D := (dC, dI)) (ci := 6) (v := .int 0) (C := RX6) (T := TX6) (N := 9) hx hb hts iw_X6_readByte_X6 hown hK hP 0 rfl rfl 1 (by decide) (hts _ m_X6_readByte_1) (fun _ h9 => h9) rfl dX6_readByte_1 ?_
  refine lv_if_eq (tgt := 9) hx hb dX6_readByte_4 (by decide) (fun _ => ?_) (fun h => absurd (by decide) h)
  refine lv_aload_n hx hb dX6_readByte_9 rfl (lv_at hl 0 rfl) ?_
  refine va_get (D := (dC, dI)) (ci := 6) (v := .int 39) (C := RX6) (T := TX6) (N := 9) hx hb hts iw_X6_readByte_X6 hown hK hP 0 rfl rfl 3 (by decide) (hts _ m_X6_readByte_2) (fun _ h9 => h9) rfl dX6_readByte_10 ?_
  refine lv_aload_n hx hb dX6_readByte_13 rfl (lv_at hl 0 rfl) ?_
  refine va_get (D := (dC, dI)) (ci := 6) (v := .ref a1) (C := RX6) (T := TX6) (N := 9) hx hb hts iw_X6_readByte_X6 hown hK hP 0 rfl rfl 2 (by decide) (hts _ m_X6_readByte_3) (fun _ h9 => h9) rfl dX6_readByte_14 ?_
  refine va_get (D := (dC, dI)) (ci := 5) (v := .int 81) (C := RX5) (T := TX5) (N := 15) hx hb hts iw_X6_readByte_X5 hown hK hP 1 rfl rfl 1 (by decide) (hts _ m_X6_readByte_4) (fun _ h9 => h9) rfl dX6_readByte_17 ?_
  refine lv_icmp_lt (tgt := 41) hx hb dX6_readByte_20 (by decide) (fun _ => ?_) (fun h => absurd (by decide) h)
  refine lv_aload_n hx hb dX6_readByte_41 rfl (lv_at hl 0 rfl) ?_
  refine va_get (D := (dC, dI)) (ci := 6) (v := .ref a1) (C := RX6) (T := TX6) (N := 9) hx hb hts iw_X6_readByte_X6 hown hK hP 0 rfl rfl 2 (by decide) (hts _ m_X6_readByte_3) (fun _ h9 => h9) rfl dX6_readByte_42 ?_
  refine va_get (D := (dC, dI)) (ci := 5) (v := .ref cb) (C := RX5) (T := TX5) (N := 15) hx hb hts iw_X6_readByte_X5 hown hK hP 1 rfl rfl 0 (by decide) (hts _ m_X6_readByte_6) (fun _ h9 => h9) rfl dX6_readByte_45 ?_
  refine lv_aload_n hx hb dX6_readByte_48 rfl (lv_at hl 0 rfl) ?_
  refine lv_dup hx hb dX6_readByte_49 rfl ?_
  refine va_get (D := (dC, dI)) (ci := 6) (v := .int 39) (C := RX6) (T := TX6) (N := 9) hx hb hts iw_X6_readByte_X6 hown hK hP 0 rfl rfl 3 (by decide) (hts _ m_X6_readByte_2) (fun _ h9 => h9) rfl dX6_readByte_50 ?_
  refine lv_dup_x1 hx hb dX6_readByte_53 rfl rfl ?_
  refine lv_iconst (v := 1) hx hb dX6_readByte_54 (by decide) ?_
  refine lv_iadd hx hb dX6_readByte_55 ?_
  refine lv_topi (fun z_1 ez_1 => ?_)
  obtain rfl : z_1 = 40 := ez_1.trans (by decide)
  clear ez_1
  refine va_put (D := (dC, dI)) (ci := 6) (v := .int 40) (ty := .int) (C := RX6) (T := TX6) (N := 9) hx hb hts iw_X6_readByte_X6 tyX6 tyX6_ok nmX6 hown hK hP hD hS 0 rfl rfl 3 (by decide) (hts _ m_X6_readByte_2) (fun _ h9 => h9) rfl (by decide +kernel) rfl rfl (Nat.le_of_ble_eq_true rfl) dX6_readByte_56 (fun H_2 locs hP2 hD2 hS2 => ?_)
  replace hP : va_P (dC, dI) vwCl [(a0, .inr (6, [.int 0, .int 0, .ref a1, .int 40, .int 1, .int 2, .int 2, .int 1, .ref a2])), (a1, .inr (5, [.ref cb, .int 81, .int 0, .ref a3, .int 6, .ref a4, .int 2, .ref a5, .int 1, .int 1, .ref a6, .int 6, .int 0, .int 1, .int 0]))] H_2 := hP2
  replace hD : va_D A [(a0, .inr (6, [.int 0, .int 0, .ref a1, .int 40, .int 1, .int 2, .int 2, .int 1, .ref a2])), (a1, .inr (5, [.ref cb, .int 81, .int 0, .ref a3, .int 6, .ref a4, .int 2, .ref a5, .int 1, .int 1, .ref a6, .int 6, .int 0, .int 1, .int 0]))] := hD2
  replace hS := hS2
  clear hP2 hD2 hS2
  refine va_tb (v := .int 1) hx hb hSK.2 hS (by unfold vp_in; decide) rfl dX6_readByte_59 ?_
  refine lv_sipush (v := 255) hx hb dX6_readByte_60 (by decide) ?_
  refine lv_iand hx hb dX6_readByte_63 ?_
  refine lv_topi (fun z_3 ez_3 => ?_)
  obtain rfl : z_3 = 1 := ez_3.trans (by decide)
  clear ez_3
  exact W.iret hx hb hr (fun t ht hW => ⟨⟨1, (), rfl, rfl, by rw [ht]; exact hP, va_K.moved hW.alike hK, hD⟩, hS.F ht⟩) hS.2.2 dX6_readByte_64

set_option maxHeartbeats 4000000 in
set_option maxRecDepth 100000 in
theorem cc_367_X6_readNumber (l : Launch) (dC : Nat → ClassId) (dI : Nat → Nat → Nat) (cy : Nat → ClassId) (sz : Nat) (cb : Nat) (a0 : Nat) (a1 : Nat) (a2 : Nat) (a3 : Nat) (a4 : Nat) (a5 : Nat) (a6 : Nat)  : Met l yX6_readNumber wsX6_readNumber ({ frames := 1, cells := 0, slots := 0, locals := 20 }) (va_Pc [.ref a0, .int 0, .int 8] (fun U => U.heap.size = sz ∧ va_P (dC, dI) vwCl [(a0, .inr (6, [.int 0, .int 0, .ref a1, .int 39, .int 1, .int 2, .int 2, .int 1, .ref a2])), (a1, .inr (5, [.ref cb, .int 81, .int 0, .ref a3, .int 6, .ref a4, .int 2, .ref a5, .int 1, .int 1, .ref a6, .int 6, .int 0, .int 1, .int 0]))] U.heap ∧ va_K (dC, dI) vwCl (TYS cy) U ∧ va_D (fun _ => True) [(a0, .inr (6, [.int 0, .int 0, .ref a1, .int 39, .int 1, .int 2, .int 2, .int 1, .ref a2])), (a1, .inr (5, [.ref cb, .int 81, .int 0, .ref a3, .int 6, .ref a4, .int 2, .ref a5, .int 1, .int 1, .ref a6, .int 6, .int 0, .int 1, .int 0]))] ∧ NK U ∧ SK cb (va_A [(a0, .inr (6, [.int 0, .int 0, .ref a1, .int 39, .int 1, .int 2, .int 2, .int 1, .ref a2])), (a1, .inr (5, [.ref cb, .int 81, .int 0, .ref a3, .int 6, .ref a4, .int 2, .ref a5, .int 1, .int 1, .ref a6, .int 6, .int 0, .int 1, .int 0]))] sz) U U.heap)) (va_Qi (fun (r : Int32) (u : Unit) => r = 1) (fun u t => va_P (dC, dI) vwCl [(a0, .inr (6, [.int 0, .int 0, .ref a1, .int 40, .int 1, .int 2, .int 2, .int 1, .ref a2])), (a1, .inr (5, [.ref cb, .int 81, .int 0, .ref a3, .int 6, .ref a4, .int 2, .ref a5, .int 1, .int 1, .ref a6, .int 6, .int 0, .int 1, .int 0]))] t.heap ∧ va_K (dC, dI) vwCl (TYS cy) t ∧ va_D (va_A [(a0, .inr (6, [.int 0, .int 0, .ref a1, .int 39, .int 1, .int 2, .int 2, .int 1, .ref a2])), (a1, .inr (5, [.ref cb, .int 81, .int 0, .ref a3, .int 6, .ref a4, .int 2, .ref a5, .int 1, .int 1, .ref a6, .int 6, .int 0, .int 1, .int 0]))] sz) [(a0, .inr (6, [.int 0, .int 0, .ref a1, .int 40, .int 1, .int 2, .int 2, .int 1, .ref a2])), (a1, .inr (5, [.ref cb, .int 81, .int 0, .ref a3, .int 6, .ref a4, .int 2, .ref a5, .int 1, .int 1, .ref a6, .int 6, .int 0, .int 1, .int 0]))]) (va_A [(a0, .inr (6, [.int 0, .int 0, .ref a1, .int 39, .int 1, .int 2, .int 2, .int 1, .ref a2])), (a1, .inr (5, [.ref cb, .int 81, .int 0, .ref a3, .int 6, .ref a4, .int 2, .ref a5, .int 1, .int 1, .ref a6, .int 6, .int 0, .int 1, .int 0]))] sz)) 0 0 (va_A [(a0, .inr (6, [.int 0, .int 0, .ref a1, .int 39, .int 1, .int 2, .int 2, .int 1, .ref a2])), (a1, .inr (5, [.ref cb, .int 81, .int 0, .ref a3, .int 6, .ref a4, .int 2, .ref a5, .int 1, .int 1, .ref a6, .int 6, .int 0, .int 1, .int 0]))] sz) := by
  refine Met.ofW (cc := cX6_readNumber) (maxL := 5) (ret := (some .int)) (by decide) rfl ?_
  intro p e s m args below meth c s₁ B hml hv
  obtain ⟨rfl, hsz, hP, hK, hD0, hN, hSK⟩ := hv
  have hx := B.exec
  have hb := B.bytes
  have hr := B.returns
  have hts := atoms_spec (ws := wsX6_readNumber) B.pre
  have hown : s.vm.findClass RX6 = some m.cls := findClass_of_methodNamed B.named
  have hlocks := B.notSynchronized
  subst hsz
  have hD := hD0.self (sz := s.heap.size)
  generalize hAe : va_A [(a0, .inr (6, [.int 0, .int 0, .ref a1, .int 39, .int 1, .int 2, .int 2, .int 1, .ref a2])), (a1, .inr (5, [.ref cb, .int 81, .int 0, .ref a3, .int 6, .ref a4, .int 2, .ref a5, .int 1, .int 1, .ref a6, .int 6, .int 0, .int 1, .int 0]))] s.heap.size = A at hD hSK ⊢
  have hA : ∀ q : Nat, s.heap.size ≤ q → A q := fun q h => by rw [← hAe]; exact Or.inr h
  have hS : va_S A s.heap s.heap [] := va_S.rf
  have hP : va_P (dC, dI) vwCl [(a0, .inr (6, [.int 0, .int 0, .ref a1, .int 39, .int 1, .int 2, .int 2, .int 1, .ref a2])), (a1, .inr (5, [.ref cb, .int 81, .int 0, .ref a3, .int 6, .ref a4, .int 2, .ref a5, .int 1, .int 1, .ref a6, .int 6, .int 0, .int 1, .int 0]))] s.heap := hP
  have hl := lv_entry ([.ref a0, .int 0, .int 8]) (n := 5) (Nat.le_of_ble_eq_true rfl)
  rw [lg_entry_eq]
  generalize (lg_sl ([.ref a0, .int 0, .int 8]) ++ List.replicate (5 - (lg_sl ([.ref a0, .int 0, .int 8])).length) Slot.unset).toArray = ls at hl ⊢
  replace hl : lv_has ls 5 [(0, .ref a0), (1, .int 0), (2, .int 8)] := hl
  refine lv_aload_n hx hb dX6_readNumber_0 rfl (lv_at hl 0 rfl) ?_
  refine va_get (D := (dC, dI)) (ci := 6) (v := .int 39) (C := RX6) (T := TX6) (N := 9) hx hb hts iw_X6_readNumber_X6 hown hK hP 0 rfl rfl 3 (by decide) (hts _ m_X6_readNumber_1) (fun _ h9 => h9) rfl dX6_readNumber_1 ?_
  refine lv_istore_n (lv' := [(3, .int 39), (0, .ref a0), (1, .int 0), (2, .int 8)]) hx hb dX6_readNumber_4 rfl hl (by decide) rfl (fun ls hl2 => ?_)
  replace hl := hl2
  clear hl2
  refine lv_aload_n hx hb dX6_readNumber_5 rfl (lv_at hl 1 rfl) ?_
  have hPc := hP.sub (ws' := [(a0, .inr (6, [.int 0, .int 0, .ref a1, .int 39, .int 1, .int 2, .int 2, .int 1, .ref a2])), (a1, .inr (5, [.ref cb, .int 81, .int 0, .ref a3, .int 6, .ref a4, .int 2, .ref a5, .int 1, .int 1, .ref a6, .int 6, .int 0, .int 1, .int 0]))]) [0, 1] rfl
  have hDc := hD.sub (ws' := [(a0, .inr (6, [.int 0, .int 0, .ref a1, .int 39, .int 1, .int 2, .int 2, .int 1, .ref a2])), (a1, .inr (5, [.ref cb, .int 81, .int 0, .ref a3, .int 6, .ref a4, .int 2, .ref a5, .int 1, .int 1, .ref a6, .int 6, .int 0, .int 1, .int 0]))]) [0, 1] (by decide) rfl
  have hFc := va_free (wc := [(a0, .inr (6, [.int 0, .int 0, .ref a1, .int 39, .int 1, .int 2, .int 2, .int 1, .ref a2])), (a1, .inr (5, [.ref cb, .int 81, .int 0, .ref a3, .int 6, .ref a4, .int 2, .ref a5, .int 1, .int 1, .ref a6, .int 6, .int 0, .int 1, .int 0]))]) hD hS hA [0, 1] rfl
  refine va_calli (va_runV (As := []) (rest := []) ⟨hx, hb, hml, hown, hts⟩ (cc_368_X6_readByte l dC dI cy s.heap.size cb a0 a1 a2 a3 a4 a5 a6) (cwV 0 hts gX6_readNumber_X6_readByte rfl rfl rfl (by decide +kernel) ⟨Nat.le_of_ble_eq_true rfl, Nat.le_of_ble_eq_true rfl⟩) ⟨fun a U g mk q => by obtain ⟨q0, q1, qP, qK, qD, qN, qS⟩ := q; exact ⟨q0, q1, qP, va_K.moved (u := U) (U := U.calling g mk a) (Vm.Alike.refl U.vm) qK, qD, qN.same rfl, SK.moved (u := U) (U := U.calling g mk a) (Vm.Alike.refl U.vm) qS⟩, va_recv hK hPc (ci := 6) (q0 := 0) rfl rfl, fun U hU hW => ⟨rfl, by rw [hU], by rw [hU]; exact hPc, va_K.moved hW.alike hK, hDc.weaken (fun _ _ _ _ => trivial), hN.warm hW, by rw [hU]; exact ((hSK.kept hS.2.1).narrow hFc).moved hW.alike⟩⟩ rfl rfl hl.1 rfl (lv_room (Nat.le_of_ble_eq_true rfl)) dX6_readNumber_6 ⟨Nat.le_of_ble_eq_true rfl, Nat.le_of_ble_eq_true rfl⟩) hS (fun q _ h => hFc q h) hFc (fun r_1 u t H_2 locs ht hvm hw hB hz1 hk1 hS2 => ?_)
  obtain ⟨hP1, hK1, hD1⟩ := hB
  rw [ht] at hP1
  obtain rfl := hw
  obtain ⟨hP2, hD2⟩ := va_join (wr := []) (w1 := [(a0, .inr (6, [.int 0, .int 0, .ref a1, .int 40, .int 1, .int 2, .int 2, .int 1, .ref a2])), (a1, .inr (5, [.ref cb, .int 81, .int 0, .ref a3, .int 6, .ref a4, .int 2, .ref a5, .int 1, .int 1, .ref a6, .int 6, .int 0, .int 1, .int 0]))]) hP hD [0, 1] [] rfl rfl (by decide) (by decide) hk1 hFc hP1 hD1
  replace hP : va_P (dC, dI) vwCl [(a0, .inr (6, [.int 0, .int 0, .ref a1, .int 40, .int 1, .int 2, .int 2, .int 1, .ref a2])), (a1, .inr (5, [.ref cb, .int 81, .int 0, .ref a3, .int 6, .ref a4, .int 2, .ref a5, .int 1, .int 1, .ref a6, .int 6, .int 0, .int 1, .int 0]))] H_2 := hP2
  replace hD : va_D A [(a0, .inr (6, [.int 0, .int 0, .ref a1, .int 40, .int 1, .int 2, .int 2, .int 1, .ref a2])), (a1, .inr (5, [.ref cb, .int 81, .int 0, .ref a3, .int 6, .ref a4, .int 2, .ref a5, .int 1, .int 1, .ref a6, .int 6, .int 0, .int 1, .int 0]))] := hD2
  replace hS := hS2
  clear hP2 hD2 hS2
  clear hPc hDc hFc hP1 hD1 hK1 hk1 hz1 hvm ht
  refine W.widen (k := 0) (n := 0) (Nat.le_of_ble_eq_true rfl) (Nat.le_of_ble_eq_true rfl) ?_
  refine lv_istore (lv' := [(4, .int 1), (3, .int 39), (0, .ref a0), (1, .int 0), (2, .int 8)]) hx hb dX6_readNumber_9 hl (by decide) rfl (fun ls hl2 => ?_)
  replace hl := hl2
  clear hl2
  refine lv_iload hx hb dX6_readNumber_11 (lv_at hl 0 rfl) ?_
  refine lv_iload_n hx hb dX6_readNumber_13 rfl (lv_at hl 3 rfl) ?_
  refine lv_icmp_lt (tgt := 23) hx hb dX6_readNumber_14 (by decide) (fun h => absurd h (by decide)) (fun _ => ?_)
  refine lv_iload hx hb dX6_readNumber_17 (lv_at hl 0 rfl) ?_
  refine lv_iload_n hx hb dX6_readNumber_19 rfl (lv_at hl 4 rfl) ?_
  refine lv_icmp_le (tgt := 29) hx hb dX6_readNumber_20 (by decide) (fun _ => ?_) (fun h => absurd (by decide) h)
  refine lv_aload_n hx hb dX6_readNumber_29 rfl (lv_at hl 2 rfl) ?_
  refine va_get (D := (dC, dI)) (ci := 6) (v := .int 0) (C := RX6) (T := TX6) (N := 9) hx hb hts iw_X6_readNumber_X6 hown hK hP 0 rfl rfl 1 (by decide) (hts _ m_X6_readNumber_2) (fun _ h9 => h9) rfl dX6_readNumber_30 ?_
  refine lv_if_ne (tgt := 41) hx hb dX6_readNumber_33 (by decide) (fun h => absurd (by decide) h) (fun _ => ?_)
  refine lv_iload hx hb dX6_readNumber_36 (lv_at hl 0 rfl) ?_
  refine lv_goto (tgt := 42) hx hb dX6_readNumber_38 (by decide) ?_
  exact W.iret hx hb hr (fun t ht hW => ⟨⟨1, (), rfl, rfl, by rw [ht]; exact hP, va_K.moved hW.alike hK, hD⟩, hS.F ht⟩) hS.2.2 dX6_readNumber_42

set_option maxHeartbeats 4000000 in
set_option maxRecDepth 100000 in
theorem cc_371_X6_readByte (l : Launch) (dC : Nat → ClassId) (dI : Nat → Nat → Nat) (cy : Nat → ClassId) (sz : Nat) (cb : Nat) (a0 : Nat) (a1 : Nat) (a2 : Nat) (a3 : Nat) (a4 : Nat) (a5 : Nat) (a6 : Nat)  : Met l yX6_readByte wsX6_readByte ({ frames := 0, cells := 0, slots := 0, locals := 0 }) (va_Pc [.ref a0] (fun U => U.heap.size = sz ∧ va_P (dC, dI) vwCl [(a0, .inr (6, [.int 0, .int 0, .ref a1, .int 40, .int 1, .int 2, .int 2, .int 1, .ref a2])), (a1, .inr (5, [.ref cb, .int 81, .int 0, .ref a3, .int 6, .ref a4, .int 2, .ref a5, .int 1, .int 1, .ref a6, .int 6, .int 0, .int 1, .int 0]))] U.heap ∧ va_K (dC, dI) vwCl (TYS cy) U ∧ va_D (fun _ => True) [(a0, .inr (6, [.int 0, .int 0, .ref a1, .int 40, .int 1, .int 2, .int 2, .int 1, .ref a2])), (a1, .inr (5, [.ref cb, .int 81, .int 0, .ref a3, .int 6, .ref a4, .int 2, .ref a5, .int 1, .int 1, .ref a6, .int 6, .int 0, .int 1, .int 0]))] ∧ NK U ∧ SK cb (va_A [(a0, .inr (6, [.int 0, .int 0, .ref a1, .int 40, .int 1, .int 2, .int 2, .int 1, .ref a2])), (a1, .inr (5, [.ref cb, .int 81, .int 0, .ref a3, .int 6, .ref a4, .int 2, .ref a5, .int 1, .int 1, .ref a6, .int 6, .int 0, .int 1, .int 0]))] sz) U U.heap)) (va_Qi (fun (r : Int32) (u : Unit) => r = 3) (fun u t => va_P (dC, dI) vwCl [(a0, .inr (6, [.int 0, .int 0, .ref a1, .int 41, .int 1, .int 2, .int 2, .int 1, .ref a2])), (a1, .inr (5, [.ref cb, .int 81, .int 0, .ref a3, .int 6, .ref a4, .int 2, .ref a5, .int 1, .int 1, .ref a6, .int 6, .int 0, .int 1, .int 0]))] t.heap ∧ va_K (dC, dI) vwCl (TYS cy) t ∧ va_D (va_A [(a0, .inr (6, [.int 0, .int 0, .ref a1, .int 40, .int 1, .int 2, .int 2, .int 1, .ref a2])), (a1, .inr (5, [.ref cb, .int 81, .int 0, .ref a3, .int 6, .ref a4, .int 2, .ref a5, .int 1, .int 1, .ref a6, .int 6, .int 0, .int 1, .int 0]))] sz) [(a0, .inr (6, [.int 0, .int 0, .ref a1, .int 41, .int 1, .int 2, .int 2, .int 1, .ref a2])), (a1, .inr (5, [.ref cb, .int 81, .int 0, .ref a3, .int 6, .ref a4, .int 2, .ref a5, .int 1, .int 1, .ref a6, .int 6, .int 0, .int 1, .int 0]))]) (va_A [(a0, .inr (6, [.int 0, .int 0, .ref a1, .int 40, .int 1, .int 2, .int 2, .int 1, .ref a2])), (a1, .inr (5, [.ref cb, .int 81, .int 0, .ref a3, .int 6, .ref a4, .int 2, .ref a5, .int 1, .int 1, .ref a6, .int 6, .int 0, .int 1, .int 0]))] sz)) 0 0 (va_A [(a0, .inr (6, [.int 0, .int 0, .ref a1, .int 40, .int 1, .int 2, .int 2, .int 1, .ref a2])), (a1, .inr (5, [.ref cb, .int 81, .int 0, .ref a3, .int 6, .ref a4, .int 2, .ref a5, .int 1, .int 1, .ref a6, .int 6, .int 0, .int 1, .int 0]))] sz) := by
  refine Met.ofW (cc := cX6_readByte) (maxL := 1) (ret := (some .int)) (by decide) rfl ?_
  intro p e s m args below meth c s₁ B hml hv
  obtain ⟨rfl, hsz, hP, hK, hD0, hN, hSK⟩ := hv
  have hx := B.exec
  have hb := B.bytes
  have hr := B.returns
  have hts := atoms_spec (ws := wsX6_readByte) B.pre
  have hown : s.vm.findClass RX6 = some m.cls := findClass_of_methodNamed B.named
  have hlocks := B.notSynchronized
  subst hsz
  have hD := hD0.self (sz := s.heap.size)
  generalize hAe : va_A [(a0, .inr (6, [.int 0, .int 0, .ref a1, .int 40, .int 1, .int 2, .int 2, .int 1, .ref a2])), (a1, .inr (5, [.ref cb, .int 81, .int 0, .ref a3, .int 6, .ref a4, .int 2, .ref a5, .int 1, .int 1, .ref a6, .int 6, .int 0, .int 1, .int 0]))] s.heap.size = A at hD hSK ⊢
  have hA : ∀ q : Nat, s.heap.size ≤ q → A q := fun q h => by rw [← hAe]; exact Or.inr h
  have hS : va_S A s.heap s.heap [] := va_S.rf
  have hP : va_P (dC, dI) vwCl [(a0, .inr (6, [.int 0, .int 0, .ref a1, .int 40, .int 1, .int 2, .int 2, .int 1, .ref a2])), (a1, .inr (5, [.ref cb, .int 81, .int 0, .ref a3, .int 6, .ref a4, .int 2, .ref a5, .int 1, .int 1, .ref a6, .int 6, .int 0, .int 1, .int 0]))] s.heap := hP
  have hl := lv_entry ([.ref a0]) (n := 1) (Nat.le_of_ble_eq_true rfl)
  rw [lg_entry_eq]
  generalize (lg_sl ([.ref a0]) ++ List.replicate (1 - (lg_sl ([.ref a0])).length) Slot.unset).toArray = ls at hl ⊢
  replace hl : lv_has ls 1 [(0, .ref a0)] := hl
  refine lv_aload_n hx hb dX6_readByte_0 rfl (lv_at hl 0 rfl) ?_
  refine va_get (D := (dC, dI)) (ci := 6) (v := .int 0) (C := RX6) (T := TX6) (N := 9) hx hb hts iw_X6_readByte_X6 hown hK hP 0 rfl rfl 1 (by decide) (hts _ m_X6_readByte_1) (fun _ h9 => h9) rfl dX6_readByte_1 ?_
  refine lv_if_eq (tgt := 9) hx hb dX6_readByte_4 (by decide) (fun _ => ?_) (fun h => absurd (by decide) h)
  refine lv_aload_n hx hb dX6_readByte_9 rfl (lv_at hl 0 rfl) ?_
  refine va_get (D := (dC, dI)) (ci := 6) (v := .int 40) (C := RX6) (T := TX6) (N := 9) hx hb hts iw_X6_readByte_X6 hown hK hP 0 rfl rfl 3 (by decide) (hts _ m_X6_readByte_2) (fun _ h9 => h9) rfl dX6_readByte_10 ?_
  refine lv_aload_n hx hb dX6_readByte_13 rfl (lv_at hl 0 rfl) ?_
  refine va_get (D := (dC, dI)) (ci := 6) (v := .ref a1) (C := RX6) (T := TX6) (N := 9) hx hb hts iw_X6_readByte_X6 hown hK hP 0 rfl rfl 2 (by decide) (hts _ m_X6_readByte_3) (fun _ h9 => h9) rfl dX6_readByte_14 ?_
  refine va_get (D := (dC, dI)) (ci := 5) (v := .int 81) (C := RX5) (T := TX5) (N := 15) hx hb hts iw_X6_readByte_X5 hown hK hP 1 rfl rfl 1 (by decide) (hts _ m_X6_readByte_4) (fun _ h9 => h9) rfl dX6_readByte_17 ?_
  refine lv_icmp_lt (tgt := 41) hx hb dX6_readByte_20 (by decide) (fun _ => ?_) (fun h => absurd (by decide) h)
  refine lv_aload_n hx hb dX6_readByte_41 rfl (lv_at hl 0 rfl) ?_
  refine va_get (D := (dC, dI)) (ci := 6) (v := .ref a1) (C := RX6) (T := TX6) (N := 9) hx hb hts iw_X6_readByte_X6 hown hK hP 0 rfl rfl 2 (by decide) (hts _ m_X6_readByte_3) (fun _ h9 => h9) rfl dX6_readByte_42 ?_
  refine va_get (D := (dC, dI)) (ci := 5) (v := .ref cb) (C := RX5) (T := TX5) (N := 15) hx hb hts iw_X6_readByte_X5 hown hK hP 1 rfl rfl 0 (by decide) (hts _ m_X6_readByte_6) (fun _ h9 => h9) rfl dX6_readByte_45 ?_
  refine lv_aload_n hx hb dX6_readByte_48 rfl (lv_at hl 0 rfl) ?_
  refine lv_dup hx hb dX6_readByte_49 rfl ?_
  refine va_get (D := (dC, dI)) (ci := 6) (v := .int 40) (C := RX6) (T := TX6) (N := 9) hx hb hts iw_X6_readByte_X6 hown hK hP 0 rfl rfl 3 (by decide) (hts _ m_X6_readByte_2) (fun _ h9 => h9) rfl dX6_readByte_50 ?_
  refine lv_dup_x1 hx hb dX6_readByte_53 rfl rfl ?_
  refine lv_iconst (v := 1) hx hb dX6_readByte_54 (by decide) ?_
  refine lv_iadd hx hb dX6_readByte_55 ?_
  refine lv_topi (fun z_1 ez_1 => ?_)
  obtain rfl : z_1 = 41 := ez_1.trans (by decide)
  clear ez_1
  refine va_put (D := (dC, dI)) (ci := 6) (v := .int 41) (ty := .int) (C := RX6) (T := TX6) (N := 9) hx hb hts iw_X6_readByte_X6 tyX6 tyX6_ok nmX6 hown hK hP hD hS 0 rfl rfl 3 (by decide) (hts _ m_X6_readByte_2) (fun _ h9 => h9) rfl (by decide +kernel) rfl rfl (Nat.le_of_ble_eq_true rfl) dX6_readByte_56 (fun H_2 locs hP2 hD2 hS2 => ?_)
  replace hP : va_P (dC, dI) vwCl [(a0, .inr (6, [.int 0, .int 0, .ref a1, .int 41, .int 1, .int 2, .int 2, .int 1, .ref a2])), (a1, .inr (5, [.ref cb, .int 81, .int 0, .ref a3, .int 6, .ref a4, .int 2, .ref a5, .int 1, .int 1, .ref a6, .int 6, .int 0, .int 1, .int 0]))] H_2 := hP2
  replace hD : va_D A [(a0, .inr (6, [.int 0, .int 0, .ref a1, .int 41, .int 1, .int 2, .int 2, .int 1, .ref a2])), (a1, .inr (5, [.ref cb, .int 81, .int 0, .ref a3, .int 6, .ref a4, .int 2, .ref a5, .int 1, .int 1, .ref a6, .int 6, .int 0, .int 1, .int 0]))] := hD2
  replace hS := hS2
  clear hP2 hD2 hS2
  refine va_tb (v := .int 3) hx hb hSK.2 hS (by unfold vp_in; decide) rfl dX6_readByte_59 ?_
  refine lv_sipush (v := 255) hx hb dX6_readByte_60 (by decide) ?_
  refine lv_iand hx hb dX6_readByte_63 ?_
  refine lv_topi (fun z_3 ez_3 => ?_)
  obtain rfl : z_3 = 3 := ez_3.trans (by decide)
  clear ez_3
  exact W.iret hx hb hr (fun t ht hW => ⟨⟨3, (), rfl, rfl, by rw [ht]; exact hP, va_K.moved hW.alike hK, hD⟩, hS.F ht⟩) hS.2.2 dX6_readByte_64

set_option maxHeartbeats 4000000 in
set_option maxRecDepth 100000 in
theorem cc_370_X6_readOneType (l : Launch) (dC : Nat → ClassId) (dI : Nat → Nat → Nat) (cy : Nat → ClassId) (sz : Nat) (cb : Nat) (a0 : Nat) (a1 : Nat) (a2 : Nat) (a3 : Nat) (a4 : Nat) (a5 : Nat) (a6 : Nat)  : Met l yX6_readOneType wsX6_readOneType ({ frames := 1, cells := 0, slots := 0, locals := 20 }) (va_Pc [.ref a0, .int 1] (fun U => U.heap.size = sz ∧ va_P (dC, dI) vwCl [(a0, .inr (6, [.int 0, .int 0, .ref a1, .int 40, .int 1, .int 2, .int 2, .int 1, .ref a2])), (a1, .inr (5, [.ref cb, .int 81, .int 0, .ref a3, .int 6, .ref a4, .int 2, .ref a5, .int 1, .int 1, .ref a6, .int 6, .int 0, .int 1, .int 0]))] U.heap ∧ va_K (dC, dI) vwCl (TYS cy) U ∧ va_D (fun _ => True) [(a0, .inr (6, [.int 0, .int 0, .ref a1, .int 40, .int 1, .int 2, .int 2, .int 1, .ref a2])), (a1, .inr (5, [.ref cb, .int 81, .int 0, .ref a3, .int 6, .ref a4, .int 2, .ref a5, .int 1, .int 1, .ref a6, .int 6, .int 0, .int 1, .int 0]))] ∧ NK U ∧ SK cb (va_A [(a0, .inr (6, [.int 0, .int 0, .ref a1, .int 40, .int 1, .int 2, .int 2, .int 1, .ref a2])), (a1, .inr (5, [.ref cb, .int 81, .int 0, .ref a3, .int 6, .ref a4, .int 2, .ref a5, .int 1, .int 1, .ref a6, .int 6, .int 0, .int 1, .int 0]))] sz) U U.heap)) (va_Ql (fun (r : Int64) (u : Unit) => r = 3) (fun u t => va_P (dC, dI) vwCl [(a0, .inr (6, [.int 0, .int 0, .ref a1, .int 41, .int 1, .int 2, .int 2, .int 1, .ref a2])), (a1, .inr (5, [.ref cb, .int 81, .int 0, .ref a3, .int 6, .ref a4, .int 2, .ref a5, .int 1, .int 1, .ref a6, .int 6, .int 0, .int 1, .int 0]))] t.heap ∧ va_K (dC, dI) vwCl (TYS cy) t ∧ va_D (va_A [(a0, .inr (6, [.int 0, .int 0, .ref a1, .int 40, .int 1, .int 2, .int 2, .int 1, .ref a2])), (a1, .inr (5, [.ref cb, .int 81, .int 0, .ref a3, .int 6, .ref a4, .int 2, .ref a5, .int 1, .int 1, .ref a6, .int 6, .int 0, .int 1, .int 0]))] sz) [(a0, .inr (6, [.int 0, .int 0, .ref a1, .int 41, .int 1, .int 2, .int 2, .int 1, .ref a2])), (a1, .inr (5, [.ref cb, .int 81, .int 0, .ref a3, .int 6, .ref a4, .int 2, .ref a5, .int 1, .int 1, .ref a6, .int 6, .int 0, .int 1, .int 0]))]) (va_A [(a0, .inr (6, [.int 0, .int 0, .ref a1, .int 40, .int 1, .int 2, .int 2, .int 1, .ref a2])), (a1, .inr (5, [.ref cb, .int 81, .int 0, .ref a3, .int 6, .ref a4, .int 2, .ref a5, .int 1, .int 1, .ref a6, .int 6, .int 0, .int 1, .int 0]))] sz)) 0 0 (va_A [(a0, .inr (6, [.int 0, .int 0, .ref a1, .int 40, .int 1, .int 2, .int 2, .int 1, .ref a2])), (a1, .inr (5, [.ref cb, .int 81, .int 0, .ref a3, .int 6, .ref a4, .int 2, .ref a5, .int 1, .int 1, .ref a6, .int 6, .int 0, .int 1, .int 0]))] sz) := by
  refine Met.ofW (cc := cX6_readOneType) (maxL := 7) (ret := (some .long)) (by decide) rfl ?_
  intro p e s m args below meth c s₁ B hml hv
  obtain ⟨rfl, hsz, hP, hK, hD0, hN, hSK⟩ := hv
  have hx := B.exec
  have hb := B.bytes
  have hr := B.returns
  have hts := atoms_spec (ws := wsX6_readOneType) B.pre
  have hown : s.vm.findClass RX6 = some m.cls := findClass_of_methodNamed B.named
  have hlocks := B.notSynchronized
  subst hsz
  have hD := hD0.self (sz := s.heap.size)
  generalize hAe : va_A [(a0, .inr (6, [.int 0, .int 0, .ref a1, .int 40, .int 1, .int 2, .int 2, .int 1, .ref a2])), (a1, .inr (5, [.ref cb, .int 81, .int 0, .ref a3, .int 6, .ref a4, .int 2, .ref a5, .int 1, .int 1, .ref a6, .int 6, .int 0, .int 1, .int 0]))] s.heap.size = A at hD hSK ⊢
  have hA : ∀ q : Nat, s.heap.size ≤ q → A q := fun q h => by rw [← hAe]; exact Or.inr h
  have hS : va_S A s.heap s.heap [] := va_S.rf
  have hP : va_P (dC, dI) vwCl [(a0, .inr (6, [.int 0, .int 0, .ref a1, .int 40, .int 1, .int 2, .int 2, .int 1, .ref a2])), (a1, .inr (5, [.ref cb, .int 81, .int 0, .ref a3, .int 6, .ref a4, .int 2, .ref a5, .int 1, .int 1, .ref a6, .int 6, .int 0, .int 1, .int 0]))] s.heap := hP
  have hl := lv_entry ([.ref a0, .int 1]) (n := 7) (Nat.le_of_ble_eq_true rfl)
  rw [lg_entry_eq]
  generalize (lg_sl ([.ref a0, .int 1]) ++ List.replicate (7 - (lg_sl ([.ref a0, .int 1])).length) Slot.unset).toArray = ls at hl ⊢
  replace hl : lv_has ls 7 [(0, .ref a0), (1, .int 1)] := hl
  refine lv_lconst (v := 0) hx hb dX6_readOneType_0 (by decide) ?_
  refine lv_lstore_n (lv' := [(2, .long 0), (0, .ref a0), (1, .int 1)]) hx hb dX6_readOneType_1 rfl hl (by decide) rfl (fun ls hl2 => ?_)
  replace hl := hl2
  clear hl2
  refine lv_aload_n hx hb dX6_readOneType_2 rfl (lv_at hl 1 rfl) ?_
  refine va_get (D := (dC, dI)) (ci := 6) (v := .int 40) (C := RX6) (T := TX6) (N := 9) hx hb hts iw_X6_readOneType_X6 hown hK hP 0 rfl rfl 3 (by decide) (hts _ m_X6_readOneType_1) (fun _ h9 => h9) rfl dX6_readOneType_3 ?_
  refine lv_istore (lv' := [(4, .int 40), (2, .long 0), (0, .ref a0), (1, .int 1)]) hx hb dX6_readOneType_6 hl (by decide) rfl (fun ls hl2 => ?_)
  replace hl := hl2
  clear hl2
  refine lv_aload_n hx hb dX6_readOneType_8 rfl (lv_at hl 2 rfl) ?_
  have hPc := hP.sub (ws' := [(a0, .inr (6, [.int 0, .int 0, .ref a1, .int 40, .int 1, .int 2, .int 2, .int 1, .ref a2])), (a1, .inr (5, [.ref cb, .int 81, .int 0, .ref a3, .int 6, .ref a4, .int 2, .ref a5, .int 1, .int 1, .ref a6, .int 6, .int 0, .int 1, .int 0]))]) [0, 1] rfl
  have hDc := hD.sub (ws' := [(a0, .inr (6, [.int 0, .int 0, .ref a1, .int 40, .int 1, .int 2, .int 2, .int 1, .ref a2])), (a1, .inr (5, [.ref cb, .int 81, .int 0, .ref a3, .int 6, .ref a4, .int 2, .ref a5, .int 1, .int 1, .ref a6, .int 6, .int 0, .int 1, .int 0]))]) [0, 1] (by decide) rfl
  have hFc := va_free (wc := [(a0, .inr (6, [.int 0, .int 0, .ref a1, .int 40, .int 1, .int 2, .int 2, .int 1, .ref a2])), (a1, .inr (5, [.ref cb, .int 81, .int 0, .ref a3, .int 6, .ref a4, .int 2, .ref a5, .int 1, .int 1, .ref a6, .int 6, .int 0, .int 1, .int 0]))]) hD hS hA [0, 1] rfl
  refine va_calli (va_runV (As := []) (rest := []) ⟨hx, hb, hml, hown, hts⟩ (cc_371_X6_readByte l dC dI cy s.heap.size cb a0 a1 a2 a3 a4 a5 a6) (cwV 0 hts gX6_readOneType_X6_readByte rfl rfl rfl (by decide +kernel) ⟨Nat.le_of_ble_eq_true rfl, Nat.le_of_ble_eq_true rfl⟩) ⟨fun a U g mk q => by obtain ⟨q0, q1, qP, qK, qD, qN, qS⟩ := q; exact ⟨q0, q1, qP, va_K.moved (u := U) (U := U.calling g mk a) (Vm.Alike.refl U.vm) qK, qD, qN.same rfl, SK.moved (u := U) (U := U.calling g mk a) (Vm.Alike.refl U.vm) qS⟩, va_recv hK hPc (ci := 6) (q0 := 0) rfl rfl, fun U hU hW => ⟨rfl, by rw [hU], by rw [hU]; exact hPc, va_K.moved hW.alike hK, hDc.weaken (fun _ _ _ _ => trivial), hN.warm hW, by rw [hU]; exact ((hSK.kept hS.2.1).narrow hFc).moved hW.alike⟩⟩ rfl rfl hl.1 rfl (lv_room (Nat.le_of_ble_eq_true rfl)) dX6_readOneType_9 ⟨Nat.le_of_ble_eq_true rfl, Nat.le_of_ble_eq_true rfl⟩) hS (fun q _ h => hFc q h) hFc (fun r_1 u t H_2 locs ht hvm hw hB hz1 hk1 hS2 => ?_)
  obtain ⟨hP1, hK1, hD1⟩ := hB
  rw [ht] at hP1
  obtain rfl := hw
  obtain ⟨hP2, hD2⟩ := va_join (wr := []) (w1 := [(a0, .inr (6, [.int 0, .int 0, .ref a1, .int 41, .int 1, .int 2, .int 2, .int 1, .ref a2])), (a1, .inr (5, [.ref cb, .int 81, .int 0, .ref a3, .int 6, .ref a4, .int 2, .ref a5, .int 1, .int 1, .ref a6, .int 6, .int 0, .int 1, .int 0]))]) hP hD [0, 1] [] rfl rfl (by decide) (by decide) hk1 hFc hP1 hD1
  replace hP : va_P (dC, dI) vwCl [(a0, .inr (6, [.int 0, .int 0, .ref a1, .int 41, .int 1, .int 2, .int 2, .int 1, .ref a2])), (a1, .inr (5, [.ref cb, .int 81, .int 0, .ref a3, .int 6, .ref a4, .int 2, .ref a5, .int 1, .int 1, .ref a6, .int 6, .int 0, .int 1, .int 0]))] H_2 := hP2
  replace hD : va_D A [(a0, .inr (6, [.int 0, .int 0, .ref a1, .int 41, .int 1, .int 2, .int 2, .int 1, .ref a2])), (a1, .inr (5, [.ref cb, .int 81, .int 0, .ref a3, .int 6, .ref a4, .int 2, .ref a5, .int 1, .int 1, .ref a6, .int 6, .int 0, .int 1, .int 0]))] := hD2
  replace hS := hS2
  clear hP2 hD2 hS2
  clear hPc hDc hFc hP1 hD1 hK1 hk1 hz1 hvm ht
  refine W.widen (k := 0) (n := 0) (Nat.le_of_ble_eq_true rfl) (Nat.le_of_ble_eq_true rfl) ?_
  refine lv_istore (lv' := [(5, .int 3), (4, .int 40), (2, .long 0), (0, .ref a0), (1, .int 1)]) hx hb dX6_readOneType_12 hl (by decide) rfl (fun ls hl2 => ?_)
  replace hl := hl2
  clear hl2
  refine lv_iload_n hx hb dX6_readOneType_14 rfl (lv_at hl 4 rfl) ?_
  refine lv_if_eq (tgt := 48) hx hb dX6_readOneType_15 (by decide) (fun h => absurd h (by decide)) (fun _ => ?_)
  refine lv_iload hx hb dX6_readOneType_18 (lv_at hl 0 rfl) ?_
  refine lv_bipush (v := 8) hx hb dX6_readOneType_20 (by decide) ?_
  refine lv_icmp_eq (tgt := 32) hx hb dX6_readOneType_22 (by decide) (fun h => absurd h (by decide)) (fun _ => ?_)
  refine lv_iload hx hb dX6_readOneType_25 (lv_at hl 0 rfl) ?_
  refine lv_bipush (v := 9) hx hb dX6_readOneType_27 (by decide) ?_
  refine lv_icmp_ne (tgt := 48) hx hb dX6_readOneType_29 (by decide) (fun _ => ?_) (fun h => absurd h (by decide))
  refine lv_iconst (v := 0) hx hb dX6_readOneType_48 (by decide) ?_
  refine lv_istore (lv' := [(6, .int 0), (5, .int 3), (4, .int 40), (2, .long 0), (0, .ref a0), (1, .int 1)]) hx hb dX6_readOneType_49 hl (by decide) rfl (fun ls hl2 => ?_)
  replace hl := hl2
  clear hl2
  refine lv_iload hx hb dX6_readOneType_51 (lv_at hl 0 rfl) ?_
  refine lv_iconst (v := 4) hx hb dX6_readOneType_53 (by decide) ?_
  refine lv_icmp_ge (tgt := 91) hx hb dX6_readOneType_54 (by decide) (fun h => absurd h (by decide)) (fun _ => ?_)
  refine lv_iload hx hb dX6_readOneType_57 (lv_at hl 1 rfl) ?_
  refine lv_bipush (v := 7) hx hb dX6_readOneType_59 (by decide) ?_
  refine lv_icmp_ne (tgt := 91) hx hb dX6_readOneType_61 (by decide) (fun _ => ?_) (fun h => absurd h (by decide))
  refine lv_iload hx hb dX6_readOneType_91 (lv_at hl 1 rfl) ?_
  refine lv_iconst (v := 1) hx hb dX6_readOneType_93 (by decide) ?_
  refine lv_icmp_lt (tgt := 104) hx hb dX6_readOneType_94 (by decide) (fun h => absurd h (by decide)) (fun _ => ?_)
  refine lv_iload hx hb dX6_readOneType_97 (lv_at hl 1 rfl) ?_
  refine lv_bipush (v := 6) hx hb dX6_readOneType_99 (by decide) ?_
  refine lv_icmp_le (tgt := 111) hx hb dX6_readOneType_101 (by decide) (fun _ => ?_) (fun h => absurd (by decide) h)
  refine lv_lload_n hx hb dX6_readOneType_111 rfl (lv_at hl 3 rfl) ?_
  refine lv_bipush (v := 8) hx hb dX6_readOneType_112 (by decide) ?_
  refine lv_lshl (v := 0) hx hb dX6_readOneType_114 (by decide) ?_
  refine lv_iload hx hb dX6_readOneType_115 (lv_at hl 1 rfl) ?_
  refine lv_i2l (v := 3) hx hb dX6_readOneType_117 (by decide) ?_
  refine lv_lor hx hb dX6_readOneType_118 ?_
  refine lv_topl (fun z_3 ez_3 => ?_)
  obtain rfl : z_3 = 3 := ez_3.trans (by decide)
  clear ez_3
  refine lv_lstore_n (lv' := [(2, .long 3), (6, .int 0), (5, .int 3), (4, .int 40), (0, .ref a0), (1, .int 1)]) hx hb dX6_readOneType_119 rfl hl (by decide) rfl (fun ls hl2 => ?_)
  replace hl := hl2
  clear hl2
  refine lv_iload hx hb dX6_readOneType_120 (lv_at hl 2 rfl) ?_
  refine lv_bipush (v := 6) hx hb dX6_readOneType_122 (by decide) ?_
  refine lv_icmp_eq (tgt := 129) hx hb dX6_readOneType_124 (by decide) (fun h => absurd h (by decide)) (fun _ => ?_)
  refine lv_lload_n hx hb dX6_readOneType_127 rfl (lv_at hl 0 rfl) ?_
  exact W.lret hx hb hr (fun t ht hW => ⟨⟨3, (), rfl, rfl, by rw [ht]; exact hP, va_K.moved hW.alike hK, hD⟩, hS.F ht⟩) hS.2.2 dX6_readOneType_128

set_option maxHeartbeats 4000000 in
set_option maxRecDepth 100000 in
theorem cc_369_X6_readTypes (l : Launch) (dC : Nat → ClassId) (dI : Nat → Nat → Nat) (cy : Nat → ClassId) (sz : Nat) (cb : Nat) (a0 : Nat) (a1 : Nat) (a2 : Nat) (a3 : Nat) (a4 : Nat) (a5 : Nat) (a6 : Nat) (f0 : Nat → Int64) (f0_0 : f0 0 = 3) : Met l yX6_readTypes wsX6_readTypes ({ frames := 2, cells := 0, slots := 0, locals := 46 }) (va_Pc [.ref a0, .int 1, .int 1] (fun U => U.heap.size = sz ∧ va_P (dC, dI) vwCl [(a0, .inr (6, [.int 0, .int 0, .ref a1, .int 40, .int 1, .int 2, .int 2, .int 1, .ref a3])), (a1, .inr (5, [.ref cb, .int 81, .int 0, .ref a2, .int 6, .ref a4, .int 2, .ref a5, .int 1, .int 1, .ref a6, .int 6, .int 0, .int 1, .int 0])), (a2, .inl (cy 2, 2048, .inr (.inl f0)))] U.heap ∧ va_K (dC, dI) vwCl (TYS cy) U ∧ va_D (fun _ => True) [(a0, .inr (6, [.int 0, .int 0, .ref a1, .int 40, .int 1, .int 2, .int 2, .int 1, .ref a3])), (a1, .inr (5, [.ref cb, .int 81, .int 0, .ref a2, .int 6, .ref a4, .int 2, .ref a5, .int 1, .int 1, .ref a6, .int 6, .int 0, .int 1, .int 0])), (a2, .inl (cy 2, 2048, .inr (.inl f0)))] ∧ NK U ∧ SK cb (va_A [(a0, .inr (6, [.int 0, .int 0, .ref a1, .int 40, .int 1, .int 2, .int 2, .int 1, .ref a3])), (a1, .inr (5, [.ref cb, .int 81, .int 0, .ref a2, .int 6, .ref a4, .int 2, .ref a5, .int 1, .int 1, .ref a6, .int 6, .int 0, .int 1, .int 0])), (a2, .inl (cy 2, 2048, .inr (.inl f0)))] sz) U U.heap)) (va_Qv (fun u : (Nat → Int64) => match u with | (u0) => u0 0 = 3) (fun u t => match u with | (u0) => va_P (dC, dI) vwCl [(a0, .inr (6, [.int 0, .int 0, .ref a1, .int 41, .int 1, .int 2, .int 2, .int 1, .ref a3])), (a1, .inr (5, [.ref cb, .int 81, .int 0, .ref a2, .int 7, .ref a4, .int 2, .ref a5, .int 1, .int 1, .ref a6, .int 6, .int 0, .int 1, .int 0])), (a2, .inl (cy 2, 2048, .inr (.inl u0)))] t.heap ∧ va_K (dC, dI) vwCl (TYS cy) t ∧ va_D (va_A [(a0, .inr (6, [.int 0, .int 0, .ref a1, .int 40, .int 1, .int 2, .int 2, .int 1, .ref a3])), (a1, .inr (5, [.ref cb, .int 81, .int 0, .ref a2, .int 6, .ref a4, .int 2, .ref a5, .int 1, .int 1, .ref a6, .int 6, .int 0, .int 1, .int 0])), (a2, .inl (cy 2, 2048, .inr (.inl f0)))] sz) [(a0, .inr (6, [.int 0, .int 0, .ref a1, .int 41, .int 1, .int 2, .int 2, .int 1, .ref a3])), (a1, .inr (5, [.ref cb, .int 81, .int 0, .ref a2, .int 7, .ref a4, .int 2, .ref a5, .int 1, .int 1, .ref a6, .int 6, .int 0, .int 1, .int 0])), (a2, .inl (cy 2, 2048, .inr (.inl u0)))]) (va_A [(a0, .inr (6, [.int 0, .int 0, .ref a1, .int 40, .int 1, .int 2, .int 2, .int 1, .ref a3])), (a1, .inr (5, [.ref cb, .int 81, .int 0, .ref a2, .int 6, .ref a4, .int 2, .ref a5, .int 1, .int 1, .ref a6, .int 6, .int 0, .int 1, .int 0])), (a2, .inl (cy 2, 2048, .inr (.inl f0)))] sz)) 0 0 (va_A [(a0, .inr (6, [.int 0, .int 0, .ref a1, .int 40, .int 1, .int 2, .int 2, .int 1, .ref a3])), (a1, .inr (5, [.ref cb, .int 81, .int 0, .ref a2, .int 6, .ref a4, .int 2, .ref a5, .int 1, .int 1, .ref a6, .int 6, .int 0, .int 1, .int 0])), (a2, .inl (cy 2, 2048, .inr (.inl f0)))] sz) := by
  refine Met.ofW (cc := cX6_readTypes) (maxL := 4) (ret := none) (by decide) rfl ?_
  intro p e s m args below meth c s₁ B hml hv
  obtain ⟨rfl, hsz, hP, hK, hD0, hN, hSK⟩ := hv
  have hx := B.exec
  have hb := B.bytes
  have hr := B.returns
  have hts := atoms_spec (ws := wsX6_readTypes) B.pre
  have hown : s.vm.findClass RX6 = some m.cls := findClass_of_methodNamed B.named
  have hlocks := B.notSynchronized
  subst hsz
  have hD := hD0.self (sz := s.heap.size)
  generalize hAe : va_A [(a0, .inr (6, [.int 0, .int 0, .ref a1, .int 40, .int 1, .int 2, .int 2, .int 1, .ref a3])), (a1, .inr (5, [.ref cb, .int 81, .int 0, .ref a2, .int 6, .ref a4, .int 2, .ref a5, .int 1, .int 1, .ref a6, .int 6, .int 0, .int 1, .int 0])), (a2, .inl (cy 2, 2048, .inr (.inl f0)))] s.heap.size = A at hD hSK ⊢
  have hA : ∀ q : Nat, s.heap.size ≤ q → A q := fun q h => by rw [← hAe]; exact Or.inr h
  have hS : va_S A s.heap s.heap [] := va_S.rf
  have hP : va_P (dC, dI) vwCl [(a0, .inr (6, [.int 0, .int 0, .ref a1, .int 40, .int 1, .int 2, .int 2, .int 1, .ref a3])), (a1, .inr (5, [.ref cb, .int 81, .int 0, .ref a2, .int 6, .ref a4, .int 2, .ref a5, .int 1, .int 1, .ref a6, .int 6, .int 0, .int 1, .int 0])), (a2, .inl (cy 2, 2048, .inr (.inl f0)))] s.heap := hP
  have hl := lv_entry ([.ref a0, .int 1, .int 1]) (n := 4) (Nat.le_of_ble_eq_true rfl)
  rw [lg_entry_eq]
  generalize (lg_sl ([.ref a0, .int 1, .int 1]) ++ List.replicate (4 - (lg_sl ([.ref a0, .int 1, .int 1])).length) Slot.unset).toArray = ls at hl ⊢
  replace hl : lv_has ls 4 [(0, .ref a0), (1, .int 1), (2, .int 1)] := hl
  refine lv_iconst (v := 0) hx hb dX6_readTypes_0 (by decide) ?_
  refine lv_istore_n (lv' := [(3, .int 0), (0, .ref a0), (1, .int 1), (2, .int 1)]) hx hb dX6_readTypes_1 rfl hl (by decide) rfl (fun ls hl2 => ?_)
  replace hl := hl2
  clear hl2
  refine lv_iload_n hx hb dX6_readTypes_2 rfl (lv_at hl 0 rfl) ?_
  refine lv_iload_n hx hb dX6_readTypes_3 rfl (lv_at hl 2 rfl) ?_
  refine lv_icmp_ge (tgt := 32) hx hb dX6_readTypes_4 (by decide) (fun h => absurd h (by decide)) (fun _ => ?_)
  refine lv_aload_n hx hb dX6_readTypes_7 rfl (lv_at hl 1 rfl) ?_
  refine va_get (D := (dC, dI)) (ci := 6) (v := .int 0) (C := RX6) (T := TX6) (N := 9) hx hb hts iw_X6_readTypes_X6 hown hK hP 0 rfl rfl 1 (by decide) (hts _ m_X6_readTypes_1) (fun _ h9 => h9) rfl dX6_readTypes_8 ?_
  refine lv_if_ne (tgt := 32) hx hb dX6_readTypes_11 (by decide) (fun h => absurd (by decide) h) (fun _ => ?_)
  refine lv_aload_n hx hb dX6_readTypes_14 rfl (lv_at hl 1 rfl) ?_
  refine va_get (D := (dC, dI)) (ci := 6) (v := .ref a1) (C := RX6) (T := TX6) (N := 9) hx hb hts iw_X6_readTypes_X6 hown hK hP 0 rfl rfl 2 (by decide) (hts _ m_X6_readTypes_2) (fun _ h9 => h9) rfl dX6_readTypes_15 ?_
  refine lv_aload_n hx hb dX6_readTypes_18 rfl (lv_at hl 1 rfl) ?_
  refine lv_iload_n hx hb dX6_readTypes_19 rfl (lv_at hl 3 rfl) ?_
  have hPc := hP.sub (ws' := [(a0, .inr (6, [.int 0, .int 0, .ref a1, .int 40, .int 1, .int 2, .int 2, .int 1, .ref a3])), (a1, .inr (5, [.ref cb, .int 81, .int 0, .ref a2, .int 6, .ref a4, .int 2, .ref a5, .int 1, .int 1, .ref a6, .int 6, .int 0, .int 1, .int 0]))]) [0, 1] rfl
  have hDc := hD.sub (ws' := [(a0, .inr (6, [.int 0, .int 0, .ref a1, .int 40, .int 1, .int 2, .int 2, .int 1, .ref a3])), (a1, .inr (5, [.ref cb, .int 81, .int 0, .ref a2, .int 6, .ref a4, .int 2, .ref a5, .int 1, .int 1, .ref a6, .int 6, .int 0, .int 1, .int 0]))]) [0, 1] (by decide) rfl
  have hFc := va_free (wc := [(a0, .inr (6, [.int 0, .int 0, .ref a1, .int 40, .int 1, .int 2, .int 2, .int 1, .ref a3])), (a1, .inr (5, [.ref cb, .int 81, .int 0, .ref a2, .int 6, .ref a4, .int 2, .ref a5, .int 1, .int 1, .ref a6, .int 6, .int 0, .int 1, .int 0]))]) hD hS hA [0, 1] rfl
  refine va_calll (va_runV (As := [.int 1]) (rest := [.ref a1]) ⟨hx, hb, hml, hown, hts⟩ (cc_370_X6_readOneType l dC dI cy s.heap.size cb a0 a1 a3 a2 a4 a5 a6) (cwV 1 hts gX6_readTypes_X6_readOneType rfl rfl rfl (by decide +kernel) ⟨Nat.le_of_ble_eq_true rfl, Nat.le_of_ble_eq_true rfl⟩) ⟨fun a U g mk q => by obtain ⟨q0, q1, qP, qK, qD, qN, qS⟩ := q; exact ⟨q0, q1, qP, va_K.moved (u := U) (U := U.calling g mk a) (Vm.Alike.refl U.vm) qK, qD, qN.same rfl, SK.moved (u := U) (U := U.calling g mk a) (Vm.Alike.refl U.vm) qS⟩, va_recv hK hPc (ci := 6) (q0 := 0) rfl rfl, fun U hU hW => ⟨rfl, by rw [hU], by rw [hU]; exact hPc, va_K.moved hW.alike hK, hDc.weaken (fun _ _ _ _ => trivial), hN.warm hW, by rw [hU]; exact ((hSK.kept hS.2.1).narrow hFc).moved hW.alike⟩⟩ rfl rfl hl.1 rfl (lv_room (Nat.le_of_ble_eq_true rfl)) dX6_readTypes_20 ⟨Nat.le_of_ble_eq_true rfl, Nat.le_of_ble_eq_true rfl⟩) hS (fun q _ h => hFc q h) hFc (fun r_1 u t H_2 locs ht hvm hw hB hz1 hk1 hS2 => ?_)
  obtain ⟨hP1, hK1, hD1⟩ := hB
  rw [ht] at hP1
  obtain rfl := hw
  obtain ⟨hP2, hD2⟩ := va_join (wr := [(a2, .inl (cy 2, 2048, .inr (.inl f0)))]) (w1 := [(a0, .inr (6, [.int 0, .int 0, .ref a1, .int 41, .int 1, .int 2, .int 2, .int 1, .ref a3])), (a1, .inr (5, [.ref cb, .int 81, .int 0, .ref a2, .int 6, .ref a4, .int 2, .ref a5, .int 1, .int 1, .ref a6, .int 6, .int 0, .int 1, .int 0]))]) hP hD [0, 1] [2] rfl rfl (by decide) (by decide) hk1 hFc hP1 hD1
  replace hP : va_P (dC, dI) vwCl [(a2, .inl (cy 2, 2048, .inr (.inl f0))), (a0, .inr (6, [.int 0, .int 0, .ref a1, .int 41, .int 1, .int 2, .int 2, .int 1, .ref a3])), (a1, .inr (5, [.ref cb, .int 81, .int 0, .ref a2, .int 6, .ref a4, .int 2, .ref a5, .int 1, .int 1, .ref a6, .int 6, .int 0, .int 1, .int 0]))] H_2 := hP2
  replace hD : va_D A [(a2, .inl (cy 2, 2048, .inr (.inl f0))), (a0, .inr (6, [.int 0, .int 0, .ref a1, .int 41, .int 1, .int 2, .int 2, .int 1, .ref a3])), (a1, .inr (5, [.ref cb, .int 81, .int 0, .ref a2, .int 6, .ref a4, .int 2, .ref a5, .int 1, .int 1, .ref a6, .int 6, .int 0, .int 1, .int 0]))] := hD2
  replace hS := hS2
  clear hP2 hD2 hS2
  clear hPc hDc hFc hP1 hD1 hK1 hk1 hz1 hvm ht
  refine W.widen (k := 0) (n := 0) (Nat.le_of_ble_eq_true rfl) (Nat.le_of_ble_eq_true rfl) ?_
  have hPc := hP.sub (ws' := [(a1, .inr (5, [.ref cb, .int 81, .int 0, .ref a2, .int 6, .ref a4, .int 2, .ref a5, .int 1, .int 1, .ref a6, .int 6, .int 0, .int 1, .int 0])), (a2, .inl (cy 2, 2048, .inr (.inl f0)))]) [2, 0] rfl
  have hDc := hD.sub (ws' := [(a1, .inr (5, [.ref cb, .int 81, .int 0, .ref a2, .int 6, .ref a4, .int 2, .ref a5, .int 1, .int 1, .ref a6, .int 6, .int 0, .int 1, .int 0])), (a2, .inl (cy 2, 2048, .inr (.inl f0)))]) [2, 0] (by decide) rfl
  have hFc := va_free (wc := [(a1, .inr (5, [.ref cb, .int 81, .int 0, .ref a2, .int 6, .ref a4, .int 2, .ref a5, .int 1, .int 1, .ref a6, .int 6, .int 0, .int 1, .int 0])), (a2, .inl (cy 2, 2048, .inr (.inl f0)))]) hD hS hA [2, 0] rfl
  refine va_callv (va_runV (As := [.long 3]) (rest := []) ⟨hx, hb, hml, hown, hts⟩ (cc_135_X5_addType l dC dI cy H_2.size cb a1 a2 a4 a5 a6 f0 f0_0) (cwV 1 hts gX6_readTypes_X5_addType rfl rfl rfl (by decide +kernel) ⟨Nat.le_of_ble_eq_true rfl, Nat.le_of_ble_eq_true rfl⟩) ⟨fun a U g mk q => by obtain ⟨q0, q1, qP, qK, qD, qN, qS⟩ := q; exact ⟨q0, q1, qP, va_K.moved (u := U) (U := U.calling g mk a) (Vm.Alike.refl U.vm) qK, qD, qN.same rfl, SK.moved (u := U) (U := U.calling g mk a) (Vm.Alike.refl U.vm) qS⟩, va_recv hK hPc (ci := 5) (q0 := 0) rfl rfl, fun U hU hW => ⟨rfl, by rw [hU], by rw [hU]; exact hPc, va_K.moved hW.alike hK, hDc.weaken (fun _ _ _ _ => trivial), hN.warm hW, by rw [hU]; exact ((hSK.kept hS.2.1).narrow hFc).moved hW.alike⟩⟩ rfl rfl hl.1 rfl (lv_room (Nat.le_of_ble_eq_true rfl)) dX6_readTypes_23 ⟨Nat.le_of_ble_eq_true rfl, Nat.le_of_ble_eq_true rfl⟩) hS (fun q _ h => hFc q h) hFc (fun u t H_3 locs ht hvm hw hB hz1 hk1 hS2 => ?_)
  obtain ⟨g_4, rfl⟩ : ∃ z, z = u := ⟨_, rfl⟩
  obtain ⟨hP1, hK1, hD1⟩ := hB
  rw [ht] at hP1
  have kp_5 := hw
  obtain ⟨hP2, hD2⟩ := va_join (wr := [(a0, .inr (6, [.int 0, .int 0, .ref a1, .int 41, .int 1, .int 2, .int 2, .int 1, .ref a3]))]) (w1 := [(a1, .inr (5, [.ref cb, .int 81, .int 0, .ref a2, .int 7, .ref a4, .int 2, .ref a5, .int 1, .int 1, .ref a6, .int 6, .int 0, .int 1, .int 0])), (a2, .inl (cy 2, 2048, .inr (.inl g_4)))]) hP hD [2, 0] [1] rfl rfl (by decide) (by decide) hk1 hFc hP1 hD1
  replace hP : va_P (dC, dI) vwCl [(a0, .inr (6, [.int 0, .int 0, .ref a1, .int 41, .int 1, .int 2, .int 2, .int 1, .ref a3])), (a1, .inr (5, [.ref cb, .int 81, .int 0, .ref a2, .int 7, .ref a4, .int 2, .ref a5, .int 1, .int 1, .ref a6, .int 6, .int 0, .int 1, .int 0])), (a2, .inl (cy 2, 2048, .inr (.inl g_4)))] H_3 := hP2
  replace hD : va_D A [(a0, .inr (6, [.int 0, .int 0, .ref a1, .int 41, .int 1, .int 2, .int 2, .int 1, .ref a3])), (a1, .inr (5, [.ref cb, .int 81, .int 0, .ref a2, .int 7, .ref a4, .int 2, .ref a5, .int 1, .int 1, .ref a6, .int 6, .int 0, .int 1, .int 0])), (a2, .inl (cy 2, 2048, .inr (.inl g_4)))] := hD2
  replace hS := hS2
  clear hP2 hD2 hS2
  clear hPc hDc hFc hP1 hD1 hK1 hk1 hz1 hvm ht
  refine W.widen (k := 0) (n := 0) (Nat.le_of_ble_eq_true rfl) (Nat.le_of_ble_eq_true rfl) ?_
  refine lv_iinc (v := 1) (lv' := [(3, .int 1), (0, .ref a0), (1, .int 1), (2, .int 1)]) hx hb dX6_readTypes_26 hl (k := 0) rfl (by decide) (by decide) rfl (fun ls hl2 => ?_)
  replace hl := hl2
  clear hl2
  refine lv_goto (tgt := 2) hx hb dX6_readTypes_29 (by decide) ?_
  refine lv_iload_n hx hb dX6_readTypes_2 rfl (lv_at hl 0 rfl) ?_
  refine lv_iload_n hx hb dX6_readTypes_3 rfl (lv_at hl 2 rfl) ?_
  refine lv_icmp_ge (tgt := 32) hx hb dX6_readTypes_4 (by decide) (fun _ => ?_) (fun h => absurd (by decide) h)
  exact W.vret hx hb hr (fun t ht hW => ⟨⟨(g_4), rfl, kp_5, by rw [ht]; exact hP, va_K.moved hW.alike hK, hD⟩, hS.F ht⟩) hS.2.2 dX6_readTypes_32

set_option maxHeartbeats 4000000 in
set_option maxRecDepth 100000 in
theorem cc_366_X6_readList (l : Launch) (dC : Nat → ClassId) (dI : Nat → Nat → Nat) (cy : Nat → ClassId) (sz : Nat) (cb : Nat) (a0 : Nat) (a1 : Nat) (a2 : Nat) (a3 : Nat) (a4 : Nat) (a5 : Nat) (a6 : Nat) (f0 : Nat → Int64) (f0_0 : f0 0 = 3) : Met l yX6_readList wsX6_readList ({ frames := 3, cells := 0, slots := 0, locals := 69 }) (va_Pc [.ref a0, .int 8] (fun U => U.heap.size = sz ∧ va_P (dC, dI) vwCl [(a0, .inr (6, [.int 0, .int 0, .ref a1, .int 39, .int 1, .int 2, .int 2, .int 1, .ref a3])), (a1, .inr (5, [.ref cb, .int 81, .int 0, .ref a2, .int 6, .ref a4, .int 2, .ref a5, .int 1, .int 1, .ref a6, .int 6, .int 0, .int 1, .int 0])), (a2, .inl (cy 2, 2048, .inr (.inl f0)))] U.heap ∧ va_K (dC, dI) vwCl (TYS cy) U ∧ va_D (fun _ => True) [(a0, .inr (6, [.int 0, .int 0, .ref a1, .int 39, .int 1, .int 2, .int 2, .int 1, .ref a3])), (a1, .inr (5, [.ref cb, .int 81, .int 0, .ref a2, .int 6, .ref a4, .int 2, .ref a5, .int 1, .int 1, .ref a6, .int 6, .int 0, .int 1, .int 0])), (a2, .inl (cy 2, 2048, .inr (.inl f0)))] ∧ NK U ∧ SK cb (va_A [(a0, .inr (6, [.int 0, .int 0, .ref a1, .int 39, .int 1, .int 2, .int 2, .int 1, .ref a3])), (a1, .inr (5, [.ref cb, .int 81, .int 0, .ref a2, .int 6, .ref a4, .int 2, .ref a5, .int 1, .int 1, .ref a6, .int 6, .int 0, .int 1, .int 0])), (a2, .inl (cy 2, 2048, .inr (.inl f0)))] sz) U U.heap)) (va_Qi (fun (r : Int32) (u : (Nat → Int64)) => match u with | (u0) => r = 1 ∧ u0 0 = 3) (fun u t => match u with | (u0) => va_P (dC, dI) vwCl [(a0, .inr (6, [.int 0, .int 0, .ref a1, .int 41, .int 1, .int 2, .int 2, .int 1, .ref a3])), (a1, .inr (5, [.ref cb, .int 81, .int 0, .ref a2, .int 7, .ref a4, .int 2, .ref a5, .int 1, .int 1, .ref a6, .int 6, .int 0, .int 1, .int 0])), (a2, .inl (cy 2, 2048, .inr (.inl u0)))] t.heap ∧ va_K (dC, dI) vwCl (TYS cy) t ∧ va_D (va_A [(a0, .inr (6, [.int 0, .int 0, .ref a1, .int 39, .int 1, .int 2, .int 2, .int 1, .ref a3])), (a1, .inr (5, [.ref cb, .int 81, .int 0, .ref a2, .int 6, .ref a4, .int 2, .ref a5, .int 1, .int 1, .ref a6, .int 6, .int 0, .int 1, .int 0])), (a2, .inl (cy 2, 2048, .inr (.inl f0)))] sz) [(a0, .inr (6, [.int 0, .int 0, .ref a1, .int 41, .int 1, .int 2, .int 2, .int 1, .ref a3])), (a1, .inr (5, [.ref cb, .int 81, .int 0, .ref a2, .int 7, .ref a4, .int 2, .ref a5, .int 1, .int 1, .ref a6, .int 6, .int 0, .int 1, .int 0])), (a2, .inl (cy 2, 2048, .inr (.inl u0)))]) (va_A [(a0, .inr (6, [.int 0, .int 0, .ref a1, .int 39, .int 1, .int 2, .int 2, .int 1, .ref a3])), (a1, .inr (5, [.ref cb, .int 81, .int 0, .ref a2, .int 6, .ref a4, .int 2, .ref a5, .int 1, .int 1, .ref a6, .int 6, .int 0, .int 1, .int 0])), (a2, .inl (cy 2, 2048, .inr (.inl f0)))] sz)) 0 0 (va_A [(a0, .inr (6, [.int 0, .int 0, .ref a1, .int 39, .int 1, .int 2, .int 2, .int 1, .ref a3])), (a1, .inr (5, [.ref cb, .int 81, .int 0, .ref a2, .int 6, .ref a4, .int 2, .ref a5, .int 1, .int 1, .ref a6, .int 6, .int 0, .int 1, .int 0])), (a2, .inl (cy 2, 2048, .inr (.inl f0)))] sz) := by
  refine Met.ofW (cc := cX6_readList) (maxL := 3) (ret := (some .int)) (by decide) rfl ?_
  intro p e s m args below meth c s₁ B hml hv
  obtain ⟨rfl, hsz, hP, hK, hD0, hN, hSK⟩ := hv
  have hx := B.exec
  have hb := B.bytes
  have hr := B.returns
  have hts := atoms_spec (ws := wsX6_readList) B.pre
  have hown : s.vm.findClass RX6 = some m.cls := findClass_of_methodNamed B.named
  have hlocks := B.notSynchronized
  subst hsz
  have hD := hD0.self (sz := s.heap.size)
  generalize hAe : va_A [(a0, .inr (6, [.int 0, .int 0, .ref a1, .int 39, .int 1, .int 2, .int 2, .int 1, .ref a3])), (a1, .inr (5, [.ref cb, .int 81, .int 0, .ref a2, .int 6, .ref a4, .int 2, .ref a5, .int 1, .int 1, .ref a6, .int 6, .int 0, .int 1, .int 0])), (a2, .inl (cy 2, 2048, .inr (.inl f0)))] s.heap.size = A at hD hSK ⊢
  have hA : ∀ q : Nat, s.heap.size ≤ q → A q := fun q h => by rw [← hAe]; exact Or.inr h
  have hS : va_S A s.heap s.heap [] := va_S.rf
  have hP : va_P (dC, dI) vwCl [(a0, .inr (6, [.int 0, .int 0, .ref a1, .int 39, .int 1, .int 2, .int 2, .int 1, .ref a3])), (a1, .inr (5, [.ref cb, .int 81, .int 0, .ref a2, .int 6, .ref a4, .int 2, .ref a5, .int 1, .int 1, .ref a6, .int 6, .int 0, .int 1, .int 0])), (a2, .inl (cy 2, 2048, .inr (.inl f0)))] s.heap := hP
  have hl := lv_entry ([.ref a0, .int 8]) (n := 3) (Nat.le_of_ble_eq_true rfl)
  rw [lg_entry_eq]
  generalize (lg_sl ([.ref a0, .int 8]) ++ List.replicate (3 - (lg_sl ([.ref a0, .int 8])).length) Slot.unset).toArray = ls at hl ⊢
  replace hl : lv_has ls 3 [(0, .ref a0), (1, .int 8)] := hl
  refine lv_aload_n hx hb dX6_readList_0 rfl (lv_at hl 0 rfl) ?_
  refine lv_iconst (v := 0) hx hb dX6_readList_1 (by decide) ?_
  refine lv_iload_n hx hb dX6_readList_2 rfl (lv_at hl 1 rfl) ?_
  have hPc := hP.sub (ws' := [(a0, .inr (6, [.int 0, .int 0, .ref a1, .int 39, .int 1, .int 2, .int 2, .int 1, .ref a3])), (a1, .inr (5, [.ref cb, .int 81, .int 0, .ref a2, .int 6, .ref a4, .int 2, .ref a5, .int 1, .int 1, .ref a6, .int 6, .int 0, .int 1, .int 0]))]) [0, 1] rfl
  have hDc := hD.sub (ws' := [(a0, .inr (6, [.int 0, .int 0, .ref a1, .int 39, .int 1, .int 2, .int 2, .int 1, .ref a3])), (a1, .inr (5, [.ref cb, .int 81, .int 0, .ref a2, .int 6, .ref a4, .int 2, .ref a5, .int 1, .int 1, .ref a6, .int 6, .int 0, .int 1, .int 0]))]) [0, 1] (by decide) rfl
  have hFc := va_free (wc := [(a0, .inr (6, [.int 0, .int 0, .ref a1, .int 39, .int 1, .int 2, .int 2, .int 1, .ref a3])), (a1, .inr (5, [.ref cb, .int 81, .int 0, .ref a2, .int 6, .ref a4, .int 2, .ref a5, .int 1, .int 1, .ref a6, .int 6, .int 0, .int 1, .int 0]))]) hD hS hA [0, 1] rfl
  refine va_calli (va_runV (As := [.int 0, .int 8]) (rest := []) ⟨hx, hb, hml, hown, hts⟩ (cc_367_X6_readNumber l dC dI cy s.heap.size cb a0 a1 a3 a2 a4 a5 a6) (cwV 2 hts gX6_readList_X6_readNumber rfl rfl rfl (by decide +kernel) ⟨Nat.le_of_ble_eq_true rfl, Nat.le_of_ble_eq_true rfl⟩) ⟨fun a U g mk q => by obtain ⟨q0, q1, qP, qK, qD, qN, qS⟩ := q; exact ⟨q0, q1, qP, va_K.moved (u := U) (U := U.calling g mk a) (Vm.Alike.refl U.vm) qK, qD, qN.same rfl, SK.moved (u := U) (U := U.calling g mk a) (Vm.Alike.refl U.vm) qS⟩, va_recv hK hPc (ci := 6) (q0 := 0) rfl rfl, fun U hU hW => ⟨rfl, by rw [hU], by rw [hU]; exact hPc, va_K.moved hW.alike hK, hDc.weaken (fun _ _ _ _ => trivial), hN.warm hW, by rw [hU]; exact ((hSK.kept hS.2.1).narrow hFc).moved hW.alike⟩⟩ rfl rfl hl.1 rfl (lv_room (Nat.le_of_ble_eq_true rfl)) dX6_readList_3 ⟨Nat.le_of_ble_eq_true rfl, Nat.le_of_ble_eq_true rfl⟩) hS (fun q _ h => hFc q h) hFc (fun r_1 u t H_2 locs ht hvm hw hB hz1 hk1 hS2 => ?_)
  obtain ⟨hP1, hK1, hD1⟩ := hB
  rw [ht] at hP1
  obtain rfl := hw
  obtain ⟨hP2, hD2⟩ := va_join (wr := [(a2, .inl (cy 2, 2048, .inr (.inl f0)))]) (w1 := [(a0, .inr (6, [.int 0, .int 0, .ref a1, .int 40, .int 1, .int 2, .int 2, .int 1, .ref a3])), (a1, .inr (5, [.ref cb, .int 81, .int 0, .ref a2, .int 6, .ref a4, .int 2, .ref a5, .int 1, .int 1, .ref a6, .int 6, .int 0, .int 1, .int 0]))]) hP hD [0, 1] [2] rfl rfl (by decide) (by decide) hk1 hFc hP1 hD1
  replace hP : va_P (dC, dI) vwCl [(a2, .inl (cy 2, 2048, .inr (.inl f0))), (a0, .inr (6, [.int 0, .int 0, .ref a1, .int 40, .int 1, .int 2, .int 2, .int 1, .ref a3])), (a1, .inr (5, [.ref cb, .int 81, .int 0, .ref a2, .int 6, .ref a4, .int 2, .ref a5, .int 1, .int 1, .ref a6, .int 6, .int 0, .int 1, .int 0]))] H_2 := hP2
  replace hD : va_D A [(a2, .inl (cy 2, 2048, .inr (.inl f0))), (a0, .inr (6, [.int 0, .int 0, .ref a1, .int 40, .int 1, .int 2, .int 2, .int 1, .ref a3])), (a1, .inr (5, [.ref cb, .int 81, .int 0, .ref a2, .int 6, .ref a4, .int 2, .ref a5, .int 1, .int 1, .ref a6, .int 6, .int 0, .int 1, .int 0]))] := hD2
  replace hS := hS2
  clear hP2 hD2 hS2
  clear hPc hDc hFc hP1 hD1 hK1 hk1 hz1 hvm ht
  refine W.widen (k := 0) (n := 0) (Nat.le_of_ble_eq_true rfl) (Nat.le_of_ble_eq_true rfl) ?_
  refine lv_istore_n (lv' := [(2, .int 1), (0, .ref a0), (1, .int 8)]) hx hb dX6_readList_6 rfl hl (by decide) rfl (fun ls hl2 => ?_)
  replace hl := hl2
  clear hl2
  refine lv_aload_n hx hb dX6_readList_7 rfl (lv_at hl 1 rfl) ?_
  refine lv_iload_n hx hb dX6_readList_8 rfl (lv_at hl 0 rfl) ?_
  refine lv_iconst (v := 1) hx hb dX6_readList_9 (by decide) ?_
  have hPc := hP.sub (ws' := [(a0, .inr (6, [.int 0, .int 0, .ref a1, .int 40, .int 1, .int 2, .int 2, .int 1, .ref a3])), (a1, .inr (5, [.ref cb, .int 81, .int 0, .ref a2, .int 6, .ref a4, .int 2, .ref a5, .int 1, .int 1, .ref a6, .int 6, .int 0, .int 1, .int 0])), (a2, .inl (cy 2, 2048, .inr (.inl f0)))]) [1, 2, 0] rfl
  have hDc := hD.sub (ws' := [(a0, .inr (6, [.int 0, .int 0, .ref a1, .int 40, .int 1, .int 2, .int 2, .int 1, .ref a3])), (a1, .inr (5, [.ref cb, .int 81, .int 0, .ref a2, .int 6, .ref a4, .int 2, .ref a5, .int 1, .int 1, .ref a6, .int 6, .int 0, .int 1, .int 0])), (a2, .inl (cy 2, 2048, .inr (.inl f0)))]) [1, 2, 0] (by decide) rfl
  have hFc := va_free (wc := [(a0, .inr (6, [.int 0, .int 0, .ref a1, .int 40, .int 1, .int 2, .int 2, .int 1, .ref a3])), (a1, .inr (5, [.ref cb, .int 81, .int 0, .ref a2, .int 6, .ref a4, .int 2, .ref a5, .int 1, .int 1, .ref a6, .int 6, .int 0, .int 1, .int 0])), (a2, .inl (cy 2, 2048, .inr (.inl f0)))]) hD hS hA [1, 2, 0] rfl
  refine va_callv (va_runV (As := [.int 1, .int 1]) (rest := []) ⟨hx, hb, hml, hown, hts⟩ (cc_369_X6_readTypes l dC dI cy H_2.size cb a0 a1 a2 a3 a4 a5 a6 f0 f0_0) (cwV 2 hts gX6_readList_X6_readTypes rfl rfl rfl (by decide +kernel) ⟨Nat.le_of_ble_eq_true rfl, Nat.le_of_ble_eq_true rfl⟩) ⟨fun a U g mk q => by obtain ⟨q0, q1, qP, qK, qD, qN, qS⟩ := q; exact ⟨q0, q1, qP, va_K.moved (u := U) (U := U.calling g mk a) (Vm.Alike.refl U.vm) qK, qD, qN.same rfl, SK.moved (u := U) (U := U.calling g mk a) (Vm.Alike.refl U.vm) qS⟩, va_recv hK hPc (ci := 6) (q0 := 0) rfl rfl, fun U hU hW => ⟨rfl, by rw [hU], by rw [hU]; exact hPc, va_K.moved hW.alike hK, hDc.weaken (fun _ _ _ _ => trivial), hN.warm hW, by rw [hU]; exact ((hSK.kept hS.2.1).narrow hFc).moved hW.alike⟩⟩ rfl rfl hl.1 rfl (lv_room (Nat.le_of_ble_eq_true rfl)) dX6_readList_10 ⟨Nat.le_of_ble_eq_true rfl, Nat.le_of_ble_eq_true rfl⟩) hS (fun q _ h => hFc q h) hFc (fun u t H_3 locs ht hvm hw hB hz1 hk1 hS2 => ?_)
  obtain ⟨g_4, rfl⟩ : ∃ z, z = u := ⟨_, rfl⟩
  obtain ⟨hP1, hK1, hD1⟩ := hB
  rw [ht] at hP1
  have kp_5 := hw
  obtain ⟨hP2, hD2⟩ := va_join (wr := []) (w1 := [(a0, .inr (6, [.int 0, .int 0, .ref a1, .int 41, .int 1, .int 2, .int 2, .int 1, .ref a3])), (a1, .inr (5, [.ref cb, .int 81, .int 0, .ref a2, .int 7, .ref a4, .int 2, .ref a5, .int 1, .int 1, .ref a6, .int 6, .int 0, .int 1, .int 0])), (a2, .inl (cy 2, 2048, .inr (.inl g_4)))]) hP hD [1, 2, 0] [] rfl rfl (by decide) (by decide) hk1 hFc hP1 hD1
  replace hP : va_P (dC, dI) vwCl [(a0, .inr (6, [.int 0, .int 0, .ref a1, .int 41, .int 1, .int 2, .int 2, .int 1, .ref a3])), (a1, .inr (5, [.ref cb, .int 81, .int 0, .ref a2, .int 7, .ref a4, .int 2, .ref a5, .int 1, .int 1, .ref a6, .int 6, .int 0, .int 1, .int 0])), (a2, .inl (cy 2, 2048, .inr (.inl g_4)))] H_3 := hP2
  replace hD : va_D A [(a0, .inr (6, [.int 0, .int 0, .ref a1, .int 41, .int 1, .int 2, .int 2, .int 1, .ref a3])), (a1, .inr (5, [.ref cb, .int 81, .int 0, .ref a2, .int 7, .ref a4, .int 2, .ref a5, .int 1, .int 1, .ref a6, .int 6, .int 0, .int 1, .int 0])), (a2, .inl (cy 2, 2048, .inr (.inl g_4)))] := hD2
  replace hS := hS2
  clear hP2 hD2 hS2
  clear hPc hDc hFc hP1 hD1 hK1 hk1 hz1 hvm ht
  refine W.widen (k := 0) (n := 0) (Nat.le_of_ble_eq_true rfl) (Nat.le_of_ble_eq_true rfl) ?_
  refine lv_iload_n hx hb dX6_readList_13 rfl (lv_at hl 0 rfl) ?_
  exact W.iret hx hb hr (fun t ht hW => ⟨⟨1, (g_4), rfl, ⟨rfl, kp_5⟩, by rw [ht]; exact hP, va_K.moved hW.alike hK, hD⟩, hS.F ht⟩) hS.2.2 dX6_readList_14

set_option maxHeartbeats 4000000 in
set_option maxRecDepth 100000 in
theorem cc_374_X6_readByte (l : Launch) (dC : Nat → ClassId) (dI : Nat → Nat → Nat) (cy : Nat → ClassId) (sz : Nat) (cb : Nat) (a0 : Nat) (a1 : Nat) (a2 : Nat) (a3 : Nat) (a4 : Nat) (a5 : Nat) (a6 : Nat)  : Met l yX6_readByte wsX6_readByte ({ frames := 0, cells := 0, slots := 0, locals := 0 }) (va_Pc [.ref a0] (fun U => U.heap.size = sz ∧ va_P (dC, dI) vwCl [(a0, .inr (6, [.int 0, .int 0, .ref a1, .int 41, .int 1, .int 2, .int 2, .int 1, .ref a2])), (a1, .inr (5, [.ref cb, .int 81, .int 0, .ref a3, .int 7, .ref a4, .int 2, .ref a5, .int 1, .int 1, .ref a6, .int 6, .int 0, .int 1, .int 0]))] U.heap ∧ va_K (dC, dI) vwCl (TYS cy) U ∧ va_D (fun _ => True) [(a0, .inr (6, [.int 0, .int 0, .ref a1, .int 41, .int 1, .int 2, .int 2, .int 1, .ref a2])), (a1, .inr (5, [.ref cb, .int 81, .int 0, .ref a3, .int 7, .ref a4, .int 2, .ref a5, .int 1, .int 1, .ref a6, .int 6, .int 0, .int 1, .int 0]))] ∧ NK U ∧ SK cb (va_A [(a0, .inr (6, [.int 0, .int 0, .ref a1, .int 41, .int 1, .int 2, .int 2, .int 1, .ref a2])), (a1, .inr (5, [.ref cb, .int 81, .int 0, .ref a3, .int 7, .ref a4, .int 2, .ref a5, .int 1, .int 1, .ref a6, .int 6, .int 0, .int 1, .int 0]))] sz) U U.heap)) (va_Qi (fun (r : Int32) (u : Unit) => r = 0) (fun u t => va_P (dC, dI) vwCl [(a0, .inr (6, [.int 0, .int 0, .ref a1, .int 42, .int 1, .int 2, .int 2, .int 1, .ref a2])), (a1, .inr (5, [.ref cb, .int 81, .int 0, .ref a3, .int 7, .ref a4, .int 2, .ref a5, .int 1, .int 1, .ref a6, .int 6, .int 0, .int 1, .int 0]))] t.heap ∧ va_K (dC, dI) vwCl (TYS cy) t ∧ va_D (va_A [(a0, .inr (6, [.int 0, .int 0, .ref a1, .int 41, .int 1, .int 2, .int 2, .int 1, .ref a2])), (a1, .inr (5, [.ref cb, .int 81, .int 0, .ref a3, .int 7, .ref a4, .int 2, .ref a5, .int 1, .int 1, .ref a6, .int 6, .int 0, .int 1, .int 0]))] sz) [(a0, .inr (6, [.int 0, .int 0, .ref a1, .int 42, .int 1, .int 2, .int 2, .int 1, .ref a2])), (a1, .inr (5, [.ref cb, .int 81, .int 0, .ref a3, .int 7, .ref a4, .int 2, .ref a5, .int 1, .int 1, .ref a6, .int 6, .int 0, .int 1, .int 0]))]) (va_A [(a0, .inr (6, [.int 0, .int 0, .ref a1, .int 41, .int 1, .int 2, .int 2, .int 1, .ref a2])), (a1, .inr (5, [.ref cb, .int 81, .int 0, .ref a3, .int 7, .ref a4, .int 2, .ref a5, .int 1, .int 1, .ref a6, .int 6, .int 0, .int 1, .int 0]))] sz)) 0 0 (va_A [(a0, .inr (6, [.int 0, .int 0, .ref a1, .int 41, .int 1, .int 2, .int 2, .int 1, .ref a2])), (a1, .inr (5, [.ref cb, .int 81, .int 0, .ref a3, .int 7, .ref a4, .int 2, .ref a5, .int 1, .int 1, .ref a6, .int 6, .int 0, .int 1, .int 0]))] sz) := by
  refine Met.ofW (cc := cX6_readByte) (maxL := 1) (ret := (some .int)) (by decide) rfl ?_
  intro p e s m args below meth c s₁ B hml hv
  obtain ⟨rfl, hsz, hP, hK, hD0, hN, hSK⟩ := hv
  have hx := B.exec
  have hb := B.bytes
  have hr := B.returns
  have hts := atoms_spec (ws := wsX6_readByte) B.pre
  have hown : s.vm.findClass RX6 = some m.cls := findClass_of_methodNamed B.named
  have hlocks := B.notSynchronized
  subst hsz
  have hD := hD0.self (sz := s.heap.size)
  generalize hAe : va_A [(a0, .inr (6, [.int 0, .int 0, .ref a1, .int 41, .int 1, .int 2, .int 2, .int 1, .ref a2])), (a1, .inr (5, [.ref cb, .int 81, .int 0, .ref a3, .int 7, .ref a4, .int 2, .ref a5, .int 1, .int 1, .ref a6, .int 6, .int 0, .int 1, .int 0]))] s.heap.size = A at hD hSK ⊢
  have hA : ∀ q : Nat, s.heap.size ≤ q → A q := fun q h => by rw [← hAe]; exact Or.inr h
  have hS : va_S A s.heap s.heap [] := va_S.rf
  have hP : va_P (dC, dI) vwCl [(a0, .inr (6, [.int 0, .int 0, .ref a1, .int 41, .int 1, .int 2, .int 2, .int 1, .ref a2])), (a1, .inr (5, [.ref cb, .int 81, .int 0, .ref a3, .int 7, .ref a4, .int 2, .ref a5, .int 1, .int 1, .ref a6, .int 6, .int 0, .int 1, .int 0]))] s.heap := hP
  have hl := lv_entry ([.ref a0]) (n := 1) (Nat.le_of_ble_eq_true rfl)
  rw [lg_entry_eq]
  generalize (lg_sl ([.ref a0]) ++ List.replicate (1 - (lg_sl ([.ref a0])).length) Slot.unset).toArray = ls at hl ⊢
  replace hl : lv_has ls 1 [(0, .ref a0)] := hl
  refine lv_aload_n hx hb dX6_readByte_0 rfl (lv_at hl 0 rfl) ?_
  refine va_get (D := (dC, dI)) (ci := 6) (v := .int 0) (C := RX6) (T := TX6) (N := 9) hx hb hts iw_X6_readByte_X6 hown hK hP 0 rfl rfl 1 (by decide) (hts _ m_X6_readByte_1) (fun _ h9 => h9) rfl dX6_readByte_1 ?_
  refine lv_if_eq (tgt := 9) hx hb dX6_readByte_4 (by decide) (fun _ => ?_) (fun h => absurd (by decide) h)
  refine lv_aload_n hx hb dX6_readByte_9 rfl (lv_at hl 0 rfl) ?_
  refine va_get (D := (dC, dI)) (ci := 6) (v := .int 41) (C := RX6) (T := TX6) (N := 9) hx hb hts iw_X6_readByte_X6 hown hK hP 0 rfl rfl 3 (by decide) (hts _ m_X6_readByte_2) (fun _ h9 => h9) rfl dX6_readByte_10 ?_
  refine lv_aload_n hx hb dX6_readByte_13 rfl (lv_at hl 0 rfl) ?_
  refine va_get (D := (dC, dI)) (ci := 6) (v := .ref a1) (C := RX6) (T := TX6) (N := 9) hx hb hts iw_X6_readByte_X6 hown hK hP 0 rfl rfl 2 (by decide) (hts _ m_X6_readByte_3) (fun _ h9 => h9) rfl dX6_readByte_14 ?_
  refine va_get (D := (dC, dI)) (ci := 5) (v := .int 81) (C := RX5) (T := TX5) (N := 15) hx hb hts iw_X6_readByte_X5 hown hK hP 1 rfl rfl 1 (by decide) (hts _ m_X6_readByte_4) (fun _ h9 => h9) rfl dX6_readByte_17 ?_
  refine lv_icmp_lt (tgt := 41) hx hb dX6_readByte_20 (by decide) (fun _ => ?_) (fun h => absurd (by decide) h)
  refine lv_aload_n hx hb dX6_readByte_41 rfl (lv_at hl 0 rfl) ?_
  refine va_get (D := (dC, dI)) (ci := 6) (v := .ref a1) (C := RX6) (T := TX6) (N := 9) hx hb hts iw_X6_readByte_X6 hown hK hP 0 rfl rfl 2 (by decide) (hts _ m_X6_readByte_3) (fun _ h9 => h9) rfl dX6_readByte_42 ?_
  refine va_get (D := (dC, dI)) (ci := 5) (v := .ref cb) (C := RX5) (T := TX5) (N := 15) hx hb hts iw_X6_readByte_X5 hown hK hP 1 rfl rfl 0 (by decide) (hts _ m_X6_readByte_6) (fun _ h9 => h9) rfl dX6_readByte_45 ?_
  refine lv_aload_n hx hb dX6_readByte_48 rfl (lv_at hl 0 rfl) ?_
  refine lv_dup hx hb dX6_readByte_49 rfl ?_
  refine va_get (D := (dC, dI)) (ci := 6) (v := .int 41) (C := RX6) (T := TX6) (N := 9) hx hb hts iw_X6_readByte_X6 hown hK hP 0 rfl rfl 3 (by decide) (hts _ m_X6_readByte_2) (fun _ h9 => h9) rfl dX6_readByte_50 ?_
  refine lv_dup_x1 hx hb dX6_readByte_53 rfl rfl ?_
  refine lv_iconst (v := 1) hx hb dX6_readByte_54 (by decide) ?_
  refine lv_iadd hx hb dX6_readByte_55 ?_
  refine lv_topi (fun z_1 ez_1 => ?_)
  obtain rfl : z_1 = 42 := ez_1.trans (by decide)
  clear ez_1
  refine va_put (D := (dC, dI)) (ci := 6) (v := .int 42) (ty := .int) (C := RX6) (T := TX6) (N := 9) hx hb hts iw_X6_readByte_X6 tyX6 tyX6_ok nmX6 hown hK hP hD hS 0 rfl rfl 3 (by decide) (hts _ m_X6_readByte_2) (fun _ h9 => h9) rfl (by decide +kernel) rfl rfl (Nat.le_of_ble_eq_true rfl) dX6_readByte_56 (fun H_2 locs hP2 hD2 hS2 => ?_)
  replace hP : va_P (dC, dI) vwCl [(a0, .inr (6, [.int 0, .int 0, .ref a1, .int 42, .int 1, .int 2, .int 2, .int 1, .ref a2])), (a1, .inr (5, [.ref cb, .int 81, .int 0, .ref a3, .int 7, .ref a4, .int 2, .ref a5, .int 1, .int 1, .ref a6, .int 6, .int 0, .int 1, .int 0]))] H_2 := hP2
  replace hD : va_D A [(a0, .inr (6, [.int 0, .int 0, .ref a1, .int 42, .int 1, .int 2, .int 2, .int 1, .ref a2])), (a1, .inr (5, [.ref cb, .int 81, .int 0, .ref a3, .int 7, .ref a4, .int 2, .ref a5, .int 1, .int 1, .ref a6, .int 6, .int 0, .int 1, .int 0]))] := hD2
  replace hS := hS2
  clear hP2 hD2 hS2
  refine va_tb (v := .int 0) hx hb hSK.2 hS (by unfold vp_in; decide) rfl dX6_readByte_59 ?_
  refine lv_sipush (v := 255) hx hb dX6_readByte_60 (by decide) ?_
  refine lv_iand hx hb dX6_readByte_63 ?_
  refine lv_topi (fun z_3 ez_3 => ?_)
  obtain rfl : z_3 = 0 := ez_3.trans (by decide)
  clear ez_3
  exact W.iret hx hb hr (fun t ht hW => ⟨⟨0, (), rfl, rfl, by rw [ht]; exact hP, va_K.moved hW.alike hK, hD⟩, hS.F ht⟩) hS.2.2 dX6_readByte_64

set_option maxHeartbeats 4000000 in
set_option maxRecDepth 100000 in
theorem cc_373_X6_readNumber (l : Launch) (dC : Nat → ClassId) (dI : Nat → Nat → Nat) (cy : Nat → ClassId) (sz : Nat) (cb : Nat) (a0 : Nat) (a1 : Nat) (a2 : Nat) (a3 : Nat) (a4 : Nat) (a5 : Nat) (a6 : Nat)  : Met l yX6_readNumber wsX6_readNumber ({ frames := 1, cells := 0, slots := 0, locals := 20 }) (va_Pc [.ref a0, .int 0, .int 32] (fun U => U.heap.size = sz ∧ va_P (dC, dI) vwCl [(a0, .inr (6, [.int 0, .int 0, .ref a1, .int 41, .int 1, .int 2, .int 2, .int 1, .ref a2])), (a1, .inr (5, [.ref cb, .int 81, .int 0, .ref a3, .int 7, .ref a4, .int 2, .ref a5, .int 1, .int 1, .ref a6, .int 6, .int 0, .int 1, .int 0]))] U.heap ∧ va_K (dC, dI) vwCl (TYS cy) U ∧ va_D (fun _ => True) [(a0, .inr (6, [.int 0, .int 0, .ref a1, .int 41, .int 1, .int 2, .int 2, .int 1, .ref a2])), (a1, .inr (5, [.ref cb, .int 81, .int 0, .ref a3, .int 7, .ref a4, .int 2, .ref a5, .int 1, .int 1, .ref a6, .int 6, .int 0, .int 1, .int 0]))] ∧ NK U ∧ SK cb (va_A [(a0, .inr (6, [.int 0, .int 0, .ref a1, .int 41, .int 1, .int 2, .int 2, .int 1, .ref a2])), (a1, .inr (5, [.ref cb, .int 81, .int 0, .ref a3, .int 7, .ref a4, .int 2, .ref a5, .int 1, .int 1, .ref a6, .int 6, .int 0, .int 1, .int 0]))] sz) U U.heap)) (va_Qi (fun (r : Int32) (u : Unit) => r = 0) (fun u t => va_P (dC, dI) vwCl [(a0, .inr (6, [.int 0, .int 0, .ref a1, .int 42, .int 1, .int 2, .int 2, .int 1, .ref a2])), (a1, .inr (5, [.ref cb, .int 81, .int 0, .ref a3, .int 7, .ref a4, .int 2, .ref a5, .int 1, .int 1, .ref a6, .int 6, .int 0, .int 1, .int 0]))] t.heap ∧ va_K (dC, dI) vwCl (TYS cy) t ∧ va_D (va_A [(a0, .inr (6, [.int 0, .int 0, .ref a1, .int 41, .int 1, .int 2, .int 2, .int 1, .ref a2])), (a1, .inr (5, [.ref cb, .int 81, .int 0, .ref a3, .int 7, .ref a4, .int 2, .ref a5, .int 1, .int 1, .ref a6, .int 6, .int 0, .int 1, .int 0]))] sz) [(a0, .inr (6, [.int 0, .int 0, .ref a1, .int 42, .int 1, .int 2, .int 2, .int 1, .ref a2])), (a1, .inr (5, [.ref cb, .int 81, .int 0, .ref a3, .int 7, .ref a4, .int 2, .ref a5, .int 1, .int 1, .ref a6, .int 6, .int 0, .int 1, .int 0]))]) (va_A [(a0, .inr (6, [.int 0, .int 0, .ref a1, .int 41, .int 1, .int 2, .int 2, .int 1, .ref a2])), (a1, .inr (5, [.ref cb, .int 81, .int 0, .ref a3, .int 7, .ref a4, .int 2, .ref a5, .int 1, .int 1, .ref a6, .int 6, .int 0, .int 1, .int 0]))] sz)) 0 0 (va_A [(a0, .inr (6, [.int 0, .int 0, .ref a1, .int 41, .int 1, .int 2, .int 2, .int 1, .ref a2])), (a1, .inr (5, [.ref cb, .int 81, .int 0, .ref a3, .int 7, .ref a4, .int 2, .ref a5, .int 1, .int 1, .ref a6, .int 6, .int 0, .int 1, .int 0]))] sz) := by
  refine Met.ofW (cc := cX6_readNumber) (maxL := 5) (ret := (some .int)) (by decide) rfl ?_
  intro p e s m args below meth c s₁ B hml hv
  obtain ⟨rfl, hsz, hP, hK, hD0, hN, hSK⟩ := hv
  have hx := B.exec
  have hb := B.bytes
  have hr := B.returns
  have hts := atoms_spec (ws := wsX6_readNumber) B.pre
  have hown : s.vm.findClass RX6 = some m.cls := findClass_of_methodNamed B.named
  have hlocks := B.notSynchronized
  subst hsz
  have hD := hD0.self (sz := s.heap.size)
  generalize hAe : va_A [(a0, .inr (6, [.int 0, .int 0, .ref a1, .int 41, .int 1, .int 2, .int 2, .int 1, .ref a2])), (a1, .inr (5, [.ref cb, .int 81, .int 0, .ref a3, .int 7, .ref a4, .int 2, .ref a5, .int 1, .int 1, .ref a6, .int 6, .int 0, .int 1, .int 0]))] s.heap.size = A at hD hSK ⊢
  have hA : ∀ q : Nat, s.heap.size ≤ q → A q := fun q h => by rw [← hAe]; exact Or.inr h
  have hS : va_S A s.heap s.heap [] := va_S.rf
  have hP : va_P (dC, dI) vwCl [(a0, .inr (6, [.int 0, .int 0, .ref a1, .int 41, .int 1, .int 2, .int 2, .int 1, .ref a2])), (a1, .inr (5, [.ref cb, .int 81, .int 0, .ref a3, .int 7, .ref a4, .int 2, .ref a5, .int 1, .int 1, .ref a6, .int 6, .int 0, .int 1, .int 0]))] s.heap := hP
  have hl := lv_entry ([.ref a0, .int 0, .int 32]) (n := 5) (Nat.le_of_ble_eq_true rfl)
  rw [lg_entry_eq]
  generalize (lg_sl ([.ref a0, .int 0, .int 32]) ++ List.replicate (5 - (lg_sl ([.ref a0, .int 0, .int 32])).length) Slot.unset).toArray = ls at hl ⊢
  replace hl : lv_has ls 5 [(0, .ref a0), (1, .int 0), (2, .int 32)] := hl
  refine lv_aload_n hx hb dX6_readNumber_0 rfl (lv_at hl 0 rfl) ?_
  refine va_get (D := (dC, dI)) (ci := 6) (v := .int 41) (C := RX6) (T := TX6) (N := 9) hx hb hts iw_X6_readNumber_X6 hown hK hP 0 rfl rfl 3 (by decide) (hts _ m_X6_readNumber_1) (fun _ h9 => h9) rfl dX6_readNumber_1 ?_
  refine lv_istore_n (lv' := [(3, .int 41), (0, .ref a0), (1, .int 0), (2, .int 32)]) hx hb dX6_readNumber_4 rfl hl (by decide) rfl (fun ls hl2 => ?_)
  replace hl := hl2
  clear hl2
  refine lv_aload_n hx hb dX6_readNumber_5 rfl (lv_at hl 1 rfl) ?_
  have hPc := hP.sub (ws' := [(a0, .inr (6, [.int 0, .int 0, .ref a1, .int 41, .int 1, .int 2, .int 2, .int 1, .ref a2])), (a1, .inr (5, [.ref cb, .int 81, .int 0, .ref a3, .int 7, .ref a4, .int 2, .ref a5, .int 1, .int 1, .ref a6, .int 6, .int 0, .int 1, .int 0]))]) [0, 1] rfl
  have hDc := hD.sub (ws' := [(a0, .inr (6, [.int 0, .int 0, .ref a1, .int 41, .int 1, .int 2, .int 2, .int 1, .ref a2])), (a1, .inr (5, [.ref cb, .int 81, .int 0, .ref a3, .int 7, .ref a4, .int 2, .ref a5, .int 1, .int 1, .ref a6, .int 6, .int 0, .int 1, .int 0]))]) [0, 1] (by decide) rfl
  have hFc := va_free (wc := [(a0, .inr (6, [.int 0, .int 0, .ref a1, .int 41, .int 1, .int 2, .int 2, .int 1, .ref a2])), (a1, .inr (5, [.ref cb, .int 81, .int 0, .ref a3, .int 7, .ref a4, .int 2, .ref a5, .int 1, .int 1, .ref a6, .int 6, .int 0, .int 1, .int 0]))]) hD hS hA [0, 1] rfl
  refine va_calli (va_runV (As := []) (rest := []) ⟨hx, hb, hml, hown, hts⟩ (cc_374_X6_readByte l dC dI cy s.heap.size cb a0 a1 a2 a3 a4 a5 a6) (cwV 0 hts gX6_readNumber_X6_readByte rfl rfl rfl (by decide +kernel) ⟨Nat.le_of_ble_eq_true rfl, Nat.le_of_ble_eq_true rfl⟩) ⟨fun a U g mk q => by obtain ⟨q0, q1, qP, qK, qD, qN, qS⟩ := q; exact ⟨q0, q1, qP, va_K.moved (u := U) (U := U.calling g mk a) (Vm.Alike.refl U.vm) qK, qD, qN.same rfl, SK.moved (u := U) (U := U.calling g mk a) (Vm.Alike.refl U.vm) qS⟩, va_recv hK hPc (ci := 6) (q0 := 0) rfl rfl, fun U hU hW => ⟨rfl, by rw [hU], by rw [hU]; exact hPc, va_K.moved hW.alike hK, hDc.weaken (fun _ _ _ _ => trivial), hN.warm hW, by rw [hU]; exact ((hSK.kept hS.2.1).narrow hFc).moved hW.alike⟩⟩ rfl rfl hl.1 rfl (lv_room (Nat.le_of_ble_eq_true rfl)) dX6_readNumber_6 ⟨Nat.le_of_ble_eq_true rfl, Nat.le_of_ble_eq_true rfl⟩) hS (fun q _ h => hFc q h) hFc (fun r_1 u t H_2 locs ht hvm hw hB hz1 hk1 hS2 => ?_)
  obtain ⟨hP1, hK1, hD1⟩ := hB
  rw [ht] at hP1
  obtain rfl := hw
  obtain ⟨hP2, hD2⟩ := va_join (wr := []) (w1 := [(a0, .inr (6, [.int 0, .int 0, .ref a1, .int 42, .int 1, .int 2, .int 2, .int 1, .ref a2])), (a1, .inr (5, [.ref cb, .int 81, .int 0, .ref a3, .int 7, .ref a4, .int 2, .ref a5, .int 1, .int 1, .ref a6, .int 6, .int 0, .int 1, .int 0]))]) hP hD [0, 1] [] rfl rfl (by decide) (by decide) hk1 hFc hP1 hD1
  replace hP : va_P (dC, dI) vwCl [(a0, .inr (6, [.int 0, .int 0, .ref a1, .int 42, .int 1, .int 2, .int 2, .int 1, .ref a2])), (a1, .inr (5, [.ref cb, .int 81, .int 0, .ref a3, .int 7, .ref a4, .int 2, .ref a5, .int 1, .int 1, .ref a6, .int 6, .int 0, .int 1, .int 0]))] H_2 := hP2
  replace hD : va_D A [(a0, .inr (6, [.int 0, .int 0, .ref a1, .int 42, .int 1, .int 2, .int 2, .int 1, .ref a2])), (a1, .inr (5, [.ref cb, .int 81, .int 0, .ref a3, .int 7, .ref a4, .int 2, .ref a5, .int 1, .int 1, .ref a6, .int 6, .int 0, .int 1, .int 0]))] := hD2
  replace hS := hS2
  clear hP2 hD2 hS2
  clear hPc hDc hFc hP1 hD1 hK1 hk1 hz1 hvm ht
  refine W.widen (k := 0) (n := 0) (Nat.le_of_ble_eq_true rfl) (Nat.le_of_ble_eq_true rfl) ?_
  refine lv_istore (lv' := [(4, .int 0), (3, .int 41), (0, .ref a0), (1, .int 0), (2, .int 32)]) hx hb dX6_readNumber_9 hl (by decide) rfl (fun ls hl2 => ?_)
  replace hl := hl2
  clear hl2
  refine lv_iload hx hb dX6_readNumber_11 (lv_at hl 0 rfl) ?_
  refine lv_iload_n hx hb dX6_readNumber_13 rfl (lv_at hl 3 rfl) ?_
  refine lv_icmp_lt (tgt := 23) hx hb dX6_readNumber_14 (by decide) (fun h => absurd h (by decide)) (fun _ => ?_)
  refine lv_iload hx hb dX6_readNumber_17 (lv_at hl 0 rfl) ?_
  refine lv_iload_n hx hb dX6_readNumber_19 rfl (lv_at hl 4 rfl) ?_
  refine lv_icmp_le (tgt := 29) hx hb dX6_readNumber_20 (by decide) (fun _ => ?_) (fun h => absurd (by decide) h)
  refine lv_aload_n hx hb dX6_readNumber_29 rfl (lv_at hl 2 rfl) ?_
  refine va_get (D := (dC, dI)) (ci := 6) (v := .int 0) (C := RX6) (T := TX6) (N := 9) hx hb hts iw_X6_readNumber_X6 hown hK hP 0 rfl rfl 1 (by decide) (hts _ m_X6_readNumber_2) (fun _ h9 => h9) rfl dX6_readNumber_30 ?_
  refine lv_if_ne (tgt := 41) hx hb dX6_readNumber_33 (by decide) (fun h => absurd (by decide) h) (fun _ => ?_)
  refine lv_iload hx hb dX6_readNumber_36 (lv_at hl 0 rfl) ?_
  refine lv_goto (tgt := 42) hx hb dX6_readNumber_38 (by decide) ?_
  exact W.iret hx hb hr (fun t ht hW => ⟨⟨0, (), rfl, rfl, by rw [ht]; exact hP, va_K.moved hW.alike hK, hD⟩, hS.F ht⟩) hS.2.2 dX6_readNumber_42

set_option maxHeartbeats 4000000 in
set_option maxRecDepth 100000 in
theorem cc_375_X6_readTypes (l : Launch) (dC : Nat → ClassId) (dI : Nat → Nat → Nat) (cy : Nat → ClassId) (sz : Nat) (cb : Nat) (a0 : Nat) (a1 : Nat) (a2 : Nat)  : Met l yX6_readTypes wsX6_readTypes ({ frames := 0, cells := 0, slots := 0, locals := 0 }) (va_Pc [.ref a0, .int 0, .int 1] (fun U => U.heap.size = sz ∧ va_P (dC, dI) vwCl [(a0, .inr (6, [.int 0, .int 0, .ref a1, .int 42, .int 1, .int 2, .int 2, .int 1, .ref a2]))] U.heap ∧ va_K (dC, dI) vwCl (TYS cy) U ∧ va_D (fun _ => True) [(a0, .inr (6, [.int 0, .int 0, .ref a1, .int 42, .int 1, .int 2, .int 2, .int 1, .ref a2]))] ∧ NK U ∧ SK cb (va_A [(a0, .inr (6, [.int 0, .int 0, .ref a1, .int 42, .int 1, .int 2, .int 2, .int 1, .ref a2]))] sz) U U.heap)) (va_Qv (fun u : Unit => True) (fun u t => va_P (dC, dI) vwCl [(a0, .inr (6, [.int 0, .int 0, .ref a1, .int 42, .int 1, .int 2, .int 2, .int 1, .ref a2]))] t.heap ∧ va_K (dC, dI) vwCl (TYS cy) t ∧ va_D (va_A [(a0, .inr (6, [.int 0, .int 0, .ref a1, .int 42, .int 1, .int 2, .int 2, .int 1, .ref a2]))] sz) [(a0, .inr (6, [.int 0, .int 0, .ref a1, .int 42, .int 1, .int 2, .int 2, .int 1, .ref a2]))]) (va_A [(a0, .inr (6, [.int 0, .int 0, .ref a1, .int 42, .int 1, .int 2, .int 2, .int 1, .ref a2]))] sz)) 0 0 (va_A [(a0, .inr (6, [.int 0, .int 0, .ref a1, .int 42, .int 1, .int 2, .int 2, .int 1, .ref a2]))] sz) := by
  refine Met.ofW (cc := cX6_readTypes) (maxL := 4) (ret := none) (by decide) rfl ?_
  intro p e s m args below meth c s₁ B hml hv
  obtain ⟨rfl, hsz, hP, hK, hD0, hN, hSK⟩ := hv
  have hx := B.exec
  have hb := B.bytes
  have hr := B.returns
  have hts := atoms_spec (ws := wsX6_readTypes) B.pre
  have hown : s.vm.findClass RX6 = some m.cls := findClass_of_methodNamed B.named
  have hlocks := B.notSynchronized
  subst hsz
  have hD := hD0.self (sz := s.heap.size)
  generalize hAe : va_A [(a0, .inr (6, [.int 0, .int 0, .ref a1, .int 42, .int 1, .int 2, .int 2, .int 1, .ref a2]))] s.heap.size = A at hD hSK ⊢
  have hA : ∀ q : Nat, s.heap.size ≤ q → A q := fun q h => by rw [← hAe]; exact Or.inr h
  have hS : va_S A s.heap s.heap [] := va_S.rf
  have hP : va_P (dC, dI) vwCl [(a0, .inr (6, [.int 0, .int 0, .ref a1, .int 42, .int 1, .int 2, .int 2, .int 1, .ref a2]))] s.heap := hP
  have hl := lv_entry ([.ref a0, .int 0, .int 1]) (n := 4) (Nat.le_of_ble_eq_true rfl)
  rw [lg_entry_eq]
  generalize (lg_sl ([.ref a0, .int 0, .int 1]) ++ List.replicate (4 - (lg_sl ([.ref a0, .int 0, .int 1])).length) Slot.unset).toArray = ls at hl ⊢
  replace hl : lv_has ls 4 [(0, .ref a0), (1, .int 0), (2, .int 1)] := hl
  refine lv_iconst (v := 0) hx hb dX6_readTypes_0 (by decide) ?_
  refine lv_istore_n (lv' := [(3, .int 0), (0, .ref a0), (1, .int 0), (2, .int 1)]) hx hb dX6_readTypes_1 rfl hl (by decide) rfl (fun ls hl2 => ?_)
  replace hl := hl2
  clear hl2
  refine lv_iload_n hx hb dX6_readTypes_2 rfl (lv_at hl 0 rfl) ?_
  refine lv_iload_n hx hb dX6_readTypes_3 rfl (lv_at hl 2 rfl) ?_
  refine lv_icmp_ge (tgt := 32) hx hb dX6_readTypes_4 (by decide) (fun _ => ?_) (fun h => absurd (by decide) h)
  exact W.vret hx hb hr (fun t ht hW => ⟨⟨(), rfl, trivial, by rw [ht]; exact hP, va_K.moved hW.alike hK, hD⟩, hS.F ht⟩) hS.2.2 dX6_readTypes_32

set_option maxHeartbeats 4000000 in
set_option maxRecDepth 100000 in
theorem cc_372_X6_readList (l : Launch) (dC : Nat → ClassId) (dI : Nat → Nat → Nat) (cy : Nat → ClassId) (sz : Nat) (cb : Nat) (a0 : Nat) (a1 : Nat) (a2 : Nat) (a3 : Nat) (a4 : Nat) (a5 : Nat) (a6 : Nat)  : Met l yX6_readList wsX6_readList ({ frames := 2, cells := 0, slots := 0, locals := 44 }) (va_Pc [.ref a0, .int 32] (fun U => U.heap.size = sz ∧ va_P (dC, dI) vwCl [(a0, .inr (6, [.int 0, .int 0, .ref a1, .int 41, .int 1, .int 2, .int 2, .int 1, .ref a2])), (a1, .inr (5, [.ref cb, .int 81, .int 0, .ref a3, .int 7, .ref a4, .int 2, .ref a5, .int 1, .int 1, .ref a6, .int 6, .int 0, .int 1, .int 0]))] U.heap ∧ va_K (dC, dI) vwCl (TYS cy) U ∧ va_D (fun _ => True) [(a0, .inr (6, [.int 0, .int 0, .ref a1, .int 41, .int 1, .int 2, .int 2, .int 1, .ref a2])), (a1, .inr (5, [.ref cb, .int 81, .int 0, .ref a3, .int 7, .ref a4, .int 2, .ref a5, .int 1, .int 1, .ref a6, .int 6, .int 0, .int 1, .int 0]))] ∧ NK U ∧ SK cb (va_A [(a0, .inr (6, [.int 0, .int 0, .ref a1, .int 41, .int 1, .int 2, .int 2, .int 1, .ref a2])), (a1, .inr (5, [.ref cb, .int 81, .int 0, .ref a3, .int 7, .ref a4, .int 2, .ref a5, .int 1, .int 1, .ref a6, .int 6, .int 0, .int 1, .int 0]))] sz) U U.heap)) (va_Qi (fun (r : Int32) (u : Unit) => r = 0) (fun u t => va_P (dC, dI) vwCl [(a0, .inr (6, [.int 0, .int 0, .ref a1, .int 42, .int 1, .int 2, .int 2, .int 1, .ref a2])), (a1, .inr (5, [.ref cb, .int 81, .int 0, .ref a3, .int 7, .ref a4, .int 2, .ref a5, .int 1, .int 1, .ref a6, .int 6, .int 0, .int 1, .int 0]))] t.heap ∧ va_K (dC, dI) vwCl (TYS cy) t ∧ va_D (va_A [(a0, .inr (6, [.int 0, .int 0, .ref a1, .int 41, .int 1, .int 2, .int 2, .int 1, .ref a2])), (a1, .inr (5, [.ref cb, .int 81, .int 0, .ref a3, .int 7, .ref a4, .int 2, .ref a5, .int 1, .int 1, .ref a6, .int 6, .int 0, .int 1, .int 0]))] sz) [(a0, .inr (6, [.int 0, .int 0, .ref a1, .int 42, .int 1, .int 2, .int 2, .int 1, .ref a2])), (a1, .inr (5, [.ref cb, .int 81, .int 0, .ref a3, .int 7, .ref a4, .int 2, .ref a5, .int 1, .int 1, .ref a6, .int 6, .int 0, .int 1, .int 0]))]) (va_A [(a0, .inr (6, [.int 0, .int 0, .ref a1, .int 41, .int 1, .int 2, .int 2, .int 1, .ref a2])), (a1, .inr (5, [.ref cb, .int 81, .int 0, .ref a3, .int 7, .ref a4, .int 2, .ref a5, .int 1, .int 1, .ref a6, .int 6, .int 0, .int 1, .int 0]))] sz)) 0 0 (va_A [(a0, .inr (6, [.int 0, .int 0, .ref a1, .int 41, .int 1, .int 2, .int 2, .int 1, .ref a2])), (a1, .inr (5, [.ref cb, .int 81, .int 0, .ref a3, .int 7, .ref a4, .int 2, .ref a5, .int 1, .int 1, .ref a6, .int 6, .int 0, .int 1, .int 0]))] sz) := by
  refine Met.ofW (cc := cX6_readList) (maxL := 3) (ret := (some .int)) (by decide) rfl ?_
  intro p e s m args below meth c s₁ B hml hv
  obtain ⟨rfl, hsz, hP, hK, hD0, hN, hSK⟩ := hv
  have hx := B.exec
  have hb := B.bytes
  have hr := B.returns
  have hts := atoms_spec (ws := wsX6_readList) B.pre
  have hown : s.vm.findClass RX6 = some m.cls := findClass_of_methodNamed B.named
  have hlocks := B.notSynchronized
  subst hsz
  have hD := hD0.self (sz := s.heap.size)
  generalize hAe : va_A [(a0, .inr (6, [.int 0, .int 0, .ref a1, .int 41, .int 1, .int 2, .int 2, .int 1, .ref a2])), (a1, .inr (5, [.ref cb, .int 81, .int 0, .ref a3, .int 7, .ref a4, .int 2, .ref a5, .int 1, .int 1, .ref a6, .int 6, .int 0, .int 1, .int 0]))] s.heap.size = A at hD hSK ⊢
  have hA : ∀ q : Nat, s.heap.size ≤ q → A q := fun q h => by rw [← hAe]; exact Or.inr h
  have hS : va_S A s.heap s.heap [] := va_S.rf
  have hP : va_P (dC, dI) vwCl [(a0, .inr (6, [.int 0, .int 0, .ref a1, .int 41, .int 1, .int 2, .int 2, .int 1, .ref a2])), (a1, .inr (5, [.ref cb, .int 81, .int 0, .ref a3, .int 7, .ref a4, .int 2, .ref a5, .int 1, .int 1, .ref a6, .int 6, .int 0, .int 1, .int 0]))] s.heap := hP
  have hl := lv_entry ([.ref a0, .int 32]) (n := 3) (Nat.le_of_ble_eq_true rfl)
  rw [lg_entry_eq]
  generalize (lg_sl ([.ref a0, .int 32]) ++ List.replicate (3 - (lg_sl ([.ref a0, .int 32])).length) Slot.unset).toArray = ls at hl ⊢
  replace hl : lv_has ls 3 [(0, .ref a0), (1, .int 32)] := hl
  refine lv_aload_n hx hb dX6_readList_0 rfl (lv_at hl 0 rfl) ?_
  refine lv_iconst (v := 0) hx hb dX6_readList_1 (by decide) ?_
  refine lv_iload_n hx hb dX6_readList_2 rfl (lv_at hl 1 rfl) ?_
  have hPc := hP.sub (ws' := [(a0, .inr (6, [.int 0, .int 0, .ref a1, .int 41, .int 1, .int 2, .int 2, .int 1, .ref a2])), (a1, .inr (5, [.ref cb, .int 81, .int 0, .ref a3, .int 7, .ref a4, .int 2, .ref a5, .int 1, .int 1, .ref a6, .int 6, .int 0, .int 1, .int 0]))]) [0, 1] rfl
  have hDc := hD.sub (ws' := [(a0, .inr (6, [.int 0, .int 0, .ref a1, .int 41, .int 1, .int 2, .int 2, .int 1, .ref a2])), (a1, .inr (5, [.ref cb, .int 81, .int 0, .ref a3, .int 7, .ref a4, .int 2, .ref a5, .int 1, .int 1, .ref a6, .int 6, .int 0, .int 1, .int 0]))]) [0, 1] (by decide) rfl
  have hFc := va_free (wc := [(a0, .inr (6, [.int 0, .int 0, .ref a1, .int 41, .int 1, .int 2, .int 2, .int 1, .ref a2])), (a1, .inr (5, [.ref cb, .int 81, .int 0, .ref a3, .int 7, .ref a4, .int 2, .ref a5, .int 1, .int 1, .ref a6, .int 6, .int 0, .int 1, .int 0]))]) hD hS hA [0, 1] rfl
  refine va_calli (va_runV (As := [.int 0, .int 32]) (rest := []) ⟨hx, hb, hml, hown, hts⟩ (cc_373_X6_readNumber l dC dI cy s.heap.size cb a0 a1 a2 a3 a4 a5 a6) (cwV 2 hts gX6_readList_X6_readNumber rfl rfl rfl (by decide +kernel) ⟨Nat.le_of_ble_eq_true rfl, Nat.le_of_ble_eq_true rfl⟩) ⟨fun a U g mk q => by obtain ⟨q0, q1, qP, qK, qD, qN, qS⟩ := q; exact ⟨q0, q1, qP, va_K.moved (u := U) (U := U.calling g mk a) (Vm.Alike.refl U.vm) qK, qD, qN.same rfl, SK.moved (u := U) (U := U.calling g mk a) (Vm.Alike.refl U.vm) qS⟩, va_recv hK hPc (ci := 6) (q0 := 0) rfl rfl, fun U hU hW => ⟨rfl, by rw [hU], by rw [hU]; exact hPc, va_K.moved hW.alike hK, hDc.weaken (fun _ _ _ _ => trivial), hN.warm hW, by rw [hU]; exact ((hSK.kept hS.2.1).narrow hFc).moved hW.alike⟩⟩ rfl rfl hl.1 rfl (lv_room (Nat.le_of_ble_eq_true rfl)) dX6_readList_3 ⟨Nat.le_of_ble_eq_true rfl, Nat.le_of_ble_eq_true rfl⟩) hS (fun q _ h => hFc q h) hFc (fun r_1 u t H_2 locs ht hvm hw hB hz1 hk1 hS2 => ?_)
  obtain ⟨hP1, hK1, hD1⟩ := hB
  rw [ht] at hP1
  obtain rfl := hw
  obtain ⟨hP2, hD2⟩ := va_join (wr := []) (w1 := [(a0, .inr (6, [.int 0, .int 0, .ref a1, .int 42, .int 1, .int 2, .int 2, .int 1, .ref a2])), (a1, .inr (5, [.ref cb, .int 81, .int 0, .ref a3, .int 7, .ref a4, .int 2, .ref a5, .int 1, .int 1, .ref a6, .int 6, .int 0, .int 1, .int 0]))]) hP hD [0, 1] [] rfl rfl (by decide) (by decide) hk1 hFc hP1 hD1
  replace hP : va_P (dC, dI) vwCl [(a0, .inr (6, [.int 0, .int 0, .ref a1, .int 42, .int 1, .int 2, .int 2, .int 1, .ref a2])), (a1, .inr (5, [.ref cb, .int 81, .int 0, .ref a3, .int 7, .ref a4, .int 2, .ref a5, .int 1, .int 1, .ref a6, .int 6, .int 0, .int 1, .int 0]))] H_2 := hP2
  replace hD : va_D A [(a0, .inr (6, [.int 0, .int 0, .ref a1, .int 42, .int 1, .int 2, .int 2, .int 1, .ref a2])), (a1, .inr (5, [.ref cb, .int 81, .int 0, .ref a3, .int 7, .ref a4, .int 2, .ref a5, .int 1, .int 1, .ref a6, .int 6, .int 0, .int 1, .int 0]))] := hD2
  replace hS := hS2
  clear hP2 hD2 hS2
  clear hPc hDc hFc hP1 hD1 hK1 hk1 hz1 hvm ht
  refine W.widen (k := 0) (n := 0) (Nat.le_of_ble_eq_true rfl) (Nat.le_of_ble_eq_true rfl) ?_
  refine lv_istore_n (lv' := [(2, .int 0), (0, .ref a0), (1, .int 32)]) hx hb dX6_readList_6 rfl hl (by decide) rfl (fun ls hl2 => ?_)
  replace hl := hl2
  clear hl2
  refine lv_aload_n hx hb dX6_readList_7 rfl (lv_at hl 1 rfl) ?_
  refine lv_iload_n hx hb dX6_readList_8 rfl (lv_at hl 0 rfl) ?_
  refine lv_iconst (v := 1) hx hb dX6_readList_9 (by decide) ?_
  have hPc := hP.sub (ws' := [(a0, .inr (6, [.int 0, .int 0, .ref a1, .int 42, .int 1, .int 2, .int 2, .int 1, .ref a2]))]) [0] rfl
  have hDc := hD.sub (ws' := [(a0, .inr (6, [.int 0, .int 0, .ref a1, .int 42, .int 1, .int 2, .int 2, .int 1, .ref a2]))]) [0] (by decide) rfl
  have hFc := va_free (wc := [(a0, .inr (6, [.int 0, .int 0, .ref a1, .int 42, .int 1, .int 2, .int 2, .int 1, .ref a2]))]) hD hS hA [0] rfl
  refine va_callv (va_runV (As := [.int 0, .int 1]) (rest := []) ⟨hx, hb, hml, hown, hts⟩ (cc_375_X6_readTypes l dC dI cy H_2.size cb a0 a1 a2) (cwV 2 hts gX6_readList_X6_readTypes rfl rfl rfl (by decide +kernel) ⟨Nat.le_of_ble_eq_true rfl, Nat.le_of_ble_eq_true rfl⟩) ⟨fun a U g mk q => by obtain ⟨q0, q1, qP, qK, qD, qN, qS⟩ := q; exact ⟨q0, q1, qP, va_K.moved (u := U) (U := U.calling g mk a) (Vm.Alike.refl U.vm) qK, qD, qN.same rfl, SK.moved (u := U) (U := U.calling g mk a) (Vm.Alike.refl U.vm) qS⟩, va_recv hK hPc (ci := 6) (q0 := 0) rfl rfl, fun U hU hW => ⟨rfl, by rw [hU], by rw [hU]; exact hPc, va_K.moved hW.alike hK, hDc.weaken (fun _ _ _ _ => trivial), hN.warm hW, by rw [hU]; exact ((hSK.kept hS.2.1).narrow hFc).moved hW.alike⟩⟩ rfl rfl hl.1 rfl (lv_room (Nat.le_of_ble_eq_true rfl)) dX6_readList_10 ⟨Nat.le_of_ble_eq_true rfl, Nat.le_of_ble_eq_true rfl⟩) hS (fun q _ h => hFc q h) hFc (fun u t H_3 locs ht hvm hw hB hz1 hk1 hS2 => ?_)
  obtain ⟨hP1, hK1, hD1⟩ := hB
  rw [ht] at hP1
  obtain ⟨hP2, hD2⟩ := va_join (wr := [(a1, .inr (5, [.ref cb, .int 81, .int 0, .ref a3, .int 7, .ref a4, .int 2, .ref a5, .int 1, .int 1, .ref a6, .int 6, .int 0, .int 1, .int 0]))]) (w1 := [(a0, .inr (6, [.int 0, .int 0, .ref a1, .int 42, .int 1, .int 2, .int 2, .int 1, .ref a2]))]) hP hD [0] [1] rfl rfl (by decide) (by decide) hk1 hFc hP1 hD1
  replace hP : va_P (dC, dI) vwCl [(a1, .inr (5, [.ref cb, .int 81, .int 0, .ref a3, .int 7, .ref a4, .int 2, .ref a5, .int 1, .int 1, .ref a6, .int 6, .int 0, .int 1, .int 0])), (a0, .inr (6, [.int 0, .int 0, .ref a1, .int 42, .int 1, .int 2, .int 2, .int 1, .ref a2]))] H_3 := hP2
  replace hD : va_D A [(a1, .inr (5, [.ref cb, .int 81, .int 0, .ref a3, .int 7, .ref a4, .int 2, .ref a5, .int 1, .int 1, .ref a6, .int 6, .int 0, .int 1, .int 0])), (a0, .inr (6, [.int 0, .int 0, .ref a1, .int 42, .int 1, .int 2, .int 2, .int 1, .ref a2]))] := hD2
  replace hS := hS2
  clear hP2 hD2 hS2
  clear hPc hDc hFc hP1 hD1 hK1 hk1 hz1 hvm ht
  refine W.widen (k := 0) (n := 0) (Nat.le_of_ble_eq_true rfl) (Nat.le_of_ble_eq_true rfl) ?_
  refine lv_iload_n hx hb dX6_readList_13 rfl (lv_at hl 0 rfl) ?_
  have hP := hP.sub (ws' := [(a0, .inr (6, [.int 0, .int 0, .ref a1, .int 42, .int 1, .int 2, .int 2, .int 1, .ref a2])), (a1, .inr (5, [.ref cb, .int 81, .int 0, .ref a3, .int 7, .ref a4, .int 2, .ref a5, .int 1, .int 1, .ref a6, .int 6, .int 0, .int 1, .int 0]))]) [1, 0] rfl
  have hD := hD.sub (ws' := [(a0, .inr (6, [.int 0, .int 0, .ref a1, .int 42, .int 1, .int 2, .int 2, .int 1, .ref a2])), (a1, .inr (5, [.ref cb, .int 81, .int 0, .ref a3, .int 7, .ref a4, .int 2, .ref a5, .int 1, .int 1, .ref a6, .int 6, .int 0, .int 1, .int 0]))]) [1, 0] (by decide) rfl
  exact W.iret hx hb hr (fun t ht hW => ⟨⟨0, (), rfl, rfl, by rw [ht]; exact hP, va_K.moved hW.alike hK, hD⟩, hS.F ht⟩) hS.2.2 dX6_readList_14

set_option maxHeartbeats 4000000 in
set_option maxRecDepth 100000 in
theorem cc_377_X6_readByte (l : Launch) (dC : Nat → ClassId) (dI : Nat → Nat → Nat) (cy : Nat → ClassId) (sz : Nat) (cb : Nat) (a0 : Nat) (a1 : Nat) (a2 : Nat) (a3 : Nat) (a4 : Nat) (a5 : Nat) (a6 : Nat)  : Met l yX6_readByte wsX6_readByte ({ frames := 0, cells := 0, slots := 0, locals := 0 }) (va_Pc [.ref a0] (fun U => U.heap.size = sz ∧ va_P (dC, dI) vwCl [(a0, .inr (6, [.int 0, .int 0, .ref a1, .int 42, .int 1, .int 2, .int 1, .int 1, .ref a2])), (a1, .inr (5, [.ref cb, .int 81, .int 0, .ref a3, .int 7, .ref a4, .int 2, .ref a5, .int 1, .int 1, .ref a6, .int 6, .int 0, .int 1, .int 0]))] U.heap ∧ va_K (dC, dI) vwCl (TYS cy) U ∧ va_D (fun _ => True) [(a0, .inr (6, [.int 0, .int 0, .ref a1, .int 42, .int 1, .int 2, .int 1, .int 1, .ref a2])), (a1, .inr (5, [.ref cb, .int 81, .int 0, .ref a3, .int 7, .ref a4, .int 2, .ref a5, .int 1, .int 1, .ref a6, .int 6, .int 0, .int 1, .int 0]))] ∧ NK U ∧ SK cb (va_A [(a0, .inr (6, [.int 0, .int 0, .ref a1, .int 42, .int 1, .int 2, .int 1, .int 1, .ref a2])), (a1, .inr (5, [.ref cb, .int 81, .int 0, .ref a3, .int 7, .ref a4, .int 2, .ref a5, .int 1, .int 1, .ref a6, .int 6, .int 0, .int 1, .int 0]))] sz) U U.heap)) (va_Qi (fun (r : Int32) (u : Unit) => r = 0) (fun u t => va_P (dC, dI) vwCl [(a0, .inr (6, [.int 0, .int 0, .ref a1, .int 43, .int 1, .int 2, .int 1, .int 1, .ref a2])), (a1, .inr (5, [.ref cb, .int 81, .int 0, .ref a3, .int 7, .ref a4, .int 2, .ref a5, .int 1, .int 1, .ref a6, .int 6, .int 0, .int 1, .int 0]))] t.heap ∧ va_K (dC, dI) vwCl (TYS cy) t ∧ va_D (va_A [(a0, .inr (6, [.int 0, .int 0, .ref a1, .int 42, .int 1, .int 2, .int 1, .int 1, .ref a2])), (a1, .inr (5, [.ref cb, .int 81, .int 0, .ref a3, .int 7, .ref a4, .int 2, .ref a5, .int 1, .int 1, .ref a6, .int 6, .int 0, .int 1, .int 0]))] sz) [(a0, .inr (6, [.int 0, .int 0, .ref a1, .int 43, .int 1, .int 2, .int 1, .int 1, .ref a2])), (a1, .inr (5, [.ref cb, .int 81, .int 0, .ref a3, .int 7, .ref a4, .int 2, .ref a5, .int 1, .int 1, .ref a6, .int 6, .int 0, .int 1, .int 0]))]) (va_A [(a0, .inr (6, [.int 0, .int 0, .ref a1, .int 42, .int 1, .int 2, .int 1, .int 1, .ref a2])), (a1, .inr (5, [.ref cb, .int 81, .int 0, .ref a3, .int 7, .ref a4, .int 2, .ref a5, .int 1, .int 1, .ref a6, .int 6, .int 0, .int 1, .int 0]))] sz)) 0 0 (va_A [(a0, .inr (6, [.int 0, .int 0, .ref a1, .int 42, .int 1, .int 2, .int 1, .int 1, .ref a2])), (a1, .inr (5, [.ref cb, .int 81, .int 0, .ref a3, .int 7, .ref a4, .int 2, .ref a5, .int 1, .int 1, .ref a6, .int 6, .int 0, .int 1, .int 0]))] sz) := by
  refine Met.ofW (cc := cX6_readByte) (maxL := 1) (ret := (some .int)) (by decide) rfl ?_
  intro p e s m args below meth c s₁ B hml hv
  obtain ⟨rfl, hsz, hP, hK, hD0, hN, hSK⟩ := hv
  have hx := B.exec
  have hb := B.bytes
  have hr := B.returns
  have hts := atoms_spec (ws := wsX6_readByte) B.pre
  have hown : s.vm.findClass RX6 = some m.cls := findClass_of_methodNamed B.named
  have hlocks := B.notSynchronized
  subst hsz
  have hD := hD0.self (sz := s.heap.size)
  generalize hAe : va_A [(a0, .inr (6, [.int 0, .int 0, .ref a1, .int 42, .int 1, .int 2, .int 1, .int 1, .ref a2])), (a1, .inr (5, [.ref cb, .int 81, .int 0, .ref a3, .int 7, .ref a4, .int 2, .ref a5, .int 1, .int 1, .ref a6, .int 6, .int 0, .int 1, .int 0]))] s.heap.size = A at hD hSK ⊢
  have hA : ∀ q : Nat, s.heap.size ≤ q → A q := fun q h => by rw [← hAe]; exact Or.inr h
  have hS : va_S A s.heap s.heap [] := va_S.rf
  have hP : va_P (dC, dI) vwCl [(a0, .inr (6, [.int 0, .int 0, .ref a1, .int 42, .int 1, .int 2, .int 1, .int 1, .ref a2])), (a1, .inr (5, [.ref cb, .int 81, .int 0, .ref a3, .int 7, .ref a4, .int 2, .ref a5, .int 1, .int 1, .ref a6, .int 6, .int 0, .int 1, .int 0]))] s.heap := hP
  have hl := lv_entry ([.ref a0]) (n := 1) (Nat.le_of_ble_eq_true rfl)
  rw [lg_entry_eq]
  generalize (lg_sl ([.ref a0]) ++ List.replicate (1 - (lg_sl ([.ref a0])).length) Slot.unset).toArray = ls at hl ⊢
  replace hl : lv_has ls 1 [(0, .ref a0)] := hl
  refine lv_aload_n hx hb dX6_readByte_0 rfl (lv_at hl 0 rfl) ?_
  refine va_get (D := (dC, dI)) (ci := 6) (v := .int 0) (C := RX6) (T := TX6) (N := 9) hx hb hts iw_X6_readByte_X6 hown hK hP 0 rfl rfl 1 (by decide) (hts _ m_X6_readByte_1) (fun _ h9 => h9) rfl dX6_readByte_1 ?_
  refine lv_if_eq (tgt := 9) hx hb dX6_readByte_4 (by decide) (fun _ => ?_) (fun h => absurd (by decide) h)
  refine lv_aload_n hx hb dX6_readByte_9 rfl (lv_at hl 0 rfl) ?_
  refine va_get (D := (dC, dI)) (ci := 6) (v := .int 42) (C := RX6) (T := TX6) (N := 9) hx hb hts iw_X6_readByte_X6 hown hK hP 0 rfl rfl 3 (by decide) (hts _ m_X6_readByte_2) (fun _ h9 => h9) rfl dX6_readByte_10 ?_
  refine lv_aload_n hx hb dX6_readByte_13 rfl (lv_at hl 0 rfl) ?_
  refine va_get (D := (dC, dI)) (ci := 6) (v := .ref a1) (C := RX6) (T := TX6) (N := 9) hx hb hts iw_X6_readByte_X6 hown hK hP 0 rfl rfl 2 (by decide) (hts _ m_X6_readByte_3) (fun _ h9 => h9) rfl dX6_readByte_14 ?_
  refine va_get (D := (dC, dI)) (ci := 5) (v := .int 81) (C := RX5) (T := TX5) (N := 15) hx hb hts iw_X6_readByte_X5 hown hK hP 1 rfl rfl 1 (by decide) (hts _ m_X6_readByte_4) (fun _ h9 => h9) rfl dX6_readByte_17 ?_
  refine lv_icmp_lt (tgt := 41) hx hb dX6_readByte_20 (by decide) (fun _ => ?_) (fun h => absurd (by decide) h)
  refine lv_aload_n hx hb dX6_readByte_41 rfl (lv_at hl 0 rfl) ?_
  refine va_get (D := (dC, dI)) (ci := 6) (v := .ref a1) (C := RX6) (T := TX6) (N := 9) hx hb hts iw_X6_readByte_X6 hown hK hP 0 rfl rfl 2 (by decide) (hts _ m_X6_readByte_3) (fun _ h9 => h9) rfl dX6_readByte_42 ?_
  refine va_get (D := (dC, dI)) (ci := 5) (v := .ref cb) (C := RX5) (T := TX5) (N := 15) hx hb hts iw_X6_readByte_X5 hown hK hP 1 rfl rfl 0 (by decide) (hts _ m_X6_readByte_6) (fun _ h9 => h9) rfl dX6_readByte_45 ?_
  refine lv_aload_n hx hb dX6_readByte_48 rfl (lv_at hl 0 rfl) ?_
  refine lv_dup hx hb dX6_readByte_49 rfl ?_
  refine va_get (D := (dC, dI)) (ci := 6) (v := .int 42) (C := RX6) (T := TX6) (N := 9) hx hb hts iw_X6_readByte_X6 hown hK hP 0 rfl rfl 3 (by decide) (hts _ m_X6_readByte_2) (fun _ h9 => h9) rfl dX6_readByte_50 ?_
  refine lv_dup_x1 hx hb dX6_readByte_53 rfl rfl ?_
  refine lv_iconst (v := 1) hx hb dX6_readByte_54 (by decide) ?_
  refine lv_iadd hx hb dX6_readByte_55 ?_
  refine lv_topi (fun z_1 ez_1 => ?_)
  obtain rfl : z_1 = 43 := ez_1.trans (by decide)
  clear ez_1
  refine va_put (D := (dC, dI)) (ci := 6) (v := .int 43) (ty := .int) (C := RX6) (T := TX6) (N := 9) hx hb hts iw_X6_readByte_X6 tyX6 tyX6_ok nmX6 hown hK hP hD hS 0 rfl rfl 3 (by decide) (hts _ m_X6_readByte_2) (fun _ h9 => h9) rfl (by decide +kernel) rfl rfl (Nat.le_of_ble_eq_true rfl) dX6_readByte_56 (fun H_2 locs hP2 hD2 hS2 => ?_)
  replace hP : va_P (dC, dI) vwCl [(a0, .inr (6, [.int 0, .int 0, .ref a1, .int 43, .int 1, .int 2, .int 1, .int 1, .ref a2])), (a1, .inr (5, [.ref cb, .int 81, .int 0, .ref a3, .int 7, .ref a4, .int 2, .ref a5, .int 1, .int 1, .ref a6, .int 6, .int 0, .int 1, .int 0]))] H_2 := hP2
  replace hD : va_D A [(a0, .inr (6, [.int 0, .int 0, .ref a1, .int 43, .int 1, .int 2, .int 1, .int 1, .ref a2])), (a1, .inr (5, [.ref cb, .int 81, .int 0, .ref a3, .int 7, .ref a4, .int 2, .ref a5, .int 1, .int 1, .ref a6, .int 6, .int 0, .int 1, .int 0]))] := hD2
  replace hS := hS2
  clear hP2 hD2 hS2
  refine va_tb (v := .int 0) hx hb hSK.2 hS (by unfold vp_in; decide) rfl dX6_readByte_59 ?_
  refine lv_sipush (v := 255) hx hb dX6_readByte_60 (by decide) ?_
  refine lv_iand hx hb dX6_readByte_63 ?_
  refine lv_topi (fun z_3 ez_3 => ?_)
  obtain rfl : z_3 = 0 := ez_3.trans (by decide)
  clear ez_3
  exact W.iret hx hb hr (fun t ht hW => ⟨⟨0, (), rfl, rfl, by rw [ht]; exact hP, va_K.moved hW.alike hK, hD⟩, hS.F ht⟩) hS.2.2 dX6_readByte_64

set_option maxHeartbeats 4000000 in
set_option maxRecDepth 100000 in
theorem cc_378_X6_readByte (l : Launch) (dC : Nat → ClassId) (dI : Nat → Nat → Nat) (cy : Nat → ClassId) (sz : Nat) (cb : Nat) (a0 : Nat) (a1 : Nat) (a2 : Nat) (a3 : Nat) (a4 : Nat) (a5 : Nat) (a6 : Nat)  : Met l yX6_readByte wsX6_readByte ({ frames := 0, cells := 0, slots := 0, locals := 0 }) (va_Pc [.ref a0] (fun U => U.heap.size = sz ∧ va_P (dC, dI) vwCl [(a0, .inr (6, [.int 0, .int 0, .ref a1, .int 43, .int 1, .int 2, .int 1, .int 1, .ref a2])), (a1, .inr (5, [.ref cb, .int 81, .int 0, .ref a3, .int 7, .ref a4, .int 2, .ref a5, .int 1, .int 1, .ref a6, .int 6, .int 0, .int 1, .int 0]))] U.heap ∧ va_K (dC, dI) vwCl (TYS cy) U ∧ va_D (fun _ => True) [(a0, .inr (6, [.int 0, .int 0, .ref a1, .int 43, .int 1, .int 2, .int 1, .int 1, .ref a2])), (a1, .inr (5, [.ref cb, .int 81, .int 0, .ref a3, .int 7, .ref a4, .int 2, .ref a5, .int 1, .int 1, .ref a6, .int 6, .int 0, .int 1, .int 0]))] ∧ NK U ∧ SK cb (va_A [(a0, .inr (6, [.int 0, .int 0, .ref a1, .int 43, .int 1, .int 2, .int 1, .int 1, .ref a2])), (a1, .inr (5, [.ref cb, .int 81, .int 0, .ref a3, .int 7, .ref a4, .int 2, .ref a5, .int 1, .int 1, .ref a6, .int 6, .int 0, .int 1, .int 0]))] sz) U U.heap)) (va_Qi (fun (r : Int32) (u : Unit) => r = 1) (fun u t => va_P (dC, dI) vwCl [(a0, .inr (6, [.int 0, .int 0, .ref a1, .int 44, .int 1, .int 2, .int 1, .int 1, .ref a2])), (a1, .inr (5, [.ref cb, .int 81, .int 0, .ref a3, .int 7, .ref a4, .int 2, .ref a5, .int 1, .int 1, .ref a6, .int 6, .int 0, .int 1, .int 0]))] t.heap ∧ va_K (dC, dI) vwCl (TYS cy) t ∧ va_D (va_A [(a0, .inr (6, [.int 0, .int 0, .ref a1, .int 43, .int 1, .int 2, .int 1, .int 1, .ref a2])), (a1, .inr (5, [.ref cb, .int 81, .int 0, .ref a3, .int 7, .ref a4, .int 2, .ref a5, .int 1, .int 1, .ref a6, .int 6, .int 0, .int 1, .int 0]))] sz) [(a0, .inr (6, [.int 0, .int 0, .ref a1, .int 44, .int 1, .int 2, .int 1, .int 1, .ref a2])), (a1, .inr (5, [.ref cb, .int 81, .int 0, .ref a3, .int 7, .ref a4, .int 2, .ref a5, .int 1, .int 1, .ref a6, .int 6, .int 0, .int 1, .int 0]))]) (va_A [(a0, .inr (6, [.int 0, .int 0, .ref a1, .int 43, .int 1, .int 2, .int 1, .int 1, .ref a2])), (a1, .inr (5, [.ref cb, .int 81, .int 0, .ref a3, .int 7, .ref a4, .int 2, .ref a5, .int 1, .int 1, .ref a6, .int 6, .int 0, .int 1, .int 0]))] sz)) 0 0 (va_A [(a0, .inr (6, [.int 0, .int 0, .ref a1, .int 43, .int 1, .int 2, .int 1, .int 1, .ref a2])), (a1, .inr (5, [.ref cb, .int 81, .int 0, .ref a3, .int 7, .ref a4, .int 2, .ref a5, .int 1, .int 1, .ref a6, .int 6, .int 0, .int 1, .int 0]))] sz) := by
  refine Met.ofW (cc := cX6_readByte) (maxL := 1) (ret := (some .int)) (by decide) rfl ?_
  intro p e s m args below meth c s₁ B hml hv
  obtain ⟨rfl, hsz, hP, hK, hD0, hN, hSK⟩ := hv
  have hx := B.exec
  have hb := B.bytes
  have hr := B.returns
  have hts := atoms_spec (ws := wsX6_readByte) B.pre
  have hown : s.vm.findClass RX6 = some m.cls := findClass_of_methodNamed B.named
  have hlocks := B.notSynchronized
  subst hsz
  have hD := hD0.self (sz := s.heap.size)
  generalize hAe : va_A [(a0, .inr (6, [.int 0, .int 0, .ref a1, .int 43, .int 1, .int 2, .int 1, .int 1, .ref a2])), (a1, .inr (5, [.ref cb, .int 81, .int 0, .ref a3, .int 7, .ref a4, .int 2, .ref a5, .int 1, .int 1, .ref a6, .int 6, .int 0, .int 1, .int 0]))] s.heap.size = A at hD hSK ⊢
  have hA : ∀ q : Nat, s.heap.size ≤ q → A q := fun q h => by rw [← hAe]; exact Or.inr h
  have hS : va_S A s.heap s.heap [] := va_S.rf
  have hP : va_P (dC, dI) vwCl [(a0, .inr (6, [.int 0, .int 0, .ref a1, .int 43, .int 1, .int 2, .int 1, .int 1, .ref a2])), (a1, .inr (5, [.ref cb, .int 81, .int 0, .ref a3, .int 7, .ref a4, .int 2, .ref a5, .int 1, .int 1, .ref a6, .int 6, .int 0, .int 1, .int 0]))] s.heap := hP
  have hl := lv_entry ([.ref a0]) (n := 1) (Nat.le_of_ble_eq_true rfl)
  rw [lg_entry_eq]
  generalize (lg_sl ([.ref a0]) ++ List.replicate (1 - (lg_sl ([.ref a0])).length) Slot.unset).toArray = ls at hl ⊢
  replace hl : lv_has ls 1 [(0, .ref a0)] := hl
  refine lv_aload_n hx hb dX6_readByte_0 rfl (lv_at hl 0 rfl) ?_
  refine va_get (D := (dC, dI)) (ci := 6) (v := .int 0) (C := RX6) (T := TX6) (N := 9) hx hb hts iw_X6_readByte_X6 hown hK hP 0 rfl rfl 1 (by decide) (hts _ m_X6_readByte_1) (fun _ h9 => h9) rfl dX6_readByte_1 ?_
  refine lv_if_eq (tgt := 9) hx hb dX6_readByte_4 (by decide) (fun _ => ?_) (fun h => absurd (by decide) h)
  refine lv_aload_n hx hb dX6_readByte_9 rfl (lv_at hl 0 rfl) ?_
  refine va_get (D := (dC, dI)) (ci := 6) (v := .int 43) (C := RX6) (T := TX6) (N := 9) hx hb hts iw_X6_readByte_X6 hown hK hP 0 rfl rfl 3 (by decide) (hts _ m_X6_readByte_2) (fun _ h9 => h9) rfl dX6_readByte_10 ?_
  refine lv_aload_n hx hb dX6_readByte_13 rfl (lv_at hl 0 rfl) ?_
  refine va_get (D := (dC, dI)) (ci := 6) (v := .ref a1) (C := RX6) (T := TX6) (N := 9) hx hb hts iw_X6_readByte_X6 hown hK hP 0 rfl rfl 2 (by decide) (hts _ m_X6_readByte_3) (fun _ h9 => h9) rfl dX6_readByte_14 ?_
  refine va_get (D := (dC, dI)) (ci := 5) (v := .int 81) (C := RX5) (T := TX5) (N := 15) hx hb hts iw_X6_readByte_X5 hown hK hP 1 rfl rfl 1 (by decide) (hts _ m_X6_readByte_4) (fun _ h9 => h9) rfl dX6_readByte_17 ?_
  refine lv_icmp_lt (tgt := 41) hx hb dX6_readByte_20 (by decide) (fun _ => ?_) (fun h => absurd (by decide) h)
  refine lv_aload_n hx hb dX6_readByte_41 rfl (lv_at hl 0 rfl) ?_
  refine va_get (D := (dC, dI)) (ci := 6) (v := .ref a1) (C := RX6) (T := TX6) (N := 9) hx hb hts iw_X6_readByte_X6 hown hK hP 0 rfl rfl 2 (by decide) (hts _ m_X6_readByte_3) (fun _ h9 => h9) rfl dX6_readByte_42 ?_
  refine va_get (D := (dC, dI)) (ci := 5) (v := .ref cb) (C := RX5) (T := TX5) (N := 15) hx hb hts iw_X6_readByte_X5 hown hK hP 1 rfl rfl 0 (by decide) (hts _ m_X6_readByte_6) (fun _ h9 => h9) rfl dX6_readByte_45 ?_
  refine lv_aload_n hx hb dX6_readByte_48 rfl (lv_at hl 0 rfl) ?_
  refine lv_dup hx hb dX6_readByte_49 rfl ?_
  refine va_get (D := (dC, dI)) (ci := 6) (v := .int 43) (C := RX6) (T := TX6) (N := 9) hx hb hts iw_X6_readByte_X6 hown hK hP 0 rfl rfl 3 (by decide) (hts _ m_X6_readByte_2) (fun _ h9 => h9) rfl dX6_readByte_50 ?_
  refine lv_dup_x1 hx hb dX6_readByte_53 rfl rfl ?_
  refine lv_iconst (v := 1) hx hb dX6_readByte_54 (by decide) ?_
  refine lv_iadd hx hb dX6_readByte_55 ?_
  refine lv_topi (fun z_1 ez_1 => ?_)
  obtain rfl : z_1 = 44 := ez_1.trans (by decide)
  clear ez_1
  refine va_put (D := (dC, dI)) (ci := 6) (v := .int 44) (ty := .int) (C := RX6) (T := TX6) (N := 9) hx hb hts iw_X6_readByte_X6 tyX6 tyX6_ok nmX6 hown hK hP hD hS 0 rfl rfl 3 (by decide) (hts _ m_X6_readByte_2) (fun _ h9 => h9) rfl (by decide +kernel) rfl rfl (Nat.le_of_ble_eq_true rfl) dX6_readByte_56 (fun H_2 locs hP2 hD2 hS2 => ?_)
  replace hP : va_P (dC, dI) vwCl [(a0, .inr (6, [.int 0, .int 0, .ref a1, .int 44, .int 1, .int 2, .int 1, .int 1, .ref a2])), (a1, .inr (5, [.ref cb, .int 81, .int 0, .ref a3, .int 7, .ref a4, .int 2, .ref a5, .int 1, .int 1, .ref a6, .int 6, .int 0, .int 1, .int 0]))] H_2 := hP2
  replace hD : va_D A [(a0, .inr (6, [.int 0, .int 0, .ref a1, .int 44, .int 1, .int 2, .int 1, .int 1, .ref a2])), (a1, .inr (5, [.ref cb, .int 81, .int 0, .ref a3, .int 7, .ref a4, .int 2, .ref a5, .int 1, .int 1, .ref a6, .int 6, .int 0, .int 1, .int 0]))] := hD2
  replace hS := hS2
  clear hP2 hD2 hS2
  refine va_tb (v := .int 1) hx hb hSK.2 hS (by unfold vp_in; decide) rfl dX6_readByte_59 ?_
  refine lv_sipush (v := 255) hx hb dX6_readByte_60 (by decide) ?_
  refine lv_iand hx hb dX6_readByte_63 ?_
  refine lv_topi (fun z_3 ez_3 => ?_)
  obtain rfl : z_3 = 1 := ez_3.trans (by decide)
  clear ez_3
  exact W.iret hx hb hr (fun t ht hW => ⟨⟨1, (), rfl, rfl, by rw [ht]; exact hP, va_K.moved hW.alike hK, hD⟩, hS.F ht⟩) hS.2.2 dX6_readByte_64

set_option maxHeartbeats 4000000 in
set_option maxRecDepth 100000 in
theorem cc_376_X6_readShort (l : Launch) (dC : Nat → ClassId) (dI : Nat → Nat → Nat) (cy : Nat → ClassId) (sz : Nat) (cb : Nat) (a0 : Nat) (a1 : Nat) (a2 : Nat) (a3 : Nat) (a4 : Nat) (a5 : Nat) (a6 : Nat)  : Met l yX6_readShort wsX6_readShort ({ frames := 1, cells := 0, slots := 0, locals := 20 }) (va_Pc [.ref a0] (fun U => U.heap.size = sz ∧ va_P (dC, dI) vwCl [(a0, .inr (6, [.int 0, .int 0, .ref a1, .int 42, .int 1, .int 2, .int 1, .int 1, .ref a2])), (a1, .inr (5, [.ref cb, .int 81, .int 0, .ref a3, .int 7, .ref a4, .int 2, .ref a5, .int 1, .int 1, .ref a6, .int 6, .int 0, .int 1, .int 0]))] U.heap ∧ va_K (dC, dI) vwCl (TYS cy) U ∧ va_D (fun _ => True) [(a0, .inr (6, [.int 0, .int 0, .ref a1, .int 42, .int 1, .int 2, .int 1, .int 1, .ref a2])), (a1, .inr (5, [.ref cb, .int 81, .int 0, .ref a3, .int 7, .ref a4, .int 2, .ref a5, .int 1, .int 1, .ref a6, .int 6, .int 0, .int 1, .int 0]))] ∧ NK U ∧ SK cb (va_A [(a0, .inr (6, [.int 0, .int 0, .ref a1, .int 42, .int 1, .int 2, .int 1, .int 1, .ref a2])), (a1, .inr (5, [.ref cb, .int 81, .int 0, .ref a3, .int 7, .ref a4, .int 2, .ref a5, .int 1, .int 1, .ref a6, .int 6, .int 0, .int 1, .int 0]))] sz) U U.heap)) (va_Qi (fun (r : Int32) (u : Unit) => r = 1) (fun u t => va_P (dC, dI) vwCl [(a0, .inr (6, [.int 0, .int 0, .ref a1, .int 44, .int 1, .int 2, .int 1, .int 1, .ref a2])), (a1, .inr (5, [.ref cb, .int 81, .int 0, .ref a3, .int 7, .ref a4, .int 2, .ref a5, .int 1, .int 1, .ref a6, .int 6, .int 0, .int 1, .int 0]))] t.heap ∧ va_K (dC, dI) vwCl (TYS cy) t ∧ va_D (va_A [(a0, .inr (6, [.int 0, .int 0, .ref a1, .int 42, .int 1, .int 2, .int 1, .int 1, .ref a2])), (a1, .inr (5, [.ref cb, .int 81, .int 0, .ref a3, .int 7, .ref a4, .int 2, .ref a5, .int 1, .int 1, .ref a6, .int 6, .int 0, .int 1, .int 0]))] sz) [(a0, .inr (6, [.int 0, .int 0, .ref a1, .int 44, .int 1, .int 2, .int 1, .int 1, .ref a2])), (a1, .inr (5, [.ref cb, .int 81, .int 0, .ref a3, .int 7, .ref a4, .int 2, .ref a5, .int 1, .int 1, .ref a6, .int 6, .int 0, .int 1, .int 0]))]) (va_A [(a0, .inr (6, [.int 0, .int 0, .ref a1, .int 42, .int 1, .int 2, .int 1, .int 1, .ref a2])), (a1, .inr (5, [.ref cb, .int 81, .int 0, .ref a3, .int 7, .ref a4, .int 2, .ref a5, .int 1, .int 1, .ref a6, .int 6, .int 0, .int 1, .int 0]))] sz)) 0 0 (va_A [(a0, .inr (6, [.int 0, .int 0, .ref a1, .int 42, .int 1, .int 2, .int 1, .int 1, .ref a2])), (a1, .inr (5, [.ref cb, .int 81, .int 0, .ref a3, .int 7, .ref a4, .int 2, .ref a5, .int 1, .int 1, .ref a6, .int 6, .int 0, .int 1, .int 0]))] sz) := by
  refine Met.ofW (cc := cX6_readShort) (maxL := 2) (ret := (some .int)) (by decide) rfl ?_
  intro p e s m args below meth c s₁ B hml hv
  obtain ⟨rfl, hsz, hP, hK, hD0, hN, hSK⟩ := hv
  have hx := B.exec
  have hb := B.bytes
  have hr := B.returns
  have hts := atoms_spec (ws := wsX6_readShort) B.pre
  have hown : s.vm.findClass RX6 = some m.cls := findClass_of_methodNamed B.named
  have hlocks := B.notSynchronized
  subst hsz
  have hD := hD0.self (sz := s.heap.size)
  generalize hAe : va_A [(a0, .inr (6, [.int 0, .int 0, .ref a1, .int 42, .int 1, .int 2, .int 1, .int 1, .ref a2])), (a1, .inr (5, [.ref cb, .int 81, .int 0, .ref a3, .int 7, .ref a4, .int 2, .ref a5, .int 1, .int 1, .ref a6, .int 6, .int 0, .int 1, .int 0]))] s.heap.size = A at hD hSK ⊢
  have hA : ∀ q : Nat, s.heap.size ≤ q → A q := fun q h => by rw [← hAe]; exact Or.inr h
  have hS : va_S A s.heap s.heap [] := va_S.rf
  have hP : va_P (dC, dI) vwCl [(a0, .inr (6, [.int 0, .int 0, .ref a1, .int 42, .int 1, .int 2, .int 1, .int 1, .ref a2])), (a1, .inr (5, [.ref cb, .int 81, .int 0, .ref a3, .int 7, .ref a4, .int 2, .ref a5, .int 1, .int 1, .ref a6, .int 6, .int 0, .int 1, .int 0]))] s.heap := hP
  have hl := lv_entry ([.ref a0]) (n := 2) (Nat.le_of_ble_eq_true rfl)
  rw [lg_entry_eq]
  generalize (lg_sl ([.ref a0]) ++ List.replicate (2 - (lg_sl ([.ref a0])).length) Slot.unset).toArray = ls at hl ⊢
  replace hl : lv_has ls 2 [(0, .ref a0)] := hl
  refine lv_aload_n hx hb dX6_readShort_0 rfl (lv_at hl 0 rfl) ?_
  have hPc := hP.sub (ws' := [(a0, .inr (6, [.int 0, .int 0, .ref a1, .int 42, .int 1, .int 2, .int 1, .int 1, .ref a2])), (a1, .inr (5, [.ref cb, .int 81, .int 0, .ref a3, .int 7, .ref a4, .int 2, .ref a5, .int 1, .int 1, .ref a6, .int 6, .int 0, .int 1, .int 0]))]) [0, 1] rfl
  have hDc := hD.sub (ws' := [(a0, .inr (6, [.int 0, .int 0, .ref a1, .int 42, .int 1, .int 2, .int 1, .int 1, .ref a2])), (a1, .inr (5, [.ref cb, .int 81, .int 0, .ref a3, .int 7, .ref a4, .int 2, .ref a5, .int 1, .int 1, .ref a6, .int 6, .int 0, .int 1, .int 0]))]) [0, 1] (by decide) rfl
  have hFc := va_free (wc := [(a0, .inr (6, [.int 0, .int 0, .ref a1, .int 42, .int 1, .int 2, .int 1, .int 1, .ref a2])), (a1, .inr (5, [.ref cb, .int 81, .int 0, .ref a3, .int 7, .ref a4, .int 2, .ref a5, .int 1, .int 1, .ref a6, .int 6, .int 0, .int 1, .int 0]))]) hD hS hA [0, 1] rfl
  refine va_calli (va_runV (As := []) (rest := []) ⟨hx, hb, hml, hown, hts⟩ (cc_377_X6_readByte l dC dI cy s.heap.size cb a0 a1 a2 a3 a4 a5 a6) (cwV 0 hts gX6_readShort_X6_readByte rfl rfl rfl (by decide +kernel) ⟨Nat.le_of_ble_eq_true rfl, Nat.le_of_ble_eq_true rfl⟩) ⟨fun a U g mk q => by obtain ⟨q0, q1, qP, qK, qD, qN, qS⟩ := q; exact ⟨q0, q1, qP, va_K.moved (u := U) (U := U.calling g mk a) (Vm.Alike.refl U.vm) qK, qD, qN.same rfl, SK.moved (u := U) (U := U.calling g mk a) (Vm.Alike.refl U.vm) qS⟩, va_recv hK hPc (ci := 6) (q0 := 0) rfl rfl, fun U hU hW => ⟨rfl, by rw [hU], by rw [hU]; exact hPc, va_K.moved hW.alike hK, hDc.weaken (fun _ _ _ _ => trivial), hN.warm hW, by rw [hU]; exact ((hSK.kept hS.2.1).narrow hFc).moved hW.alike⟩⟩ rfl rfl hl.1 rfl (lv_room (Nat.le_of_ble_eq_true rfl)) dX6_readShort_1 ⟨Nat.le_of_ble_eq_true rfl, Nat.le_of_ble_eq_true rfl⟩) hS (fun q _ h => hFc q h) hFc (fun r_1 u t H_2 locs ht hvm hw hB hz1 hk1 hS2 => ?_)
  obtain ⟨hP1, hK1, hD1⟩ := hB
  rw [ht] at hP1
  obtain rfl := hw
  obtain ⟨hP2, hD2⟩ := va_join (wr := []) (w1 := [(a0, .inr (6, [.int 0, .int 0, .ref a1, .int 43, .int 1, .int 2, .int 1, .int 1, .ref a2])), (a1, .inr (5, [.ref cb, .int 81, .int 0, .ref a3, .int 7, .ref a4, .int 2, .ref a5, .int 1, .int 1, .ref a6, .int 6, .int 0, .int 1, .int 0]))]) hP hD [0, 1] [] rfl rfl (by decide) (by decide) hk1 hFc hP1 hD1
  replace hP : va_P (dC, dI) vwCl [(a0, .inr (6, [.int 0, .int 0, .ref a1, .int 43, .int 1, .int 2, .int 1, .int 1, .ref a2])), (a1, .inr (5, [.ref cb, .int 81, .int 0, .ref a3, .int 7, .ref a4, .int 2, .ref a5, .int 1, .int 1, .ref a6, .int 6, .int 0, .int 1, .int 0]))] H_2 := hP2
  replace hD : va_D A [(a0, .inr (6, [.int 0, .int 0, .ref a1, .int 43, .int 1, .int 2, .int 1, .int 1, .ref a2])), (a1, .inr (5, [.ref cb, .int 81, .int 0, .ref a3, .int 7, .ref a4, .int 2, .ref a5, .int 1, .int 1, .ref a6, .int 6, .int 0, .int 1, .int 0]))] := hD2
  replace hS := hS2
  clear hP2 hD2 hS2
  clear hPc hDc hFc hP1 hD1 hK1 hk1 hz1 hvm ht
  refine W.widen (k := 0) (n := 0) (Nat.le_of_ble_eq_true rfl) (Nat.le_of_ble_eq_true rfl) ?_
  refine lv_istore_n (lv' := [(1, .int 0), (0, .ref a0)]) hx hb dX6_readShort_4 rfl hl (by decide) rfl (fun ls hl2 => ?_)
  replace hl := hl2
  clear hl2
  refine lv_iload_n hx hb dX6_readShort_5 rfl (lv_at hl 0 rfl) ?_
  refine lv_bipush (v := 8) hx hb dX6_readShort_6 (by decide) ?_
  refine lv_ishl hx hb dX6_readShort_8 ?_
  refine lv_topi (fun z_3 ez_3 => ?_)
  obtain rfl : z_3 = 0 := ez_3.trans (by decide)
  clear ez_3
  refine lv_aload_n hx hb dX6_readShort_9 rfl (lv_at hl 1 rfl) ?_
  have hPc := hP.sub (ws' := [(a0, .inr (6, [.int 0, .int 0, .ref a1, .int 43, .int 1, .int 2, .int 1, .int 1, .ref a2])), (a1, .inr (5, [.ref cb, .int 81, .int 0, .ref a3, .int 7, .ref a4, .int 2, .ref a5, .int 1, .int 1, .ref a6, .int 6, .int 0, .int 1, .int 0]))]) [0, 1] rfl
  have hDc := hD.sub (ws' := [(a0, .inr (6, [.int 0, .int 0, .ref a1, .int 43, .int 1, .int 2, .int 1, .int 1, .ref a2])), (a1, .inr (5, [.ref cb, .int 81, .int 0, .ref a3, .int 7, .ref a4, .int 2, .ref a5, .int 1, .int 1, .ref a6, .int 6, .int 0, .int 1, .int 0]))]) [0, 1] (by decide) rfl
  have hFc := va_free (wc := [(a0, .inr (6, [.int 0, .int 0, .ref a1, .int 43, .int 1, .int 2, .int 1, .int 1, .ref a2])), (a1, .inr (5, [.ref cb, .int 81, .int 0, .ref a3, .int 7, .ref a4, .int 2, .ref a5, .int 1, .int 1, .ref a6, .int 6, .int 0, .int 1, .int 0]))]) hD hS hA [0, 1] rfl
  refine va_calli (va_runV (As := []) (rest := [.int 0]) ⟨hx, hb, hml, hown, hts⟩ (cc_378_X6_readByte l dC dI cy H_2.size cb a0 a1 a2 a3 a4 a5 a6) (cwV 0 hts gX6_readShort_X6_readByte rfl rfl rfl (by decide +kernel) ⟨Nat.le_of_ble_eq_true rfl, Nat.le_of_ble_eq_true rfl⟩) ⟨fun a U g mk q => by obtain ⟨q0, q1, qP, qK, qD, qN, qS⟩ := q; exact ⟨q0, q1, qP, va_K.moved (u := U) (U := U.calling g mk a) (Vm.Alike.refl U.vm) qK, qD, qN.same rfl, SK.moved (u := U) (U := U.calling g mk a) (Vm.Alike.refl U.vm) qS⟩, va_recv hK hPc (ci := 6) (q0 := 0) rfl rfl, fun U hU hW => ⟨rfl, by rw [hU], by rw [hU]; exact hPc, va_K.moved hW.alike hK, hDc.weaken (fun _ _ _ _ => trivial), hN.warm hW, by rw [hU]; exact ((hSK.kept hS.2.1).narrow hFc).moved hW.alike⟩⟩ rfl rfl hl.1 rfl (lv_room (Nat.le_of_ble_eq_true rfl)) dX6_readShort_10 ⟨Nat.le_of_ble_eq_true rfl, Nat.le_of_ble_eq_true rfl⟩) hS (fun q _ h => hFc q h) hFc (fun r_4 u t H_5 locs ht hvm hw hB hz1 hk1 hS2 => ?_)
  obtain ⟨hP1, hK1, hD1⟩ := hB
  rw [ht] at hP1
  obtain rfl := hw
  obtain ⟨hP2, hD2⟩ := va_join (wr := []) (w1 := [(a0, .inr (6, [.int 0, .int 0, .ref a1, .int 44, .int 1, .int 2, .int 1, .int 1, .ref a2])), (a1, .inr (5, [.ref cb, .int 81, .int 0, .ref a3, .int 7, .ref a4, .int 2, .ref a5, .int 1, .int 1, .ref a6, .int 6, .int 0, .int 1, .int 0]))]) hP hD [0, 1] [] rfl rfl (by decide) (by decide) hk1 hFc hP1 hD1
  replace hP : va_P (dC, dI) vwCl [(a0, .inr (6, [.int 0, .int 0, .ref a1, .int 44, .int 1, .int 2, .int 1, .int 1, .ref a2])), (a1, .inr (5, [.ref cb, .int 81, .int 0, .ref a3, .int 7, .ref a4, .int 2, .ref a5, .int 1, .int 1, .ref a6, .int 6, .int 0, .int 1, .int 0]))] H_5 := hP2
  replace hD : va_D A [(a0, .inr (6, [.int 0, .int 0, .ref a1, .int 44, .int 1, .int 2, .int 1, .int 1, .ref a2])), (a1, .inr (5, [.ref cb, .int 81, .int 0, .ref a3, .int 7, .ref a4, .int 2, .ref a5, .int 1, .int 1, .ref a6, .int 6, .int 0, .int 1, .int 0]))] := hD2
  replace hS := hS2
  clear hP2 hD2 hS2
  clear hPc hDc hFc hP1 hD1 hK1 hk1 hz1 hvm ht
  refine W.widen (k := 0) (n := 0) (Nat.le_of_ble_eq_true rfl) (Nat.le_of_ble_eq_true rfl) ?_
  refine lv_ior hx hb dX6_readShort_13 ?_
  refine lv_topi (fun z_6 ez_6 => ?_)
  obtain rfl : z_6 = 1 := ez_6.trans (by decide)
  clear ez_6
  exact W.iret hx hb hr (fun t ht hW => ⟨⟨1, (), rfl, rfl, by rw [ht]; exact hP, va_K.moved hW.alike hK, hD⟩, hS.F ht⟩) hS.2.2 dX6_readShort_14

set_option maxHeartbeats 4000000 in
set_option maxRecDepth 100000 in
theorem cc_380_X6_readByte (l : Launch) (dC : Nat → ClassId) (dI : Nat → Nat → Nat) (cy : Nat → ClassId) (sz : Nat) (cb : Nat) (a0 : Nat) (a1 : Nat) (a2 : Nat) (a3 : Nat) (a4 : Nat) (a5 : Nat) (a6 : Nat)  : Met l yX6_readByte wsX6_readByte ({ frames := 0, cells := 0, slots := 0, locals := 0 }) (va_Pc [.ref a0] (fun U => U.heap.size = sz ∧ va_P (dC, dI) vwCl [(a0, .inr (6, [.int 0, .int 0, .ref a1, .int 44, .int 1, .int 3, .int 1, .int 1, .ref a2])), (a1, .inr (5, [.ref cb, .int 81, .int 0, .ref a3, .int 7, .ref a4, .int 3, .ref a5, .int 1, .int 1, .ref a6, .int 6, .int 0, .int 1, .int 0]))] U.heap ∧ va_K (dC, dI) vwCl (TYS cy) U ∧ va_D (fun _ => True) [(a0, .inr (6, [.int 0, .int 0, .ref a1, .int 44, .int 1, .int 3, .int 1, .int 1, .ref a2])), (a1, .inr (5, [.ref cb, .int 81, .int 0, .ref a3, .int 7, .ref a4, .int 3, .ref a5, .int 1, .int 1, .ref a6, .int 6, .int 0, .int 1, .int 0]))] ∧ NK U ∧ SK cb (va_A [(a0, .inr (6, [.int 0, .int 0, .ref a1, .int 44, .int 1, .int 3, .int 1, .int 1, .ref a2])), (a1, .inr (5, [.ref cb, .int 81, .int 0, .ref a3, .int 7, .ref a4, .int 3, .ref a5, .int 1, .int 1, .ref a6, .int 6, .int 0, .int 1, .int 0]))] sz) U U.heap)) (va_Qi (fun (r : Int32) (u : Unit) => r = 35) (fun u t => va_P (dC, dI) vwCl [(a0, .inr (6, [.int 0, .int 0, .ref a1, .int 45, .int 1, .int 3, .int 1, .int 1, .ref a2])), (a1, .inr (5, [.ref cb, .int 81, .int 0, .ref a3, .int 7, .ref a4, .int 3, .ref a5, .int 1, .int 1, .ref a6, .int 6, .int 0, .int 1, .int 0]))] t.heap ∧ va_K (dC, dI) vwCl (TYS cy) t ∧ va_D (va_A [(a0, .inr (6, [.int 0, .int 0, .ref a1, .int 44, .int 1, .int 3, .int 1, .int 1, .ref a2])), (a1, .inr (5, [.ref cb, .int 81, .int 0, .ref a3, .int 7, .ref a4, .int 3, .ref a5, .int 1, .int 1, .ref a6, .int 6, .int 0, .int 1, .int 0]))] sz) [(a0, .inr (6, [.int 0, .int 0, .ref a1, .int 45, .int 1, .int 3, .int 1, .int 1, .ref a2])), (a1, .inr (5, [.ref cb, .int 81, .int 0, .ref a3, .int 7, .ref a4, .int 3, .ref a5, .int 1, .int 1, .ref a6, .int 6, .int 0, .int 1, .int 0]))]) (va_A [(a0, .inr (6, [.int 0, .int 0, .ref a1, .int 44, .int 1, .int 3, .int 1, .int 1, .ref a2])), (a1, .inr (5, [.ref cb, .int 81, .int 0, .ref a3, .int 7, .ref a4, .int 3, .ref a5, .int 1, .int 1, .ref a6, .int 6, .int 0, .int 1, .int 0]))] sz)) 0 0 (va_A [(a0, .inr (6, [.int 0, .int 0, .ref a1, .int 44, .int 1, .int 3, .int 1, .int 1, .ref a2])), (a1, .inr (5, [.ref cb, .int 81, .int 0, .ref a3, .int 7, .ref a4, .int 3, .ref a5, .int 1, .int 1, .ref a6, .int 6, .int 0, .int 1, .int 0]))] sz) := by
  refine Met.ofW (cc := cX6_readByte) (maxL := 1) (ret := (some .int)) (by decide) rfl ?_
  intro p e s m args below meth c s₁ B hml hv
  obtain ⟨rfl, hsz, hP, hK, hD0, hN, hSK⟩ := hv
  have hx := B.exec
  have hb := B.bytes
  have hr := B.returns
  have hts := atoms_spec (ws := wsX6_readByte) B.pre
  have hown : s.vm.findClass RX6 = some m.cls := findClass_of_methodNamed B.named
  have hlocks := B.notSynchronized
  subst hsz
  have hD := hD0.self (sz := s.heap.size)
  generalize hAe : va_A [(a0, .inr (6, [.int 0, .int 0, .ref a1, .int 44, .int 1, .int 3, .int 1, .int 1, .ref a2])), (a1, .inr (5, [.ref cb, .int 81, .int 0, .ref a3, .int 7, .ref a4, .int 3, .ref a5, .int 1, .int 1, .ref a6, .int 6, .int 0, .int 1, .int 0]))] s.heap.size = A at hD hSK ⊢
  have hA : ∀ q : Nat, s.heap.size ≤ q → A q := fun q h => by rw [← hAe]; exact Or.inr h
  have hS : va_S A s.heap s.heap [] := va_S.rf
  have hP : va_P (dC, dI) vwCl [(a0, .inr (6, [.int 0, .int 0, .ref a1, .int 44, .int 1, .int 3, .int 1, .int 1, .ref a2])), (a1, .inr (5, [.ref cb, .int 81, .int 0, .ref a3, .int 7, .ref a4, .int 3, .ref a5, .int 1, .int 1, .ref a6, .int 6, .int 0, .int 1, .int 0]))] s.heap := hP
  have hl := lv_entry ([.ref a0]) (n := 1) (Nat.le_of_ble_eq_true rfl)
  rw [lg_entry_eq]
  generalize (lg_sl ([.ref a0]) ++ List.replicate (1 - (lg_sl ([.ref a0])).length) Slot.unset).toArray = ls at hl ⊢
  replace hl : lv_has ls 1 [(0, .ref a0)] := hl
  refine lv_aload_n hx hb dX6_readByte_0 rfl (lv_at hl 0 rfl) ?_
  refine va_get (D := (dC, dI)) (ci := 6) (v := .int 0) (C := RX6) (T := TX6) (N := 9) hx hb hts iw_X6_readByte_X6 hown hK hP 0 rfl rfl 1 (by decide) (hts _ m_X6_readByte_1) (fun _ h9 => h9) rfl dX6_readByte_1 ?_
  refine lv_if_eq (tgt := 9) hx hb dX6_readByte_4 (by decide) (fun _ => ?_) (fun h => absurd (by decide) h)
  refine lv_aload_n hx hb dX6_readByte_9 rfl (lv_at hl 0 rfl) ?_
  refine va_get (D := (dC, dI)) (ci := 6) (v := .int 44) (C := RX6) (T := TX6) (N := 9) hx hb hts iw_X6_readByte_X6 hown hK hP 0 rfl rfl 3 (by decide) (hts _ m_X6_readByte_2) (fun _ h9 => h9) rfl dX6_readByte_10 ?_
  refine lv_aload_n hx hb dX6_readByte_13 rfl (lv_at hl 0 rfl) ?_
  refine va_get (D := (dC, dI)) (ci := 6) (v := .ref a1) (C := RX6) (T := TX6) (N := 9) hx hb hts iw_X6_readByte_X6 hown hK hP 0 rfl rfl 2 (by decide) (hts _ m_X6_readByte_3) (fun _ h9 => h9) rfl dX6_readByte_14 ?_
  refine va_get (D := (dC, dI)) (ci := 5) (v := .int 81) (C := RX5) (T := TX5) (N := 15) hx hb hts iw_X6_readByte_X5 hown hK hP 1 rfl rfl 1 (by decide) (hts _ m_X6_readByte_4) (fun _ h9 => h9) rfl dX6_readByte_17 ?_
  refine lv_icmp_lt (tgt := 41) hx hb dX6_readByte_20 (by decide) (fun _ => ?_) (fun h => absurd (by decide) h)
  refine lv_aload_n hx hb dX6_readByte_41 rfl (lv_at hl 0 rfl) ?_
  refine va_get (D := (dC, dI)) (ci := 6) (v := .ref a1) (C := RX6) (T := TX6) (N := 9) hx hb hts iw_X6_readByte_X6 hown hK hP 0 rfl rfl 2 (by decide) (hts _ m_X6_readByte_3) (fun _ h9 => h9) rfl dX6_readByte_42 ?_
  refine va_get (D := (dC, dI)) (ci := 5) (v := .ref cb) (C := RX5) (T := TX5) (N := 15) hx hb hts iw_X6_readByte_X5 hown hK hP 1 rfl rfl 0 (by decide) (hts _ m_X6_readByte_6) (fun _ h9 => h9) rfl dX6_readByte_45 ?_
  refine lv_aload_n hx hb dX6_readByte_48 rfl (lv_at hl 0 rfl) ?_
  refine lv_dup hx hb dX6_readByte_49 rfl ?_
  refine va_get (D := (dC, dI)) (ci := 6) (v := .int 44) (C := RX6) (T := TX6) (N := 9) hx hb hts iw_X6_readByte_X6 hown hK hP 0 rfl rfl 3 (by decide) (hts _ m_X6_readByte_2) (fun _ h9 => h9) rfl dX6_readByte_50 ?_
  refine lv_dup_x1 hx hb dX6_readByte_53 rfl rfl ?_
  refine lv_iconst (v := 1) hx hb dX6_readByte_54 (by decide) ?_
  refine lv_iadd hx hb dX6_readByte_55 ?_
  refine lv_topi (fun z_1 ez_1 => ?_)
  obtain rfl : z_1 = 45 := ez_1.trans (by decide)
  clear ez_1
  refine va_put (D := (dC, dI)) (ci := 6) (v := .int 45) (ty := .int) (C := RX6) (T := TX6) (N := 9) hx hb hts iw_X6_readByte_X6 tyX6 tyX6_ok nmX6 hown hK hP hD hS 0 rfl rfl 3 (by decide) (hts _ m_X6_readByte_2) (fun _ h9 => h9) rfl (by decide +kernel) rfl rfl (Nat.le_of_ble_eq_true rfl) dX6_readByte_56 (fun H_2 locs hP2 hD2 hS2 => ?_)
  replace hP : va_P (dC, dI) vwCl [(a0, .inr (6, [.int 0, .int 0, .ref a1, .int 45, .int 1, .int 3, .int 1, .int 1, .ref a2])), (a1, .inr (5, [.ref cb, .int 81, .int 0, .ref a3, .int 7, .ref a4, .int 3, .ref a5, .int 1, .int 1, .ref a6, .int 6, .int 0, .int 1, .int 0]))] H_2 := hP2
  replace hD : va_D A [(a0, .inr (6, [.int 0, .int 0, .ref a1, .int 45, .int 1, .int 3, .int 1, .int 1, .ref a2])), (a1, .inr (5, [.ref cb, .int 81, .int 0, .ref a3, .int 7, .ref a4, .int 3, .ref a5, .int 1, .int 1, .ref a6, .int 6, .int 0, .int 1, .int 0]))] := hD2
  replace hS := hS2
  clear hP2 hD2 hS2
  refine va_tb (v := .int 35) hx hb hSK.2 hS (by unfold vp_in; decide) rfl dX6_readByte_59 ?_
  refine lv_sipush (v := 255) hx hb dX6_readByte_60 (by decide) ?_
  refine lv_iand hx hb dX6_readByte_63 ?_
  refine lv_topi (fun z_3 ez_3 => ?_)
  obtain rfl : z_3 = 35 := ez_3.trans (by decide)
  clear ez_3
  exact W.iret hx hb hr (fun t ht hW => ⟨⟨35, (), rfl, rfl, by rw [ht]; exact hP, va_K.moved hW.alike hK, hD⟩, hS.F ht⟩) hS.2.2 dX6_readByte_64

set_option maxHeartbeats 4000000 in
set_option maxRecDepth 100000 in
theorem cc_379_X6_readInstruction (l : Launch) (dC : Nat → ClassId) (dI : Nat → Nat → Nat) (cy : Nat → ClassId) (sz : Nat) (cb : Nat) (a0 : Nat) (a1 : Nat) (a2 : Nat) (a3 : Nat) (a4 : Nat) (a5 : Nat) (a6 : Nat) (f0 : Nat → Int32)  : Met l yX6_readInstruction wsX6_readInstruction ({ frames := 1, cells := 0, slots := 0, locals := 21 }) (va_Pc [.ref a0] (fun U => U.heap.size = sz ∧ va_P (dC, dI) vwCl [(a0, .inr (6, [.int 0, .int 0, .ref a1, .int 44, .int 1, .int 3, .int 1, .int 1, .ref a3])), (a1, .inr (5, [.ref cb, .int 81, .int 0, .ref a4, .int 7, .ref a2, .int 2, .ref a5, .int 1, .int 1, .ref a6, .int 6, .int 0, .int 1, .int 0])), (a2, .inl (cy 1, 2048, .inl f0))] U.heap ∧ va_K (dC, dI) vwCl (TYS cy) U ∧ va_D (fun _ => True) [(a0, .inr (6, [.int 0, .int 0, .ref a1, .int 44, .int 1, .int 3, .int 1, .int 1, .ref a3])), (a1, .inr (5, [.ref cb, .int 81, .int 0, .ref a4, .int 7, .ref a2, .int 2, .ref a5, .int 1, .int 1, .ref a6, .int 6, .int 0, .int 1, .int 0])), (a2, .inl (cy 1, 2048, .inl f0))] ∧ NK U ∧ SK cb (va_A [(a0, .inr (6, [.int 0, .int 0, .ref a1, .int 44, .int 1, .int 3, .int 1, .int 1, .ref a3])), (a1, .inr (5, [.ref cb, .int 81, .int 0, .ref a4, .int 7, .ref a2, .int 2, .ref a5, .int 1, .int 1, .ref a6, .int 6, .int 0, .int 1, .int 0])), (a2, .inl (cy 1, 2048, .inl f0))] sz) U U.heap)) (va_Qv (fun u : (Nat → Int32) => True) (fun u t => match u with | (u0) => va_P (dC, dI) vwCl [(a0, .inr (6, [.int 0, .int 0, .ref a1, .int 45, .int 1, .int 3, .int 1, .int 1, .ref a3])), (a1, .inr (5, [.ref cb, .int 81, .int 0, .ref a4, .int 7, .ref a2, .int 3, .ref a5, .int 1, .int 1, .ref a6, .int 6, .int 0, .int 1, .int 0])), (a2, .inl (cy 1, 2048, .inl u0))] t.heap ∧ va_K (dC, dI) vwCl (TYS cy) t ∧ va_D (va_A [(a0, .inr (6, [.int 0, .int 0, .ref a1, .int 44, .int 1, .int 3, .int 1, .int 1, .ref a3])), (a1, .inr (5, [.ref cb, .int 81, .int 0, .ref a4, .int 7, .ref a2, .int 2, .ref a5, .int 1, .int 1, .ref a6, .int 6, .int 0, .int 1, .int 0])), (a2, .inl (cy 1, 2048, .inl f0))] sz) [(a0, .inr (6, [.int 0, .int 0, .ref a1, .int 45, .int 1, .int 3, .int 1, .int 1, .ref a3])), (a1, .inr (5, [.ref cb, .int 81, .int 0, .ref a4, .int 7, .ref a2, .int 3, .ref a5, .int 1, .int 1, .ref a6, .int 6, .int 0, .int 1, .int 0])), (a2, .inl (cy 1, 2048, .inl u0))]) (va_A [(a0, .inr (6, [.int 0, .int 0, .ref a1, .int 44, .int 1, .int 3, .int 1, .int 1, .ref a3])), (a1, .inr (5, [.ref cb, .int 81, .int 0, .ref a4, .int 7, .ref a2, .int 2, .ref a5, .int 1, .int 1, .ref a6, .int 6, .int 0, .int 1, .int 0])), (a2, .inl (cy 1, 2048, .inl f0))] sz)) 0 0 (va_A [(a0, .inr (6, [.int 0, .int 0, .ref a1, .int 44, .int 1, .int 3, .int 1, .int 1, .ref a3])), (a1, .inr (5, [.ref cb, .int 81, .int 0, .ref a4, .int 7, .ref a2, .int 2, .ref a5, .int 1, .int 1, .ref a6, .int 6, .int 0, .int 1, .int 0])), (a2, .inl (cy 1, 2048, .inl f0))] sz) := by
  refine Met.ofW (cc := cX6_readInstruction) (maxL := 4) (ret := none) (by decide) rfl ?_
  intro p e s m args below meth c s₁ B hml hv
  obtain ⟨rfl, hsz, hP, hK, hD0, hN, hSK⟩ := hv
  have hx := B.exec
  have hb := B.bytes
  have hr := B.returns
  have hts := atoms_spec (ws := wsX6_readInstruction) B.pre
  have hown : s.vm.findClass RX6 = some m.cls := findClass_of_methodNamed B.named
  have hlocks := B.notSynchronized
  subst hsz
  have hD := hD0.self (sz := s.heap.size)
  generalize hAe : va_A [(a0, .inr (6, [.int 0, .int 0, .ref a1, .int 44, .int 1, .int 3, .int 1, .int 1, .ref a3])), (a1, .inr (5, [.ref cb, .int 81, .int 0, .ref a4, .int 7, .ref a2, .int 2, .ref a5, .int 1, .int 1, .ref a6, .int 6, .int 0, .int 1, .int 0])), (a2, .inl (cy 1, 2048, .inl f0))] s.heap.size = A at hD hSK ⊢
  have hA : ∀ q : Nat, s.heap.size ≤ q → A q := fun q h => by rw [← hAe]; exact Or.inr h
  have hS : va_S A s.heap s.heap [] := va_S.rf
  have hP : va_P (dC, dI) vwCl [(a0, .inr (6, [.int 0, .int 0, .ref a1, .int 44, .int 1, .int 3, .int 1, .int 1, .ref a3])), (a1, .inr (5, [.ref cb, .int 81, .int 0, .ref a4, .int 7, .ref a2, .int 2, .ref a5, .int 1, .int 1, .ref a6, .int 6, .int 0, .int 1, .int 0])), (a2, .inl (cy 1, 2048, .inl f0))] s.heap := hP
  have hl := lv_entry ([.ref a0]) (n := 4) (Nat.le_of_ble_eq_true rfl)
  rw [lg_entry_eq]
  generalize (lg_sl ([.ref a0]) ++ List.replicate (4 - (lg_sl ([.ref a0])).length) Slot.unset).toArray = ls at hl ⊢
  replace hl : lv_has ls 4 [(0, .ref a0)] := hl
  refine lv_aload_n hx hb dX6_readInstruction_0 rfl (lv_at hl 0 rfl) ?_
  refine va_get (D := (dC, dI)) (ci := 6) (v := .ref a1) (C := RX6) (T := TX6) (N := 9) hx hb hts iw_X6_readInstruction_X6 hown hK hP 0 rfl rfl 2 (by decide) (hts _ m_X6_readInstruction_1) (fun _ h9 => h9) rfl dX6_readInstruction_1 ?_
  refine lv_aload_n hx hb dX6_readInstruction_4 rfl (lv_at hl 0 rfl) ?_
  refine va_get (D := (dC, dI)) (ci := 6) (v := .int 44) (C := RX6) (T := TX6) (N := 9) hx hb hts iw_X6_readInstruction_X6 hown hK hP 0 rfl rfl 3 (by decide) (hts _ m_X6_readInstruction_2) (fun _ h9 => h9) rfl dX6_readInstruction_5 ?_
  have hPc := hP.sub (ws' := [(a1, .inr (5, [.ref cb, .int 81, .int 0, .ref a4, .int 7, .ref a2, .int 2, .ref a5, .int 1, .int 1, .ref a6, .int 6, .int 0, .int 1, .int 0])), (a2, .inl (cy 1, 2048, .inl f0))]) [1, 2] rfl
  have hDc := hD.sub (ws' := [(a1, .inr (5, [.ref cb, .int 81, .int 0, .ref a4, .int 7, .ref a2, .int 2, .ref a5, .int 1, .int 1, .ref a6, .int 6, .int 0, .int 1, .int 0])), (a2, .inl (cy 1, 2048, .inl f0))]) [1, 2] (by decide) rfl
  have hFc := va_free (wc := [(a1, .inr (5, [.ref cb, .int 81, .int 0, .ref a4, .int 7, .ref a2, .int 2, .ref a5, .int 1, .int 1, .ref a6, .int 6, .int 0, .int 1, .int 0])), (a2, .inl (cy 1, 2048, .inl f0))]) hD hS hA [1, 2] rfl
  refine va_callv (va_runV (As := [.int 44]) (rest := []) ⟨hx, hb, hml, hown, hts⟩ (cc_148_X5_addStart l dC dI cy s.heap.size cb a1 a2 a4 a5 a6 f0) (cwV 1 hts gX6_readInstruction_X5_addStart rfl rfl rfl (by decide +kernel) ⟨Nat.le_of_ble_eq_true rfl, Nat.le_of_ble_eq_true rfl⟩) ⟨fun a U g mk q => by obtain ⟨q0, q1, qP, qK, qD, qN, qS⟩ := q; exact ⟨q0, q1, qP, va_K.moved (u := U) (U := U.calling g mk a) (Vm.Alike.refl U.vm) qK, qD, qN.same rfl, SK.moved (u := U) (U := U.calling g mk a) (Vm.Alike.refl U.vm) qS⟩, va_recv hK hPc (ci := 5) (q0 := 0) rfl rfl, fun U hU hW => ⟨rfl, by rw [hU], by rw [hU]; exact hPc, va_K.moved hW.alike hK, hDc.weaken (fun _ _ _ _ => trivial), hN.warm hW, by rw [hU]; exact ((hSK.kept hS.2.1).narrow hFc).moved hW.alike⟩⟩ rfl rfl hl.1 rfl (lv_room (Nat.le_of_ble_eq_true rfl)) dX6_readInstruction_8 ⟨Nat.le_of_ble_eq_true rfl, Nat.le_of_ble_eq_true rfl⟩) hS (fun q _ h => hFc q h) hFc (fun u t H_1 locs ht hvm hw hB hz1 hk1 hS2 => ?_)
  obtain ⟨g_2, rfl⟩ : ∃ z, z = u := ⟨_, rfl⟩
  obtain ⟨hP1, hK1, hD1⟩ := hB
  rw [ht] at hP1
  obtain ⟨hP2, hD2⟩ := va_join (wr := [(a0, .inr (6, [.int 0, .int 0, .ref a1, .int 44, .int 1, .int 3, .int 1, .int 1, .ref a3]))]) (w1 := [(a1, .inr (5, [.ref cb, .int 81, .int 0, .ref a4, .int 7, .ref a2, .int 3, .ref a5, .int 1, .int 1, .ref a6, .int 6, .int 0, .int 1, .int 0])), (a2, .inl (cy 1, 2048, .inl g_2))]) hP hD [1, 2] [0] rfl rfl (by decide) (by decide) hk1 hFc hP1 hD1
  replace hP : va_P (dC, dI) vwCl [(a0, .inr (6, [.int 0, .int 0, .ref a1, .int 44, .int 1, .int 3, .int 1, .int 1, .ref a3])), (a1, .inr (5, [.ref cb, .int 81, .int 0, .ref a4, .int 7, .ref a2, .int 3, .ref a5, .int 1, .int 1, .ref a6, .int 6, .int 0, .int 1, .int 0])), (a2, .inl (cy 1, 2048, .inl g_2))] H_1 := hP2
  replace hD : va_D A [(a0, .inr (6, [.int 0, .int 0, .ref a1, .int 44, .int 1, .int 3, .int 1, .int 1, .ref a3])), (a1, .inr (5, [.ref cb, .int 81, .int 0, .ref a4, .int 7, .ref a2, .int 3, .ref a5, .int 1, .int 1, .ref a6, .int 6, .int 0, .int 1, .int 0])), (a2, .inl (cy 1, 2048, .inl g_2))] := hD2
  replace hS := hS2
  clear hP2 hD2 hS2
  clear hPc hDc hFc hP1 hD1 hK1 hk1 hz1 hvm ht
  refine W.widen (k := 0) (n := 0) (Nat.le_of_ble_eq_true rfl) (Nat.le_of_ble_eq_true rfl) ?_
  refine lv_aload_n hx hb dX6_readInstruction_11 rfl (lv_at hl 0 rfl) ?_
  refine va_get (D := (dC, dI)) (ci := 6) (v := .int 44) (C := RX6) (T := TX6) (N := 9) hx hb hts iw_X6_readInstruction_X6 hown hK hP 0 rfl rfl 3 (by decide) (hts _ m_X6_readInstruction_2) (fun _ h9 => h9) rfl dX6_readInstruction_12 ?_
  refine lv_istore_n (lv' := [(1, .int 44), (0, .ref a0)]) hx hb dX6_readInstruction_15 rfl hl (by decide) rfl (fun ls hl2 => ?_)
  replace hl := hl2
  clear hl2
  refine lv_aload_n hx hb dX6_readInstruction_16 rfl (lv_at hl 1 rfl) ?_
  have hPc := hP.sub (ws' := [(a0, .inr (6, [.int 0, .int 0, .ref a1, .int 44, .int 1, .int 3, .int 1, .int 1, .ref a3])), (a1, .inr (5, [.ref cb, .int 81, .int 0, .ref a4, .int 7, .ref a2, .int 3, .ref a5, .int 1, .int 1, .ref a6, .int 6, .int 0, .int 1, .int 0]))]) [0, 1] rfl
  have hDc := hD.sub (ws' := [(a0, .inr (6, [.int 0, .int 0, .ref a1, .int 44, .int 1, .int 3, .int 1, .int 1, .ref a3])), (a1, .inr (5, [.ref cb, .int 81, .int 0, .ref a4, .int 7, .ref a2, .int 3, .ref a5, .int 1, .int 1, .ref a6, .int 6, .int 0, .int 1, .int 0]))]) [0, 1] (by decide) rfl
  have hFc := va_free (wc := [(a0, .inr (6, [.int 0, .int 0, .ref a1, .int 44, .int 1, .int 3, .int 1, .int 1, .ref a3])), (a1, .inr (5, [.ref cb, .int 81, .int 0, .ref a4, .int 7, .ref a2, .int 3, .ref a5, .int 1, .int 1, .ref a6, .int 6, .int 0, .int 1, .int 0]))]) hD hS hA [0, 1] rfl
  refine va_calli (va_runV (As := []) (rest := []) ⟨hx, hb, hml, hown, hts⟩ (cc_380_X6_readByte l dC dI cy H_1.size cb a0 a1 a3 a4 a2 a5 a6) (cwV 0 hts gX6_readInstruction_X6_readByte rfl rfl rfl (by decide +kernel) ⟨Nat.le_of_ble_eq_true rfl, Nat.le_of_ble_eq_true rfl⟩) ⟨fun a U g mk q => by obtain ⟨q0, q1, qP, qK, qD, qN, qS⟩ := q; exact ⟨q0, q1, qP, va_K.moved (u := U) (U := U.calling g mk a) (Vm.Alike.refl U.vm) qK, qD, qN.same rfl, SK.moved (u := U) (U := U.calling g mk a) (Vm.Alike.refl U.vm) qS⟩, va_recv hK hPc (ci := 6) (q0 := 0) rfl rfl, fun U hU hW => ⟨rfl, by rw [hU], by rw [hU]; exact hPc, va_K.moved hW.alike hK, hDc.weaken (fun _ _ _ _ => trivial), hN.warm hW, by rw [hU]; exact ((hSK.kept hS.2.1).narrow hFc).moved hW.alike⟩⟩ rfl rfl hl.1 rfl (lv_room (Nat.le_of_ble_eq_true rfl)) dX6_readInstruction_17 ⟨Nat.le_of_ble_eq_true rfl, Nat.le_of_ble_eq_true rfl⟩) hS (fun q _ h => hFc q h) hFc (fun r_3 u t H_4 locs ht hvm hw hB hz1 hk1 hS2 => ?_)
  obtain ⟨hP1, hK1, hD1⟩ := hB
  rw [ht] at hP1
  obtain rfl := hw
  obtain ⟨hP2, hD2⟩ := va_join (wr := [(a2, .inl (cy 1, 2048, .inl g_2))]) (w1 := [(a0, .inr (6, [.int 0, .int 0, .ref a1, .int 45, .int 1, .int 3, .int 1, .int 1, .ref a3])), (a1, .inr (5, [.ref cb, .int 81, .int 0, .ref a4, .int 7, .ref a2, .int 3, .ref a5, .int 1, .int 1, .ref a6, .int 6, .int 0, .int 1, .int 0]))]) hP hD [0, 1] [2] rfl rfl (by decide) (by decide) hk1 hFc hP1 hD1
  replace hP : va_P (dC, dI) vwCl [(a2, .inl (cy 1, 2048, .inl g_2)), (a0, .inr (6, [.int 0, .int 0, .ref a1, .int 45, .int 1, .int 3, .int 1, .int 1, .ref a3])), (a1, .inr (5, [.ref cb, .int 81, .int 0, .ref a4, .int 7, .ref a2, .int 3, .ref a5, .int 1, .int 1, .ref a6, .int 6, .int 0, .int 1, .int 0]))] H_4 := hP2
  replace hD : va_D A [(a2, .inl (cy 1, 2048, .inl g_2)), (a0, .inr (6, [.int 0, .int 0, .ref a1, .int 45, .int 1, .int 3, .int 1, .int 1, .ref a3])), (a1, .inr (5, [.ref cb, .int 81, .int 0, .ref a4, .int 7, .ref a2, .int 3, .ref a5, .int 1, .int 1, .ref a6, .int 6, .int 0, .int 1, .int 0]))] := hD2
  replace hS := hS2
  clear hP2 hD2 hS2
  clear hPc hDc hFc hP1 hD1 hK1 hk1 hz1 hvm ht
  refine W.widen (k := 0) (n := 0) (Nat.le_of_ble_eq_true rfl) (Nat.le_of_ble_eq_true rfl) ?_
  refine lv_istore_n (lv' := [(2, .int 35), (1, .int 44), (0, .ref a0)]) hx hb dX6_readInstruction_20 rfl hl (by decide) rfl (fun ls hl2 => ?_)
  replace hl := hl2
  clear hl2
  refine lv_iload_n hx hb dX6_readInstruction_21 rfl (lv_at hl 0 rfl) ?_
  refine lv_bipush (v := 59) hx hb dX6_readInstruction_22 (by decide) ?_
  refine lv_icmp_le (tgt := 36) hx hb dX6_readInstruction_24 (by decide) (fun _ => ?_) (fun h => absurd (by decide) h)
  refine lv_iload_n hx hb dX6_readInstruction_36 rfl (lv_at hl 0 rfl) ?_
  refine lv_iconst (v := 2) hx hb dX6_readInstruction_37 (by decide) ?_
  refine lv_icmp_lt (tgt := 79) hx hb dX6_readInstruction_38 (by decide) (fun h => absurd h (by decide)) (fun _ => ?_)
  refine lv_iload_n hx hb dX6_readInstruction_41 rfl (lv_at hl 0 rfl) ?_
  refine lv_iconst (v := 4) hx hb dX6_readInstruction_42 (by decide) ?_
  refine lv_icmp_gt (tgt := 79) hx hb dX6_readInstruction_43 (by decide) (fun _ => ?_) (fun h => absurd (by decide) h)
  refine lv_iload_n hx hb dX6_readInstruction_79 rfl (lv_at hl 0 rfl) ?_
  refine lv_iconst (v := 5) hx hb dX6_readInstruction_80 (by decide) ?_
  refine lv_icmp_lt (tgt := 135) hx hb dX6_readInstruction_81 (by decide) (fun h => absurd h (by decide)) (fun _ => ?_)
  refine lv_iload_n hx hb dX6_readInstruction_84 rfl (lv_at hl 0 rfl) ?_
  refine lv_bipush (v := 10) hx hb dX6_readInstruction_85 (by decide) ?_
  refine lv_icmp_gt (tgt := 135) hx hb dX6_readInstruction_87 (by decide) (fun _ => ?_) (fun h => absurd (by decide) h)
  refine lv_iload_n hx hb dX6_readInstruction_135 rfl (lv_at hl 0 rfl) ?_
  refine lv_bipush (v := 11) hx hb dX6_readInstruction_136 (by decide) ?_
  refine lv_icmp_lt (tgt := 161) hx hb dX6_readInstruction_138 (by decide) (fun h => absurd h (by decide)) (fun _ => ?_)
  refine lv_iload_n hx hb dX6_readInstruction_141 rfl (lv_at hl 0 rfl) ?_
  refine lv_bipush (v := 15) hx hb dX6_readInstruction_142 (by decide) ?_
  refine lv_icmp_gt (tgt := 161) hx hb dX6_readInstruction_144 (by decide) (fun _ => ?_) (fun h => absurd (by decide) h)
  refine lv_iload_n hx hb dX6_readInstruction_161 rfl (lv_at hl 0 rfl) ?_
  refine lv_bipush (v := 16) hx hb dX6_readInstruction_162 (by decide) ?_
  refine lv_icmp_eq (tgt := 173) hx hb dX6_readInstruction_164 (by decide) (fun h => absurd h (by decide)) (fun _ => ?_)
  refine lv_iload_n hx hb dX6_readInstruction_167 rfl (lv_at hl 0 rfl) ?_
  refine lv_bipush (v := 17) hx hb dX6_readInstruction_168 (by decide) ?_
  refine lv_icmp_ne (tgt := 196) hx hb dX6_readInstruction_170 (by decide) (fun _ => ?_) (fun h => absurd h (by decide))
  refine lv_iload_n hx hb dX6_readInstruction_196 rfl (lv_at hl 0 rfl) ?_
  refine lv_bipush (v := 21) hx hb dX6_readInstruction_197 (by decide) ?_
  refine lv_icmp_eq (tgt := 220) hx hb dX6_readInstruction_199 (by decide) (fun h => absurd h (by decide)) (fun _ => ?_)
  refine lv_iload_n hx hb dX6_readInstruction_202 rfl (lv_at hl 0 rfl) ?_
  refine lv_bipush (v := 22) hx hb dX6_readInstruction_203 (by decide) ?_
  refine lv_icmp_eq (tgt := 220) hx hb dX6_readInstruction_205 (by decide) (fun h => absurd h (by decide)) (fun _ => ?_)
  refine lv_iload_n hx hb dX6_readInstruction_208 rfl (lv_at hl 0 rfl) ?_
  refine lv_bipush (v := 47) hx hb dX6_readInstruction_209 (by decide) ?_
  refine lv_icmp_lt (tgt := 228) hx hb dX6_readInstruction_211 (by decide) (fun _ => ?_) (fun h => absurd (by decide) h)
  refine lv_iload_n hx hb dX6_readInstruction_228 rfl (lv_at hl 0 rfl) ?_
  refine lv_bipush (v := 23) hx hb dX6_readInstruction_229 (by decide) ?_
  refine lv_icmp_ne (tgt := 259) hx hb dX6_readInstruction_231 (by decide) (fun _ => ?_) (fun h => absurd h (by decide))
  refine lv_iload_n hx hb dX6_readInstruction_259 rfl (lv_at hl 0 rfl) ?_
  refine lv_bipush (v := 52) hx hb dX6_readInstruction_260 (by decide) ?_
  refine lv_icmp_lt (tgt := 299) hx hb dX6_readInstruction_262 (by decide) (fun _ => ?_) (fun h => absurd (by decide) h)
  have hP := hP.sub (ws' := [(a0, .inr (6, [.int 0, .int 0, .ref a1, .int 45, .int 1, .int 3, .int 1, .int 1, .ref a3])), (a1, .inr (5, [.ref cb, .int 81, .int 0, .ref a4, .int 7, .ref a2, .int 3, .ref a5, .int 1, .int 1, .ref a6, .int 6, .int 0, .int 1, .int 0])), (a2, .inl (cy 1, 2048, .inl g_2))]) [1, 2, 0] rfl
  have hD := hD.sub (ws' := [(a0, .inr (6, [.int 0, .int 0, .ref a1, .int 45, .int 1, .int 3, .int 1, .int 1, .ref a3])), (a1, .inr (5, [.ref cb, .int 81, .int 0, .ref a4, .int 7, .ref a2, .int 3, .ref a5, .int 1, .int 1, .ref a6, .int 6, .int 0, .int 1, .int 0])), (a2, .inl (cy 1, 2048, .inl g_2))]) [1, 2, 0] (by decide) rfl
  exact W.vret hx hb hr (fun t ht hW => ⟨⟨(g_2), rfl, trivial, by rw [ht]; exact hP, va_K.moved hW.alike hK, hD⟩, hS.F ht⟩) hS.2.2 dX6_readInstruction_299

set_option maxHeartbeats 4000000 in
set_option maxRecDepth 100000 in
theorem cc_382_X6_readByte (l : Launch) (dC : Nat → ClassId) (dI : Nat → Nat → Nat) (cy : Nat → ClassId) (sz : Nat) (cb : Nat) (a0 : Nat) (a1 : Nat) (a2 : Nat) (a3 : Nat) (a4 : Nat) (a5 : Nat) (a6 : Nat)  : Met l yX6_readByte wsX6_readByte ({ frames := 0, cells := 0, slots := 0, locals := 0 }) (va_Pc [.ref a0] (fun U => U.heap.size = sz ∧ va_P (dC, dI) vwCl [(a0, .inr (6, [.int 0, .int 0, .ref a1, .int 45, .int 1, .int 3, .int 1, .int 1, .ref a2])), (a1, .inr (5, [.ref cb, .int 81, .int 0, .ref a3, .int 7, .ref a4, .int 3, .ref a5, .int 1, .int 1, .ref a6, .int 6, .int 0, .int 1, .int 0]))] U.heap ∧ va_K (dC, dI) vwCl (TYS cy) U ∧ va_D (fun _ => True) [(a0, .inr (6, [.int 0, .int 0, .ref a1, .int 45, .int 1, .int 3, .int 1, .int 1, .ref a2])), (a1, .inr (5, [.ref cb, .int 81, .int 0, .ref a3, .int 7, .ref a4, .int 3, .ref a5, .int 1, .int 1, .ref a6, .int 6, .int 0, .int 1, .int 0]))] ∧ NK U ∧ SK cb (va_A [(a0, .inr (6, [.int 0, .int 0, .ref a1, .int 45, .int 1, .int 3, .int 1, .int 1, .ref a2])), (a1, .inr (5, [.ref cb, .int 81, .int 0, .ref a3, .int 7, .ref a4, .int 3, .ref a5, .int 1, .int 1, .ref a6, .int 6, .int 0, .int 1, .int 0]))] sz) U U.heap)) (va_Qi (fun (r : Int32) (u : Unit) => r = 1) (fun u t => va_P (dC, dI) vwCl [(a0, .inr (6, [.int 0, .int 0, .ref a1, .int 46, .int 1, .int 3, .int 1, .int 1, .ref a2])), (a1, .inr (5, [.ref cb, .int 81, .int 0, .ref a3, .int 7, .ref a4, .int 3, .ref a5, .int 1, .int 1, .ref a6, .int 6, .int 0, .int 1, .int 0]))] t.heap ∧ va_K (dC, dI) vwCl (TYS cy) t ∧ va_D (va_A [(a0, .inr (6, [.int 0, .int 0, .ref a1, .int 45, .int 1, .int 3, .int 1, .int 1, .ref a2])), (a1, .inr (5, [.ref cb, .int 81, .int 0, .ref a3, .int 7, .ref a4, .int 3, .ref a5, .int 1, .int 1, .ref a6, .int 6, .int 0, .int 1, .int 0]))] sz) [(a0, .inr (6, [.int 0, .int 0, .ref a1, .int 46, .int 1, .int 3, .int 1, .int 1, .ref a2])), (a1, .inr (5, [.ref cb, .int 81, .int 0, .ref a3, .int 7, .ref a4, .int 3, .ref a5, .int 1, .int 1, .ref a6, .int 6, .int 0, .int 1, .int 0]))]) (va_A [(a0, .inr (6, [.int 0, .int 0, .ref a1, .int 45, .int 1, .int 3, .int 1, .int 1, .ref a2])), (a1, .inr (5, [.ref cb, .int 81, .int 0, .ref a3, .int 7, .ref a4, .int 3, .ref a5, .int 1, .int 1, .ref a6, .int 6, .int 0, .int 1, .int 0]))] sz)) 0 0 (va_A [(a0, .inr (6, [.int 0, .int 0, .ref a1, .int 45, .int 1, .int 3, .int 1, .int 1, .ref a2])), (a1, .inr (5, [.ref cb, .int 81, .int 0, .ref a3, .int 7, .ref a4, .int 3, .ref a5, .int 1, .int 1, .ref a6, .int 6, .int 0, .int 1, .int 0]))] sz) := by
  refine Met.ofW (cc := cX6_readByte) (maxL := 1) (ret := (some .int)) (by decide) rfl ?_
  intro p e s m args below meth c s₁ B hml hv
  obtain ⟨rfl, hsz, hP, hK, hD0, hN, hSK⟩ := hv
  have hx := B.exec
  have hb := B.bytes
  have hr := B.returns
  have hts := atoms_spec (ws := wsX6_readByte) B.pre
  have hown : s.vm.findClass RX6 = some m.cls := findClass_of_methodNamed B.named
  have hlocks := B.notSynchronized
  subst hsz
  have hD := hD0.self (sz := s.heap.size)
  generalize hAe : va_A [(a0, .inr (6, [.int 0, .int 0, .ref a1, .int 45, .int 1, .int 3, .int 1, .int 1, .ref a2])), (a1, .inr (5, [.ref cb, .int 81, .int 0, .ref a3, .int 7, .ref a4, .int 3, .ref a5, .int 1, .int 1, .ref a6, .int 6, .int 0, .int 1, .int 0]))] s.heap.size = A at hD hSK ⊢
  have hA : ∀ q : Nat, s.heap.size ≤ q → A q := fun q h => by rw [← hAe]; exact Or.inr h
  have hS : va_S A s.heap s.heap [] := va_S.rf
  have hP : va_P (dC, dI) vwCl [(a0, .inr (6, [.int 0, .int 0, .ref a1, .int 45, .int 1, .int 3, .int 1, .int 1, .ref a2])), (a1, .inr (5, [.ref cb, .int 81, .int 0, .ref a3, .int 7, .ref a4, .int 3, .ref a5, .int 1, .int 1, .ref a6, .int 6, .int 0, .int 1, .int 0]))] s.heap := hP
  have hl := lv_entry ([.ref a0]) (n := 1) (Nat.le_of_ble_eq_true rfl)
  rw [lg_entry_eq]
  generalize (lg_sl ([.ref a0]) ++ List.replicate (1 - (lg_sl ([.ref a0])).length) Slot.unset).toArray = ls at hl ⊢
  replace hl : lv_has ls 1 [(0, .ref a0)] := hl
  refine lv_aload_n hx hb dX6_readByte_0 rfl (lv_at hl 0 rfl) ?_
  refine va_get (D := (dC, dI)) (ci := 6) (v := .int 0) (C := RX6) (T := TX6) (N := 9) hx hb hts iw_X6_readByte_X6 hown hK hP 0 rfl rfl 1 (by decide) (hts _ m_X6_readByte_1) (fun _ h9 => h9) rfl dX6_readByte_1 ?_
  refine lv_if_eq (tgt := 9) hx hb dX6_readByte_4 (by decide) (fun _ => ?_) (fun h => absurd (by decide) h)
  refine lv_aload_n hx hb dX6_readByte_9 rfl (lv_at hl 0 rfl) ?_
  refine va_get (D := (dC, dI)) (ci := 6) (v := .int 45) (C := RX6) (T := TX6) (N := 9) hx hb hts iw_X6_readByte_X6 hown hK hP 0 rfl rfl 3 (by decide) (hts _ m_X6_readByte_2) (fun _ h9 => h9) rfl dX6_readByte_10 ?_
  refine lv_aload_n hx hb dX6_readByte_13 rfl (lv_at hl 0 rfl) ?_
  refine va_get (D := (dC, dI)) (ci := 6) (v := .ref a1) (C := RX6) (T := TX6) (N := 9) hx hb hts iw_X6_readByte_X6 hown hK hP 0 rfl rfl 2 (by decide) (hts _ m_X6_readByte_3) (fun _ h9 => h9) rfl dX6_readByte_14 ?_
  refine va_get (D := (dC, dI)) (ci := 5) (v := .int 81) (C := RX5) (T := TX5) (N := 15) hx hb hts iw_X6_readByte_X5 hown hK hP 1 rfl rfl 1 (by decide) (hts _ m_X6_readByte_4) (fun _ h9 => h9) rfl dX6_readByte_17 ?_
  refine lv_icmp_lt (tgt := 41) hx hb dX6_readByte_20 (by decide) (fun _ => ?_) (fun h => absurd (by decide) h)
  refine lv_aload_n hx hb dX6_readByte_41 rfl (lv_at hl 0 rfl) ?_
  refine va_get (D := (dC, dI)) (ci := 6) (v := .ref a1) (C := RX6) (T := TX6) (N := 9) hx hb hts iw_X6_readByte_X6 hown hK hP 0 rfl rfl 2 (by decide) (hts _ m_X6_readByte_3) (fun _ h9 => h9) rfl dX6_readByte_42 ?_
  refine va_get (D := (dC, dI)) (ci := 5) (v := .ref cb) (C := RX5) (T := TX5) (N := 15) hx hb hts iw_X6_readByte_X5 hown hK hP 1 rfl rfl 0 (by decide) (hts _ m_X6_readByte_6) (fun _ h9 => h9) rfl dX6_readByte_45 ?_
  refine lv_aload_n hx hb dX6_readByte_48 rfl (lv_at hl 0 rfl) ?_
  refine lv_dup hx hb dX6_readByte_49 rfl ?_
  refine va_get (D := (dC, dI)) (ci := 6) (v := .int 45) (C := RX6) (T := TX6) (N := 9) hx hb hts iw_X6_readByte_X6 hown hK hP 0 rfl rfl 3 (by decide) (hts _ m_X6_readByte_2) (fun _ h9 => h9) rfl dX6_readByte_50 ?_
  refine lv_dup_x1 hx hb dX6_readByte_53 rfl rfl ?_
  refine lv_iconst (v := 1) hx hb dX6_readByte_54 (by decide) ?_
  refine lv_iadd hx hb dX6_readByte_55 ?_
  refine lv_topi (fun z_1 ez_1 => ?_)
  obtain rfl : z_1 = 46 := ez_1.trans (by decide)
  clear ez_1
  refine va_put (D := (dC, dI)) (ci := 6) (v := .int 46) (ty := .int) (C := RX6) (T := TX6) (N := 9) hx hb hts iw_X6_readByte_X6 tyX6 tyX6_ok nmX6 hown hK hP hD hS 0 rfl rfl 3 (by decide) (hts _ m_X6_readByte_2) (fun _ h9 => h9) rfl (by decide +kernel) rfl rfl (Nat.le_of_ble_eq_true rfl) dX6_readByte_56 (fun H_2 locs hP2 hD2 hS2 => ?_)
  replace hP : va_P (dC, dI) vwCl [(a0, .inr (6, [.int 0, .int 0, .ref a1, .int 46, .int 1, .int 3, .int 1, .int 1, .ref a2])), (a1, .inr (5, [.ref cb, .int 81, .int 0, .ref a3, .int 7, .ref a4, .int 3, .ref a5, .int 1, .int 1, .ref a6, .int 6, .int 0, .int 1, .int 0]))] H_2 := hP2
  replace hD : va_D A [(a0, .inr (6, [.int 0, .int 0, .ref a1, .int 46, .int 1, .int 3, .int 1, .int 1, .ref a2])), (a1, .inr (5, [.ref cb, .int 81, .int 0, .ref a3, .int 7, .ref a4, .int 3, .ref a5, .int 1, .int 1, .ref a6, .int 6, .int 0, .int 1, .int 0]))] := hD2
  replace hS := hS2
  clear hP2 hD2 hS2
  refine va_tb (v := .int 1) hx hb hSK.2 hS (by unfold vp_in; decide) rfl dX6_readByte_59 ?_
  refine lv_sipush (v := 255) hx hb dX6_readByte_60 (by decide) ?_
  refine lv_iand hx hb dX6_readByte_63 ?_
  refine lv_topi (fun z_3 ez_3 => ?_)
  obtain rfl : z_3 = 1 := ez_3.trans (by decide)
  clear ez_3
  exact W.iret hx hb hr (fun t ht hW => ⟨⟨1, (), rfl, rfl, by rw [ht]; exact hP, va_K.moved hW.alike hK, hD⟩, hS.F ht⟩) hS.2.2 dX6_readByte_64

set_option maxHeartbeats 4000000 in
set_option maxRecDepth 100000 in
theorem cc_381_X6_readNumber (l : Launch) (dC : Nat → ClassId) (dI : Nat → Nat → Nat) (cy : Nat → ClassId) (sz : Nat) (cb : Nat) (a0 : Nat) (a1 : Nat) (a2 : Nat) (a3 : Nat) (a4 : Nat) (a5 : Nat) (a6 : Nat)  : Met l yX6_readNumber wsX6_readNumber ({ frames := 1, cells := 0, slots := 0, locals := 20 }) (va_Pc [.ref a0, .int 0, .int 7] (fun U => U.heap.size = sz ∧ va_P (dC, dI) vwCl [(a0, .inr (6, [.int 0, .int 0, .ref a1, .int 45, .int 1, .int 3, .int 1, .int 1, .ref a2])), (a1, .inr (5, [.ref cb, .int 81, .int 0, .ref a3, .int 7, .ref a4, .int 3, .ref a5, .int 1, .int 1, .ref a6, .int 6, .int 0, .int 1, .int 0]))] U.heap ∧ va_K (dC, dI) vwCl (TYS cy) U ∧ va_D (fun _ => True) [(a0, .inr (6, [.int 0, .int 0, .ref a1, .int 45, .int 1, .int 3, .int 1, .int 1, .ref a2])), (a1, .inr (5, [.ref cb, .int 81, .int 0, .ref a3, .int 7, .ref a4, .int 3, .ref a5, .int 1, .int 1, .ref a6, .int 6, .int 0, .int 1, .int 0]))] ∧ NK U ∧ SK cb (va_A [(a0, .inr (6, [.int 0, .int 0, .ref a1, .int 45, .int 1, .int 3, .int 1, .int 1, .ref a2])), (a1, .inr (5, [.ref cb, .int 81, .int 0, .ref a3, .int 7, .ref a4, .int 3, .ref a5, .int 1, .int 1, .ref a6, .int 6, .int 0, .int 1, .int 0]))] sz) U U.heap)) (va_Qi (fun (r : Int32) (u : Unit) => r = 1) (fun u t => va_P (dC, dI) vwCl [(a0, .inr (6, [.int 0, .int 0, .ref a1, .int 46, .int 1, .int 3, .int 1, .int 1, .ref a2])), (a1, .inr (5, [.ref cb, .int 81, .int 0, .ref a3, .int 7, .ref a4, .int 3, .ref a5, .int 1, .int 1, .ref a6, .int 6, .int 0, .int 1, .int 0]))] t.heap ∧ va_K (dC, dI) vwCl (TYS cy) t ∧ va_D (va_A [(a0, .inr (6, [.int 0, .int 0, .ref a1, .int 45, .int 1, .int 3, .int 1, .int 1, .ref a2])), (a1, .inr (5, [.ref cb, .int 81, .int 0, .ref a3, .int 7, .ref a4, .int 3, .ref a5, .int 1, .int 1, .ref a6, .int 6, .int 0, .int 1, .int 0]))] sz) [(a0, .inr (6, [.int 0, .int 0, .ref a1, .int 46, .int 1, .int 3, .int 1, .int 1, .ref a2])), (a1, .inr (5, [.ref cb, .int 81, .int 0, .ref a3, .int 7, .ref a4, .int 3, .ref a5, .int 1, .int 1, .ref a6, .int 6, .int 0, .int 1, .int 0]))]) (va_A [(a0, .inr (6, [.int 0, .int 0, .ref a1, .int 45, .int 1, .int 3, .int 1, .int 1, .ref a2])), (a1, .inr (5, [.ref cb, .int 81, .int 0, .ref a3, .int 7, .ref a4, .int 3, .ref a5, .int 1, .int 1, .ref a6, .int 6, .int 0, .int 1, .int 0]))] sz)) 0 0 (va_A [(a0, .inr (6, [.int 0, .int 0, .ref a1, .int 45, .int 1, .int 3, .int 1, .int 1, .ref a2])), (a1, .inr (5, [.ref cb, .int 81, .int 0, .ref a3, .int 7, .ref a4, .int 3, .ref a5, .int 1, .int 1, .ref a6, .int 6, .int 0, .int 1, .int 0]))] sz) := by
  refine Met.ofW (cc := cX6_readNumber) (maxL := 5) (ret := (some .int)) (by decide) rfl ?_
  intro p e s m args below meth c s₁ B hml hv
  obtain ⟨rfl, hsz, hP, hK, hD0, hN, hSK⟩ := hv
  have hx := B.exec
  have hb := B.bytes
  have hr := B.returns
  have hts := atoms_spec (ws := wsX6_readNumber) B.pre
  have hown : s.vm.findClass RX6 = some m.cls := findClass_of_methodNamed B.named
  have hlocks := B.notSynchronized
  subst hsz
  have hD := hD0.self (sz := s.heap.size)
  generalize hAe : va_A [(a0, .inr (6, [.int 0, .int 0, .ref a1, .int 45, .int 1, .int 3, .int 1, .int 1, .ref a2])), (a1, .inr (5, [.ref cb, .int 81, .int 0, .ref a3, .int 7, .ref a4, .int 3, .ref a5, .int 1, .int 1, .ref a6, .int 6, .int 0, .int 1, .int 0]))] s.heap.size = A at hD hSK ⊢
  have hA : ∀ q : Nat, s.heap.size ≤ q → A q := fun q h => by rw [← hAe]; exact Or.inr h
  have hS : va_S A s.heap s.heap [] := va_S.rf
  have hP : va_P (dC, dI) vwCl [(a0, .inr (6, [.int 0, .int 0, .ref a1, .int 45, .int 1, .int 3, .int 1, .int 1, .ref a2])), (a1, .inr (5, [.ref cb, .int 81, .int 0, .ref a3, .int 7, .ref a4, .int 3, .ref a5, .int 1, .int 1, .ref a6, .int 6, .int 0, .int 1, .int 0]))] s.heap := hP
  have hl := lv_entry ([.ref a0, .int 0, .int 7]) (n := 5) (Nat.le_of_ble_eq_true rfl)
  rw [lg_entry_eq]
  generalize (lg_sl ([.ref a0, .int 0, .int 7]) ++ List.replicate (5 - (lg_sl ([.ref a0, .int 0, .int 7])).length) Slot.unset).toArray = ls at hl ⊢
  replace hl : lv_has ls 5 [(0, .ref a0), (1, .int 0), (2, .int 7)] := hl
  refine lv_aload_n hx hb dX6_readNumber_0 rfl (lv_at hl 0 rfl) ?_
  refine va_get (D := (dC, dI)) (ci := 6) (v := .int 45) (C := RX6) (T := TX6) (N := 9) hx hb hts iw_X6_readNumber_X6 hown hK hP 0 rfl rfl 3 (by decide) (hts _ m_X6_readNumber_1) (fun _ h9 => h9) rfl dX6_readNumber_1 ?_
  refine lv_istore_n (lv' := [(3, .int 45), (0, .ref a0), (1, .int 0), (2, .int 7)]) hx hb dX6_readNumber_4 rfl hl (by decide) rfl (fun ls hl2 => ?_)
  replace hl := hl2
  clear hl2
  refine lv_aload_n hx hb dX6_readNumber_5 rfl (lv_at hl 1 rfl) ?_
  have hPc := hP.sub (ws' := [(a0, .inr (6, [.int 0, .int 0, .ref a1, .int 45, .int 1, .int 3, .int 1, .int 1, .ref a2])), (a1, .inr (5, [.ref cb, .int 81, .int 0, .ref a3, .int 7, .ref a4, .int 3, .ref a5, .int 1, .int 1, .ref a6, .int 6, .int 0, .int 1, .int 0]))]) [0, 1] rfl
  have hDc := hD.sub (ws' := [(a0, .inr (6, [.int 0, .int 0, .ref a1, .int 45, .int 1, .int 3, .int 1, .int 1, .ref a2])), (a1, .inr (5, [.ref cb, .int 81, .int 0, .ref a3, .int 7, .ref a4, .int 3, .ref a5, .int 1, .int 1, .ref a6, .int 6, .int 0, .int 1, .int 0]))]) [0, 1] (by decide) rfl
  have hFc := va_free (wc := [(a0, .inr (6, [.int 0, .int 0, .ref a1, .int 45, .int 1, .int 3, .int 1, .int 1, .ref a2])), (a1, .inr (5, [.ref cb, .int 81, .int 0, .ref a3, .int 7, .ref a4, .int 3, .ref a5, .int 1, .int 1, .ref a6, .int 6, .int 0, .int 1, .int 0]))]) hD hS hA [0, 1] rfl
  refine va_calli (va_runV (As := []) (rest := []) ⟨hx, hb, hml, hown, hts⟩ (cc_382_X6_readByte l dC dI cy s.heap.size cb a0 a1 a2 a3 a4 a5 a6) (cwV 0 hts gX6_readNumber_X6_readByte rfl rfl rfl (by decide +kernel) ⟨Nat.le_of_ble_eq_true rfl, Nat.le_of_ble_eq_true rfl⟩) ⟨fun a U g mk q => by obtain ⟨q0, q1, qP, qK, qD, qN, qS⟩ := q; exact ⟨q0, q1, qP, va_K.moved (u := U) (U := U.calling g mk a) (Vm.Alike.refl U.vm) qK, qD, qN.same rfl, SK.moved (u := U) (U := U.calling g mk a) (Vm.Alike.refl U.vm) qS⟩, va_recv hK hPc (ci := 6) (q0 := 0) rfl rfl, fun U hU hW => ⟨rfl, by rw [hU], by rw [hU]; exact hPc, va_K.moved hW.alike hK, hDc.weaken (fun _ _ _ _ => trivial), hN.warm hW, by rw [hU]; exact ((hSK.kept hS.2.1).narrow hFc).moved hW.alike⟩⟩ rfl rfl hl.1 rfl (lv_room (Nat.le_of_ble_eq_true rfl)) dX6_readNumber_6 ⟨Nat.le_of_ble_eq_true rfl, Nat.le_of_ble_eq_true rfl⟩) hS (fun q _ h => hFc q h) hFc (fun r_1 u t H_2 locs ht hvm hw hB hz1 hk1 hS2 => ?_)
  obtain ⟨hP1, hK1, hD1⟩ := hB
  rw [ht] at hP1
  obtain rfl := hw
  obtain ⟨hP2, hD2⟩ := va_join (wr := []) (w1 := [(a0, .inr (6, [.int 0, .int 0, .ref a1, .int 46, .int 1, .int 3, .int 1, .int 1, .ref a2])), (a1, .inr (5, [.ref cb, .int 81, .int 0, .ref a3, .int 7, .ref a4, .int 3, .ref a5, .int 1, .int 1, .ref a6, .int 6, .int 0, .int 1, .int 0]))]) hP hD [0, 1] [] rfl rfl (by decide) (by decide) hk1 hFc hP1 hD1
  replace hP : va_P (dC, dI) vwCl [(a0, .inr (6, [.int 0, .int 0, .ref a1, .int 46, .int 1, .int 3, .int 1, .int 1, .ref a2])), (a1, .inr (5, [.ref cb, .int 81, .int 0, .ref a3, .int 7, .ref a4, .int 3, .ref a5, .int 1, .int 1, .ref a6, .int 6, .int 0, .int 1, .int 0]))] H_2 := hP2
  replace hD : va_D A [(a0, .inr (6, [.int 0, .int 0, .ref a1, .int 46, .int 1, .int 3, .int 1, .int 1, .ref a2])), (a1, .inr (5, [.ref cb, .int 81, .int 0, .ref a3, .int 7, .ref a4, .int 3, .ref a5, .int 1, .int 1, .ref a6, .int 6, .int 0, .int 1, .int 0]))] := hD2
  replace hS := hS2
  clear hP2 hD2 hS2
  clear hPc hDc hFc hP1 hD1 hK1 hk1 hz1 hvm ht
  refine W.widen (k := 0) (n := 0) (Nat.le_of_ble_eq_true rfl) (Nat.le_of_ble_eq_true rfl) ?_
  refine lv_istore (lv' := [(4, .int 1), (3, .int 45), (0, .ref a0), (1, .int 0), (2, .int 7)]) hx hb dX6_readNumber_9 hl (by decide) rfl (fun ls hl2 => ?_)
  replace hl := hl2
  clear hl2
  refine lv_iload hx hb dX6_readNumber_11 (lv_at hl 0 rfl) ?_
  refine lv_iload_n hx hb dX6_readNumber_13 rfl (lv_at hl 3 rfl) ?_
  refine lv_icmp_lt (tgt := 23) hx hb dX6_readNumber_14 (by decide) (fun h => absurd h (by decide)) (fun _ => ?_)
  refine lv_iload hx hb dX6_readNumber_17 (lv_at hl 0 rfl) ?_
  refine lv_iload_n hx hb dX6_readNumber_19 rfl (lv_at hl 4 rfl) ?_
  refine lv_icmp_le (tgt := 29) hx hb dX6_readNumber_20 (by decide) (fun _ => ?_) (fun h => absurd (by decide) h)
  refine lv_aload_n hx hb dX6_readNumber_29 rfl (lv_at hl 2 rfl) ?_
  refine va_get (D := (dC, dI)) (ci := 6) (v := .int 0) (C := RX6) (T := TX6) (N := 9) hx hb hts iw_X6_readNumber_X6 hown hK hP 0 rfl rfl 1 (by decide) (hts _ m_X6_readNumber_2) (fun _ h9 => h9) rfl dX6_readNumber_30 ?_
  refine lv_if_ne (tgt := 41) hx hb dX6_readNumber_33 (by decide) (fun h => absurd (by decide) h) (fun _ => ?_)
  refine lv_iload hx hb dX6_readNumber_36 (lv_at hl 0 rfl) ?_
  refine lv_goto (tgt := 42) hx hb dX6_readNumber_38 (by decide) ?_
  exact W.iret hx hb hr (fun t ht hW => ⟨⟨1, (), rfl, rfl, by rw [ht]; exact hP, va_K.moved hW.alike hK, hD⟩, hS.F ht⟩) hS.2.2 dX6_readNumber_42

set_option maxHeartbeats 4000000 in
set_option maxRecDepth 100000 in
theorem cc_385_X6_readByte (l : Launch) (dC : Nat → ClassId) (dI : Nat → Nat → Nat) (cy : Nat → ClassId) (sz : Nat) (cb : Nat) (a0 : Nat) (a1 : Nat) (a2 : Nat) (a3 : Nat) (a4 : Nat) (a5 : Nat) (a6 : Nat)  : Met l yX6_readByte wsX6_readByte ({ frames := 0, cells := 0, slots := 0, locals := 0 }) (va_Pc [.ref a0] (fun U => U.heap.size = sz ∧ va_P (dC, dI) vwCl [(a0, .inr (6, [.int 0, .int 0, .ref a1, .int 46, .int 1, .int 3, .int 1, .int 1, .ref a2])), (a1, .inr (5, [.ref cb, .int 81, .int 0, .ref a3, .int 7, .ref a4, .int 3, .ref a5, .int 1, .int 1, .ref a6, .int 6, .int 0, .int 1, .int 0]))] U.heap ∧ va_K (dC, dI) vwCl (TYS cy) U ∧ va_D (fun _ => True) [(a0, .inr (6, [.int 0, .int 0, .ref a1, .int 46, .int 1, .int 3, .int 1, .int 1, .ref a2])), (a1, .inr (5, [.ref cb, .int 81, .int 0, .ref a3, .int 7, .ref a4, .int 3, .ref a5, .int 1, .int 1, .ref a6, .int 6, .int 0, .int 1, .int 0]))] ∧ NK U ∧ SK cb (va_A [(a0, .inr (6, [.int 0, .int 0, .ref a1, .int 46, .int 1, .int 3, .int 1, .int 1, .ref a2])), (a1, .inr (5, [.ref cb, .int 81, .int 0, .ref a3, .int 7, .ref a4, .int 3, .ref a5, .int 1, .int 1, .ref a6, .int 6, .int 0, .int 1, .int 0]))] sz) U U.heap)) (va_Qi (fun (r : Int32) (u : Unit) => r = 2) (fun u t => va_P (dC, dI) vwCl [(a0, .inr (6, [.int 0, .int 0, .ref a1, .int 47, .int 1, .int 3, .int 1, .int 1, .ref a2])), (a1, .inr (5, [.ref cb, .int 81, .int 0, .ref a3, .int 7, .ref a4, .int 3, .ref a5, .int 1, .int 1, .ref a6, .int 6, .int 0, .int 1, .int 0]))] t.heap ∧ va_K (dC, dI) vwCl (TYS cy) t ∧ va_D (va_A [(a0, .inr (6, [.int 0, .int 0, .ref a1, .int 46, .int 1, .int 3, .int 1, .int 1, .ref a2])), (a1, .inr (5, [.ref cb, .int 81, .int 0, .ref a3, .int 7, .ref a4, .int 3, .ref a5, .int 1, .int 1, .ref a6, .int 6, .int 0, .int 1, .int 0]))] sz) [(a0, .inr (6, [.int 0, .int 0, .ref a1, .int 47, .int 1, .int 3, .int 1, .int 1, .ref a2])), (a1, .inr (5, [.ref cb, .int 81, .int 0, .ref a3, .int 7, .ref a4, .int 3, .ref a5, .int 1, .int 1, .ref a6, .int 6, .int 0, .int 1, .int 0]))]) (va_A [(a0, .inr (6, [.int 0, .int 0, .ref a1, .int 46, .int 1, .int 3, .int 1, .int 1, .ref a2])), (a1, .inr (5, [.ref cb, .int 81, .int 0, .ref a3, .int 7, .ref a4, .int 3, .ref a5, .int 1, .int 1, .ref a6, .int 6, .int 0, .int 1, .int 0]))] sz)) 0 0 (va_A [(a0, .inr (6, [.int 0, .int 0, .ref a1, .int 46, .int 1, .int 3, .int 1, .int 1, .ref a2])), (a1, .inr (5, [.ref cb, .int 81, .int 0, .ref a3, .int 7, .ref a4, .int 3, .ref a5, .int 1, .int 1, .ref a6, .int 6, .int 0, .int 1, .int 0]))] sz) := by
  refine Met.ofW (cc := cX6_readByte) (maxL := 1) (ret := (some .int)) (by decide) rfl ?_
  intro p e s m args below meth c s₁ B hml hv
  obtain ⟨rfl, hsz, hP, hK, hD0, hN, hSK⟩ := hv
  have hx := B.exec
  have hb := B.bytes
  have hr := B.returns
  have hts := atoms_spec (ws := wsX6_readByte) B.pre
  have hown : s.vm.findClass RX6 = some m.cls := findClass_of_methodNamed B.named
  have hlocks := B.notSynchronized
  subst hsz
  have hD := hD0.self (sz := s.heap.size)
  generalize hAe : va_A [(a0, .inr (6, [.int 0, .int 0, .ref a1, .int 46, .int 1, .int 3, .int 1, .int 1, .ref a2])), (a1, .inr (5, [.ref cb, .int 81, .int 0, .ref a3, .int 7, .ref a4, .int 3, .ref a5, .int 1, .int 1, .ref a6, .int 6, .int 0, .int 1, .int 0]))] s.heap.size = A at hD hSK ⊢
  have hA : ∀ q : Nat, s.heap.size ≤ q → A q := fun q h => by rw [← hAe]; exact Or.inr h
  have hS : va_S A s.heap s.heap [] := va_S.rf
  have hP : va_P (dC, dI) vwCl [(a0, .inr (6, [.int 0, .int 0, .ref a1, .int 46, .int 1, .int 3, .int 1, .int 1, .ref a2])), (a1, .inr (5, [.ref cb, .int 81, .int 0, .ref a3, .int 7, .ref a4, .int 3, .ref a5, .int 1, .int 1, .ref a6, .int 6, .int 0, .int 1, .int 0]))] s.heap := hP
  have hl := lv_entry ([.ref a0]) (n := 1) (Nat.le_of_ble_eq_true rfl)
  rw [lg_entry_eq]
  generalize (lg_sl ([.ref a0]) ++ List.replicate (1 - (lg_sl ([.ref a0])).length) Slot.unset).toArray = ls at hl ⊢
  replace hl : lv_has ls 1 [(0, .ref a0)] := hl
  refine lv_aload_n hx hb dX6_readByte_0 rfl (lv_at hl 0 rfl) ?_
  refine va_get (D := (dC, dI)) (ci := 6) (v := .int 0) (C := RX6) (T := TX6) (N := 9) hx hb hts iw_X6_readByte_X6 hown hK hP 0 rfl rfl 1 (by decide) (hts _ m_X6_readByte_1) (fun _ h9 => h9) rfl dX6_readByte_1 ?_
  refine lv_if_eq (tgt := 9) hx hb dX6_readByte_4 (by decide) (fun _ => ?_) (fun h => absurd (by decide) h)
  refine lv_aload_n hx hb dX6_readByte_9 rfl (lv_at hl 0 rfl) ?_
  refine va_get (D := (dC, dI)) (ci := 6) (v := .int 46) (C := RX6) (T := TX6) (N := 9) hx hb hts iw_X6_readByte_X6 hown hK hP 0 rfl rfl 3 (by decide) (hts _ m_X6_readByte_2) (fun _ h9 => h9) rfl dX6_readByte_10 ?_
  refine lv_aload_n hx hb dX6_readByte_13 rfl (lv_at hl 0 rfl) ?_
  refine va_get (D := (dC, dI)) (ci := 6) (v := .ref a1) (C := RX6) (T := TX6) (N := 9) hx hb hts iw_X6_readByte_X6 hown hK hP 0 rfl rfl 2 (by decide) (hts _ m_X6_readByte_3) (fun _ h9 => h9) rfl dX6_readByte_14 ?_
  refine va_get (D := (dC, dI)) (ci := 5) (v := .int 81) (C := RX5) (T := TX5) (N := 15) hx hb hts iw_X6_readByte_X5 hown hK hP 1 rfl rfl 1 (by decide) (hts _ m_X6_readByte_4) (fun _ h9 => h9) rfl dX6_readByte_17 ?_
  refine lv_icmp_lt (tgt := 41) hx hb dX6_readByte_20 (by decide) (fun _ => ?_) (fun h => absurd (by decide) h)
  refine lv_aload_n hx hb dX6_readByte_41 rfl (lv_at hl 0 rfl) ?_
  refine va_get (D := (dC, dI)) (ci := 6) (v := .ref a1) (C := RX6) (T := TX6) (N := 9) hx hb hts iw_X6_readByte_X6 hown hK hP 0 rfl rfl 2 (by decide) (hts _ m_X6_readByte_3) (fun _ h9 => h9) rfl dX6_readByte_42 ?_
  refine va_get (D := (dC, dI)) (ci := 5) (v := .ref cb) (C := RX5) (T := TX5) (N := 15) hx hb hts iw_X6_readByte_X5 hown hK hP 1 rfl rfl 0 (by decide) (hts _ m_X6_readByte_6) (fun _ h9 => h9) rfl dX6_readByte_45 ?_
  refine lv_aload_n hx hb dX6_readByte_48 rfl (lv_at hl 0 rfl) ?_
  refine lv_dup hx hb dX6_readByte_49 rfl ?_
  refine va_get (D := (dC, dI)) (ci := 6) (v := .int 46) (C := RX6) (T := TX6) (N := 9) hx hb hts iw_X6_readByte_X6 hown hK hP 0 rfl rfl 3 (by decide) (hts _ m_X6_readByte_2) (fun _ h9 => h9) rfl dX6_readByte_50 ?_
  refine lv_dup_x1 hx hb dX6_readByte_53 rfl rfl ?_
  refine lv_iconst (v := 1) hx hb dX6_readByte_54 (by decide) ?_
  refine lv_iadd hx hb dX6_readByte_55 ?_
  refine lv_topi (fun z_1 ez_1 => ?_)
  obtain rfl : z_1 = 47 := ez_1.trans (by decide)
  clear ez_1
  refine va_put (D := (dC, dI)) (ci := 6) (v := .int 47) (ty := .int) (C := RX6) (T := TX6) (N := 9) hx hb hts iw_X6_readByte_X6 tyX6 tyX6_ok nmX6 hown hK hP hD hS 0 rfl rfl 3 (by decide) (hts _ m_X6_readByte_2) (fun _ h9 => h9) rfl (by decide +kernel) rfl rfl (Nat.le_of_ble_eq_true rfl) dX6_readByte_56 (fun H_2 locs hP2 hD2 hS2 => ?_)
  replace hP : va_P (dC, dI) vwCl [(a0, .inr (6, [.int 0, .int 0, .ref a1, .int 47, .int 1, .int 3, .int 1, .int 1, .ref a2])), (a1, .inr (5, [.ref cb, .int 81, .int 0, .ref a3, .int 7, .ref a4, .int 3, .ref a5, .int 1, .int 1, .ref a6, .int 6, .int 0, .int 1, .int 0]))] H_2 := hP2
  replace hD : va_D A [(a0, .inr (6, [.int 0, .int 0, .ref a1, .int 47, .int 1, .int 3, .int 1, .int 1, .ref a2])), (a1, .inr (5, [.ref cb, .int 81, .int 0, .ref a3, .int 7, .ref a4, .int 3, .ref a5, .int 1, .int 1, .ref a6, .int 6, .int 0, .int 1, .int 0]))] := hD2
  replace hS := hS2
  clear hP2 hD2 hS2
  refine va_tb (v := .int 2) hx hb hSK.2 hS (by unfold vp_in; decide) rfl dX6_readByte_59 ?_
  refine lv_sipush (v := 255) hx hb dX6_readByte_60 (by decide) ?_
  refine lv_iand hx hb dX6_readByte_63 ?_
  refine lv_topi (fun z_3 ez_3 => ?_)
  obtain rfl : z_3 = 2 := ez_3.trans (by decide)
  clear ez_3
  exact W.iret hx hb hr (fun t ht hW => ⟨⟨2, (), rfl, rfl, by rw [ht]; exact hP, va_K.moved hW.alike hK, hD⟩, hS.F ht⟩) hS.2.2 dX6_readByte_64

set_option maxHeartbeats 4000000 in
set_option maxRecDepth 100000 in
theorem cc_384_X6_readNumber (l : Launch) (dC : Nat → ClassId) (dI : Nat → Nat → Nat) (cy : Nat → ClassId) (sz : Nat) (cb : Nat) (a0 : Nat) (a1 : Nat) (a2 : Nat) (a3 : Nat) (a4 : Nat) (a5 : Nat) (a6 : Nat)  : Met l yX6_readNumber wsX6_readNumber ({ frames := 1, cells := 0, slots := 0, locals := 20 }) (va_Pc [.ref a0, .int 0, .int 8] (fun U => U.heap.size = sz ∧ va_P (dC, dI) vwCl [(a0, .inr (6, [.int 0, .int 0, .ref a1, .int 46, .int 1, .int 3, .int 1, .int 1, .ref a2])), (a1, .inr (5, [.ref cb, .int 81, .int 0, .ref a3, .int 7, .ref a4, .int 3, .ref a5, .int 1, .int 1, .ref a6, .int 6, .int 0, .int 1, .int 0]))] U.heap ∧ va_K (dC, dI) vwCl (TYS cy) U ∧ va_D (fun _ => True) [(a0, .inr (6, [.int 0, .int 0, .ref a1, .int 46, .int 1, .int 3, .int 1, .int 1, .ref a2])), (a1, .inr (5, [.ref cb, .int 81, .int 0, .ref a3, .int 7, .ref a4, .int 3, .ref a5, .int 1, .int 1, .ref a6, .int 6, .int 0, .int 1, .int 0]))] ∧ NK U ∧ SK cb (va_A [(a0, .inr (6, [.int 0, .int 0, .ref a1, .int 46, .int 1, .int 3, .int 1, .int 1, .ref a2])), (a1, .inr (5, [.ref cb, .int 81, .int 0, .ref a3, .int 7, .ref a4, .int 3, .ref a5, .int 1, .int 1, .ref a6, .int 6, .int 0, .int 1, .int 0]))] sz) U U.heap)) (va_Qi (fun (r : Int32) (u : Unit) => r = 2) (fun u t => va_P (dC, dI) vwCl [(a0, .inr (6, [.int 0, .int 0, .ref a1, .int 47, .int 1, .int 3, .int 1, .int 1, .ref a2])), (a1, .inr (5, [.ref cb, .int 81, .int 0, .ref a3, .int 7, .ref a4, .int 3, .ref a5, .int 1, .int 1, .ref a6, .int 6, .int 0, .int 1, .int 0]))] t.heap ∧ va_K (dC, dI) vwCl (TYS cy) t ∧ va_D (va_A [(a0, .inr (6, [.int 0, .int 0, .ref a1, .int 46, .int 1, .int 3, .int 1, .int 1, .ref a2])), (a1, .inr (5, [.ref cb, .int 81, .int 0, .ref a3, .int 7, .ref a4, .int 3, .ref a5, .int 1, .int 1, .ref a6, .int 6, .int 0, .int 1, .int 0]))] sz) [(a0, .inr (6, [.int 0, .int 0, .ref a1, .int 47, .int 1, .int 3, .int 1, .int 1, .ref a2])), (a1, .inr (5, [.ref cb, .int 81, .int 0, .ref a3, .int 7, .ref a4, .int 3, .ref a5, .int 1, .int 1, .ref a6, .int 6, .int 0, .int 1, .int 0]))]) (va_A [(a0, .inr (6, [.int 0, .int 0, .ref a1, .int 46, .int 1, .int 3, .int 1, .int 1, .ref a2])), (a1, .inr (5, [.ref cb, .int 81, .int 0, .ref a3, .int 7, .ref a4, .int 3, .ref a5, .int 1, .int 1, .ref a6, .int 6, .int 0, .int 1, .int 0]))] sz)) 0 0 (va_A [(a0, .inr (6, [.int 0, .int 0, .ref a1, .int 46, .int 1, .int 3, .int 1, .int 1, .ref a2])), (a1, .inr (5, [.ref cb, .int 81, .int 0, .ref a3, .int 7, .ref a4, .int 3, .ref a5, .int 1, .int 1, .ref a6, .int 6, .int 0, .int 1, .int 0]))] sz) := by
  refine Met.ofW (cc := cX6_readNumber) (maxL := 5) (ret := (some .int)) (by decide) rfl ?_
  intro p e s m args below meth c s₁ B hml hv
  obtain ⟨rfl, hsz, hP, hK, hD0, hN, hSK⟩ := hv
  have hx := B.exec
  have hb := B.bytes
  have hr := B.returns
  have hts := atoms_spec (ws := wsX6_readNumber) B.pre
  have hown : s.vm.findClass RX6 = some m.cls := findClass_of_methodNamed B.named
  have hlocks := B.notSynchronized
  subst hsz
  have hD := hD0.self (sz := s.heap.size)
  generalize hAe : va_A [(a0, .inr (6, [.int 0, .int 0, .ref a1, .int 46, .int 1, .int 3, .int 1, .int 1, .ref a2])), (a1, .inr (5, [.ref cb, .int 81, .int 0, .ref a3, .int 7, .ref a4, .int 3, .ref a5, .int 1, .int 1, .ref a6, .int 6, .int 0, .int 1, .int 0]))] s.heap.size = A at hD hSK ⊢
  have hA : ∀ q : Nat, s.heap.size ≤ q → A q := fun q h => by rw [← hAe]; exact Or.inr h
  have hS : va_S A s.heap s.heap [] := va_S.rf
  have hP : va_P (dC, dI) vwCl [(a0, .inr (6, [.int 0, .int 0, .ref a1, .int 46, .int 1, .int 3, .int 1, .int 1, .ref a2])), (a1, .inr (5, [.ref cb, .int 81, .int 0, .ref a3, .int 7, .ref a4, .int 3, .ref a5, .int 1, .int 1, .ref a6, .int 6, .int 0, .int 1, .int 0]))] s.heap := hP
  have hl := lv_entry ([.ref a0, .int 0, .int 8]) (n := 5) (Nat.le_of_ble_eq_true rfl)
  rw [lg_entry_eq]
  generalize (lg_sl ([.ref a0, .int 0, .int 8]) ++ List.replicate (5 - (lg_sl ([.ref a0, .int 0, .int 8])).length) Slot.unset).toArray = ls at hl ⊢
  replace hl : lv_has ls 5 [(0, .ref a0), (1, .int 0), (2, .int 8)] := hl
  refine lv_aload_n hx hb dX6_readNumber_0 rfl (lv_at hl 0 rfl) ?_
  refine va_get (D := (dC, dI)) (ci := 6) (v := .int 46) (C := RX6) (T := TX6) (N := 9) hx hb hts iw_X6_readNumber_X6 hown hK hP 0 rfl rfl 3 (by decide) (hts _ m_X6_readNumber_1) (fun _ h9 => h9) rfl dX6_readNumber_1 ?_
  refine lv_istore_n (lv' := [(3, .int 46), (0, .ref a0), (1, .int 0), (2, .int 8)]) hx hb dX6_readNumber_4 rfl hl (by decide) rfl (fun ls hl2 => ?_)
  replace hl := hl2
  clear hl2
  refine lv_aload_n hx hb dX6_readNumber_5 rfl (lv_at hl 1 rfl) ?_
  have hPc := hP.sub (ws' := [(a0, .inr (6, [.int 0, .int 0, .ref a1, .int 46, .int 1, .int 3, .int 1, .int 1, .ref a2])), (a1, .inr (5, [.ref cb, .int 81, .int 0, .ref a3, .int 7, .ref a4, .int 3, .ref a5, .int 1, .int 1, .ref a6, .int 6, .int 0, .int 1, .int 0]))]) [0, 1] rfl
  have hDc := hD.sub (ws' := [(a0, .inr (6, [.int 0, .int 0, .ref a1, .int 46, .int 1, .int 3, .int 1, .int 1, .ref a2])), (a1, .inr (5, [.ref cb, .int 81, .int 0, .ref a3, .int 7, .ref a4, .int 3, .ref a5, .int 1, .int 1, .ref a6, .int 6, .int 0, .int 1, .int 0]))]) [0, 1] (by decide) rfl
  have hFc := va_free (wc := [(a0, .inr (6, [.int 0, .int 0, .ref a1, .int 46, .int 1, .int 3, .int 1, .int 1, .ref a2])), (a1, .inr (5, [.ref cb, .int 81, .int 0, .ref a3, .int 7, .ref a4, .int 3, .ref a5, .int 1, .int 1, .ref a6, .int 6, .int 0, .int 1, .int 0]))]) hD hS hA [0, 1] rfl
  refine va_calli (va_runV (As := []) (rest := []) ⟨hx, hb, hml, hown, hts⟩ (cc_385_X6_readByte l dC dI cy s.heap.size cb a0 a1 a2 a3 a4 a5 a6) (cwV 0 hts gX6_readNumber_X6_readByte rfl rfl rfl (by decide +kernel) ⟨Nat.le_of_ble_eq_true rfl, Nat.le_of_ble_eq_true rfl⟩) ⟨fun a U g mk q => by obtain ⟨q0, q1, qP, qK, qD, qN, qS⟩ := q; exact ⟨q0, q1, qP, va_K.moved (u := U) (U := U.calling g mk a) (Vm.Alike.refl U.vm) qK, qD, qN.same rfl, SK.moved (u := U) (U := U.calling g mk a) (Vm.Alike.refl U.vm) qS⟩, va_recv hK hPc (ci := 6) (q0 := 0) rfl rfl, fun U hU hW => ⟨rfl, by rw [hU], by rw [hU]; exact hPc, va_K.moved hW.alike hK, hDc.weaken (fun _ _ _ _ => trivial), hN.warm hW, by rw [hU]; exact ((hSK.kept hS.2.1).narrow hFc).moved hW.alike⟩⟩ rfl rfl hl.1 rfl (lv_room (Nat.le_of_ble_eq_true rfl)) dX6_readNumber_6 ⟨Nat.le_of_ble_eq_true rfl, Nat.le_of_ble_eq_true rfl⟩) hS (fun q _ h => hFc q h) hFc (fun r_1 u t H_2 locs ht hvm hw hB hz1 hk1 hS2 => ?_)
  obtain ⟨hP1, hK1, hD1⟩ := hB
  rw [ht] at hP1
  obtain rfl := hw
  obtain ⟨hP2, hD2⟩ := va_join (wr := []) (w1 := [(a0, .inr (6, [.int 0, .int 0, .ref a1, .int 47, .int 1, .int 3, .int 1, .int 1, .ref a2])), (a1, .inr (5, [.ref cb, .int 81, .int 0, .ref a3, .int 7, .ref a4, .int 3, .ref a5, .int 1, .int 1, .ref a6, .int 6, .int 0, .int 1, .int 0]))]) hP hD [0, 1] [] rfl rfl (by decide) (by decide) hk1 hFc hP1 hD1
  replace hP : va_P (dC, dI) vwCl [(a0, .inr (6, [.int 0, .int 0, .ref a1, .int 47, .int 1, .int 3, .int 1, .int 1, .ref a2])), (a1, .inr (5, [.ref cb, .int 81, .int 0, .ref a3, .int 7, .ref a4, .int 3, .ref a5, .int 1, .int 1, .ref a6, .int 6, .int 0, .int 1, .int 0]))] H_2 := hP2
  replace hD : va_D A [(a0, .inr (6, [.int 0, .int 0, .ref a1, .int 47, .int 1, .int 3, .int 1, .int 1, .ref a2])), (a1, .inr (5, [.ref cb, .int 81, .int 0, .ref a3, .int 7, .ref a4, .int 3, .ref a5, .int 1, .int 1, .ref a6, .int 6, .int 0, .int 1, .int 0]))] := hD2
  replace hS := hS2
  clear hP2 hD2 hS2
  clear hPc hDc hFc hP1 hD1 hK1 hk1 hz1 hvm ht
  refine W.widen (k := 0) (n := 0) (Nat.le_of_ble_eq_true rfl) (Nat.le_of_ble_eq_true rfl) ?_
  refine lv_istore (lv' := [(4, .int 2), (3, .int 46), (0, .ref a0), (1, .int 0), (2, .int 8)]) hx hb dX6_readNumber_9 hl (by decide) rfl (fun ls hl2 => ?_)
  replace hl := hl2
  clear hl2
  refine lv_iload hx hb dX6_readNumber_11 (lv_at hl 0 rfl) ?_
  refine lv_iload_n hx hb dX6_readNumber_13 rfl (lv_at hl 3 rfl) ?_
  refine lv_icmp_lt (tgt := 23) hx hb dX6_readNumber_14 (by decide) (fun h => absurd h (by decide)) (fun _ => ?_)
  refine lv_iload hx hb dX6_readNumber_17 (lv_at hl 0 rfl) ?_
  refine lv_iload_n hx hb dX6_readNumber_19 rfl (lv_at hl 4 rfl) ?_
  refine lv_icmp_le (tgt := 29) hx hb dX6_readNumber_20 (by decide) (fun _ => ?_) (fun h => absurd (by decide) h)
  refine lv_aload_n hx hb dX6_readNumber_29 rfl (lv_at hl 2 rfl) ?_
  refine va_get (D := (dC, dI)) (ci := 6) (v := .int 0) (C := RX6) (T := TX6) (N := 9) hx hb hts iw_X6_readNumber_X6 hown hK hP 0 rfl rfl 1 (by decide) (hts _ m_X6_readNumber_2) (fun _ h9 => h9) rfl dX6_readNumber_30 ?_
  refine lv_if_ne (tgt := 41) hx hb dX6_readNumber_33 (by decide) (fun h => absurd (by decide) h) (fun _ => ?_)
  refine lv_iload hx hb dX6_readNumber_36 (lv_at hl 0 rfl) ?_
  refine lv_goto (tgt := 42) hx hb dX6_readNumber_38 (by decide) ?_
  exact W.iret hx hb hr (fun t ht hW => ⟨⟨2, (), rfl, rfl, by rw [ht]; exact hP, va_K.moved hW.alike hK, hD⟩, hS.F ht⟩) hS.2.2 dX6_readNumber_42

set_option maxHeartbeats 4000000 in
set_option maxRecDepth 100000 in
theorem cc_388_X6_readByte (l : Launch) (dC : Nat → ClassId) (dI : Nat → Nat → Nat) (cy : Nat → ClassId) (sz : Nat) (cb : Nat) (a0 : Nat) (a1 : Nat) (a2 : Nat) (a3 : Nat) (a4 : Nat) (a5 : Nat) (a6 : Nat)  : Met l yX6_readByte wsX6_readByte ({ frames := 0, cells := 0, slots := 0, locals := 0 }) (va_Pc [.ref a0] (fun U => U.heap.size = sz ∧ va_P (dC, dI) vwCl [(a0, .inr (6, [.int 0, .int 0, .ref a1, .int 47, .int 1, .int 3, .int 1, .int 1, .ref a2])), (a1, .inr (5, [.ref cb, .int 81, .int 0, .ref a3, .int 7, .ref a4, .int 3, .ref a5, .int 1, .int 1, .ref a6, .int 6, .int 0, .int 1, .int 0]))] U.heap ∧ va_K (dC, dI) vwCl (TYS cy) U ∧ va_D (fun _ => True) [(a0, .inr (6, [.int 0, .int 0, .ref a1, .int 47, .int 1, .int 3, .int 1, .int 1, .ref a2])), (a1, .inr (5, [.ref cb, .int 81, .int 0, .ref a3, .int 7, .ref a4, .int 3, .ref a5, .int 1, .int 1, .ref a6, .int 6, .int 0, .int 1, .int 0]))] ∧ NK U ∧ SK cb (va_A [(a0, .inr (6, [.int 0, .int 0, .ref a1, .int 47, .int 1, .int 3, .int 1, .int 1, .ref a2])), (a1, .inr (5, [.ref cb, .int 81, .int 0, .ref a3, .int 7, .ref a4, .int 3, .ref a5, .int 1, .int 1, .ref a6, .int 6, .int 0, .int 1, .int 0]))] sz) U U.heap)) (va_Qi (fun (r : Int32) (u : Unit) => r = 6) (fun u t => va_P (dC, dI) vwCl [(a0, .inr (6, [.int 0, .int 0, .ref a1, .int 48, .int 1, .int 3, .int 1, .int 1, .ref a2])), (a1, .inr (5, [.ref cb, .int 81, .int 0, .ref a3, .int 7, .ref a4, .int 3, .ref a5, .int 1, .int 1, .ref a6, .int 6, .int 0, .int 1, .int 0]))] t.heap ∧ va_K (dC, dI) vwCl (TYS cy) t ∧ va_D (va_A [(a0, .inr (6, [.int 0, .int 0, .ref a1, .int 47, .int 1, .int 3, .int 1, .int 1, .ref a2])), (a1, .inr (5, [.ref cb, .int 81, .int 0, .ref a3, .int 7, .ref a4, .int 3, .ref a5, .int 1, .int 1, .ref a6, .int 6, .int 0, .int 1, .int 0]))] sz) [(a0, .inr (6, [.int 0, .int 0, .ref a1, .int 48, .int 1, .int 3, .int 1, .int 1, .ref a2])), (a1, .inr (5, [.ref cb, .int 81, .int 0, .ref a3, .int 7, .ref a4, .int 3, .ref a5, .int 1, .int 1, .ref a6, .int 6, .int 0, .int 1, .int 0]))]) (va_A [(a0, .inr (6, [.int 0, .int 0, .ref a1, .int 47, .int 1, .int 3, .int 1, .int 1, .ref a2])), (a1, .inr (5, [.ref cb, .int 81, .int 0, .ref a3, .int 7, .ref a4, .int 3, .ref a5, .int 1, .int 1, .ref a6, .int 6, .int 0, .int 1, .int 0]))] sz)) 0 0 (va_A [(a0, .inr (6, [.int 0, .int 0, .ref a1, .int 47, .int 1, .int 3, .int 1, .int 1, .ref a2])), (a1, .inr (5, [.ref cb, .int 81, .int 0, .ref a3, .int 7, .ref a4, .int 3, .ref a5, .int 1, .int 1, .ref a6, .int 6, .int 0, .int 1, .int 0]))] sz) := by
  refine Met.ofW (cc := cX6_readByte) (maxL := 1) (ret := (some .int)) (by decide) rfl ?_
  intro p e s m args below meth c s₁ B hml hv
  obtain ⟨rfl, hsz, hP, hK, hD0, hN, hSK⟩ := hv
  have hx := B.exec
  have hb := B.bytes
  have hr := B.returns
  have hts := atoms_spec (ws := wsX6_readByte) B.pre
  have hown : s.vm.findClass RX6 = some m.cls := findClass_of_methodNamed B.named
  have hlocks := B.notSynchronized
  subst hsz
  have hD := hD0.self (sz := s.heap.size)
  generalize hAe : va_A [(a0, .inr (6, [.int 0, .int 0, .ref a1, .int 47, .int 1, .int 3, .int 1, .int 1, .ref a2])), (a1, .inr (5, [.ref cb, .int 81, .int 0, .ref a3, .int 7, .ref a4, .int 3, .ref a5, .int 1, .int 1, .ref a6, .int 6, .int 0, .int 1, .int 0]))] s.heap.size = A at hD hSK ⊢
  have hA : ∀ q : Nat, s.heap.size ≤ q → A q := fun q h => by rw [← hAe]; exact Or.inr h
  have hS : va_S A s.heap s.heap [] := va_S.rf
  have hP : va_P (dC, dI) vwCl [(a0, .inr (6, [.int 0, .int 0, .ref a1, .int 47, .int 1, .int 3, .int 1, .int 1, .ref a2])), (a1, .inr (5, [.ref cb, .int 81, .int 0, .ref a3, .int 7, .ref a4, .int 3, .ref a5, .int 1, .int 1, .ref a6, .int 6, .int 0, .int 1, .int 0]))] s.heap := hP
  have hl := lv_entry ([.ref a0]) (n := 1) (Nat.le_of_ble_eq_true rfl)
  rw [lg_entry_eq]
  generalize (lg_sl ([.ref a0]) ++ List.replicate (1 - (lg_sl ([.ref a0])).length) Slot.unset).toArray = ls at hl ⊢
  replace hl : lv_has ls 1 [(0, .ref a0)] := hl
  refine lv_aload_n hx hb dX6_readByte_0 rfl (lv_at hl 0 rfl) ?_
  refine va_get (D := (dC, dI)) (ci := 6) (v := .int 0) (C := RX6) (T := TX6) (N := 9) hx hb hts iw_X6_readByte_X6 hown hK hP 0 rfl rfl 1 (by decide) (hts _ m_X6_readByte_1) (fun _ h9 => h9) rfl dX6_readByte_1 ?_
  refine lv_if_eq (tgt := 9) hx hb dX6_readByte_4 (by decide) (fun _ => ?_) (fun h => absurd (by decide) h)
  refine lv_aload_n hx hb dX6_readByte_9 rfl (lv_at hl 0 rfl) ?_
  refine va_get (D := (dC, dI)) (ci := 6) (v := .int 47) (C := RX6) (T := TX6) (N := 9) hx hb hts iw_X6_readByte_X6 hown hK hP 0 rfl rfl 3 (by decide) (hts _ m_X6_readByte_2) (fun _ h9 => h9) rfl dX6_readByte_10 ?_
  refine lv_aload_n hx hb dX6_readByte_13 rfl (lv_at hl 0 rfl) ?_
  refine va_get (D := (dC, dI)) (ci := 6) (v := .ref a1) (C := RX6) (T := TX6) (N := 9) hx hb hts iw_X6_readByte_X6 hown hK hP 0 rfl rfl 2 (by decide) (hts _ m_X6_readByte_3) (fun _ h9 => h9) rfl dX6_readByte_14 ?_
  refine va_get (D := (dC, dI)) (ci := 5) (v := .int 81) (C := RX5) (T := TX5) (N := 15) hx hb hts iw_X6_readByte_X5 hown hK hP 1 rfl rfl 1 (by decide) (hts _ m_X6_readByte_4) (fun _ h9 => h9) rfl dX6_readByte_17 ?_
  refine lv_icmp_lt (tgt := 41) hx hb dX6_readByte_20 (by decide) (fun _ => ?_) (fun h => absurd (by decide) h)
  refine lv_aload_n hx hb dX6_readByte_41 rfl (lv_at hl 0 rfl) ?_
  refine va_get (D := (dC, dI)) (ci := 6) (v := .ref a1) (C := RX6) (T := TX6) (N := 9) hx hb hts iw_X6_readByte_X6 hown hK hP 0 rfl rfl 2 (by decide) (hts _ m_X6_readByte_3) (fun _ h9 => h9) rfl dX6_readByte_42 ?_
  refine va_get (D := (dC, dI)) (ci := 5) (v := .ref cb) (C := RX5) (T := TX5) (N := 15) hx hb hts iw_X6_readByte_X5 hown hK hP 1 rfl rfl 0 (by decide) (hts _ m_X6_readByte_6) (fun _ h9 => h9) rfl dX6_readByte_45 ?_
  refine lv_aload_n hx hb dX6_readByte_48 rfl (lv_at hl 0 rfl) ?_
  refine lv_dup hx hb dX6_readByte_49 rfl ?_
  refine va_get (D := (dC, dI)) (ci := 6) (v := .int 47) (C := RX6) (T := TX6) (N := 9) hx hb hts iw_X6_readByte_X6 hown hK hP 0 rfl rfl 3 (by decide) (hts _ m_X6_readByte_2) (fun _ h9 => h9) rfl dX6_readByte_50 ?_
  refine lv_dup_x1 hx hb dX6_readByte_53 rfl rfl ?_
  refine lv_iconst (v := 1) hx hb dX6_readByte_54 (by decide) ?_
  refine lv_iadd hx hb dX6_readByte_55 ?_
  refine lv_topi (fun z_1 ez_1 => ?_)
  obtain rfl : z_1 = 48 := ez_1.trans (by decide)
  clear ez_1
  refine va_put (D := (dC, dI)) (ci := 6) (v := .int 48) (ty := .int) (C := RX6) (T := TX6) (N := 9) hx hb hts iw_X6_readByte_X6 tyX6 tyX6_ok nmX6 hown hK hP hD hS 0 rfl rfl 3 (by decide) (hts _ m_X6_readByte_2) (fun _ h9 => h9) rfl (by decide +kernel) rfl rfl (Nat.le_of_ble_eq_true rfl) dX6_readByte_56 (fun H_2 locs hP2 hD2 hS2 => ?_)
  replace hP : va_P (dC, dI) vwCl [(a0, .inr (6, [.int 0, .int 0, .ref a1, .int 48, .int 1, .int 3, .int 1, .int 1, .ref a2])), (a1, .inr (5, [.ref cb, .int 81, .int 0, .ref a3, .int 7, .ref a4, .int 3, .ref a5, .int 1, .int 1, .ref a6, .int 6, .int 0, .int 1, .int 0]))] H_2 := hP2
  replace hD : va_D A [(a0, .inr (6, [.int 0, .int 0, .ref a1, .int 48, .int 1, .int 3, .int 1, .int 1, .ref a2])), (a1, .inr (5, [.ref cb, .int 81, .int 0, .ref a3, .int 7, .ref a4, .int 3, .ref a5, .int 1, .int 1, .ref a6, .int 6, .int 0, .int 1, .int 0]))] := hD2
  replace hS := hS2
  clear hP2 hD2 hS2
  refine va_tb (v := .int 6) hx hb hSK.2 hS (by unfold vp_in; decide) rfl dX6_readByte_59 ?_
  refine lv_sipush (v := 255) hx hb dX6_readByte_60 (by decide) ?_
  refine lv_iand hx hb dX6_readByte_63 ?_
  refine lv_topi (fun z_3 ez_3 => ?_)
  obtain rfl : z_3 = 6 := ez_3.trans (by decide)
  clear ez_3
  exact W.iret hx hb hr (fun t ht hW => ⟨⟨6, (), rfl, rfl, by rw [ht]; exact hP, va_K.moved hW.alike hK, hD⟩, hS.F ht⟩) hS.2.2 dX6_readByte_64

set_option maxHeartbeats 4000000 in
set_option maxRecDepth 100000 in
theorem cc_389_X6_readByte (l : Launch) (dC : Nat → ClassId) (dI : Nat → Nat → Nat) (cy : Nat → ClassId) (sz : Nat) (cb : Nat) (a0 : Nat) (a1 : Nat) (a2 : Nat) (a3 : Nat) (a4 : Nat) (a5 : Nat) (a6 : Nat)  : Met l yX6_readByte wsX6_readByte ({ frames := 0, cells := 0, slots := 0, locals := 0 }) (va_Pc [.ref a0] (fun U => U.heap.size = sz ∧ va_P (dC, dI) vwCl [(a0, .inr (6, [.int 0, .int 0, .ref a1, .int 48, .int 1, .int 3, .int 1, .int 1, .ref a2])), (a1, .inr (5, [.ref cb, .int 81, .int 0, .ref a3, .int 7, .ref a4, .int 3, .ref a5, .int 1, .int 1, .ref a6, .int 6, .int 0, .int 1, .int 0]))] U.heap ∧ va_K (dC, dI) vwCl (TYS cy) U ∧ va_D (fun _ => True) [(a0, .inr (6, [.int 0, .int 0, .ref a1, .int 48, .int 1, .int 3, .int 1, .int 1, .ref a2])), (a1, .inr (5, [.ref cb, .int 81, .int 0, .ref a3, .int 7, .ref a4, .int 3, .ref a5, .int 1, .int 1, .ref a6, .int 6, .int 0, .int 1, .int 0]))] ∧ NK U ∧ SK cb (va_A [(a0, .inr (6, [.int 0, .int 0, .ref a1, .int 48, .int 1, .int 3, .int 1, .int 1, .ref a2])), (a1, .inr (5, [.ref cb, .int 81, .int 0, .ref a3, .int 7, .ref a4, .int 3, .ref a5, .int 1, .int 1, .ref a6, .int 6, .int 0, .int 1, .int 0]))] sz) U U.heap)) (va_Qi (fun (r : Int32) (u : Unit) => r = 0) (fun u t => va_P (dC, dI) vwCl [(a0, .inr (6, [.int 0, .int 0, .ref a1, .int 49, .int 1, .int 3, .int 1, .int 1, .ref a2])), (a1, .inr (5, [.ref cb, .int 81, .int 0, .ref a3, .int 7, .ref a4, .int 3, .ref a5, .int 1, .int 1, .ref a6, .int 6, .int 0, .int 1, .int 0]))] t.heap ∧ va_K (dC, dI) vwCl (TYS cy) t ∧ va_D (va_A [(a0, .inr (6, [.int 0, .int 0, .ref a1, .int 48, .int 1, .int 3, .int 1, .int 1, .ref a2])), (a1, .inr (5, [.ref cb, .int 81, .int 0, .ref a3, .int 7, .ref a4, .int 3, .ref a5, .int 1, .int 1, .ref a6, .int 6, .int 0, .int 1, .int 0]))] sz) [(a0, .inr (6, [.int 0, .int 0, .ref a1, .int 49, .int 1, .int 3, .int 1, .int 1, .ref a2])), (a1, .inr (5, [.ref cb, .int 81, .int 0, .ref a3, .int 7, .ref a4, .int 3, .ref a5, .int 1, .int 1, .ref a6, .int 6, .int 0, .int 1, .int 0]))]) (va_A [(a0, .inr (6, [.int 0, .int 0, .ref a1, .int 48, .int 1, .int 3, .int 1, .int 1, .ref a2])), (a1, .inr (5, [.ref cb, .int 81, .int 0, .ref a3, .int 7, .ref a4, .int 3, .ref a5, .int 1, .int 1, .ref a6, .int 6, .int 0, .int 1, .int 0]))] sz)) 0 0 (va_A [(a0, .inr (6, [.int 0, .int 0, .ref a1, .int 48, .int 1, .int 3, .int 1, .int 1, .ref a2])), (a1, .inr (5, [.ref cb, .int 81, .int 0, .ref a3, .int 7, .ref a4, .int 3, .ref a5, .int 1, .int 1, .ref a6, .int 6, .int 0, .int 1, .int 0]))] sz) := by
  refine Met.ofW (cc := cX6_readByte) (maxL := 1) (ret := (some .int)) (by decide) rfl ?_
  intro p e s m args below meth c s₁ B hml hv
  obtain ⟨rfl, hsz, hP, hK, hD0, hN, hSK⟩ := hv
  have hx := B.exec
  have hb := B.bytes
  have hr := B.returns
  have hts := atoms_spec (ws := wsX6_readByte) B.pre
  have hown : s.vm.findClass RX6 = some m.cls := findClass_of_methodNamed B.named
  have hlocks := B.notSynchronized
  subst hsz
  have hD := hD0.self (sz := s.heap.size)
  generalize hAe : va_A [(a0, .inr (6, [.int 0, .int 0, .ref a1, .int 48, .int 1, .int 3, .int 1, .int 1, .ref a2])), (a1, .inr (5, [.ref cb, .int 81, .int 0, .ref a3, .int 7, .ref a4, .int 3, .ref a5, .int 1, .int 1, .ref a6, .int 6, .int 0, .int 1, .int 0]))] s.heap.size = A at hD hSK ⊢
  have hA : ∀ q : Nat, s.heap.size ≤ q → A q := fun q h => by rw [← hAe]; exact Or.inr h
  have hS : va_S A s.heap s.heap [] := va_S.rf
  have hP : va_P (dC, dI) vwCl [(a0, .inr (6, [.int 0, .int 0, .ref a1, .int 48, .int 1, .int 3, .int 1, .int 1, .ref a2])), (a1, .inr (5, [.ref cb, .int 81, .int 0, .ref a3, .int 7, .ref a4, .int 3, .ref a5, .int 1, .int 1, .ref a6, .int 6, .int 0, .int 1, .int 0]))] s.heap := hP
  have hl := lv_entry ([.ref a0]) (n := 1) (Nat.le_of_ble_eq_true rfl)
  rw [lg_entry_eq]
  generalize (lg_sl ([.ref a0]) ++ List.replicate (1 - (lg_sl ([.ref a0])).length) Slot.unset).toArray = ls at hl ⊢
  replace hl : lv_has ls 1 [(0, .ref a0)] := hl
  refine lv_aload_n hx hb dX6_readByte_0 rfl (lv_at hl 0 rfl) ?_
  refine va_get (D := (dC, dI)) (ci := 6) (v := .int 0) (C := RX6) (T := TX6) (N := 9) hx hb hts iw_X6_readByte_X6 hown hK hP 0 rfl rfl 1 (by decide) (hts _ m_X6_readByte_1) (fun _ h9 => h9) rfl dX6_readByte_1 ?_
  refine lv_if_eq (tgt := 9) hx hb dX6_readByte_4 (by decide) (fun _ => ?_) (fun h => absurd (by decide) h)
  refine lv_aload_n hx hb dX6_readByte_9 rfl (lv_at hl 0 rfl) ?_
  refine va_get (D := (dC, dI)) (ci := 6) (v := .int 48) (C := RX6) (T := TX6) (N := 9) hx hb hts iw_X6_readByte_X6 hown hK hP 0 rfl rfl 3 (by decide) (hts _ m_X6_readByte_2) (fun _ h9 => h9) rfl dX6_readByte_10 ?_
  refine lv_aload_n hx hb dX6_readByte_13 rfl (lv_at hl 0 rfl) ?_
  refine va_get (D := (dC, dI)) (ci := 6) (v := .ref a1) (C := RX6) (T := TX6) (N := 9) hx hb hts iw_X6_readByte_X6 hown hK hP 0 rfl rfl 2 (by decide) (hts _ m_X6_readByte_3) (fun _ h9 => h9) rfl dX6_readByte_14 ?_
  refine va_get (D := (dC, dI)) (ci := 5) (v := .int 81) (C := RX5) (T := TX5) (N := 15) hx hb hts iw_X6_readByte_X5 hown hK hP 1 rfl rfl 1 (by decide) (hts _ m_X6_readByte_4) (fun _ h9 => h9) rfl dX6_readByte_17 ?_
  refine lv_icmp_lt (tgt := 41) hx hb dX6_readByte_20 (by decide) (fun _ => ?_) (fun h => absurd (by decide) h)
  refine lv_aload_n hx hb dX6_readByte_41 rfl (lv_at hl 0 rfl) ?_
  refine va_get (D := (dC, dI)) (ci := 6) (v := .ref a1) (C := RX6) (T := TX6) (N := 9) hx hb hts iw_X6_readByte_X6 hown hK hP 0 rfl rfl 2 (by decide) (hts _ m_X6_readByte_3) (fun _ h9 => h9) rfl dX6_readByte_42 ?_
  refine va_get (D := (dC, dI)) (ci := 5) (v := .ref cb) (C := RX5) (T := TX5) (N := 15) hx hb hts iw_X6_readByte_X5 hown hK hP 1 rfl rfl 0 (by decide) (hts _ m_X6_readByte_6) (fun _ h9 => h9) rfl dX6_readByte_45 ?_
  refine lv_aload_n hx hb dX6_readByte_48 rfl (lv_at hl 0 rfl) ?_
  refine lv_dup hx hb dX6_readByte_49 rfl ?_
  refine va_get (D := (dC, dI)) (ci := 6) (v := .int 48) (C := RX6) (T := TX6) (N := 9) hx hb hts iw_X6_readByte_X6 hown hK hP 0 rfl rfl 3 (by decide) (hts _ m_X6_readByte_2) (fun _ h9 => h9) rfl dX6_readByte_50 ?_
  refine lv_dup_x1 hx hb dX6_readByte_53 rfl rfl ?_
  refine lv_iconst (v := 1) hx hb dX6_readByte_54 (by decide) ?_
  refine lv_iadd hx hb dX6_readByte_55 ?_
  refine lv_topi (fun z_1 ez_1 => ?_)
  obtain rfl : z_1 = 49 := ez_1.trans (by decide)
  clear ez_1
  refine va_put (D := (dC, dI)) (ci := 6) (v := .int 49) (ty := .int) (C := RX6) (T := TX6) (N := 9) hx hb hts iw_X6_readByte_X6 tyX6 tyX6_ok nmX6 hown hK hP hD hS 0 rfl rfl 3 (by decide) (hts _ m_X6_readByte_2) (fun _ h9 => h9) rfl (by decide +kernel) rfl rfl (Nat.le_of_ble_eq_true rfl) dX6_readByte_56 (fun H_2 locs hP2 hD2 hS2 => ?_)
  replace hP : va_P (dC, dI) vwCl [(a0, .inr (6, [.int 0, .int 0, .ref a1, .int 49, .int 1, .int 3, .int 1, .int 1, .ref a2])), (a1, .inr (5, [.ref cb, .int 81, .int 0, .ref a3, .int 7, .ref a4, .int 3, .ref a5, .int 1, .int 1, .ref a6, .int 6, .int 0, .int 1, .int 0]))] H_2 := hP2
  replace hD : va_D A [(a0, .inr (6, [.int 0, .int 0, .ref a1, .int 49, .int 1, .int 3, .int 1, .int 1, .ref a2])), (a1, .inr (5, [.ref cb, .int 81, .int 0, .ref a3, .int 7, .ref a4, .int 3, .ref a5, .int 1, .int 1, .ref a6, .int 6, .int 0, .int 1, .int 0]))] := hD2
  replace hS := hS2
  clear hP2 hD2 hS2
  refine va_tb (v := .int 0) hx hb hSK.2 hS (by unfold vp_in; decide) rfl dX6_readByte_59 ?_
  refine lv_sipush (v := 255) hx hb dX6_readByte_60 (by decide) ?_
  refine lv_iand hx hb dX6_readByte_63 ?_
  refine lv_topi (fun z_3 ez_3 => ?_)
  obtain rfl : z_3 = 0 := ez_3.trans (by decide)
  clear ez_3
  exact W.iret hx hb hr (fun t ht hW => ⟨⟨0, (), rfl, rfl, by rw [ht]; exact hP, va_K.moved hW.alike hK, hD⟩, hS.F ht⟩) hS.2.2 dX6_readByte_64

set_option maxHeartbeats 4000000 in
set_option maxRecDepth 100000 in
theorem cc_387_X6_readOneType (l : Launch) (dC : Nat → ClassId) (dI : Nat → Nat → Nat) (cy : Nat → ClassId) (sz : Nat) (cb : Nat) (a0 : Nat) (a1 : Nat) (a2 : Nat) (a3 : Nat) (a4 : Nat) (a5 : Nat) (a6 : Nat)  : Met l yX6_readOneType wsX6_readOneType ({ frames := 1, cells := 0, slots := 0, locals := 20 }) (va_Pc [.ref a0, .int 1] (fun U => U.heap.size = sz ∧ va_P (dC, dI) vwCl [(a0, .inr (6, [.int 0, .int 0, .ref a1, .int 47, .int 1, .int 3, .int 1, .int 1, .ref a2])), (a1, .inr (5, [.ref cb, .int 81, .int 0, .ref a3, .int 7, .ref a4, .int 3, .ref a5, .int 1, .int 1, .ref a6, .int 6, .int 0, .int 1, .int 0]))] U.heap ∧ va_K (dC, dI) vwCl (TYS cy) U ∧ va_D (fun _ => True) [(a0, .inr (6, [.int 0, .int 0, .ref a1, .int 47, .int 1, .int 3, .int 1, .int 1, .ref a2])), (a1, .inr (5, [.ref cb, .int 81, .int 0, .ref a3, .int 7, .ref a4, .int 3, .ref a5, .int 1, .int 1, .ref a6, .int 6, .int 0, .int 1, .int 0]))] ∧ NK U ∧ SK cb (va_A [(a0, .inr (6, [.int 0, .int 0, .ref a1, .int 47, .int 1, .int 3, .int 1, .int 1, .ref a2])), (a1, .inr (5, [.ref cb, .int 81, .int 0, .ref a3, .int 7, .ref a4, .int 3, .ref a5, .int 1, .int 1, .ref a6, .int 6, .int 0, .int 1, .int 0]))] sz) U U.heap)) (va_Ql (fun (r : Int64) (u : Unit) => r = 1536) (fun u t => va_P (dC, dI) vwCl [(a0, .inr (6, [.int 0, .int 0, .ref a1, .int 49, .int 1, .int 3, .int 1, .int 1, .ref a2])), (a1, .inr (5, [.ref cb, .int 81, .int 0, .ref a3, .int 7, .ref a4, .int 3, .ref a5, .int 1, .int 1, .ref a6, .int 6, .int 0, .int 1, .int 0]))] t.heap ∧ va_K (dC, dI) vwCl (TYS cy) t ∧ va_D (va_A [(a0, .inr (6, [.int 0, .int 0, .ref a1, .int 47, .int 1, .int 3, .int 1, .int 1, .ref a2])), (a1, .inr (5, [.ref cb, .int 81, .int 0, .ref a3, .int 7, .ref a4, .int 3, .ref a5, .int 1, .int 1, .ref a6, .int 6, .int 0, .int 1, .int 0]))] sz) [(a0, .inr (6, [.int 0, .int 0, .ref a1, .int 49, .int 1, .int 3, .int 1, .int 1, .ref a2])), (a1, .inr (5, [.ref cb, .int 81, .int 0, .ref a3, .int 7, .ref a4, .int 3, .ref a5, .int 1, .int 1, .ref a6, .int 6, .int 0, .int 1, .int 0]))]) (va_A [(a0, .inr (6, [.int 0, .int 0, .ref a1, .int 47, .int 1, .int 3, .int 1, .int 1, .ref a2])), (a1, .inr (5, [.ref cb, .int 81, .int 0, .ref a3, .int 7, .ref a4, .int 3, .ref a5, .int 1, .int 1, .ref a6, .int 6, .int 0, .int 1, .int 0]))] sz)) 0 0 (va_A [(a0, .inr (6, [.int 0, .int 0, .ref a1, .int 47, .int 1, .int 3, .int 1, .int 1, .ref a2])), (a1, .inr (5, [.ref cb, .int 81, .int 0, .ref a3, .int 7, .ref a4, .int 3, .ref a5, .int 1, .int 1, .ref a6, .int 6, .int 0, .int 1, .int 0]))] sz) := by
  refine Met.ofW (cc := cX6_readOneType) (maxL := 7) (ret := (some .long)) (by decide) rfl ?_
  intro p e s m args below meth c s₁ B hml hv
  obtain ⟨rfl, hsz, hP, hK, hD0, hN, hSK⟩ := hv
  have hx := B.exec
  have hb := B.bytes
  have hr := B.returns
  have hts := atoms_spec (ws := wsX6_readOneType) B.pre
  have hown : s.vm.findClass RX6 = some m.cls := findClass_of_methodNamed B.named
  have hlocks := B.notSynchronized
  subst hsz
  have hD := hD0.self (sz := s.heap.size)
  generalize hAe : va_A [(a0, .inr (6, [.int 0, .int 0, .ref a1, .int 47, .int 1, .int 3, .int 1, .int 1, .ref a2])), (a1, .inr (5, [.ref cb, .int 81, .int 0, .ref a3, .int 7, .ref a4, .int 3, .ref a5, .int 1, .int 1, .ref a6, .int 6, .int 0, .int 1, .int 0]))] s.heap.size = A at hD hSK ⊢
  have hA : ∀ q : Nat, s.heap.size ≤ q → A q := fun q h => by rw [← hAe]; exact Or.inr h
  have hS : va_S A s.heap s.heap [] := va_S.rf
  have hP : va_P (dC, dI) vwCl [(a0, .inr (6, [.int 0, .int 0, .ref a1, .int 47, .int 1, .int 3, .int 1, .int 1, .ref a2])), (a1, .inr (5, [.ref cb, .int 81, .int 0, .ref a3, .int 7, .ref a4, .int 3, .ref a5, .int 1, .int 1, .ref a6, .int 6, .int 0, .int 1, .int 0]))] s.heap := hP
  have hl := lv_entry ([.ref a0, .int 1]) (n := 7) (Nat.le_of_ble_eq_true rfl)
  rw [lg_entry_eq]
  generalize (lg_sl ([.ref a0, .int 1]) ++ List.replicate (7 - (lg_sl ([.ref a0, .int 1])).length) Slot.unset).toArray = ls at hl ⊢
  replace hl : lv_has ls 7 [(0, .ref a0), (1, .int 1)] := hl
  refine lv_lconst (v := 0) hx hb dX6_readOneType_0 (by decide) ?_
  refine lv_lstore_n (lv' := [(2, .long 0), (0, .ref a0), (1, .int 1)]) hx hb dX6_readOneType_1 rfl hl (by decide) rfl (fun ls hl2 => ?_)
  replace hl := hl2
  clear hl2
  refine lv_aload_n hx hb dX6_readOneType_2 rfl (lv_at hl 1 rfl) ?_
  refine va_get (D := (dC, dI)) (ci := 6) (v := .int 47) (C := RX6) (T := TX6) (N := 9) hx hb hts iw_X6_readOneType_X6 hown hK hP 0 rfl rfl 3 (by decide) (hts _ m_X6_readOneType_1) (fun _ h9 => h9) rfl dX6_readOneType_3 ?_
  refine lv_istore (lv' := [(4, .int 47), (2, .long 0), (0, .ref a0), (1, .int 1)]) hx hb dX6_readOneType_6 hl (by decide) rfl (fun ls hl2 => ?_)
  replace hl := hl2
  clear hl2
  refine lv_aload_n hx hb dX6_readOneType_8 rfl (lv_at hl 2 rfl) ?_
  have hPc := hP.sub (ws' := [(a0, .inr (6, [.int 0, .int 0, .ref a1, .int 47, .int 1, .int 3, .int 1, .int 1, .ref a2])), (a1, .inr (5, [.ref cb, .int 81, .int 0, .ref a3, .int 7, .ref a4, .int 3, .ref a5, .int 1, .int 1, .ref a6, .int 6, .int 0, .int 1, .int 0]))]) [0, 1] rfl
  have hDc := hD.sub (ws' := [(a0, .inr (6, [.int 0, .int 0, .ref a1, .int 47, .int 1, .int 3, .int 1, .int 1, .ref a2])), (a1, .inr (5, [.ref cb, .int 81, .int 0, .ref a3, .int 7, .ref a4, .int 3, .ref a5, .int 1, .int 1, .ref a6, .int 6, .int 0, .int 1, .int 0]))]) [0, 1] (by decide) rfl
  have hFc := va_free (wc := [(a0, .inr (6, [.int 0, .int 0, .ref a1, .int 47, .int 1, .int 3, .int 1, .int 1, .ref a2])), (a1, .inr (5, [.ref cb, .int 81, .int 0, .ref a3, .int 7, .ref a4, .int 3, .ref a5, .int 1, .int 1, .ref a6, .int 6, .int 0, .int 1, .int 0]))]) hD hS hA [0, 1] rfl
  refine va_calli (va_runV (As := []) (rest := []) ⟨hx, hb, hml, hown, hts⟩ (cc_388_X6_readByte l dC dI cy s.heap.size cb a0 a1 a2 a3 a4 a5 a6) (cwV 0 hts gX6_readOneType_X6_readByte rfl rfl rfl (by decide +kernel) ⟨Nat.le_of_ble_eq_true rfl, Nat.le_of_ble_eq_true rfl⟩) ⟨fun a U g mk q => by obtain ⟨q0, q1, qP, qK, qD, qN, qS⟩ := q; exact ⟨q0, q1, qP, va_K.moved (u := U) (U := U.calling g mk a) (Vm.Alike.refl U.vm) qK, qD, qN.same rfl, SK.moved (u := U) (U := U.calling g mk a) (Vm.Alike.refl U.vm) qS⟩, va_recv hK hPc (ci := 6) (q0 := 0) rfl rfl, fun U hU hW => ⟨rfl, by rw [hU], by rw [hU]; exact hPc, va_K.moved hW.alike hK, hDc.weaken (fun _ _ _ _ => trivial), hN.warm hW, by rw [hU]; exact ((hSK.kept hS.2.1).narrow hFc).moved hW.alike⟩⟩ rfl rfl hl.1 rfl (lv_room (Nat.le_of_ble_eq_true rfl)) dX6_readOneType_9 ⟨Nat.le_of_ble_eq_true rfl, Nat.le_of_ble_eq_true rfl⟩) hS (fun q _ h => hFc q h) hFc (fun r_1 u t H_2 locs ht hvm hw hB hz1 hk1 hS2 => ?_)
  obtain ⟨hP1, hK1, hD1⟩ := hB
  rw [ht] at hP1
  obtain rfl := hw
  obtain ⟨hP2, hD2⟩ := va_join (wr := []) (w1 := [(a0, .inr (6, [.int 0, .int 0, .ref a1, .int 48, .int 1, .int 3, .int 1, .int 1, .ref a2])), (a1, .inr (5, [.ref cb, .int 81, .int 0, .ref a3, .int 7, .ref a4, .int 3, .ref a5, .int 1, .int 1, .ref a6, .int 6, .int 0, .int 1, .int 0]))]) hP hD [0, 1] [] rfl rfl (by decide) (by decide) hk1 hFc hP1 hD1
  replace hP : va_P (dC, dI) vwCl [(a0, .inr (6, [.int 0, .int 0, .ref a1, .int 48, .int 1, .int 3, .int 1, .int 1, .ref a2])), (a1, .inr (5, [.ref cb, .int 81, .int 0, .ref a3, .int 7, .ref a4, .int 3, .ref a5, .int 1, .int 1, .ref a6, .int 6, .int 0, .int 1, .int 0]))] H_2 := hP2
  replace hD : va_D A [(a0, .inr (6, [.int 0, .int 0, .ref a1, .int 48, .int 1, .int 3, .int 1, .int 1, .ref a2])), (a1, .inr (5, [.ref cb, .int 81, .int 0, .ref a3, .int 7, .ref a4, .int 3, .ref a5, .int 1, .int 1, .ref a6, .int 6, .int 0, .int 1, .int 0]))] := hD2
  replace hS := hS2
  clear hP2 hD2 hS2
  clear hPc hDc hFc hP1 hD1 hK1 hk1 hz1 hvm ht
  refine W.widen (k := 0) (n := 0) (Nat.le_of_ble_eq_true rfl) (Nat.le_of_ble_eq_true rfl) ?_
  refine lv_istore (lv' := [(5, .int 6), (4, .int 47), (2, .long 0), (0, .ref a0), (1, .int 1)]) hx hb dX6_readOneType_12 hl (by decide) rfl (fun ls hl2 => ?_)
  replace hl := hl2
  clear hl2
  refine lv_iload_n hx hb dX6_readOneType_14 rfl (lv_at hl 4 rfl) ?_
  refine lv_if_eq (tgt := 48) hx hb dX6_readOneType_15 (by decide) (fun h => absurd h (by decide)) (fun _ => ?_)
  refine lv_iload hx hb dX6_readOneType_18 (lv_at hl 0 rfl) ?_
  refine lv_bipush (v := 8) hx hb dX6_readOneType_20 (by decide) ?_
  refine lv_icmp_eq (tgt := 32) hx hb dX6_readOneType_22 (by decide) (fun h => absurd h (by decide)) (fun _ => ?_)
  refine lv_iload hx hb dX6_readOneType_25 (lv_at hl 0 rfl) ?_
  refine lv_bipush (v := 9) hx hb dX6_readOneType_27 (by decide) ?_
  refine lv_icmp_ne (tgt := 48) hx hb dX6_readOneType_29 (by decide) (fun _ => ?_) (fun h => absurd h (by decide))
  refine lv_iconst (v := 0) hx hb dX6_readOneType_48 (by decide) ?_
  refine lv_istore (lv' := [(6, .int 0), (5, .int 6), (4, .int 47), (2, .long 0), (0, .ref a0), (1, .int 1)]) hx hb dX6_readOneType_49 hl (by decide) rfl (fun ls hl2 => ?_)
  replace hl := hl2
  clear hl2
  refine lv_iload hx hb dX6_readOneType_51 (lv_at hl 0 rfl) ?_
  refine lv_iconst (v := 4) hx hb dX6_readOneType_53 (by decide) ?_
  refine lv_icmp_ge (tgt := 91) hx hb dX6_readOneType_54 (by decide) (fun h => absurd h (by decide)) (fun _ => ?_)
  refine lv_iload hx hb dX6_readOneType_57 (lv_at hl 1 rfl) ?_
  refine lv_bipush (v := 7) hx hb dX6_readOneType_59 (by decide) ?_
  refine lv_icmp_ne (tgt := 91) hx hb dX6_readOneType_61 (by decide) (fun _ => ?_) (fun h => absurd h (by decide))
  refine lv_iload hx hb dX6_readOneType_91 (lv_at hl 1 rfl) ?_
  refine lv_iconst (v := 1) hx hb dX6_readOneType_93 (by decide) ?_
  refine lv_icmp_lt (tgt := 104) hx hb dX6_readOneType_94 (by decide) (fun h => absurd h (by decide)) (fun _ => ?_)
  refine lv_iload hx hb dX6_readOneType_97 (lv_at hl 1 rfl) ?_
  refine lv_bipush (v := 6) hx hb dX6_readOneType_99 (by decide) ?_
  refine lv_icmp_le (tgt := 111) hx hb dX6_readOneType_101 (by decide) (fun _ => ?_) (fun h => absurd (by decide) h)
  refine lv_lload_n hx hb dX6_readOneType_111 rfl (lv_at hl 3 rfl) ?_
  refine lv_bipush (v := 8) hx hb dX6_readOneType_112 (by decide) ?_
  refine lv_lshl (v := 0) hx hb dX6_readOneType_114 (by decide) ?_
  refine lv_iload hx hb dX6_readOneType_115 (lv_at hl 1 rfl) ?_
  refine lv_i2l (v := 6) hx hb dX6_readOneType_117 (by decide) ?_
  refine lv_lor hx hb dX6_readOneType_118 ?_
  refine lv_topl (fun z_3 ez_3 => ?_)
  obtain rfl : z_3 = 6 := ez_3.trans (by decide)
  clear ez_3
  refine lv_lstore_n (lv' := [(2, .long 6), (6, .int 0), (5, .int 6), (4, .int 47), (0, .ref a0), (1, .int 1)]) hx hb dX6_readOneType_119 rfl hl (by decide) rfl (fun ls hl2 => ?_)
  replace hl := hl2
  clear hl2
  refine lv_iload hx hb dX6_readOneType_120 (lv_at hl 2 rfl) ?_
  refine lv_bipush (v := 6) hx hb dX6_readOneType_122 (by decide) ?_
  refine lv_icmp_eq (tgt := 129) hx hb dX6_readOneType_124 (by decide) (fun _ => ?_) (fun h => absurd (by decide) h)
  refine lv_aload_n hx hb dX6_readOneType_129 rfl (lv_at hl 4 rfl) ?_
  refine va_get (D := (dC, dI)) (ci := 6) (v := .int 48) (C := RX6) (T := TX6) (N := 9) hx hb hts iw_X6_readOneType_X6 hown hK hP 0 rfl rfl 3 (by decide) (hts _ m_X6_readOneType_1) (fun _ h9 => h9) rfl dX6_readOneType_130 ?_
  refine lv_istore (lv' := [(4, .int 48), (2, .long 6), (6, .int 0), (5, .int 6), (0, .ref a0), (1, .int 1)]) hx hb dX6_readOneType_133 hl (by decide) rfl (fun ls hl2 => ?_)
  replace hl := hl2
  clear hl2
  refine lv_aload_n hx hb dX6_readOneType_135 rfl (lv_at hl 4 rfl) ?_
  have hPc := hP.sub (ws' := [(a0, .inr (6, [.int 0, .int 0, .ref a1, .int 48, .int 1, .int 3, .int 1, .int 1, .ref a2])), (a1, .inr (5, [.ref cb, .int 81, .int 0, .ref a3, .int 7, .ref a4, .int 3, .ref a5, .int 1, .int 1, .ref a6, .int 6, .int 0, .int 1, .int 0]))]) [0, 1] rfl
  have hDc := hD.sub (ws' := [(a0, .inr (6, [.int 0, .int 0, .ref a1, .int 48, .int 1, .int 3, .int 1, .int 1, .ref a2])), (a1, .inr (5, [.ref cb, .int 81, .int 0, .ref a3, .int 7, .ref a4, .int 3, .ref a5, .int 1, .int 1, .ref a6, .int 6, .int 0, .int 1, .int 0]))]) [0, 1] (by decide) rfl
  have hFc := va_free (wc := [(a0, .inr (6, [.int 0, .int 0, .ref a1, .int 48, .int 1, .int 3, .int 1, .int 1, .ref a2])), (a1, .inr (5, [.ref cb, .int 81, .int 0, .ref a3, .int 7, .ref a4, .int 3, .ref a5, .int 1, .int 1, .ref a6, .int 6, .int 0, .int 1, .int 0]))]) hD hS hA [0, 1] rfl
  refine va_calli (va_runV (As := []) (rest := []) ⟨hx, hb, hml, hown, hts⟩ (cc_389_X6_readByte l dC dI cy H_2.size cb a0 a1 a2 a3 a4 a5 a6) (cwV 0 hts gX6_readOneType_X6_readByte rfl rfl rfl (by decide +kernel) ⟨Nat.le_of_ble_eq_true rfl, Nat.le_of_ble_eq_true rfl⟩) ⟨fun a U g mk q => by obtain ⟨q0, q1, qP, qK, qD, qN, qS⟩ := q; exact ⟨q0, q1, qP, va_K.moved (u := U) (U := U.calling g mk a) (Vm.Alike.refl U.vm) qK, qD, qN.same rfl, SK.moved (u := U) (U := U.calling g mk a) (Vm.Alike.refl U.vm) qS⟩, va_recv hK hPc (ci := 6) (q0 := 0) rfl rfl, fun U hU hW => ⟨rfl, by rw [hU], by rw [hU]; exact hPc, va_K.moved hW.alike hK, hDc.weaken (fun _ _ _ _ => trivial), hN.warm hW, by rw [hU]; exact ((hSK.kept hS.2.1).narrow hFc).moved hW.alike⟩⟩ rfl rfl hl.1 rfl (lv_room (Nat.le_of_ble_eq_true rfl)) dX6_readOneType_136 ⟨Nat.le_of_ble_eq_true rfl, Nat.le_of_ble_eq_true rfl⟩) hS (fun q _ h => hFc q h) hFc (fun r_4 u t H_5 locs ht hvm hw hB hz1 hk1 hS2 => ?_)
  obtain ⟨hP1, hK1, hD1⟩ := hB
  rw [ht] at hP1
  obtain rfl := hw
  obtain ⟨hP2, hD2⟩ := va_join (wr := []) (w1 := [(a0, .inr (6, [.int 0, .int 0, .ref a1, .int 49, .int 1, .int 3, .int 1, .int 1, .ref a2])), (a1, .inr (5, [.ref cb, .int 81, .int 0, .ref a3, .int 7, .ref a4, .int 3, .ref a5, .int 1, .int 1, .ref a6, .int 6, .int 0, .int 1, .int 0]))]) hP hD [0, 1] [] rfl rfl (by decide) (by decide) hk1 hFc hP1 hD1
  replace hP : va_P (dC, dI) vwCl [(a0, .inr (6, [.int 0, .int 0, .ref a1, .int 49, .int 1, .int 3, .int 1, .int 1, .ref a2])), (a1, .inr (5, [.ref cb, .int 81, .int 0, .ref a3, .int 7, .ref a4, .int 3, .ref a5, .int 1, .int 1, .ref a6, .int 6, .int 0, .int 1, .int 0]))] H_5 := hP2
  replace hD : va_D A [(a0, .inr (6, [.int 0, .int 0, .ref a1, .int 49, .int 1, .int 3, .int 1, .int 1, .ref a2])), (a1, .inr (5, [.ref cb, .int 81, .int 0, .ref a3, .int 7, .ref a4, .int 3, .ref a5, .int 1, .int 1, .ref a6, .int 6, .int 0, .int 1, .int 0]))] := hD2
  replace hS := hS2
  clear hP2 hD2 hS2
  clear hPc hDc hFc hP1 hD1 hK1 hk1 hz1 hvm ht
  refine W.widen (k := 0) (n := 0) (Nat.le_of_ble_eq_true rfl) (Nat.le_of_ble_eq_true rfl) ?_
  refine lv_istore (lv' := [(6, .int 0), (4, .int 48), (2, .long 6), (5, .int 6), (0, .ref a0), (1, .int 1)]) hx hb dX6_readOneType_139 hl (by decide) rfl (fun ls hl2 => ?_)
  replace hl := hl2
  clear hl2
  refine lv_aload_n hx hb dX6_readOneType_141 rfl (lv_at hl 4 rfl) ?_
  refine va_get (D := (dC, dI)) (ci := 6) (v := .int 1) (C := RX6) (T := TX6) (N := 9) hx hb hts iw_X6_readOneType_X6 hown hK hP 0 rfl rfl 4 (by decide) (hts _ m_X6_readOneType_2) (fun _ h9 => h9) rfl dX6_readOneType_142 ?_
  refine lv_if_eq (tgt := 168) hx hb dX6_readOneType_145 (by decide) (fun h => absurd h (by decide)) (fun _ => ?_)
  refine lv_iload hx hb dX6_readOneType_148 (lv_at hl 0 rfl) ?_
  refine lv_aload_n hx hb dX6_readOneType_150 rfl (lv_at hl 4 rfl) ?_
  refine va_get (D := (dC, dI)) (ci := 6) (v := .ref a1) (C := RX6) (T := TX6) (N := 9) hx hb hts iw_X6_readOneType_X6 hown hK hP 0 rfl rfl 2 (by decide) (hts _ m_X6_readOneType_3) (fun _ h9 => h9) rfl dX6_readOneType_151 ?_
  refine va_get (D := (dC, dI)) (ci := 5) (v := .int 1) (C := RX5) (T := TX5) (N := 15) hx hb hts iw_X6_readOneType_X5 hown hK hP 1 rfl rfl 9 (by decide) (hts _ m_X6_readOneType_4) (fun _ h9 => h9) rfl dX6_readOneType_154 ?_
  refine lv_icmp_lt (tgt := 168) hx hb dX6_readOneType_157 (by decide) (fun _ => ?_) (fun h => absurd (by decide) h)
  refine lv_lload_n hx hb dX6_readOneType_168 rfl (lv_at hl 2 rfl) ?_
  refine lv_bipush (v := 8) hx hb dX6_readOneType_169 (by decide) ?_
  refine lv_lshl (v := 1536) hx hb dX6_readOneType_171 (by decide) ?_
  refine lv_iload hx hb dX6_readOneType_172 (lv_at hl 0 rfl) ?_
  refine lv_i2l (v := 0) hx hb dX6_readOneType_174 (by decide) ?_
  refine lv_lor hx hb dX6_readOneType_175 ?_
  refine lv_topl (fun z_6 ez_6 => ?_)
  obtain rfl : z_6 = 1536 := ez_6.trans (by decide)
  clear ez_6
  exact W.lret hx hb hr (fun t ht hW => ⟨⟨1536, (), rfl, rfl, by rw [ht]; exact hP, va_K.moved hW.alike hK, hD⟩, hS.F ht⟩) hS.2.2 dX6_readOneType_176

set_option maxHeartbeats 4000000 in
set_option maxRecDepth 100000 in
theorem cc_391_X6_readByte (l : Launch) (dC : Nat → ClassId) (dI : Nat → Nat → Nat) (cy : Nat → ClassId) (sz : Nat) (cb : Nat) (a0 : Nat) (a1 : Nat) (a2 : Nat) (a3 : Nat) (a4 : Nat) (a5 : Nat) (a6 : Nat)  : Met l yX6_readByte wsX6_readByte ({ frames := 0, cells := 0, slots := 0, locals := 0 }) (va_Pc [.ref a0] (fun U => U.heap.size = sz ∧ va_P (dC, dI) vwCl [(a0, .inr (6, [.int 0, .int 0, .ref a1, .int 49, .int 1, .int 3, .int 1, .int 1, .ref a2])), (a1, .inr (5, [.ref cb, .int 81, .int 0, .ref a3, .int 8, .ref a4, .int 3, .ref a5, .int 1, .int 1, .ref a6, .int 6, .int 0, .int 1, .int 0]))] U.heap ∧ va_K (dC, dI) vwCl (TYS cy) U ∧ va_D (fun _ => True) [(a0, .inr (6, [.int 0, .int 0, .ref a1, .int 49, .int 1, .int 3, .int 1, .int 1, .ref a2])), (a1, .inr (5, [.ref cb, .int 81, .int 0, .ref a3, .int 8, .ref a4, .int 3, .ref a5, .int 1, .int 1, .ref a6, .int 6, .int 0, .int 1, .int 0]))] ∧ NK U ∧ SK cb (va_A [(a0, .inr (6, [.int 0, .int 0, .ref a1, .int 49, .int 1, .int 3, .int 1, .int 1, .ref a2])), (a1, .inr (5, [.ref cb, .int 81, .int 0, .ref a3, .int 8, .ref a4, .int 3, .ref a5, .int 1, .int 1, .ref a6, .int 6, .int 0, .int 1, .int 0]))] sz) U U.heap)) (va_Qi (fun (r : Int32) (u : Unit) => r = 6) (fun u t => va_P (dC, dI) vwCl [(a0, .inr (6, [.int 0, .int 0, .ref a1, .int 50, .int 1, .int 3, .int 1, .int 1, .ref a2])), (a1, .inr (5, [.ref cb, .int 81, .int 0, .ref a3, .int 8, .ref a4, .int 3, .ref a5, .int 1, .int 1, .ref a6, .int 6, .int 0, .int 1, .int 0]))] t.heap ∧ va_K (dC, dI) vwCl (TYS cy) t ∧ va_D (va_A [(a0, .inr (6, [.int 0, .int 0, .ref a1, .int 49, .int 1, .int 3, .int 1, .int 1, .ref a2])), (a1, .inr (5, [.ref cb, .int 81, .int 0, .ref a3, .int 8, .ref a4, .int 3, .ref a5, .int 1, .int 1, .ref a6, .int 6, .int 0, .int 1, .int 0]))] sz) [(a0, .inr (6, [.int 0, .int 0, .ref a1, .int 50, .int 1, .int 3, .int 1, .int 1, .ref a2])), (a1, .inr (5, [.ref cb, .int 81, .int 0, .ref a3, .int 8, .ref a4, .int 3, .ref a5, .int 1, .int 1, .ref a6, .int 6, .int 0, .int 1, .int 0]))]) (va_A [(a0, .inr (6, [.int 0, .int 0, .ref a1, .int 49, .int 1, .int 3, .int 1, .int 1, .ref a2])), (a1, .inr (5, [.ref cb, .int 81, .int 0, .ref a3, .int 8, .ref a4, .int 3, .ref a5, .int 1, .int 1, .ref a6, .int 6, .int 0, .int 1, .int 0]))] sz)) 0 0 (va_A [(a0, .inr (6, [.int 0, .int 0, .ref a1, .int 49, .int 1, .int 3, .int 1, .int 1, .ref a2])), (a1, .inr (5, [.ref cb, .int 81, .int 0, .ref a3, .int 8, .ref a4, .int 3, .ref a5, .int 1, .int 1, .ref a6, .int 6, .int 0, .int 1, .int 0]))] sz) := by
  refine Met.ofW (cc := cX6_readByte) (maxL := 1) (ret := (some .int)) (by decide) rfl ?_
  intro p e s m args below meth c s₁ B hml hv
  obtain ⟨rfl, hsz, hP, hK, hD0, hN, hSK⟩ := hv
  have hx := B.exec
  have hb := B.bytes
  have hr := B.returns
  have hts := atoms_spec (ws := wsX6_readByte) B.pre
  have hown : s.vm.findClass RX6 = some m.cls := findClass_of_methodNamed B.named
  have hlocks := B.notSynchronized
  subst hsz
  have hD := hD0.self (sz := s.heap.size)
  generalize hAe : va_A [(a0, .inr (6, [.int 0, .int 0, .ref a1, .int 49, .int 1, .int 3, .int 1, .int 1, .ref a2])), (a1, .inr (5, [.ref cb, .int 81, .int 0, .ref a3, .int 8, .ref a4, .int 3, .ref a5, .int 1, .int 1, .ref a6, .int 6, .int 0, .int 1, .int 0]))] s.heap.size = A at hD hSK ⊢
  have hA : ∀ q : Nat, s.heap.size ≤ q → A q := fun q h => by rw [← hAe]; exact Or.inr h
  have hS : va_S A s.heap s.heap [] := va_S.rf
  have hP : va_P (dC, dI) vwCl [(a0, .inr (6, [.int 0, .int 0, .ref a1, .int 49, .int 1, .int 3, .int 1, .int 1, .ref a2])), (a1, .inr (5, [.ref cb, .int 81, .int 0, .ref a3, .int 8, .ref a4, .int 3, .ref a5, .int 1, .int 1, .ref a6, .int 6, .int 0, .int 1, .int 0]))] s.heap := hP
  have hl := lv_entry ([.ref a0]) (n := 1) (Nat.le_of_ble_eq_true rfl)
  rw [lg_entry_eq]
  generalize (lg_sl ([.ref a0]) ++ List.replicate (1 - (lg_sl ([.ref a0])).length) Slot.unset).toArray = ls at hl ⊢
  replace hl : lv_has ls 1 [(0, .ref a0)] := hl
  refine lv_aload_n hx hb dX6_readByte_0 rfl (lv_at hl 0 rfl) ?_
  refine va_get (D := (dC, dI)) (ci := 6) (v := .int 0) (C := RX6) (T := TX6) (N := 9) hx hb hts iw_X6_readByte_X6 hown hK hP 0 rfl rfl 1 (by decide) (hts _ m_X6_readByte_1) (fun _ h9 => h9) rfl dX6_readByte_1 ?_
  refine lv_if_eq (tgt := 9) hx hb dX6_readByte_4 (by decide) (fun _ => ?_) (fun h => absurd (by decide) h)
  refine lv_aload_n hx hb dX6_readByte_9 rfl (lv_at hl 0 rfl) ?_
  refine va_get (D := (dC, dI)) (ci := 6) (v := .int 49) (C := RX6) (T := TX6) (N := 9) hx hb hts iw_X6_readByte_X6 hown hK hP 0 rfl rfl 3 (by decide) (hts _ m_X6_readByte_2) (fun _ h9 => h9) rfl dX6_readByte_10 ?_
  refine lv_aload_n hx hb dX6_readByte_13 rfl (lv_at hl 0 rfl) ?_
  refine va_get (D := (dC, dI)) (ci := 6) (v := .ref a1) (C := RX6) (T := TX6) (N := 9) hx hb hts iw_X6_readByte_X6 hown hK hP 0 rfl rfl 2 (by decide) (hts _ m_X6_readByte_3) (fun _ h9 => h9) rfl dX6_readByte_14 ?_
  refine va_get (D := (dC, dI)) (ci := 5) (v := .int 81) (C := RX5) (T := TX5) (N := 15) hx hb hts iw_X6_readByte_X5 hown hK hP 1 rfl rfl 1 (by decide) (hts _ m_X6_readByte_4) (fun _ h9 => h9) rfl dX6_readByte_17 ?_
  refine lv_icmp_lt (tgt := 41) hx hb dX6_readByte_20 (by decide) (fun _ => ?_) (fun h => absurd (by decide) h)
  refine lv_aload_n hx hb dX6_readByte_41 rfl (lv_at hl 0 rfl) ?_
  refine va_get (D := (dC, dI)) (ci := 6) (v := .ref a1) (C := RX6) (T := TX6) (N := 9) hx hb hts iw_X6_readByte_X6 hown hK hP 0 rfl rfl 2 (by decide) (hts _ m_X6_readByte_3) (fun _ h9 => h9) rfl dX6_readByte_42 ?_
  refine va_get (D := (dC, dI)) (ci := 5) (v := .ref cb) (C := RX5) (T := TX5) (N := 15) hx hb hts iw_X6_readByte_X5 hown hK hP 1 rfl rfl 0 (by decide) (hts _ m_X6_readByte_6) (fun _ h9 => h9) rfl dX6_readByte_45 ?_
  refine lv_aload_n hx hb dX6_readByte_48 rfl (lv_at hl 0 rfl) ?_
  refine lv_dup hx hb dX6_readByte_49 rfl ?_
  refine va_get (D := (dC, dI)) (ci := 6) (v := .int 49) (C := RX6) (T := TX6) (N := 9) hx hb hts iw_X6_readByte_X6 hown hK hP 0 rfl rfl 3 (by decide) (hts _ m_X6_readByte_2) (fun _ h9 => h9) rfl dX6_readByte_50 ?_
  refine lv_dup_x1 hx hb dX6_readByte_53 rfl rfl ?_
  refine lv_iconst (v := 1) hx hb dX6_readByte_54 (by decide) ?_
  refine lv_iadd hx hb dX6_readByte_55 ?_
  refine lv_topi (fun z_1 ez_1 => ?_)
  obtain rfl : z_1 = 50 := ez_1.trans (by decide)
  clear ez_1
  refine va_put (D := (dC, dI)) (ci := 6) (v := .int 50) (ty := .int) (C := RX6) (T := TX6) (N := 9) hx hb hts iw_X6_readByte_X6 tyX6 tyX6_ok nmX6 hown hK hP hD hS 0 rfl rfl 3 (by decide) (hts _ m_X6_readByte_2) (fun _ h9 => h9) rfl (by decide +kernel) rfl rfl (Nat.le_of_ble_eq_true rfl) dX6_readByte_56 (fun H_2 locs hP2 hD2 hS2 => ?_)
  replace hP : va_P (dC, dI) vwCl [(a0, .inr (6, [.int 0, .int 0, .ref a1, .int 50, .int 1, .int 3, .int 1, .int 1, .ref a2])), (a1, .inr (5, [.ref cb, .int 81, .int 0, .ref a3, .int 8, .ref a4, .int 3, .ref a5, .int 1, .int 1, .ref a6, .int 6, .int 0, .int 1, .int 0]))] H_2 := hP2
  replace hD : va_D A [(a0, .inr (6, [.int 0, .int 0, .ref a1, .int 50, .int 1, .int 3, .int 1, .int 1, .ref a2])), (a1, .inr (5, [.ref cb, .int 81, .int 0, .ref a3, .int 8, .ref a4, .int 3, .ref a5, .int 1, .int 1, .ref a6, .int 6, .int 0, .int 1, .int 0]))] := hD2
  replace hS := hS2
  clear hP2 hD2 hS2
  refine va_tb (v := .int 6) hx hb hSK.2 hS (by unfold vp_in; decide) rfl dX6_readByte_59 ?_
  refine lv_sipush (v := 255) hx hb dX6_readByte_60 (by decide) ?_
  refine lv_iand hx hb dX6_readByte_63 ?_
  refine lv_topi (fun z_3 ez_3 => ?_)
  obtain rfl : z_3 = 6 := ez_3.trans (by decide)
  clear ez_3
  exact W.iret hx hb hr (fun t ht hW => ⟨⟨6, (), rfl, rfl, by rw [ht]; exact hP, va_K.moved hW.alike hK, hD⟩, hS.F ht⟩) hS.2.2 dX6_readByte_64

set_option maxHeartbeats 4000000 in
set_option maxRecDepth 100000 in
theorem cc_392_X6_readByte (l : Launch) (dC : Nat → ClassId) (dI : Nat → Nat → Nat) (cy : Nat → ClassId) (sz : Nat) (cb : Nat) (a0 : Nat) (a1 : Nat) (a2 : Nat) (a3 : Nat) (a4 : Nat) (a5 : Nat) (a6 : Nat)  : Met l yX6_readByte wsX6_readByte ({ frames := 0, cells := 0, slots := 0, locals := 0 }) (va_Pc [.ref a0] (fun U => U.heap.size = sz ∧ va_P (dC, dI) vwCl [(a0, .inr (6, [.int 0, .int 0, .ref a1, .int 50, .int 1, .int 3, .int 1, .int 1, .ref a2])), (a1, .inr (5, [.ref cb, .int 81, .int 0, .ref a3, .int 8, .ref a4, .int 3, .ref a5, .int 1, .int 1, .ref a6, .int 6, .int 0, .int 1, .int 0]))] U.heap ∧ va_K (dC, dI) vwCl (TYS cy) U ∧ va_D (fun _ => True) [(a0, .inr (6, [.int 0, .int 0, .ref a1, .int 50, .int 1, .int 3, .int 1, .int 1, .ref a2])), (a1, .inr (5, [.ref cb, .int 81, .int 0, .ref a3, .int 8, .ref a4, .int 3, .ref a5, .int 1, .int 1, .ref a6, .int 6, .int 0, .int 1, .int 0]))] ∧ NK U ∧ SK cb (va_A [(a0, .inr (6, [.int 0, .int 0, .ref a1, .int 50, .int 1, .int 3, .int 1, .int 1, .ref a2])), (a1, .inr (5, [.ref cb, .int 81, .int 0, .ref a3, .int 8, .ref a4, .int 3, .ref a5, .int 1, .int 1, .ref a6, .int 6, .int 0, .int 1, .int 0]))] sz) U U.heap)) (va_Qi (fun (r : Int32) (u : Unit) => r = 0) (fun u t => va_P (dC, dI) vwCl [(a0, .inr (6, [.int 0, .int 0, .ref a1, .int 51, .int 1, .int 3, .int 1, .int 1, .ref a2])), (a1, .inr (5, [.ref cb, .int 81, .int 0, .ref a3, .int 8, .ref a4, .int 3, .ref a5, .int 1, .int 1, .ref a6, .int 6, .int 0, .int 1, .int 0]))] t.heap ∧ va_K (dC, dI) vwCl (TYS cy) t ∧ va_D (va_A [(a0, .inr (6, [.int 0, .int 0, .ref a1, .int 50, .int 1, .int 3, .int 1, .int 1, .ref a2])), (a1, .inr (5, [.ref cb, .int 81, .int 0, .ref a3, .int 8, .ref a4, .int 3, .ref a5, .int 1, .int 1, .ref a6, .int 6, .int 0, .int 1, .int 0]))] sz) [(a0, .inr (6, [.int 0, .int 0, .ref a1, .int 51, .int 1, .int 3, .int 1, .int 1, .ref a2])), (a1, .inr (5, [.ref cb, .int 81, .int 0, .ref a3, .int 8, .ref a4, .int 3, .ref a5, .int 1, .int 1, .ref a6, .int 6, .int 0, .int 1, .int 0]))]) (va_A [(a0, .inr (6, [.int 0, .int 0, .ref a1, .int 50, .int 1, .int 3, .int 1, .int 1, .ref a2])), (a1, .inr (5, [.ref cb, .int 81, .int 0, .ref a3, .int 8, .ref a4, .int 3, .ref a5, .int 1, .int 1, .ref a6, .int 6, .int 0, .int 1, .int 0]))] sz)) 0 0 (va_A [(a0, .inr (6, [.int 0, .int 0, .ref a1, .int 50, .int 1, .int 3, .int 1, .int 1, .ref a2])), (a1, .inr (5, [.ref cb, .int 81, .int 0, .ref a3, .int 8, .ref a4, .int 3, .ref a5, .int 1, .int 1, .ref a6, .int 6, .int 0, .int 1, .int 0]))] sz) := by
  refine Met.ofW (cc := cX6_readByte) (maxL := 1) (ret := (some .int)) (by decide) rfl ?_
  intro p e s m args below meth c s₁ B hml hv
  obtain ⟨rfl, hsz, hP, hK, hD0, hN, hSK⟩ := hv
  have hx := B.exec
  have hb := B.bytes
  have hr := B.returns
  have hts := atoms_spec (ws := wsX6_readByte) B.pre
  have hown : s.vm.findClass RX6 = some m.cls := findClass_of_methodNamed B.named
  have hlocks := B.notSynchronized
  subst hsz
  have hD := hD0.self (sz := s.heap.size)
  generalize hAe : va_A [(a0, .inr (6, [.int 0, .int 0, .ref a1, .int 50, .int 1, .int 3, .int 1, .int 1, .ref a2])), (a1, .inr (5, [.ref cb, .int 81, .int 0, .ref a3, .int 8, .ref a4, .int 3, .ref a5, .int 1, .int 1, .ref a6, .int 6, .int 0, .int 1, .int 0]))] s.heap.size = A at hD hSK ⊢
  have hA : ∀ q : Nat, s.heap.size ≤ q → A q := fun q h => by rw [← hAe]; exact Or.inr h
  have hS : va_S A s.heap s.heap [] := va_S.rf
  have hP : va_P (dC, dI) vwCl [(a0, .inr (6, [.int 0, .int 0, .ref a1, .int 50, .int 1, .int 3, .int 1, .int 1, .ref a2])), (a1, .inr (5, [.ref cb, .int 81, .int 0, .ref a3, .int 8, .ref a4, .int 3, .ref a5, .int 1, .int 1, .ref a6, .int 6, .int 0, .int 1, .int 0]))] s.heap := hP
  have hl := lv_entry ([.ref a0]) (n := 1) (Nat.le_of_ble_eq_true rfl)
  rw [lg_entry_eq]
  generalize (lg_sl ([.ref a0]) ++ List.replicate (1 - (lg_sl ([.ref a0])).length) Slot.unset).toArray = ls at hl ⊢
  replace hl : lv_has ls 1 [(0, .ref a0)] := hl
  refine lv_aload_n hx hb dX6_readByte_0 rfl (lv_at hl 0 rfl) ?_
  refine va_get (D := (dC, dI)) (ci := 6) (v := .int 0) (C := RX6) (T := TX6) (N := 9) hx hb hts iw_X6_readByte_X6 hown hK hP 0 rfl rfl 1 (by decide) (hts _ m_X6_readByte_1) (fun _ h9 => h9) rfl dX6_readByte_1 ?_
  refine lv_if_eq (tgt := 9) hx hb dX6_readByte_4 (by decide) (fun _ => ?_) (fun h => absurd (by decide) h)
  refine lv_aload_n hx hb dX6_readByte_9 rfl (lv_at hl 0 rfl) ?_
  refine va_get (D := (dC, dI)) (ci := 6) (v := .int 50) (C := RX6) (T := TX6) (N := 9) hx hb hts iw_X6_readByte_X6 hown hK hP 0 rfl rfl 3 (by decide) (hts _ m_X6_readByte_2) (fun _ h9 => h9) rfl dX6_readByte_10 ?_
  refine lv_aload_n hx hb dX6_readByte_13 rfl (lv_at hl 0 rfl) ?_
  refine va_get (D := (dC, dI)) (ci := 6) (v := .ref a1) (C := RX6) (T := TX6) (N := 9) hx hb hts iw_X6_readByte_X6 hown hK hP 0 rfl rfl 2 (by decide) (hts _ m_X6_readByte_3) (fun _ h9 => h9) rfl dX6_readByte_14 ?_
  refine va_get (D := (dC, dI)) (ci := 5) (v := .int 81) (C := RX5) (T := TX5) (N := 15) hx hb hts iw_X6_readByte_X5 hown hK hP 1 rfl rfl 1 (by decide) (hts _ m_X6_readByte_4) (fun _ h9 => h9) rfl dX6_readByte_17 ?_
  refine lv_icmp_lt (tgt := 41) hx hb dX6_readByte_20 (by decide) (fun _ => ?_) (fun h => absurd (by decide) h)
  refine lv_aload_n hx hb dX6_readByte_41 rfl (lv_at hl 0 rfl) ?_
  refine va_get (D := (dC, dI)) (ci := 6) (v := .ref a1) (C := RX6) (T := TX6) (N := 9) hx hb hts iw_X6_readByte_X6 hown hK hP 0 rfl rfl 2 (by decide) (hts _ m_X6_readByte_3) (fun _ h9 => h9) rfl dX6_readByte_42 ?_
  refine va_get (D := (dC, dI)) (ci := 5) (v := .ref cb) (C := RX5) (T := TX5) (N := 15) hx hb hts iw_X6_readByte_X5 hown hK hP 1 rfl rfl 0 (by decide) (hts _ m_X6_readByte_6) (fun _ h9 => h9) rfl dX6_readByte_45 ?_
  refine lv_aload_n hx hb dX6_readByte_48 rfl (lv_at hl 0 rfl) ?_
  refine lv_dup hx hb dX6_readByte_49 rfl ?_
  refine va_get (D := (dC, dI)) (ci := 6) (v := .int 50) (C := RX6) (T := TX6) (N := 9) hx hb hts iw_X6_readByte_X6 hown hK hP 0 rfl rfl 3 (by decide) (hts _ m_X6_readByte_2) (fun _ h9 => h9) rfl dX6_readByte_50 ?_
  refine lv_dup_x1 hx hb dX6_readByte_53 rfl rfl ?_
  refine lv_iconst (v := 1) hx hb dX6_readByte_54 (by decide) ?_
  refine lv_iadd hx hb dX6_readByte_55 ?_
  refine lv_topi (fun z_1 ez_1 => ?_)
  obtain rfl : z_1 = 51 := ez_1.trans (by decide)
  clear ez_1
  refine va_put (D := (dC, dI)) (ci := 6) (v := .int 51) (ty := .int) (C := RX6) (T := TX6) (N := 9) hx hb hts iw_X6_readByte_X6 tyX6 tyX6_ok nmX6 hown hK hP hD hS 0 rfl rfl 3 (by decide) (hts _ m_X6_readByte_2) (fun _ h9 => h9) rfl (by decide +kernel) rfl rfl (Nat.le_of_ble_eq_true rfl) dX6_readByte_56 (fun H_2 locs hP2 hD2 hS2 => ?_)
  replace hP : va_P (dC, dI) vwCl [(a0, .inr (6, [.int 0, .int 0, .ref a1, .int 51, .int 1, .int 3, .int 1, .int 1, .ref a2])), (a1, .inr (5, [.ref cb, .int 81, .int 0, .ref a3, .int 8, .ref a4, .int 3, .ref a5, .int 1, .int 1, .ref a6, .int 6, .int 0, .int 1, .int 0]))] H_2 := hP2
  replace hD : va_D A [(a0, .inr (6, [.int 0, .int 0, .ref a1, .int 51, .int 1, .int 3, .int 1, .int 1, .ref a2])), (a1, .inr (5, [.ref cb, .int 81, .int 0, .ref a3, .int 8, .ref a4, .int 3, .ref a5, .int 1, .int 1, .ref a6, .int 6, .int 0, .int 1, .int 0]))] := hD2
  replace hS := hS2
  clear hP2 hD2 hS2
  refine va_tb (v := .int 0) hx hb hSK.2 hS (by unfold vp_in; decide) rfl dX6_readByte_59 ?_
  refine lv_sipush (v := 255) hx hb dX6_readByte_60 (by decide) ?_
  refine lv_iand hx hb dX6_readByte_63 ?_
  refine lv_topi (fun z_3 ez_3 => ?_)
  obtain rfl : z_3 = 0 := ez_3.trans (by decide)
  clear ez_3
  exact W.iret hx hb hr (fun t ht hW => ⟨⟨0, (), rfl, rfl, by rw [ht]; exact hP, va_K.moved hW.alike hK, hD⟩, hS.F ht⟩) hS.2.2 dX6_readByte_64

set_option maxHeartbeats 4000000 in
set_option maxRecDepth 100000 in
theorem cc_390_X6_readOneType (l : Launch) (dC : Nat → ClassId) (dI : Nat → Nat → Nat) (cy : Nat → ClassId) (sz : Nat) (cb : Nat) (a0 : Nat) (a1 : Nat) (a2 : Nat) (a3 : Nat) (a4 : Nat) (a5 : Nat) (a6 : Nat)  : Met l yX6_readOneType wsX6_readOneType ({ frames := 1, cells := 0, slots := 0, locals := 20 }) (va_Pc [.ref a0, .int 1] (fun U => U.heap.size = sz ∧ va_P (dC, dI) vwCl [(a0, .inr (6, [.int 0, .int 0, .ref a1, .int 49, .int 1, .int 3, .int 1, .int 1, .ref a2])), (a1, .inr (5, [.ref cb, .int 81, .int 0, .ref a3, .int 8, .ref a4, .int 3, .ref a5, .int 1, .int 1, .ref a6, .int 6, .int 0, .int 1, .int 0]))] U.heap ∧ va_K (dC, dI) vwCl (TYS cy) U ∧ va_D (fun _ => True) [(a0, .inr (6, [.int 0, .int 0, .ref a1, .int 49, .int 1, .int 3, .int 1, .int 1, .ref a2])), (a1, .inr (5, [.ref cb, .int 81, .int 0, .ref a3, .int 8, .ref a4, .int 3, .ref a5, .int 1, .int 1, .ref a6, .int 6, .int 0, .int 1, .int 0]))] ∧ NK U ∧ SK cb (va_A [(a0, .inr (6, [.int 0, .int 0, .ref a1, .int 49, .int 1, .int 3, .int 1, .int 1, .ref a2])), (a1, .inr (5, [.ref cb, .int 81, .int 0, .ref a3, .int 8, .ref a4, .int 3, .ref a5, .int 1, .int 1, .ref a6, .int 6, .int 0, .int 1, .int 0]))] sz) U U.heap)) (va_Ql (fun (r : Int64) (u : Unit) => r = 1536) (fun u t => va_P (dC, dI) vwCl [(a0, .inr (6, [.int 0, .int 0, .ref a1, .int 51, .int 1, .int 3, .int 1, .int 1, .ref a2])), (a1, .inr (5, [.ref cb, .int 81, .int 0, .ref a3, .int 8, .ref a4, .int 3, .ref a5, .int 1, .int 1, .ref a6, .int 6, .int 0, .int 1, .int 0]))] t.heap ∧ va_K (dC, dI) vwCl (TYS cy) t ∧ va_D (va_A [(a0, .inr (6, [.int 0, .int 0, .ref a1, .int 49, .int 1, .int 3, .int 1, .int 1, .ref a2])), (a1, .inr (5, [.ref cb, .int 81, .int 0, .ref a3, .int 8, .ref a4, .int 3, .ref a5, .int 1, .int 1, .ref a6, .int 6, .int 0, .int 1, .int 0]))] sz) [(a0, .inr (6, [.int 0, .int 0, .ref a1, .int 51, .int 1, .int 3, .int 1, .int 1, .ref a2])), (a1, .inr (5, [.ref cb, .int 81, .int 0, .ref a3, .int 8, .ref a4, .int 3, .ref a5, .int 1, .int 1, .ref a6, .int 6, .int 0, .int 1, .int 0]))]) (va_A [(a0, .inr (6, [.int 0, .int 0, .ref a1, .int 49, .int 1, .int 3, .int 1, .int 1, .ref a2])), (a1, .inr (5, [.ref cb, .int 81, .int 0, .ref a3, .int 8, .ref a4, .int 3, .ref a5, .int 1, .int 1, .ref a6, .int 6, .int 0, .int 1, .int 0]))] sz)) 0 0 (va_A [(a0, .inr (6, [.int 0, .int 0, .ref a1, .int 49, .int 1, .int 3, .int 1, .int 1, .ref a2])), (a1, .inr (5, [.ref cb, .int 81, .int 0, .ref a3, .int 8, .ref a4, .int 3, .ref a5, .int 1, .int 1, .ref a6, .int 6, .int 0, .int 1, .int 0]))] sz) := by
  refine Met.ofW (cc := cX6_readOneType) (maxL := 7) (ret := (some .long)) (by decide) rfl ?_
  intro p e s m args below meth c s₁ B hml hv
  obtain ⟨rfl, hsz, hP, hK, hD0, hN, hSK⟩ := hv
  have hx := B.exec
  have hb := B.bytes
  have hr := B.returns
  have hts := atoms_spec (ws := wsX6_readOneType) B.pre
  have hown : s.vm.findClass RX6 = some m.cls := findClass_of_methodNamed B.named
  have hlocks := B.notSynchronized
  subst hsz
  have hD := hD0.self (sz := s.heap.size)
  generalize hAe : va_A [(a0, .inr (6, [.int 0, .int 0, .ref a1, .int 49, .int 1, .int 3, .int 1, .int 1, .ref a2])), (a1, .inr (5, [.ref cb, .int 81, .int 0, .ref a3, .int 8, .ref a4, .int 3, .ref a5, .int 1, .int 1, .ref a6, .int 6, .int 0, .int 1, .int 0]))] s.heap.size = A at hD hSK ⊢
  have hA : ∀ q : Nat, s.heap.size ≤ q → A q := fun q h => by rw [← hAe]; exact Or.inr h
  have hS : va_S A s.heap s.heap [] := va_S.rf
  have hP : va_P (dC, dI) vwCl [(a0, .inr (6, [.int 0, .int 0, .ref a1, .int 49, .int 1, .int 3, .int 1, .int 1, .ref a2])), (a1, .inr (5, [.ref cb, .int 81, .int 0, .ref a3, .int 8, .ref a4, .int 3, .ref a5, .int 1, .int 1, .ref a6, .int 6, .int 0, .int 1, .int 0]))] s.heap := hP
  have hl := lv_entry ([.ref a0, .int 1]) (n := 7) (Nat.le_of_ble_eq_true rfl)
  rw [lg_entry_eq]
  generalize (lg_sl ([.ref a0, .int 1]) ++ List.replicate (7 - (lg_sl ([.ref a0, .int 1])).length) Slot.unset).toArray = ls at hl ⊢
  replace hl : lv_has ls 7 [(0, .ref a0), (1, .int 1)] := hl
  refine lv_lconst (v := 0) hx hb dX6_readOneType_0 (by decide) ?_
  refine lv_lstore_n (lv' := [(2, .long 0), (0, .ref a0), (1, .int 1)]) hx hb dX6_readOneType_1 rfl hl (by decide) rfl (fun ls hl2 => ?_)
  replace hl := hl2
  clear hl2
  refine lv_aload_n hx hb dX6_readOneType_2 rfl (lv_at hl 1 rfl) ?_
  refine va_get (D := (dC, dI)) (ci := 6) (v := .int 49) (C := RX6) (T := TX6) (N := 9) hx hb hts iw_X6_readOneType_X6 hown hK hP 0 rfl rfl 3 (by decide) (hts _ m_X6_readOneType_1) (fun _ h9 => h9) rfl dX6_readOneType_3 ?_
  refine lv_istore (lv' := [(4, .int 49), (2, .long 0), (0, .ref a0), (1, .int 1)]) hx hb dX6_readOneType_6 hl (by decide) rfl (fun ls hl2 => ?_)
  replace hl := hl2
  clear hl2
  refine lv_aload_n hx hb dX6_readOneType_8 rfl (lv_at hl 2 rfl) ?_
  have hPc := hP.sub (ws' := [(a0, .inr (6, [.int 0, .int 0, .ref a1, .int 49, .int 1, .int 3, .int 1, .int 1, .ref a2])), (a1, .inr (5, [.ref cb, .int 81, .int 0, .ref a3, .int 8, .ref a4, .int 3, .ref a5, .int 1, .int 1, .ref a6, .int 6, .int 0, .int 1, .int 0]))]) [0, 1] rfl
  have hDc := hD.sub (ws' := [(a0, .inr (6, [.int 0, .int 0, .ref a1, .int 49, .int 1, .int 3, .int 1, .int 1, .ref a2])), (a1, .inr (5, [.ref cb, .int 81, .int 0, .ref a3, .int 8, .ref a4, .int 3, .ref a5, .int 1, .int 1, .ref a6, .int 6, .int 0, .int 1, .int 0]))]) [0, 1] (by decide) rfl
  have hFc := va_free (wc := [(a0, .inr (6, [.int 0, .int 0, .ref a1, .int 49, .int 1, .int 3, .int 1, .int 1, .ref a2])), (a1, .inr (5, [.ref cb, .int 81, .int 0, .ref a3, .int 8, .ref a4, .int 3, .ref a5, .int 1, .int 1, .ref a6, .int 6, .int 0, .int 1, .int 0]))]) hD hS hA [0, 1] rfl
  refine va_calli (va_runV (As := []) (rest := []) ⟨hx, hb, hml, hown, hts⟩ (cc_391_X6_readByte l dC dI cy s.heap.size cb a0 a1 a2 a3 a4 a5 a6) (cwV 0 hts gX6_readOneType_X6_readByte rfl rfl rfl (by decide +kernel) ⟨Nat.le_of_ble_eq_true rfl, Nat.le_of_ble_eq_true rfl⟩) ⟨fun a U g mk q => by obtain ⟨q0, q1, qP, qK, qD, qN, qS⟩ := q; exact ⟨q0, q1, qP, va_K.moved (u := U) (U := U.calling g mk a) (Vm.Alike.refl U.vm) qK, qD, qN.same rfl, SK.moved (u := U) (U := U.calling g mk a) (Vm.Alike.refl U.vm) qS⟩, va_recv hK hPc (ci := 6) (q0 := 0) rfl rfl, fun U hU hW => ⟨rfl, by rw [hU], by rw [hU]; exact hPc, va_K.moved hW.alike hK, hDc.weaken (fun _ _ _ _ => trivial), hN.warm hW, by rw [hU]; exact ((hSK.kept hS.2.1).narrow hFc).moved hW.alike⟩⟩ rfl rfl hl.1 rfl (lv_room (Nat.le_of_ble_eq_true rfl)) dX6_readOneType_9 ⟨Nat.le_of_ble_eq_true rfl, Nat.le_of_ble_eq_true rfl⟩) hS (fun q _ h => hFc q h) hFc (fun r_1 u t H_2 locs ht hvm hw hB hz1 hk1 hS2 => ?_)
  obtain ⟨hP1, hK1, hD1⟩ := hB
  rw [ht] at hP1
  obtain rfl := hw
  obtain ⟨hP2, hD2⟩ := va_join (wr := []) (w1 := [(a0, .inr (6, [.int 0, .int 0, .ref a1, .int 50, .int 1, .int 3, .int 1, .int 1, .ref a2])), (a1, .inr (5, [.ref cb, .int 81, .int 0, .ref a3, .int 8, .ref a4, .int 3, .ref a5, .int 1, .int 1, .ref a6, .int 6, .int 0, .int 1, .int 0]))]) hP hD [0, 1] [] rfl rfl (by decide) (by decide) hk1 hFc hP1 hD1
  replace hP : va_P (dC, dI) vwCl [(a0, .inr (6, [.int 0, .int 0, .ref a1, .int 50, .int 1, .int 3, .int 1, .int 1, .ref a2])), (a1, .inr (5, [.ref cb, .int 81, .int 0, .ref a3, .int 8, .ref a4, .int 3, .ref a5, .int 1, .int 1, .ref a6, .int 6, .int 0, .int 1, .int 0]))] H_2 := hP2
  replace hD : va_D A [(a0, .inr (6, [.int 0, .int 0, .ref a1, .int 50, .int 1, .int 3, .int 1, .int 1, .ref a2])), (a1, .inr (5, [.ref cb, .int 81, .int 0, .ref a3, .int 8, .ref a4, .int 3, .ref a5, .int 1, .int 1, .ref a6, .int 6, .int 0, .int 1, .int 0]))] := hD2
  replace hS := hS2
  clear hP2 hD2 hS2
  clear hPc hDc hFc hP1 hD1 hK1 hk1 hz1 hvm ht
  refine W.widen (k := 0) (n := 0) (Nat.le_of_ble_eq_true rfl) (Nat.le_of_ble_eq_true rfl) ?_
  refine lv_istore (lv' := [(5, .int 6), (4, .int 49), (2, .long 0), (0, .ref a0), (1, .int 1)]) hx hb dX6_readOneType_12 hl (by decide) rfl (fun ls hl2 => ?_)
  replace hl := hl2
  clear hl2
  refine lv_iload_n hx hb dX6_readOneType_14 rfl (lv_at hl 4 rfl) ?_
  refine lv_if_eq (tgt := 48) hx hb dX6_readOneType_15 (by decide) (fun h => absurd h (by decide)) (fun _ => ?_)
  refine lv_iload hx hb dX6_readOneType_18 (lv_at hl 0 rfl) ?_
  refine lv_bipush (v := 8) hx hb dX6_readOneType_20 (by decide) ?_
  refine lv_icmp_eq (tgt := 32) hx hb dX6_readOneType_22 (by decide) (fun h => absurd h (by decide)) (fun _ => ?_)
  refine lv_iload hx hb dX6_readOneType_25 (lv_at hl 0 rfl) ?_
  refine lv_bipush (v := 9) hx hb dX6_readOneType_27 (by decide) ?_
  refine lv_icmp_ne (tgt := 48) hx hb dX6_readOneType_29 (by decide) (fun _ => ?_) (fun h => absurd h (by decide))
  refine lv_iconst (v := 0) hx hb dX6_readOneType_48 (by decide) ?_
  refine lv_istore (lv' := [(6, .int 0), (5, .int 6), (4, .int 49), (2, .long 0), (0, .ref a0), (1, .int 1)]) hx hb dX6_readOneType_49 hl (by decide) rfl (fun ls hl2 => ?_)
  replace hl := hl2
  clear hl2
  refine lv_iload hx hb dX6_readOneType_51 (lv_at hl 0 rfl) ?_
  refine lv_iconst (v := 4) hx hb dX6_readOneType_53 (by decide) ?_
  refine lv_icmp_ge (tgt := 91) hx hb dX6_readOneType_54 (by decide) (fun h => absurd h (by decide)) (fun _ => ?_)
  refine lv_iload hx hb dX6_readOneType_57 (lv_at hl 1 rfl) ?_
  refine lv_bipush (v := 7) hx hb dX6_readOneType_59 (by decide) ?_
  refine lv_icmp_ne (tgt := 91) hx hb dX6_readOneType_61 (by decide) (fun _ => ?_) (fun h => absurd h (by decide))
  refine lv_iload hx hb dX6_readOneType_91 (lv_at hl 1 rfl) ?_
  refine lv_iconst (v := 1) hx hb dX6_readOneType_93 (by decide) ?_
  refine lv_icmp_lt (tgt := 104) hx hb dX6_readOneType_94 (by decide) (fun h => absurd h (by decide)) (fun _ => ?_)
  refine lv_iload hx hb dX6_readOneType_97 (lv_at hl 1 rfl) ?_
  refine lv_bipush (v := 6) hx hb dX6_readOneType_99 (by decide) ?_
  refine lv_icmp_le (tgt := 111) hx hb dX6_readOneType_101 (by decide) (fun _ => ?_) (fun h => absurd (by decide) h)
  refine lv_lload_n hx hb dX6_readOneType_111 rfl (lv_at hl 3 rfl) ?_
  refine lv_bipush (v := 8) hx hb dX6_readOneType_112 (by decide) ?_
  refine lv_lshl (v := 0) hx hb dX6_readOneType_114 (by decide) ?_
  refine lv_iload hx hb dX6_readOneType_115 (lv_at hl 1 rfl) ?_
  refine lv_i2l (v := 6) hx hb dX6_readOneType_117 (by decide) ?_
  refine lv_lor hx hb dX6_readOneType_118 ?_
  refine lv_topl (fun z_3 ez_3 => ?_)
  obtain rfl : z_3 = 6 := ez_3.trans (by decide)
  clear ez_3
  refine lv_lstore_n (lv' := [(2, .long 6), (6, .int 0), (5, .int 6), (4, .int 49), (0, .ref a0), (1, .int 1)]) hx hb dX6_readOneType_119 rfl hl (by decide) rfl (fun ls hl2 => ?_)
  replace hl := hl2
  clear hl2
  refine lv_iload hx hb dX6_readOneType_120 (lv_at hl 2 rfl) ?_
  refine lv_bipush (v := 6) hx hb dX6_readOneType_122 (by decide) ?_
  refine lv_icmp_eq (tgt := 129) hx hb dX6_readOneType_124 (by decide) (fun _ => ?_) (fun h => absurd (by decide) h)
  refine lv_aload_n hx hb dX6_readOneType_129 rfl (lv_at hl 4 rfl) ?_
  refine va_get (D := (dC, dI)) (ci := 6) (v := .int 50) (C := RX6) (T := TX6) (N := 9) hx hb hts iw_X6_readOneType_X6 hown hK hP 0 rfl rfl 3 (by decide) (hts _ m_X6_readOneType_1) (fun _ h9 => h9) rfl dX6_readOneType_130 ?_
  refine lv_istore (lv' := [(4, .int 50), (2, .long 6), (6, .int 0), (5, .int 6), (0, .ref a0), (1, .int 1)]) hx hb dX6_readOneType_133 hl (by decide) rfl (fun ls hl2 => ?_)
  replace hl := hl2
  clear hl2
  refine lv_aload_n hx hb dX6_readOneType_135 rfl (lv_at hl 4 rfl) ?_
  have hPc := hP.sub (ws' := [(a0, .inr (6, [.int 0, .int 0, .ref a1, .int 50, .int 1, .int 3, .int 1, .int 1, .ref a2])), (a1, .inr (5, [.ref cb, .int 81, .int 0, .ref a3, .int 8, .ref a4, .int 3, .ref a5, .int 1, .int 1, .ref a6, .int 6, .int 0, .int 1, .int 0]))]) [0, 1] rfl
  have hDc := hD.sub (ws' := [(a0, .inr (6, [.int 0, .int 0, .ref a1, .int 50, .int 1, .int 3, .int 1, .int 1, .ref a2])), (a1, .inr (5, [.ref cb, .int 81, .int 0, .ref a3, .int 8, .ref a4, .int 3, .ref a5, .int 1, .int 1, .ref a6, .int 6, .int 0, .int 1, .int 0]))]) [0, 1] (by decide) rfl
  have hFc := va_free (wc := [(a0, .inr (6, [.int 0, .int 0, .ref a1, .int 50, .int 1, .int 3, .int 1, .int 1, .ref a2])), (a1, .inr (5, [.ref cb, .int 81, .int 0, .ref a3, .int 8, .ref a4, .int 3, .ref a5, .int 1, .int 1, .ref a6, .int 6, .int 0, .int 1, .int 0]))]) hD hS hA [0, 1] rfl
  refine va_calli (va_runV (As := []) (rest := []) ⟨hx, hb, hml, hown, hts⟩ (cc_392_X6_readByte l dC dI cy H_2.size cb a0 a1 a2 a3 a4 a5 a6) (cwV 0 hts gX6_readOneType_X6_readByte rfl rfl rfl (by decide +kernel) ⟨Nat.le_of_ble_eq_true rfl, Nat.le_of_ble_eq_true rfl⟩) ⟨fun a U g mk q => by obtain ⟨q0, q1, qP, qK, qD, qN, qS⟩ := q; exact ⟨q0, q1, qP, va_K.moved (u := U) (U := U.calling g mk a) (Vm.Alike.refl U.vm) qK, qD, qN.same rfl, SK.moved (u := U) (U := U.calling g mk a) (Vm.Alike.refl U.vm) qS⟩, va_recv hK hPc (ci := 6) (q0 := 0) rfl rfl, fun U hU hW => ⟨rfl, by rw [hU], by rw [hU]; exact hPc, va_K.moved hW.alike hK, hDc.weaken (fun _ _ _ _ => trivial), hN.warm hW, by rw [hU]; exact ((hSK.kept hS.2.1).narrow hFc).moved hW.alike⟩⟩ rfl rfl hl.1 rfl (lv_room (Nat.le_of_ble_eq_true rfl)) dX6_readOneType_136 ⟨Nat.le_of_ble_eq_true rfl, Nat.le_of_ble_eq_true rfl⟩) hS (fun q _ h => hFc q h) hFc (fun r_4 u t H_5 locs ht hvm hw hB hz1 hk1 hS2 => ?_)
  obtain ⟨hP1, hK1, hD1⟩ := hB
  rw [ht] at hP1
  obtain rfl := hw
  obtain ⟨hP2, hD2⟩ := va_join (wr := []) (w1 := [(a0, .inr (6, [.int 0, .int 0, .ref a1, .int 51, .int 1, .int 3, .int 1, .int 1, .ref a2])), (a1, .inr (5, [.ref cb, .int 81, .int 0, .ref a3, .int 8, .ref a4, .int 3, .ref a5, .int 1, .int 1, .ref a6, .int 6, .int 0, .int 1, .int 0]))]) hP hD [0, 1] [] rfl rfl (by decide) (by decide) hk1 hFc hP1 hD1
  replace hP : va_P (dC, dI) vwCl [(a0, .inr (6, [.int 0, .int 0, .ref a1, .int 51, .int 1, .int 3, .int 1, .int 1, .ref a2])), (a1, .inr (5, [.ref cb, .int 81, .int 0, .ref a3, .int 8, .ref a4, .int 3, .ref a5, .int 1, .int 1, .ref a6, .int 6, .int 0, .int 1, .int 0]))] H_5 := hP2
  replace hD : va_D A [(a0, .inr (6, [.int 0, .int 0, .ref a1, .int 51, .int 1, .int 3, .int 1, .int 1, .ref a2])), (a1, .inr (5, [.ref cb, .int 81, .int 0, .ref a3, .int 8, .ref a4, .int 3, .ref a5, .int 1, .int 1, .ref a6, .int 6, .int 0, .int 1, .int 0]))] := hD2
  replace hS := hS2
  clear hP2 hD2 hS2
  clear hPc hDc hFc hP1 hD1 hK1 hk1 hz1 hvm ht
  refine W.widen (k := 0) (n := 0) (Nat.le_of_ble_eq_true rfl) (Nat.le_of_ble_eq_true rfl) ?_
  refine lv_istore (lv' := [(6, .int 0), (4, .int 50), (2, .long 6), (5, .int 6), (0, .ref a0), (1, .int 1)]) hx hb dX6_readOneType_139 hl (by decide) rfl (fun ls hl2 => ?_)
  replace hl := hl2
  clear hl2
  refine lv_aload_n hx hb dX6_readOneType_141 rfl (lv_at hl 4 rfl) ?_
  refine va_get (D := (dC, dI)) (ci := 6) (v := .int 1) (C := RX6) (T := TX6) (N := 9) hx hb hts iw_X6_readOneType_X6 hown hK hP 0 rfl rfl 4 (by decide) (hts _ m_X6_readOneType_2) (fun _ h9 => h9) rfl dX6_readOneType_142 ?_
  refine lv_if_eq (tgt := 168) hx hb dX6_readOneType_145 (by decide) (fun h => absurd h (by decide)) (fun _ => ?_)
  refine lv_iload hx hb dX6_readOneType_148 (lv_at hl 0 rfl) ?_
  refine lv_aload_n hx hb dX6_readOneType_150 rfl (lv_at hl 4 rfl) ?_
  refine va_get (D := (dC, dI)) (ci := 6) (v := .ref a1) (C := RX6) (T := TX6) (N := 9) hx hb hts iw_X6_readOneType_X6 hown hK hP 0 rfl rfl 2 (by decide) (hts _ m_X6_readOneType_3) (fun _ h9 => h9) rfl dX6_readOneType_151 ?_
  refine va_get (D := (dC, dI)) (ci := 5) (v := .int 1) (C := RX5) (T := TX5) (N := 15) hx hb hts iw_X6_readOneType_X5 hown hK hP 1 rfl rfl 9 (by decide) (hts _ m_X6_readOneType_4) (fun _ h9 => h9) rfl dX6_readOneType_154 ?_
  refine lv_icmp_lt (tgt := 168) hx hb dX6_readOneType_157 (by decide) (fun _ => ?_) (fun h => absurd (by decide) h)
  refine lv_lload_n hx hb dX6_readOneType_168 rfl (lv_at hl 2 rfl) ?_
  refine lv_bipush (v := 8) hx hb dX6_readOneType_169 (by decide) ?_
  refine lv_lshl (v := 1536) hx hb dX6_readOneType_171 (by decide) ?_
  refine lv_iload hx hb dX6_readOneType_172 (lv_at hl 0 rfl) ?_
  refine lv_i2l (v := 0) hx hb dX6_readOneType_174 (by decide) ?_
  refine lv_lor hx hb dX6_readOneType_175 ?_
  refine lv_topl (fun z_6 ez_6 => ?_)
  obtain rfl : z_6 = 1536 := ez_6.trans (by decide)
  clear ez_6
  exact W.lret hx hb hr (fun t ht hW => ⟨⟨1536, (), rfl, rfl, by rw [ht]; exact hP, va_K.moved hW.alike hK, hD⟩, hS.F ht⟩) hS.2.2 dX6_readOneType_176

set_option maxHeartbeats 4000000 in
set_option maxRecDepth 100000 in
theorem cc_386_X6_readTypes (l : Launch) (dC : Nat → ClassId) (dI : Nat → Nat → Nat) (cy : Nat → ClassId) (sz : Nat) (cb : Nat) (a0 : Nat) (a1 : Nat) (a2 : Nat) (a3 : Nat) (a4 : Nat) (a5 : Nat) (a6 : Nat) (f0 : Nat → Int64) (f0_0 : f0 0 = 3) : Met l yX6_readTypes wsX6_readTypes ({ frames := 2, cells := 0, slots := 0, locals := 46 }) (va_Pc [.ref a0, .int 2, .int 1] (fun U => U.heap.size = sz ∧ va_P (dC, dI) vwCl [(a0, .inr (6, [.int 0, .int 0, .ref a1, .int 47, .int 1, .int 3, .int 1, .int 1, .ref a3])), (a1, .inr (5, [.ref cb, .int 81, .int 0, .ref a2, .int 7, .ref a4, .int 3, .ref a5, .int 1, .int 1, .ref a6, .int 6, .int 0, .int 1, .int 0])), (a2, .inl (cy 2, 2048, .inr (.inl f0)))] U.heap ∧ va_K (dC, dI) vwCl (TYS cy) U ∧ va_D (fun _ => True) [(a0, .inr (6, [.int 0, .int 0, .ref a1, .int 47, .int 1, .int 3, .int 1, .int 1, .ref a3])), (a1, .inr (5, [.ref cb, .int 81, .int 0, .ref a2, .int 7, .ref a4, .int 3, .ref a5, .int 1, .int 1, .ref a6, .int 6, .int 0, .int 1, .int 0])), (a2, .inl (cy 2, 2048, .inr (.inl f0)))] ∧ NK U ∧ SK cb (va_A [(a0, .inr (6, [.int 0, .int 0, .ref a1, .int 47, .int 1, .int 3, .int 1, .int 1, .ref a3])), (a1, .inr (5, [.ref cb, .int 81, .int 0, .ref a2, .int 7, .ref a4, .int 3, .ref a5, .int 1, .int 1, .ref a6, .int 6, .int 0, .int 1, .int 0])), (a2, .inl (cy 2, 2048, .inr (.inl f0)))] sz) U U.heap)) (va_Qv (fun u : (Nat → Int64) => match u with | (u0) => u0 0 = 3) (fun u t => match u with | (u0) => va_P (dC, dI) vwCl [(a0, .inr (6, [.int 0, .int 0, .ref a1, .int 51, .int 1, .int 3, .int 1, .int 1, .ref a3])), (a1, .inr (5, [.ref cb, .int 81, .int 0, .ref a2, .int 9, .ref a4, .int 3, .ref a5, .int 1, .int 1, .ref a6, .int 6, .int 0, .int 1, .int 0])), (a2, .inl (cy 2, 2048, .inr (.inl u0)))] t.heap ∧ va_K (dC, dI) vwCl (TYS cy) t ∧ va_D (va_A [(a0, .inr (6, [.int 0, .int 0, .ref a1, .int 47, .int 1, .int 3, .int 1, .int 1, .ref a3])), (a1, .inr (5, [.ref cb, .int 81, .int 0, .ref a2, .int 7, .ref a4, .int 3, .ref a5, .int 1, .int 1, .ref a6, .int 6, .int 0, .int 1, .int 0])), (a2, .inl (cy 2, 2048, .inr (.inl f0)))] sz) [(a0, .inr (6, [.int 0, .int 0, .ref a1, .int 51, .int 1, .int 3, .int 1, .int 1, .ref a3])), (a1, .inr (5, [.ref cb, .int 81, .int 0, .ref a2, .int 9, .ref a4, .int 3, .ref a5, .int 1, .int 1, .ref a6, .int 6, .int 0, .int 1, .int 0])), (a2, .inl (cy 2, 2048, .inr (.inl u0)))]) (va_A [(a0, .inr (6, [.int 0, .int 0, .ref a1, .int 47, .int 1, .int 3, .int 1, .int 1, .ref a3])), (a1, .inr (5, [.ref cb, .int 81, .int 0, .ref a2, .int 7, .ref a4, .int 3, .ref a5, .int 1, .int 1, .ref a6, .int 6, .int 0, .int 1, .int 0])), (a2, .inl (cy 2, 2048, .inr (.inl f0)))] sz)) 0 0 (va_A [(a0, .inr (6, [.int 0, .int 0, .ref a1, .int 47, .int 1, .int 3, .int 1, .int 1, .ref a3])), (a1, .inr (5, [.ref cb, .int 81, .int 0, .ref a2, .int 7, .ref a4, .int 3, .ref a5, .int 1, .int 1, .ref a6, .int 6, .int 0, .int 1, .int 0])), (a2, .inl (cy 2, 2048, .inr (.inl f0)))] sz) := by
  refine Met.ofW (cc := cX6_readTypes) (maxL := 4) (ret := none) (by decide) rfl ?_
  intro p e s m args below meth c s₁ B hml hv
  obtain ⟨rfl, hsz, hP, hK, hD0, hN, hSK⟩ := hv
  have hx := B.exec
  have hb := B.bytes
  have hr := B.returns
  have hts := atoms_spec (ws := wsX6_readTypes) B.pre
  have hown : s.vm.findClass RX6 = some m.cls := findClass_of_methodNamed B.named
  have hlocks := B.notSynchronized
  subst hsz
  have hD := hD0.self (sz := s.heap.size)
  generalize hAe : va_A [(a0, .inr (6, [.int 0, .int 0, .ref a1, .int 47, .int 1, .int 3, .int 1, .int 1, .ref a3])), (a1, .inr (5, [.ref cb, .int 81, .int 0, .ref a2, .int 7, .ref a4, .int 3, .ref a5, .int 1, .int 1, .ref a6, .int 6, .int 0, .int 1, .int 0])), (a2, .inl (cy 2, 2048, .inr (.inl f0)))] s.heap.size = A at hD hSK ⊢
  have hA : ∀ q : Nat, s.heap.size ≤ q → A q := fun q h => by rw [← hAe]; exact Or.inr h
  have hS : va_S A s.heap s.heap [] := va_S.rf
  have hP : va_P (dC, dI) vwCl [(a0, .inr (6, [.int 0, .int 0, .ref a1, .int 47, .int 1, .int 3, .int 1, .int 1, .ref a3])), (a1, .inr (5, [.ref cb, .int 81, .int 0, .ref a2, .int 7, .ref a4, .int 3, .ref a5, .int 1, .int 1, .ref a6, .int 6, .int 0, .int 1, .int 0])), (a2, .inl (cy 2, 2048, .inr (.inl f0)))] s.heap := hP
  have hl := lv_entry ([.ref a0, .int 2, .int 1]) (n := 4) (Nat.le_of_ble_eq_true rfl)
  rw [lg_entry_eq]
  generalize (lg_sl ([.ref a0, .int 2, .int 1]) ++ List.replicate (4 - (lg_sl ([.ref a0, .int 2, .int 1])).length) Slot.unset).toArray = ls at hl ⊢
  replace hl : lv_has ls 4 [(0, .ref a0), (1, .int 2), (2, .int 1)] := hl
  refine lv_iconst (v := 0) hx hb dX6_readTypes_0 (by decide) ?_
  refine lv_istore_n (lv' := [(3, .int 0), (0, .ref a0), (1, .int 2), (2, .int 1)]) hx hb dX6_readTypes_1 rfl hl (by decide) rfl (fun ls hl2 => ?_)
  replace hl := hl2
  clear hl2
  refine lv_iload_n hx hb dX6_readTypes_2 rfl (lv_at hl 0 rfl) ?_
  refine lv_iload_n hx hb dX6_readTypes_3 rfl (lv_at hl 2 rfl) ?_
  refine lv_icmp_ge (tgt := 32) hx hb dX6_readTypes_4 (by decide) (fun h => absurd h (by decide)) (fun _ => ?_)
  refine lv_aload_n hx hb dX6_readTypes_7 rfl (lv_at hl 1 rfl) ?_
  refine va_get (D := (dC, dI)) (ci := 6) (v := .int 0) (C := RX6) (T := TX6) (N := 9) hx hb hts iw_X6_readTypes_X6 hown hK hP 0 rfl rfl 1 (by decide) (hts _ m_X6_readTypes_1) (fun _ h9 => h9) rfl dX6_readTypes_8 ?_
  refine lv_if_ne (tgt := 32) hx hb dX6_readTypes_11 (by decide) (fun h => absurd (by decide) h) (fun _ => ?_)
  refine lv_aload_n hx hb dX6_readTypes_14 rfl (lv_at hl 1 rfl) ?_
  refine va_get (D := (dC, dI)) (ci := 6) (v := .ref a1) (C := RX6) (T := TX6) (N := 9) hx hb hts iw_X6_readTypes_X6 hown hK hP 0 rfl rfl 2 (by decide) (hts _ m_X6_readTypes_2) (fun _ h9 => h9) rfl dX6_readTypes_15 ?_
  refine lv_aload_n hx hb dX6_readTypes_18 rfl (lv_at hl 1 rfl) ?_
  refine lv_iload_n hx hb dX6_readTypes_19 rfl (lv_at hl 3 rfl) ?_
  have hPc := hP.sub (ws' := [(a0, .inr (6, [.int 0, .int 0, .ref a1, .int 47, .int 1, .int 3, .int 1, .int 1, .ref a3])), (a1, .inr (5, [.ref cb, .int 81, .int 0, .ref a2, .int 7, .ref a4, .int 3, .ref a5, .int 1, .int 1, .ref a6, .int 6, .int 0, .int 1, .int 0]))]) [0, 1] rfl
  have hDc := hD.sub (ws' := [(a0, .inr (6, [.int 0, .int 0, .ref a1, .int 47, .int 1, .int 3, .int 1, .int 1, .ref a3])), (a1, .inr (5, [.ref cb, .int 81, .int 0, .ref a2, .int 7, .ref a4, .int 3, .ref a5, .int 1, .int 1, .ref a6, .int 6, .int 0, .int 1, .int 0]))]) [0, 1] (by decide) rfl
  have hFc := va_free (wc := [(a0, .inr (6, [.int 0, .int 0, .ref a1, .int 47, .int 1, .int 3, .int 1, .int 1, .ref a3])), (a1, .inr (5, [.ref cb, .int 81, .int 0, .ref a2, .int 7, .ref a4, .int 3, .ref a5, .int 1, .int 1, .ref a6, .int 6, .int 0, .int 1, .int 0]))]) hD hS hA [0, 1] rfl
  refine va_calll (va_runV (As := [.int 1]) (rest := [.ref a1]) ⟨hx, hb, hml, hown, hts⟩ (cc_387_X6_readOneType l dC dI cy s.heap.size cb a0 a1 a3 a2 a4 a5 a6) (cwV 1 hts gX6_readTypes_X6_readOneType rfl rfl rfl (by decide +kernel) ⟨Nat.le_of_ble_eq_true rfl, Nat.le_of_ble_eq_true rfl⟩) ⟨fun a U g mk q => by obtain ⟨q0, q1, qP, qK, qD, qN, qS⟩ := q; exact ⟨q0, q1, qP, va_K.moved (u := U) (U := U.calling g mk a) (Vm.Alike.refl U.vm) qK, qD, qN.same rfl, SK.moved (u := U) (U := U.calling g mk a) (Vm.Alike.refl U.vm) qS⟩, va_recv hK hPc (ci := 6) (q0 := 0) rfl rfl, fun U hU hW => ⟨rfl, by rw [hU], by rw [hU]; exact hPc, va_K.moved hW.alike hK, hDc.weaken (fun _ _ _ _ => trivial), hN.warm hW, by rw [hU]; exact ((hSK.kept hS.2.1).narrow hFc).moved hW.alike⟩⟩ rfl rfl hl.1 rfl (lv_room (Nat.le_of_ble_eq_true rfl)) dX6_readTypes_20 ⟨Nat.le_of_ble_eq_true rfl, Nat.le_of_ble_eq_true rfl⟩) hS (fun q _ h => hFc q h) hFc (fun r_1 u t H_2 locs ht hvm hw hB hz1 hk1 hS2 => ?_)
  obtain ⟨hP1, hK1, hD1⟩ := hB
  rw [ht] at hP1
  obtain rfl := hw
  obtain ⟨hP2, hD2⟩ := va_join (wr := [(a2, .inl (cy 2, 2048, .inr (.inl f0)))]) (w1 := [(a0, .inr (6, [.int 0, .int 0, .ref a1, .int 49, .int 1, .int 3, .int 1, .int 1, .ref a3])), (a1, .inr (5, [.ref cb, .int 81, .int 0, .ref a2, .int 7, .ref a4, .int 3, .ref a5, .int 1, .int 1, .ref a6, .int 6, .int 0, .int 1, .int 0]))]) hP hD [0, 1] [2] rfl rfl (by decide) (by decide) hk1 hFc hP1 hD1
  replace hP : va_P (dC, dI) vwCl [(a2, .inl (cy 2, 2048, .inr (.inl f0))), (a0, .inr (6, [.int 0, .int 0, .ref a1, .int 49, .int 1, .int 3, .int 1, .int 1, .ref a3])), (a1, .inr (5, [.ref cb, .int 81, .int 0, .ref a2, .int 7, .ref a4, .int 3, .ref a5, .int 1, .int 1, .ref a6, .int 6, .int 0, .int 1, .int 0]))] H_2 := hP2
  replace hD : va_D A [(a2, .inl (cy 2, 2048, .inr (.inl f0))), (a0, .inr (6, [.int 0, .int 0, .ref a1, .int 49, .int 1, .int 3, .int 1, .int 1, .ref a3])), (a1, .inr (5, [.ref cb, .int 81, .int 0, .ref a2, .int 7, .ref a4, .int 3, .ref a5, .int 1, .int 1, .ref a6, .int 6, .int 0, .int 1, .int 0]))] := hD2
  replace hS := hS2
  clear hP2 hD2 hS2
  clear hPc hDc hFc hP1 hD1 hK1 hk1 hz1 hvm ht
  refine W.widen (k := 0) (n := 0) (Nat.le_of_ble_eq_true rfl) (Nat.le_of_ble_eq_true rfl) ?_
  have hPc := hP.sub (ws' := [(a1, .inr (5, [.ref cb, .int 81, .int 0, .ref a2, .int 7, .ref a4, .int 3, .ref a5, .int 1, .int 1, .ref a6, .int 6, .int 0, .int 1, .int 0])), (a2, .inl (cy 2, 2048, .inr (.inl f0)))]) [2, 0] rfl
  have hDc := hD.sub (ws' := [(a1, .inr (5, [.ref cb, .int 81, .int 0, .ref a2, .int 7, .ref a4, .int 3, .ref a5, .int 1, .int 1, .ref a6, .int 6, .int 0, .int 1, .int 0])), (a2, .inl (cy 2, 2048, .inr (.inl f0)))]) [2, 0] (by decide) rfl
  have hFc := va_free (wc := [(a1, .inr (5, [.ref cb, .int 81, .int 0, .ref a2, .int 7, .ref a4, .int 3, .ref a5, .int 1, .int 1, .ref a6, .int 6, .int 0, .int 1, .int 0])), (a2, .inl (cy 2, 2048, .inr (.inl f0)))]) hD hS hA [2, 0] rfl
  refine va_callv (va_runV (As := [.long 1536]) (rest := []) ⟨hx, hb, hml, hown, hts⟩ (cc_163_X5_addType l dC dI cy H_2.size cb a1 a2 a4 a5 a6 f0 f0_0) (cwV 1 hts gX6_readTypes_X5_addType rfl rfl rfl (by decide +kernel) ⟨Nat.le_of_ble_eq_true rfl, Nat.le_of_ble_eq_true rfl⟩) ⟨fun a U g mk q => by obtain ⟨q0, q1, qP, qK, qD, qN, qS⟩ := q; exact ⟨q0, q1, qP, va_K.moved (u := U) (U := U.calling g mk a) (Vm.Alike.refl U.vm) qK, qD, qN.same rfl, SK.moved (u := U) (U := U.calling g mk a) (Vm.Alike.refl U.vm) qS⟩, va_recv hK hPc (ci := 5) (q0 := 0) rfl rfl, fun U hU hW => ⟨rfl, by rw [hU], by rw [hU]; exact hPc, va_K.moved hW.alike hK, hDc.weaken (fun _ _ _ _ => trivial), hN.warm hW, by rw [hU]; exact ((hSK.kept hS.2.1).narrow hFc).moved hW.alike⟩⟩ rfl rfl hl.1 rfl (lv_room (Nat.le_of_ble_eq_true rfl)) dX6_readTypes_23 ⟨Nat.le_of_ble_eq_true rfl, Nat.le_of_ble_eq_true rfl⟩) hS (fun q _ h => hFc q h) hFc (fun u t H_3 locs ht hvm hw hB hz1 hk1 hS2 => ?_)
  obtain ⟨g_4, rfl⟩ : ∃ z, z = u := ⟨_, rfl⟩
  obtain ⟨hP1, hK1, hD1⟩ := hB
  rw [ht] at hP1
  have kp_5 := hw
  obtain ⟨hP2, hD2⟩ := va_join (wr := [(a0, .inr (6, [.int 0, .int 0, .ref a1, .int 49, .int 1, .int 3, .int 1, .int 1, .ref a3]))]) (w1 := [(a1, .inr (5, [.ref cb, .int 81, .int 0, .ref a2, .int 8, .ref a4, .int 3, .ref a5, .int 1, .int 1, .ref a6, .int 6, .int 0, .int 1, .int 0])), (a2, .inl (cy 2, 2048, .inr (.inl g_4)))]) hP hD [2, 0] [1] rfl rfl (by decide) (by decide) hk1 hFc hP1 hD1
  replace hP : va_P (dC, dI) vwCl [(a0, .inr (6, [.int 0, .int 0, .ref a1, .int 49, .int 1, .int 3, .int 1, .int 1, .ref a3])), (a1, .inr (5, [.ref cb, .int 81, .int 0, .ref a2, .int 8, .ref a4, .int 3, .ref a5, .int 1, .int 1, .ref a6, .int 6, .int 0, .int 1, .int 0])), (a2, .inl (cy 2, 2048, .inr (.inl g_4)))] H_3 := hP2
  replace hD : va_D A [(a0, .inr (6, [.int 0, .int 0, .ref a1, .int 49, .int 1, .int 3, .int 1, .int 1, .ref a3])), (a1, .inr (5, [.ref cb, .int 81, .int 0, .ref a2, .int 8, .ref a4, .int 3, .ref a5, .int 1, .int 1, .ref a6, .int 6, .int 0, .int 1, .int 0])), (a2, .inl (cy 2, 2048, .inr (.inl g_4)))] := hD2
  replace hS := hS2
  clear hP2 hD2 hS2
  clear hPc hDc hFc hP1 hD1 hK1 hk1 hz1 hvm ht
  refine W.widen (k := 0) (n := 0) (Nat.le_of_ble_eq_true rfl) (Nat.le_of_ble_eq_true rfl) ?_
  refine lv_iinc (v := 1) (lv' := [(3, .int 1), (0, .ref a0), (1, .int 2), (2, .int 1)]) hx hb dX6_readTypes_26 hl (k := 0) rfl (by decide) (by decide) rfl (fun ls hl2 => ?_)
  replace hl := hl2
  clear hl2
  refine lv_goto (tgt := 2) hx hb dX6_readTypes_29 (by decide) ?_
  refine lv_iload_n hx hb dX6_readTypes_2 rfl (lv_at hl 0 rfl) ?_
  refine lv_iload_n hx hb dX6_readTypes_3 rfl (lv_at hl 2 rfl) ?_
  refine lv_icmp_ge (tgt := 32) hx hb dX6_readTypes_4 (by decide) (fun h => absurd h (by decide)) (fun _ => ?_)
  refine lv_aload_n hx hb dX6_readTypes_7 rfl (lv_at hl 1 rfl) ?_
  refine va_get (D := (dC, dI)) (ci := 6) (v := .int 0) (C := RX6) (T := TX6) (N := 9) hx hb hts iw_X6_readTypes_X6 hown hK hP 0 rfl rfl 1 (by decide) (hts _ m_X6_readTypes_1) (fun _ h9 => h9) rfl dX6_readTypes_8 ?_
  refine lv_if_ne (tgt := 32) hx hb dX6_readTypes_11 (by decide) (fun h => absurd (by decide) h) (fun _ => ?_)
  refine lv_aload_n hx hb dX6_readTypes_14 rfl (lv_at hl 1 rfl) ?_
  refine va_get (D := (dC, dI)) (ci := 6) (v := .ref a1) (C := RX6) (T := TX6) (N := 9) hx hb hts iw_X6_readTypes_X6 hown hK hP 0 rfl rfl 2 (by decide) (hts _ m_X6_readTypes_2) (fun _ h9 => h9) rfl dX6_readTypes_15 ?_
  refine lv_aload_n hx hb dX6_readTypes_18 rfl (lv_at hl 1 rfl) ?_
  refine lv_iload_n hx hb dX6_readTypes_19 rfl (lv_at hl 3 rfl) ?_
  have hPc := hP.sub (ws' := [(a0, .inr (6, [.int 0, .int 0, .ref a1, .int 49, .int 1, .int 3, .int 1, .int 1, .ref a3])), (a1, .inr (5, [.ref cb, .int 81, .int 0, .ref a2, .int 8, .ref a4, .int 3, .ref a5, .int 1, .int 1, .ref a6, .int 6, .int 0, .int 1, .int 0]))]) [0, 1] rfl
  have hDc := hD.sub (ws' := [(a0, .inr (6, [.int 0, .int 0, .ref a1, .int 49, .int 1, .int 3, .int 1, .int 1, .ref a3])), (a1, .inr (5, [.ref cb, .int 81, .int 0, .ref a2, .int 8, .ref a4, .int 3, .ref a5, .int 1, .int 1, .ref a6, .int 6, .int 0, .int 1, .int 0]))]) [0, 1] (by decide) rfl
  have hFc := va_free (wc := [(a0, .inr (6, [.int 0, .int 0, .ref a1, .int 49, .int 1, .int 3, .int 1, .int 1, .ref a3])), (a1, .inr (5, [.ref cb, .int 81, .int 0, .ref a2, .int 8, .ref a4, .int 3, .ref a5, .int 1, .int 1, .ref a6, .int 6, .int 0, .int 1, .int 0]))]) hD hS hA [0, 1] rfl
  refine va_calll (va_runV (As := [.int 1]) (rest := [.ref a1]) ⟨hx, hb, hml, hown, hts⟩ (cc_390_X6_readOneType l dC dI cy H_3.size cb a0 a1 a3 a2 a4 a5 a6) (cwV 1 hts gX6_readTypes_X6_readOneType rfl rfl rfl (by decide +kernel) ⟨Nat.le_of_ble_eq_true rfl, Nat.le_of_ble_eq_true rfl⟩) ⟨fun a U g mk q => by obtain ⟨q0, q1, qP, qK, qD, qN, qS⟩ := q; exact ⟨q0, q1, qP, va_K.moved (u := U) (U := U.calling g mk a) (Vm.Alike.refl U.vm) qK, qD, qN.same rfl, SK.moved (u := U) (U := U.calling g mk a) (Vm.Alike.refl U.vm) qS⟩, va_recv hK hPc (ci := 6) (q0 := 0) rfl rfl, fun U hU hW => ⟨rfl, by rw [hU], by rw [hU]; exact hPc, va_K.moved hW.alike hK, hDc.weaken (fun _ _ _ _ => trivial), hN.warm hW, by rw [hU]; exact ((hSK.kept hS.2.1).narrow hFc).moved hW.alike⟩⟩ rfl rfl hl.1 rfl (lv_room (Nat.le_of_ble_eq_true rfl)) dX6_readTypes_20 ⟨Nat.le_of_ble_eq_true rfl, Nat.le_of_ble_eq_true rfl⟩) hS (fun q _ h => hFc q h) hFc (fun r_6 u t H_7 locs ht hvm hw hB hz1 hk1 hS2 => ?_)
  obtain ⟨hP1, hK1, hD1⟩ := hB
  rw [ht] at hP1
  obtain rfl := hw
  obtain ⟨hP2, hD2⟩ := va_join (wr := [(a2, .inl (cy 2, 2048, .inr (.inl g_4)))]) (w1 := [(a0, .inr (6, [.int 0, .int 0, .ref a1, .int 51, .int 1, .int 3, .int 1, .int 1, .ref a3])), (a1, .inr (5, [.ref cb, .int 81, .int 0, .ref a2, .int 8, .ref a4, .int 3, .ref a5, .int 1, .int 1, .ref a6, .int 6, .int 0, .int 1, .int 0]))]) hP hD [0, 1] [2] rfl rfl (by decide) (by decide) hk1 hFc hP1 hD1
  replace hP : va_P (dC, dI) vwCl [(a2, .inl (cy 2, 2048, .inr (.inl g_4))), (a0, .inr (6, [.int 0, .int 0, .ref a1, .int 51, .int 1, .int 3, .int 1, .int 1, .ref a3])), (a1, .inr (5, [.ref cb, .int 81, .int 0, .ref a2, .int 8, .ref a4, .int 3, .ref a5, .int 1, .int 1, .ref a6, .int 6, .int 0, .int 1, .int 0]))] H_7 := hP2
  replace hD : va_D A [(a2, .inl (cy 2, 2048, .inr (.inl g_4))), (a0, .inr (6, [.int 0, .int 0, .ref a1, .int 51, .int 1, .int 3, .int 1, .int 1, .ref a3])), (a1, .inr (5, [.ref cb, .int 81, .int 0, .ref a2, .int 8, .ref a4, .int 3, .ref a5, .int 1, .int 1, .ref a6, .int 6, .int 0, .int 1, .int 0]))] := hD2
  replace hS := hS2
  clear hP2 hD2 hS2
  clear hPc hDc hFc hP1 hD1 hK1 hk1 hz1 hvm ht
  refine W.widen (k := 0) (n := 0) (Nat.le_of_ble_eq_true rfl) (Nat.le_of_ble_eq_true rfl) ?_
  have hPc := hP.sub (ws' := [(a1, .inr (5, [.ref cb, .int 81, .int 0, .ref a2, .int 8, .ref a4, .int 3, .ref a5, .int 1, .int 1, .ref a6, .int 6, .int 0, .int 1, .int 0])), (a2, .inl (cy 2, 2048, .inr (.inl g_4)))]) [2, 0] rfl
  have hDc := hD.sub (ws' := [(a1, .inr (5, [.ref cb, .int 81, .int 0, .ref a2, .int 8, .ref a4, .int 3, .ref a5, .int 1, .int 1, .ref a6, .int 6, .int 0, .int 1, .int 0])), (a2, .inl (cy 2, 2048, .inr (.inl g_4)))]) [2, 0] (by decide) rfl
  have hFc := va_free (wc := [(a1, .inr (5, [.ref cb, .int 81, .int 0, .ref a2, .int 8, .ref a4, .int 3, .ref a5, .int 1, .int 1, .ref a6, .int 6, .int 0, .int 1, .int 0])), (a2, .inl (cy 2, 2048, .inr (.inl g_4)))]) hD hS hA [2, 0] rfl
  refine va_callv (va_runV (As := [.long 1536]) (rest := []) ⟨hx, hb, hml, hown, hts⟩ (cc_167_X5_addType l dC dI cy H_7.size cb a1 a2 a4 a5 a6 g_4 kp_5) (cwV 1 hts gX6_readTypes_X5_addType rfl rfl rfl (by decide +kernel) ⟨Nat.le_of_ble_eq_true rfl, Nat.le_of_ble_eq_true rfl⟩) ⟨fun a U g mk q => by obtain ⟨q0, q1, qP, qK, qD, qN, qS⟩ := q; exact ⟨q0, q1, qP, va_K.moved (u := U) (U := U.calling g mk a) (Vm.Alike.refl U.vm) qK, qD, qN.same rfl, SK.moved (u := U) (U := U.calling g mk a) (Vm.Alike.refl U.vm) qS⟩, va_recv hK hPc (ci := 5) (q0 := 0) rfl rfl, fun U hU hW => ⟨rfl, by rw [hU], by rw [hU]; exact hPc, va_K.moved hW.alike hK, hDc.weaken (fun _ _ _ _ => trivial), hN.warm hW, by rw [hU]; exact ((hSK.kept hS.2.1).narrow hFc).moved hW.alike⟩⟩ rfl rfl hl.1 rfl (lv_room (Nat.le_of_ble_eq_true rfl)) dX6_readTypes_23 ⟨Nat.le_of_ble_eq_true rfl, Nat.le_of_ble_eq_true rfl⟩) hS (fun q _ h => hFc q h) hFc (fun u t H_8 locs ht hvm hw hB hz1 hk1 hS2 => ?_)
  obtain ⟨g_9, rfl⟩ : ∃ z, z = u := ⟨_, rfl⟩
  obtain ⟨hP1, hK1, hD1⟩ := hB
  rw [ht] at hP1
  have kp_10 := hw
  obtain ⟨hP2, hD2⟩ := va_join (wr := [(a0, .inr (6, [.int 0, .int 0, .ref a1, .int 51, .int 1, .int 3, .int 1, .int 1, .ref a3]))]) (w1 := [(a1, .inr (5, [.ref cb, .int 81, .int 0, .ref a2, .int 9, .ref a4, .int 3, .ref a5, .int 1, .int 1, .ref a6, .int 6, .int 0, .int 1, .int 0])), (a2, .inl (cy 2, 2048, .inr (.inl g_9)))]) hP hD [2, 0] [1] rfl rfl (by decide) (by decide) hk1 hFc hP1 hD1
  replace hP : va_P (dC, dI) vwCl [(a0, .inr (6, [.int 0, .int 0, .ref a1, .int 51, .int 1, .int 3, .int 1, .int 1, .ref a3])), (a1, .inr (5, [.ref cb, .int 81, .int 0, .ref a2, .int 9, .ref a4, .int 3, .ref a5, .int 1, .int 1, .ref a6, .int 6, .int 0, .int 1, .int 0])), (a2, .inl (cy 2, 2048, .inr (.inl g_9)))] H_8 := hP2
  replace hD : va_D A [(a0, .inr (6, [.int 0, .int 0, .ref a1, .int 51, .int 1, .int 3, .int 1, .int 1, .ref a3])), (a1, .inr (5, [.ref cb, .int 81, .int 0, .ref a2, .int 9, .ref a4, .int 3, .ref a5, .int 1, .int 1, .ref a6, .int 6, .int 0, .int 1, .int 0])), (a2, .inl (cy 2, 2048, .inr (.inl g_9)))] := hD2
  replace hS := hS2
  clear hP2 hD2 hS2
  clear hPc hDc hFc hP1 hD1 hK1 hk1 hz1 hvm ht
  refine W.widen (k := 0) (n := 0) (Nat.le_of_ble_eq_true rfl) (Nat.le_of_ble_eq_true rfl) ?_
  refine lv_iinc (v := 2) (lv' := [(3, .int 2), (0, .ref a0), (1, .int 2), (2, .int 1)]) hx hb dX6_readTypes_26 hl (k := 0) rfl (by decide) (by decide) rfl (fun ls hl2 => ?_)
  replace hl := hl2
  clear hl2
  refine lv_goto (tgt := 2) hx hb dX6_readTypes_29 (by decide) ?_
  refine lv_iload_n hx hb dX6_readTypes_2 rfl (lv_at hl 0 rfl) ?_
  refine lv_iload_n hx hb dX6_readTypes_3 rfl (lv_at hl 2 rfl) ?_
  refine lv_icmp_ge (tgt := 32) hx hb dX6_readTypes_4 (by decide) (fun _ => ?_) (fun h => absurd (by decide) h)
  exact W.vret hx hb hr (fun t ht hW => ⟨⟨(g_9), rfl, kp_10, by rw [ht]; exact hP, va_K.moved hW.alike hK, hD⟩, hS.F ht⟩) hS.2.2 dX6_readTypes_32

set_option maxHeartbeats 4000000 in
set_option maxRecDepth 100000 in
theorem cc_383_X6_readList (l : Launch) (dC : Nat → ClassId) (dI : Nat → Nat → Nat) (cy : Nat → ClassId) (sz : Nat) (cb : Nat) (a0 : Nat) (a1 : Nat) (a2 : Nat) (a3 : Nat) (a4 : Nat) (a5 : Nat) (a6 : Nat) (f0 : Nat → Int64) (f0_0 : f0 0 = 3) : Met l yX6_readList wsX6_readList ({ frames := 3, cells := 0, slots := 0, locals := 69 }) (va_Pc [.ref a0, .int 8] (fun U => U.heap.size = sz ∧ va_P (dC, dI) vwCl [(a0, .inr (6, [.int 0, .int 0, .ref a1, .int 46, .int 1, .int 3, .int 1, .int 1, .ref a3])), (a1, .inr (5, [.ref cb, .int 81, .int 0, .ref a2, .int 7, .ref a4, .int 3, .ref a5, .int 1, .int 1, .ref a6, .int 6, .int 0, .int 1, .int 0])), (a2, .inl (cy 2, 2048, .inr (.inl f0)))] U.heap ∧ va_K (dC, dI) vwCl (TYS cy) U ∧ va_D (fun _ => True) [(a0, .inr (6, [.int 0, .int 0, .ref a1, .int 46, .int 1, .int 3, .int 1, .int 1, .ref a3])), (a1, .inr (5, [.ref cb, .int 81, .int 0, .ref a2, .int 7, .ref a4, .int 3, .ref a5, .int 1, .int 1, .ref a6, .int 6, .int 0, .int 1, .int 0])), (a2, .inl (cy 2, 2048, .inr (.inl f0)))] ∧ NK U ∧ SK cb (va_A [(a0, .inr (6, [.int 0, .int 0, .ref a1, .int 46, .int 1, .int 3, .int 1, .int 1, .ref a3])), (a1, .inr (5, [.ref cb, .int 81, .int 0, .ref a2, .int 7, .ref a4, .int 3, .ref a5, .int 1, .int 1, .ref a6, .int 6, .int 0, .int 1, .int 0])), (a2, .inl (cy 2, 2048, .inr (.inl f0)))] sz) U U.heap)) (va_Qi (fun (r : Int32) (u : (Nat → Int64)) => match u with | (u0) => r = 2 ∧ u0 0 = 3) (fun u t => match u with | (u0) => va_P (dC, dI) vwCl [(a0, .inr (6, [.int 0, .int 0, .ref a1, .int 51, .int 1, .int 3, .int 1, .int 1, .ref a3])), (a1, .inr (5, [.ref cb, .int 81, .int 0, .ref a2, .int 9, .ref a4, .int 3, .ref a5, .int 1, .int 1, .ref a6, .int 6, .int 0, .int 1, .int 0])), (a2, .inl (cy 2, 2048, .inr (.inl u0)))] t.heap ∧ va_K (dC, dI) vwCl (TYS cy) t ∧ va_D (va_A [(a0, .inr (6, [.int 0, .int 0, .ref a1, .int 46, .int 1, .int 3, .int 1, .int 1, .ref a3])), (a1, .inr (5, [.ref cb, .int 81, .int 0, .ref a2, .int 7, .ref a4, .int 3, .ref a5, .int 1, .int 1, .ref a6, .int 6, .int 0, .int 1, .int 0])), (a2, .inl (cy 2, 2048, .inr (.inl f0)))] sz) [(a0, .inr (6, [.int 0, .int 0, .ref a1, .int 51, .int 1, .int 3, .int 1, .int 1, .ref a3])), (a1, .inr (5, [.ref cb, .int 81, .int 0, .ref a2, .int 9, .ref a4, .int 3, .ref a5, .int 1, .int 1, .ref a6, .int 6, .int 0, .int 1, .int 0])), (a2, .inl (cy 2, 2048, .inr (.inl u0)))]) (va_A [(a0, .inr (6, [.int 0, .int 0, .ref a1, .int 46, .int 1, .int 3, .int 1, .int 1, .ref a3])), (a1, .inr (5, [.ref cb, .int 81, .int 0, .ref a2, .int 7, .ref a4, .int 3, .ref a5, .int 1, .int 1, .ref a6, .int 6, .int 0, .int 1, .int 0])), (a2, .inl (cy 2, 2048, .inr (.inl f0)))] sz)) 0 0 (va_A [(a0, .inr (6, [.int 0, .int 0, .ref a1, .int 46, .int 1, .int 3, .int 1, .int 1, .ref a3])), (a1, .inr (5, [.ref cb, .int 81, .int 0, .ref a2, .int 7, .ref a4, .int 3, .ref a5, .int 1, .int 1, .ref a6, .int 6, .int 0, .int 1, .int 0])), (a2, .inl (cy 2, 2048, .inr (.inl f0)))] sz) := by
  refine Met.ofW (cc := cX6_readList) (maxL := 3) (ret := (some .int)) (by decide) rfl ?_
  intro p e s m args below meth c s₁ B hml hv
  obtain ⟨rfl, hsz, hP, hK, hD0, hN, hSK⟩ := hv
  have hx := B.exec
  have hb := B.bytes
  have hr := B.returns
  have hts := atoms_spec (ws := wsX6_readList) B.pre
  have hown : s.vm.findClass RX6 = some m.cls := findClass_of_methodNamed B.named
  have hlocks := B.notSynchronized
  subst hsz
  have hD := hD0.self (sz := s.heap.size)
  generalize hAe : va_A [(a0, .inr (6, [.int 0, .int 0, .ref a1, .int 46, .int 1, .int 3, .int 1, .int 1, .ref a3])), (a1, .inr (5, [.ref cb, .int 81, .int 0, .ref a2, .int 7, .ref a4, .int 3, .ref a5, .int 1, .int 1, .ref a6, .int 6, .int 0, .int 1, .int 0])), (a2, .inl (cy 2, 2048, .inr (.inl f0)))] s.heap.size = A at hD hSK ⊢
  have hA : ∀ q : Nat, s.heap.size ≤ q → A q := fun q h => by rw [← hAe]; exact Or.inr h
  have hS : va_S A s.heap s.heap [] := va_S.rf
  have hP : va_P (dC, dI) vwCl [(a0, .inr (6, [.int 0, .int 0, .ref a1, .int 46, .int 1, .int 3, .int 1, .int 1, .ref a3])), (a1, .inr (5, [.ref cb, .int 81, .int 0, .ref a2, .int 7, .ref a4, .int 3, .ref a5, .int 1, .int 1, .ref a6, .int 6, .int 0, .int 1, .int 0])), (a2, .inl (cy 2, 2048, .inr (.inl f0)))] s.heap := hP
  have hl := lv_entry ([.ref a0, .int 8]) (n := 3) (Nat.le_of_ble_eq_true rfl)
  rw [lg_entry_eq]
  generalize (lg_sl ([.ref a0, .int 8]) ++ List.replicate (3 - (lg_sl ([.ref a0, .int 8])).length) Slot.unset).toArray = ls at hl ⊢
  replace hl : lv_has ls 3 [(0, .ref a0), (1, .int 8)] := hl
  refine lv_aload_n hx hb dX6_readList_0 rfl (lv_at hl 0 rfl) ?_
  refine lv_iconst (v := 0) hx hb dX6_readList_1 (by decide) ?_
  refine lv_iload_n hx hb dX6_readList_2 rfl (lv_at hl 1 rfl) ?_
  have hPc := hP.sub (ws' := [(a0, .inr (6, [.int 0, .int 0, .ref a1, .int 46, .int 1, .int 3, .int 1, .int 1, .ref a3])), (a1, .inr (5, [.ref cb, .int 81, .int 0, .ref a2, .int 7, .ref a4, .int 3, .ref a5, .int 1, .int 1, .ref a6, .int 6, .int 0, .int 1, .int 0]))]) [0, 1] rfl
  have hDc := hD.sub (ws' := [(a0, .inr (6, [.int 0, .int 0, .ref a1, .int 46, .int 1, .int 3, .int 1, .int 1, .ref a3])), (a1, .inr (5, [.ref cb, .int 81, .int 0, .ref a2, .int 7, .ref a4, .int 3, .ref a5, .int 1, .int 1, .ref a6, .int 6, .int 0, .int 1, .int 0]))]) [0, 1] (by decide) rfl
  have hFc := va_free (wc := [(a0, .inr (6, [.int 0, .int 0, .ref a1, .int 46, .int 1, .int 3, .int 1, .int 1, .ref a3])), (a1, .inr (5, [.ref cb, .int 81, .int 0, .ref a2, .int 7, .ref a4, .int 3, .ref a5, .int 1, .int 1, .ref a6, .int 6, .int 0, .int 1, .int 0]))]) hD hS hA [0, 1] rfl
  refine va_calli (va_runV (As := [.int 0, .int 8]) (rest := []) ⟨hx, hb, hml, hown, hts⟩ (cc_384_X6_readNumber l dC dI cy s.heap.size cb a0 a1 a3 a2 a4 a5 a6) (cwV 2 hts gX6_readList_X6_readNumber rfl rfl rfl (by decide +kernel) ⟨Nat.le_of_ble_eq_true rfl, Nat.le_of_ble_eq_true rfl⟩) ⟨fun a U g mk q => by obtain ⟨q0, q1, qP, qK, qD, qN, qS⟩ := q; exact ⟨q0, q1, qP, va_K.moved (u := U) (U := U.calling g mk a) (Vm.Alike.refl U.vm) qK, qD, qN.same rfl, SK.moved (u := U) (U := U.calling g mk a) (Vm.Alike.refl U.vm) qS⟩, va_recv hK hPc (ci := 6) (q0 := 0) rfl rfl, fun U hU hW => ⟨rfl, by rw [hU], by rw [hU]; exact hPc, va_K.moved hW.alike hK, hDc.weaken (fun _ _ _ _ => trivial), hN.warm hW, by rw [hU]; exact ((hSK.kept hS.2.1).narrow hFc).moved hW.alike⟩⟩ rfl rfl hl.1 rfl (lv_room (Nat.le_of_ble_eq_true rfl)) dX6_readList_3 ⟨Nat.le_of_ble_eq_true rfl, Nat.le_of_ble_eq_true rfl⟩) hS (fun q _ h => hFc q h) hFc (fun r_1 u t H_2 locs ht hvm hw hB hz1 hk1 hS2 => ?_)
  obtain ⟨hP1, hK1, hD1⟩ := hB
  rw [ht] at hP1
  obtain rfl := hw
  obtain ⟨hP2, hD2⟩ := va_join (wr := [(a2, .inl (cy 2, 2048, .inr (.inl f0)))]) (w1 := [(a0, .inr (6, [.int 0, .int 0, .ref a1, .int 47, .int 1, .int 3, .int 1, .int 1, .ref a3])), (a1, .inr (5, [.ref cb, .int 81, .int 0, .ref a2, .int 7, .ref a4, .int 3, .ref a5, .int 1, .int 1, .ref a6, .int 6, .int 0, .int 1, .int 0]))]) hP hD [0, 1] [2] rfl rfl (by decide) (by decide) hk1 hFc hP1 hD1
  replace hP : va_P (dC, dI) vwCl [(a2, .inl (cy 2, 2048, .inr (.inl f0))), (a0, .inr (6, [.int 0, .int 0, .ref a1, .int 47, .int 1, .int 3, .int 1, .int 1, .ref a3])), (a1, .inr (5, [.ref cb, .int 81, .int 0, .ref a2, .int 7, .ref a4, .int 3, .ref a5, .int 1, .int 1, .ref a6, .int 6, .int 0, .int 1, .int 0]))] H_2 := hP2
  replace hD : va_D A [(a2, .inl (cy 2, 2048, .inr (.inl f0))), (a0, .inr (6, [.int 0, .int 0, .ref a1, .int 47, .int 1, .int 3, .int 1, .int 1, .ref a3])), (a1, .inr (5, [.ref cb, .int 81, .int 0, .ref a2, .int 7, .ref a4, .int 3, .ref a5, .int 1, .int 1, .ref a6, .int 6, .int 0, .int 1, .int 0]))] := hD2
  replace hS := hS2
  clear hP2 hD2 hS2
  clear hPc hDc hFc hP1 hD1 hK1 hk1 hz1 hvm ht
  refine W.widen (k := 0) (n := 0) (Nat.le_of_ble_eq_true rfl) (Nat.le_of_ble_eq_true rfl) ?_
  refine lv_istore_n (lv' := [(2, .int 2), (0, .ref a0), (1, .int 8)]) hx hb dX6_readList_6 rfl hl (by decide) rfl (fun ls hl2 => ?_)
  replace hl := hl2
  clear hl2
  refine lv_aload_n hx hb dX6_readList_7 rfl (lv_at hl 1 rfl) ?_
  refine lv_iload_n hx hb dX6_readList_8 rfl (lv_at hl 0 rfl) ?_
  refine lv_iconst (v := 1) hx hb dX6_readList_9 (by decide) ?_
  have hPc := hP.sub (ws' := [(a0, .inr (6, [.int 0, .int 0, .ref a1, .int 47, .int 1, .int 3, .int 1, .int 1, .ref a3])), (a1, .inr (5, [.ref cb, .int 81, .int 0, .ref a2, .int 7, .ref a4, .int 3, .ref a5, .int 1, .int 1, .ref a6, .int 6, .int 0, .int 1, .int 0])), (a2, .inl (cy 2, 2048, .inr (.inl f0)))]) [1, 2, 0] rfl
  have hDc := hD.sub (ws' := [(a0, .inr (6, [.int 0, .int 0, .ref a1, .int 47, .int 1, .int 3, .int 1, .int 1, .ref a3])), (a1, .inr (5, [.ref cb, .int 81, .int 0, .ref a2, .int 7, .ref a4, .int 3, .ref a5, .int 1, .int 1, .ref a6, .int 6, .int 0, .int 1, .int 0])), (a2, .inl (cy 2, 2048, .inr (.inl f0)))]) [1, 2, 0] (by decide) rfl
  have hFc := va_free (wc := [(a0, .inr (6, [.int 0, .int 0, .ref a1, .int 47, .int 1, .int 3, .int 1, .int 1, .ref a3])), (a1, .inr (5, [.ref cb, .int 81, .int 0, .ref a2, .int 7, .ref a4, .int 3, .ref a5, .int 1, .int 1, .ref a6, .int 6, .int 0, .int 1, .int 0])), (a2, .inl (cy 2, 2048, .inr (.inl f0)))]) hD hS hA [1, 2, 0] rfl
  refine va_callv (va_runV (As := [.int 2, .int 1]) (rest := []) ⟨hx, hb, hml, hown, hts⟩ (cc_386_X6_readTypes l dC dI cy H_2.size cb a0 a1 a2 a3 a4 a5 a6 f0 f0_0) (cwV 2 hts gX6_readList_X6_readTypes rfl rfl rfl (by decide +kernel) ⟨Nat.le_of_ble_eq_true rfl, Nat.le_of_ble_eq_true rfl⟩) ⟨fun a U g mk q => by obtain ⟨q0, q1, qP, qK, qD, qN, qS⟩ := q; exact ⟨q0, q1, qP, va_K.moved (u := U) (U := U.calling g mk a) (Vm.Alike.refl U.vm) qK, qD, qN.same rfl, SK.moved (u := U) (U := U.calling g mk a) (Vm.Alike.refl U.vm) qS⟩, va_recv hK hPc (ci := 6) (q0 := 0) rfl rfl, fun U hU hW => ⟨rfl, by rw [hU], by rw [hU]; exact hPc, va_K.moved hW.alike hK, hDc.weaken (fun _ _ _ _ => trivial), hN.warm hW, by rw [hU]; exact ((hSK.kept hS.2.1).narrow hFc).moved hW.alike⟩⟩ rfl rfl hl.1 rfl (lv_room (Nat.le_of_ble_eq_true rfl)) dX6_readList_10 ⟨Nat.le_of_ble_eq_true rfl, Nat.le_of_ble_eq_true rfl⟩) hS (fun q _ h => hFc q h) hFc (fun u t H_3 locs ht hvm hw hB hz1 hk1 hS2 => ?_)
  obtain ⟨g_4, rfl⟩ : ∃ z, z = u := ⟨_, rfl⟩
  obtain ⟨hP1, hK1, hD1⟩ := hB
  rw [ht] at hP1
  have kp_5 := hw
  obtain ⟨hP2, hD2⟩ := va_join (wr := []) (w1 := [(a0, .inr (6, [.int 0, .int 0, .ref a1, .int 51, .int 1, .int 3, .int 1, .int 1, .ref a3])), (a1, .inr (5, [.ref cb, .int 81, .int 0, .ref a2, .int 9, .ref a4, .int 3, .ref a5, .int 1, .int 1, .ref a6, .int 6, .int 0, .int 1, .int 0])), (a2, .inl (cy 2, 2048, .inr (.inl g_4)))]) hP hD [1, 2, 0] [] rfl rfl (by decide) (by decide) hk1 hFc hP1 hD1
  replace hP : va_P (dC, dI) vwCl [(a0, .inr (6, [.int 0, .int 0, .ref a1, .int 51, .int 1, .int 3, .int 1, .int 1, .ref a3])), (a1, .inr (5, [.ref cb, .int 81, .int 0, .ref a2, .int 9, .ref a4, .int 3, .ref a5, .int 1, .int 1, .ref a6, .int 6, .int 0, .int 1, .int 0])), (a2, .inl (cy 2, 2048, .inr (.inl g_4)))] H_3 := hP2
  replace hD : va_D A [(a0, .inr (6, [.int 0, .int 0, .ref a1, .int 51, .int 1, .int 3, .int 1, .int 1, .ref a3])), (a1, .inr (5, [.ref cb, .int 81, .int 0, .ref a2, .int 9, .ref a4, .int 3, .ref a5, .int 1, .int 1, .ref a6, .int 6, .int 0, .int 1, .int 0])), (a2, .inl (cy 2, 2048, .inr (.inl g_4)))] := hD2
  replace hS := hS2
  clear hP2 hD2 hS2
  clear hPc hDc hFc hP1 hD1 hK1 hk1 hz1 hvm ht
  refine W.widen (k := 0) (n := 0) (Nat.le_of_ble_eq_true rfl) (Nat.le_of_ble_eq_true rfl) ?_
  refine lv_iload_n hx hb dX6_readList_13 rfl (lv_at hl 0 rfl) ?_
  exact W.iret hx hb hr (fun t ht hW => ⟨⟨2, (g_4), rfl, ⟨rfl, kp_5⟩, by rw [ht]; exact hP, va_K.moved hW.alike hK, hD⟩, hS.F ht⟩) hS.2.2 dX6_readList_14

set_option maxHeartbeats 4000000 in
set_option maxRecDepth 100000 in
theorem cc_395_X6_readByte (l : Launch) (dC : Nat → ClassId) (dI : Nat → Nat → Nat) (cy : Nat → ClassId) (sz : Nat) (cb : Nat) (a0 : Nat) (a1 : Nat) (a2 : Nat) (a3 : Nat) (a4 : Nat) (a5 : Nat) (a6 : Nat)  : Met l yX6_readByte wsX6_readByte ({ frames := 0, cells := 0, slots := 0, locals := 0 }) (va_Pc [.ref a0] (fun U => U.heap.size = sz ∧ va_P (dC, dI) vwCl [(a0, .inr (6, [.int 0, .int 0, .ref a1, .int 51, .int 1, .int 3, .int 1, .int 1, .ref a2])), (a1, .inr (5, [.ref cb, .int 81, .int 0, .ref a3, .int 9, .ref a4, .int 3, .ref a5, .int 1, .int 1, .ref a6, .int 6, .int 0, .int 1, .int 0]))] U.heap ∧ va_K (dC, dI) vwCl (TYS cy) U ∧ va_D (fun _ => True) [(a0, .inr (6, [.int 0, .int 0, .ref a1, .int 51, .int 1, .int 3, .int 1, .int 1, .ref a2])), (a1, .inr (5, [.ref cb, .int 81, .int 0, .ref a3, .int 9, .ref a4, .int 3, .ref a5, .int 1, .int 1, .ref a6, .int 6, .int 0, .int 1, .int 0]))] ∧ NK U ∧ SK cb (va_A [(a0, .inr (6, [.int 0, .int 0, .ref a1, .int 51, .int 1, .int 3, .int 1, .int 1, .ref a2])), (a1, .inr (5, [.ref cb, .int 81, .int 0, .ref a3, .int 9, .ref a4, .int 3, .ref a5, .int 1, .int 1, .ref a6, .int 6, .int 0, .int 1, .int 0]))] sz) U U.heap)) (va_Qi (fun (r : Int32) (u : Unit) => r = 1) (fun u t => va_P (dC, dI) vwCl [(a0, .inr (6, [.int 0, .int 0, .ref a1, .int 52, .int 1, .int 3, .int 1, .int 1, .ref a2])), (a1, .inr (5, [.ref cb, .int 81, .int 0, .ref a3, .int 9, .ref a4, .int 3, .ref a5, .int 1, .int 1, .ref a6, .int 6, .int 0, .int 1, .int 0]))] t.heap ∧ va_K (dC, dI) vwCl (TYS cy) t ∧ va_D (va_A [(a0, .inr (6, [.int 0, .int 0, .ref a1, .int 51, .int 1, .int 3, .int 1, .int 1, .ref a2])), (a1, .inr (5, [.ref cb, .int 81, .int 0, .ref a3, .int 9, .ref a4, .int 3, .ref a5, .int 1, .int 1, .ref a6, .int 6, .int 0, .int 1, .int 0]))] sz) [(a0, .inr (6, [.int 0, .int 0, .ref a1, .int 52, .int 1, .int 3, .int 1, .int 1, .ref a2])), (a1, .inr (5, [.ref cb, .int 81, .int 0, .ref a3, .int 9, .ref a4, .int 3, .ref a5, .int 1, .int 1, .ref a6, .int 6, .int 0, .int 1, .int 0]))]) (va_A [(a0, .inr (6, [.int 0, .int 0, .ref a1, .int 51, .int 1, .int 3, .int 1, .int 1, .ref a2])), (a1, .inr (5, [.ref cb, .int 81, .int 0, .ref a3, .int 9, .ref a4, .int 3, .ref a5, .int 1, .int 1, .ref a6, .int 6, .int 0, .int 1, .int 0]))] sz)) 0 0 (va_A [(a0, .inr (6, [.int 0, .int 0, .ref a1, .int 51, .int 1, .int 3, .int 1, .int 1, .ref a2])), (a1, .inr (5, [.ref cb, .int 81, .int 0, .ref a3, .int 9, .ref a4, .int 3, .ref a5, .int 1, .int 1, .ref a6, .int 6, .int 0, .int 1, .int 0]))] sz) := by
  refine Met.ofW (cc := cX6_readByte) (maxL := 1) (ret := (some .int)) (by decide) rfl ?_
  intro p e s m args below meth c s₁ B hml hv
  obtain ⟨rfl, hsz, hP, hK, hD0, hN, hSK⟩ := hv
  have hx := B.exec
  have hb := B.bytes
  have hr := B.returns
  have hts := atoms_spec (ws := wsX6_readByte) B.pre
  have hown : s.vm.findClass RX6 = some m.cls := findClass_of_methodNamed B.named
  have hlocks := B.notSynchronized
  subst hsz
  have hD := hD0.self (sz := s.heap.size)
  generalize hAe : va_A [(a0, .inr (6, [.int 0, .int 0, .ref a1, .int 51, .int 1, .int 3, .int 1, .int 1, .ref a2])), (a1, .inr (5, [.ref cb, .int 81, .int 0, .ref a3, .int 9, .ref a4, .int 3, .ref a5, .int 1, .int 1, .ref a6, .int 6, .int 0, .int 1, .int 0]))] s.heap.size = A at hD hSK ⊢
  have hA : ∀ q : Nat, s.heap.size ≤ q → A q := fun q h => by rw [← hAe]; exact Or.inr h
  have hS : va_S A s.heap s.heap [] := va_S.rf
  have hP : va_P (dC, dI) vwCl [(a0, .inr (6, [.int 0, .int 0, .ref a1, .int 51, .int 1, .int 3, .int 1, .int 1, .ref a2])), (a1, .inr (5, [.ref cb, .int 81, .int 0, .ref a3, .int 9, .ref a4, .int 3, .ref a5, .int 1, .int 1, .ref a6, .int 6, .int 0, .int 1, .int 0]))] s.heap := hP
  have hl := lv_entry ([.ref a0]) (n := 1) (Nat.le_of_ble_eq_true rfl)
  rw [lg_entry_eq]
  generalize (lg_sl ([.ref a0]) ++ List.replicate (1 - (lg_sl ([.ref a0])).length) Slot.unset).toArray = ls at hl ⊢
  replace hl : lv_has ls 1 [(0, .ref a0)] := hl
  refine lv_aload_n hx hb dX6_readByte_0 rfl (lv_at hl 0 rfl) ?_
  refine va_get (D := (dC, dI)) (ci := 6) (v := .int 0) (C := RX6) (T := TX6) (N := 9) hx hb hts iw_X6_readByte_X6 hown hK hP 0 rfl rfl 1 (by decide) (hts _ m_X6_readByte_1) (fun _ h9 => h9) rfl dX6_readByte_1 ?_
  refine lv_if_eq (tgt := 9) hx hb dX6_readByte_4 (by decide) (fun _ => ?_) (fun h => absurd (by decide) h)
  refine lv_aload_n hx hb dX6_readByte_9 rfl (lv_at hl 0 rfl) ?_
  refine va_get (D := (dC, dI)) (ci := 6) (v := .int 51) (C := RX6) (T := TX6) (N := 9) hx hb hts iw_X6_readByte_X6 hown hK hP 0 rfl rfl 3 (by decide) (hts _ m_X6_readByte_2) (fun _ h9 => h9) rfl dX6_readByte_10 ?_
  refine lv_aload_n hx hb dX6_readByte_13 rfl (lv_at hl 0 rfl) ?_
  refine va_get (D := (dC, dI)) (ci := 6) (v := .ref a1) (C := RX6) (T := TX6) (N := 9) hx hb hts iw_X6_readByte_X6 hown hK hP 0 rfl rfl 2 (by decide) (hts _ m_X6_readByte_3) (fun _ h9 => h9) rfl dX6_readByte_14 ?_
  refine va_get (D := (dC, dI)) (ci := 5) (v := .int 81) (C := RX5) (T := TX5) (N := 15) hx hb hts iw_X6_readByte_X5 hown hK hP 1 rfl rfl 1 (by decide) (hts _ m_X6_readByte_4) (fun _ h9 => h9) rfl dX6_readByte_17 ?_
  refine lv_icmp_lt (tgt := 41) hx hb dX6_readByte_20 (by decide) (fun _ => ?_) (fun h => absurd (by decide) h)
  refine lv_aload_n hx hb dX6_readByte_41 rfl (lv_at hl 0 rfl) ?_
  refine va_get (D := (dC, dI)) (ci := 6) (v := .ref a1) (C := RX6) (T := TX6) (N := 9) hx hb hts iw_X6_readByte_X6 hown hK hP 0 rfl rfl 2 (by decide) (hts _ m_X6_readByte_3) (fun _ h9 => h9) rfl dX6_readByte_42 ?_
  refine va_get (D := (dC, dI)) (ci := 5) (v := .ref cb) (C := RX5) (T := TX5) (N := 15) hx hb hts iw_X6_readByte_X5 hown hK hP 1 rfl rfl 0 (by decide) (hts _ m_X6_readByte_6) (fun _ h9 => h9) rfl dX6_readByte_45 ?_
  refine lv_aload_n hx hb dX6_readByte_48 rfl (lv_at hl 0 rfl) ?_
  refine lv_dup hx hb dX6_readByte_49 rfl ?_
  refine va_get (D := (dC, dI)) (ci := 6) (v := .int 51) (C := RX6) (T := TX6) (N := 9) hx hb hts iw_X6_readByte_X6 hown hK hP 0 rfl rfl 3 (by decide) (hts _ m_X6_readByte_2) (fun _ h9 => h9) rfl dX6_readByte_50 ?_
  refine lv_dup_x1 hx hb dX6_readByte_53 rfl rfl ?_
  refine lv_iconst (v := 1) hx hb dX6_readByte_54 (by decide) ?_
  refine lv_iadd hx hb dX6_readByte_55 ?_
  refine lv_topi (fun z_1 ez_1 => ?_)
  obtain rfl : z_1 = 52 := ez_1.trans (by decide)
  clear ez_1
  refine va_put (D := (dC, dI)) (ci := 6) (v := .int 52) (ty := .int) (C := RX6) (T := TX6) (N := 9) hx hb hts iw_X6_readByte_X6 tyX6 tyX6_ok nmX6 hown hK hP hD hS 0 rfl rfl 3 (by decide) (hts _ m_X6_readByte_2) (fun _ h9 => h9) rfl (by decide +kernel) rfl rfl (Nat.le_of_ble_eq_true rfl) dX6_readByte_56 (fun H_2 locs hP2 hD2 hS2 => ?_)
  replace hP : va_P (dC, dI) vwCl [(a0, .inr (6, [.int 0, .int 0, .ref a1, .int 52, .int 1, .int 3, .int 1, .int 1, .ref a2])), (a1, .inr (5, [.ref cb, .int 81, .int 0, .ref a3, .int 9, .ref a4, .int 3, .ref a5, .int 1, .int 1, .ref a6, .int 6, .int 0, .int 1, .int 0]))] H_2 := hP2
  replace hD : va_D A [(a0, .inr (6, [.int 0, .int 0, .ref a1, .int 52, .int 1, .int 3, .int 1, .int 1, .ref a2])), (a1, .inr (5, [.ref cb, .int 81, .int 0, .ref a3, .int 9, .ref a4, .int 3, .ref a5, .int 1, .int 1, .ref a6, .int 6, .int 0, .int 1, .int 0]))] := hD2
  replace hS := hS2
  clear hP2 hD2 hS2
  refine va_tb (v := .int 1) hx hb hSK.2 hS (by unfold vp_in; decide) rfl dX6_readByte_59 ?_
  refine lv_sipush (v := 255) hx hb dX6_readByte_60 (by decide) ?_
  refine lv_iand hx hb dX6_readByte_63 ?_
  refine lv_topi (fun z_3 ez_3 => ?_)
  obtain rfl : z_3 = 1 := ez_3.trans (by decide)
  clear ez_3
  exact W.iret hx hb hr (fun t ht hW => ⟨⟨1, (), rfl, rfl, by rw [ht]; exact hP, va_K.moved hW.alike hK, hD⟩, hS.F ht⟩) hS.2.2 dX6_readByte_64

set_option maxHeartbeats 4000000 in
set_option maxRecDepth 100000 in
theorem cc_394_X6_readNumber (l : Launch) (dC : Nat → ClassId) (dI : Nat → Nat → Nat) (cy : Nat → ClassId) (sz : Nat) (cb : Nat) (a0 : Nat) (a1 : Nat) (a2 : Nat) (a3 : Nat) (a4 : Nat) (a5 : Nat) (a6 : Nat)  : Met l yX6_readNumber wsX6_readNumber ({ frames := 1, cells := 0, slots := 0, locals := 20 }) (va_Pc [.ref a0, .int 0, .int 8] (fun U => U.heap.size = sz ∧ va_P (dC, dI) vwCl [(a0, .inr (6, [.int 0, .int 0, .ref a1, .int 51, .int 1, .int 3, .int 1, .int 1, .ref a2])), (a1, .inr (5, [.ref cb, .int 81, .int 0, .ref a3, .int 9, .ref a4, .int 3, .ref a5, .int 1, .int 1, .ref a6, .int 6, .int 0, .int 1, .int 0]))] U.heap ∧ va_K (dC, dI) vwCl (TYS cy) U ∧ va_D (fun _ => True) [(a0, .inr (6, [.int 0, .int 0, .ref a1, .int 51, .int 1, .int 3, .int 1, .int 1, .ref a2])), (a1, .inr (5, [.ref cb, .int 81, .int 0, .ref a3, .int 9, .ref a4, .int 3, .ref a5, .int 1, .int 1, .ref a6, .int 6, .int 0, .int 1, .int 0]))] ∧ NK U ∧ SK cb (va_A [(a0, .inr (6, [.int 0, .int 0, .ref a1, .int 51, .int 1, .int 3, .int 1, .int 1, .ref a2])), (a1, .inr (5, [.ref cb, .int 81, .int 0, .ref a3, .int 9, .ref a4, .int 3, .ref a5, .int 1, .int 1, .ref a6, .int 6, .int 0, .int 1, .int 0]))] sz) U U.heap)) (va_Qi (fun (r : Int32) (u : Unit) => r = 1) (fun u t => va_P (dC, dI) vwCl [(a0, .inr (6, [.int 0, .int 0, .ref a1, .int 52, .int 1, .int 3, .int 1, .int 1, .ref a2])), (a1, .inr (5, [.ref cb, .int 81, .int 0, .ref a3, .int 9, .ref a4, .int 3, .ref a5, .int 1, .int 1, .ref a6, .int 6, .int 0, .int 1, .int 0]))] t.heap ∧ va_K (dC, dI) vwCl (TYS cy) t ∧ va_D (va_A [(a0, .inr (6, [.int 0, .int 0, .ref a1, .int 51, .int 1, .int 3, .int 1, .int 1, .ref a2])), (a1, .inr (5, [.ref cb, .int 81, .int 0, .ref a3, .int 9, .ref a4, .int 3, .ref a5, .int 1, .int 1, .ref a6, .int 6, .int 0, .int 1, .int 0]))] sz) [(a0, .inr (6, [.int 0, .int 0, .ref a1, .int 52, .int 1, .int 3, .int 1, .int 1, .ref a2])), (a1, .inr (5, [.ref cb, .int 81, .int 0, .ref a3, .int 9, .ref a4, .int 3, .ref a5, .int 1, .int 1, .ref a6, .int 6, .int 0, .int 1, .int 0]))]) (va_A [(a0, .inr (6, [.int 0, .int 0, .ref a1, .int 51, .int 1, .int 3, .int 1, .int 1, .ref a2])), (a1, .inr (5, [.ref cb, .int 81, .int 0, .ref a3, .int 9, .ref a4, .int 3, .ref a5, .int 1, .int 1, .ref a6, .int 6, .int 0, .int 1, .int 0]))] sz)) 0 0 (va_A [(a0, .inr (6, [.int 0, .int 0, .ref a1, .int 51, .int 1, .int 3, .int 1, .int 1, .ref a2])), (a1, .inr (5, [.ref cb, .int 81, .int 0, .ref a3, .int 9, .ref a4, .int 3, .ref a5, .int 1, .int 1, .ref a6, .int 6, .int 0, .int 1, .int 0]))] sz) := by
  refine Met.ofW (cc := cX6_readNumber) (maxL := 5) (ret := (some .int)) (by decide) rfl ?_
  intro p e s m args below meth c s₁ B hml hv
  obtain ⟨rfl, hsz, hP, hK, hD0, hN, hSK⟩ := hv
  have hx := B.exec
  have hb := B.bytes
  have hr := B.returns
  have hts := atoms_spec (ws := wsX6_readNumber) B.pre
  have hown : s.vm.findClass RX6 = some m.cls := findClass_of_methodNamed B.named
  have hlocks := B.notSynchronized
  subst hsz
  have hD := hD0.self (sz := s.heap.size)
  generalize hAe : va_A [(a0, .inr (6, [.int 0, .int 0, .ref a1, .int 51, .int 1, .int 3, .int 1, .int 1, .ref a2])), (a1, .inr (5, [.ref cb, .int 81, .int 0, .ref a3, .int 9, .ref a4, .int 3, .ref a5, .int 1, .int 1, .ref a6, .int 6, .int 0, .int 1, .int 0]))] s.heap.size = A at hD hSK ⊢
  have hA : ∀ q : Nat, s.heap.size ≤ q → A q := fun q h => by rw [← hAe]; exact Or.inr h
  have hS : va_S A s.heap s.heap [] := va_S.rf
  have hP : va_P (dC, dI) vwCl [(a0, .inr (6, [.int 0, .int 0, .ref a1, .int 51, .int 1, .int 3, .int 1, .int 1, .ref a2])), (a1, .inr (5, [.ref cb, .int 81, .int 0, .ref a3, .int 9, .ref a4, .int 3, .ref a5, .int 1, .int 1, .ref a6, .int 6, .int 0, .int 1, .int 0]))] s.heap := hP
  have hl := lv_entry ([.ref a0, .int 0, .int 8]) (n := 5) (Nat.le_of_ble_eq_true rfl)
  rw [lg_entry_eq]
  generalize (lg_sl ([.ref a0, .int 0, .int 8]) ++ List.replicate (5 - (lg_sl ([.ref a0, .int 0, .int 8])).length) Slot.unset).toArray = ls at hl ⊢
  replace hl : lv_has ls 5 [(0, .ref a0), (1, .int 0), (2, .int 8)] := hl
  refine lv_aload_n hx hb dX6_readNumber_0 rfl (lv_at hl 0 rfl) ?_
  refine va_get (D := (dC, dI)) (ci := 6) (v := .int 51) (C := RX6) (T := TX6) (N := 9) hx hb hts iw_X6_readNumber_X6 hown hK hP 0 rfl rfl 3 (by decide) (hts _ m_X6_readNumber_1) (fun _ h9 => h9) rfl dX6_readNumber_1 ?_
  refine lv_istore_n (lv' := [(3, .int 51), (0, .ref a0), (1, .int 0), (2, .int 8)]) hx hb dX6_readNumber_4 rfl hl (by decide) rfl (fun ls hl2 => ?_)
  replace hl := hl2
  clear hl2
  refine lv_aload_n hx hb dX6_readNumber_5 rfl (lv_at hl 1 rfl) ?_
  have hPc := hP.sub (ws' := [(a0, .inr (6, [.int 0, .int 0, .ref a1, .int 51, .int 1, .int 3, .int 1, .int 1, .ref a2])), (a1, .inr (5, [.ref cb, .int 81, .int 0, .ref a3, .int 9, .ref a4, .int 3, .ref a5, .int 1, .int 1, .ref a6, .int 6, .int 0, .int 1, .int 0]))]) [0, 1] rfl
  have hDc := hD.sub (ws' := [(a0, .inr (6, [.int 0, .int 0, .ref a1, .int 51, .int 1, .int 3, .int 1, .int 1, .ref a2])), (a1, .inr (5, [.ref cb, .int 81, .int 0, .ref a3, .int 9, .ref a4, .int 3, .ref a5, .int 1, .int 1, .ref a6, .int 6, .int 0, .int 1, .int 0]))]) [0, 1] (by decide) rfl
  have hFc := va_free (wc := [(a0, .inr (6, [.int 0, .int 0, .ref a1, .int 51, .int 1, .int 3, .int 1, .int 1, .ref a2])), (a1, .inr (5, [.ref cb, .int 81, .int 0, .ref a3, .int 9, .ref a4, .int 3, .ref a5, .int 1, .int 1, .ref a6, .int 6, .int 0, .int 1, .int 0]))]) hD hS hA [0, 1] rfl
  refine va_calli (va_runV (As := []) (rest := []) ⟨hx, hb, hml, hown, hts⟩ (cc_395_X6_readByte l dC dI cy s.heap.size cb a0 a1 a2 a3 a4 a5 a6) (cwV 0 hts gX6_readNumber_X6_readByte rfl rfl rfl (by decide +kernel) ⟨Nat.le_of_ble_eq_true rfl, Nat.le_of_ble_eq_true rfl⟩) ⟨fun a U g mk q => by obtain ⟨q0, q1, qP, qK, qD, qN, qS⟩ := q; exact ⟨q0, q1, qP, va_K.moved (u := U) (U := U.calling g mk a) (Vm.Alike.refl U.vm) qK, qD, qN.same rfl, SK.moved (u := U) (U := U.calling g mk a) (Vm.Alike.refl U.vm) qS⟩, va_recv hK hPc (ci := 6) (q0 := 0) rfl rfl, fun U hU hW => ⟨rfl, by rw [hU], by rw [hU]; exact hPc, va_K.moved hW.alike hK, hDc.weaken (fun _ _ _ _ => trivial), hN.warm hW, by rw [hU]; exact ((hSK.kept hS.2.1).narrow hFc).moved hW.alike⟩⟩ rfl rfl hl.1 rfl (lv_room (Nat.le_of_ble_eq_true rfl)) dX6_readNumber_6 ⟨Nat.le_of_ble_eq_true rfl, Nat.le_of_ble_eq_true rfl⟩) hS (fun q _ h => hFc q h) hFc (fun r_1 u t H_2 locs ht hvm hw hB hz1 hk1 hS2 => ?_)
  obtain ⟨hP1, hK1, hD1⟩ := hB
  rw [ht] at hP1
  obtain rfl := hw
  obtain ⟨hP2, hD2⟩ := va_join (wr := []) (w1 := [(a0, .inr (6, [.int 0, .int 0, .ref a1, .int 52, .int 1, .int 3, .int 1, .int 1, .ref a2])), (a1, .inr (5, [.ref cb, .int 81, .int 0, .ref a3, .int 9, .ref a4, .int 3, .ref a5, .int 1, .int 1, .ref a6, .int 6, .int 0, .int 1, .int 0]))]) hP hD [0, 1] [] rfl rfl (by decide) (by decide) hk1 hFc hP1 hD1
  replace hP : va_P (dC, dI) vwCl [(a0, .inr (6, [.int 0, .int 0, .ref a1, .int 52, .int 1, .int 3, .int 1, .int 1, .ref a2])), (a1, .inr (5, [.ref cb, .int 81, .int 0, .ref a3, .int 9, .ref a4, .int 3, .ref a5, .int 1, .int 1, .ref a6, .int 6, .int 0, .int 1, .int 0]))] H_2 := hP2
  replace hD : va_D A [(a0, .inr (6, [.int 0, .int 0, .ref a1, .int 52, .int 1, .int 3, .int 1, .int 1, .ref a2])), (a1, .inr (5, [.ref cb, .int 81, .int 0, .ref a3, .int 9, .ref a4, .int 3, .ref a5, .int 1, .int 1, .ref a6, .int 6, .int 0, .int 1, .int 0]))] := hD2
  replace hS := hS2
  clear hP2 hD2 hS2
  clear hPc hDc hFc hP1 hD1 hK1 hk1 hz1 hvm ht
  refine W.widen (k := 0) (n := 0) (Nat.le_of_ble_eq_true rfl) (Nat.le_of_ble_eq_true rfl) ?_
  refine lv_istore (lv' := [(4, .int 1), (3, .int 51), (0, .ref a0), (1, .int 0), (2, .int 8)]) hx hb dX6_readNumber_9 hl (by decide) rfl (fun ls hl2 => ?_)
  replace hl := hl2
  clear hl2
  refine lv_iload hx hb dX6_readNumber_11 (lv_at hl 0 rfl) ?_
  refine lv_iload_n hx hb dX6_readNumber_13 rfl (lv_at hl 3 rfl) ?_
  refine lv_icmp_lt (tgt := 23) hx hb dX6_readNumber_14 (by decide) (fun h => absurd h (by decide)) (fun _ => ?_)
  refine lv_iload hx hb dX6_readNumber_17 (lv_at hl 0 rfl) ?_
  refine lv_iload_n hx hb dX6_readNumber_19 rfl (lv_at hl 4 rfl) ?_
  refine lv_icmp_le (tgt := 29) hx hb dX6_readNumber_20 (by decide) (fun _ => ?_) (fun h => absurd (by decide) h)
  refine lv_aload_n hx hb dX6_readNumber_29 rfl (lv_at hl 2 rfl) ?_
  refine va_get (D := (dC, dI)) (ci := 6) (v := .int 0) (C := RX6) (T := TX6) (N := 9) hx hb hts iw_X6_readNumber_X6 hown hK hP 0 rfl rfl 1 (by decide) (hts _ m_X6_readNumber_2) (fun _ h9 => h9) rfl dX6_readNumber_30 ?_
  refine lv_if_ne (tgt := 41) hx hb dX6_readNumber_33 (by decide) (fun h => absurd (by decide) h) (fun _ => ?_)
  refine lv_iload hx hb dX6_readNumber_36 (lv_at hl 0 rfl) ?_
  refine lv_goto (tgt := 42) hx hb dX6_readNumber_38 (by decide) ?_
  exact W.iret hx hb hr (fun t ht hW => ⟨⟨1, (), rfl, rfl, by rw [ht]; exact hP, va_K.moved hW.alike hK, hD⟩, hS.F ht⟩) hS.2.2 dX6_readNumber_42

set_option maxHeartbeats 4000000 in
set_option maxRecDepth 100000 in
theorem cc_398_X6_readByte (l : Launch) (dC : Nat → ClassId) (dI : Nat → Nat → Nat) (cy : Nat → ClassId) (sz : Nat) (cb : Nat) (a0 : Nat) (a1 : Nat) (a2 : Nat) (a3 : Nat) (a4 : Nat) (a5 : Nat) (a6 : Nat)  : Met l yX6_readByte wsX6_readByte ({ frames := 0, cells := 0, slots := 0, locals := 0 }) (va_Pc [.ref a0] (fun U => U.heap.size = sz ∧ va_P (dC, dI) vwCl [(a0, .inr (6, [.int 0, .int 0, .ref a1, .int 52, .int 1, .int 3, .int 1, .int 1, .ref a2])), (a1, .inr (5, [.ref cb, .int 81, .int 0, .ref a3, .int 9, .ref a4, .int 3, .ref a5, .int 1, .int 1, .ref a6, .int 6, .int 0, .int 1, .int 0]))] U.heap ∧ va_K (dC, dI) vwCl (TYS cy) U ∧ va_D (fun _ => True) [(a0, .inr (6, [.int 0, .int 0, .ref a1, .int 52, .int 1, .int 3, .int 1, .int 1, .ref a2])), (a1, .inr (5, [.ref cb, .int 81, .int 0, .ref a3, .int 9, .ref a4, .int 3, .ref a5, .int 1, .int 1, .ref a6, .int 6, .int 0, .int 1, .int 0]))] ∧ NK U ∧ SK cb (va_A [(a0, .inr (6, [.int 0, .int 0, .ref a1, .int 52, .int 1, .int 3, .int 1, .int 1, .ref a2])), (a1, .inr (5, [.ref cb, .int 81, .int 0, .ref a3, .int 9, .ref a4, .int 3, .ref a5, .int 1, .int 1, .ref a6, .int 6, .int 0, .int 1, .int 0]))] sz) U U.heap)) (va_Qi (fun (r : Int32) (u : Unit) => r = 6) (fun u t => va_P (dC, dI) vwCl [(a0, .inr (6, [.int 0, .int 0, .ref a1, .int 53, .int 1, .int 3, .int 1, .int 1, .ref a2])), (a1, .inr (5, [.ref cb, .int 81, .int 0, .ref a3, .int 9, .ref a4, .int 3, .ref a5, .int 1, .int 1, .ref a6, .int 6, .int 0, .int 1, .int 0]))] t.heap ∧ va_K (dC, dI) vwCl (TYS cy) t ∧ va_D (va_A [(a0, .inr (6, [.int 0, .int 0, .ref a1, .int 52, .int 1, .int 3, .int 1, .int 1, .ref a2])), (a1, .inr (5, [.ref cb, .int 81, .int 0, .ref a3, .int 9, .ref a4, .int 3, .ref a5, .int 1, .int 1, .ref a6, .int 6, .int 0, .int 1, .int 0]))] sz) [(a0, .inr (6, [.int 0, .int 0, .ref a1, .int 53, .int 1, .int 3, .int 1, .int 1, .ref a2])), (a1, .inr (5, [.ref cb, .int 81, .int 0, .ref a3, .int 9, .ref a4, .int 3, .ref a5, .int 1, .int 1, .ref a6, .int 6, .int 0, .int 1, .int 0]))]) (va_A [(a0, .inr (6, [.int 0, .int 0, .ref a1, .int 52, .int 1, .int 3, .int 1, .int 1, .ref a2])), (a1, .inr (5, [.ref cb, .int 81, .int 0, .ref a3, .int 9, .ref a4, .int 3, .ref a5, .int 1, .int 1, .ref a6, .int 6, .int 0, .int 1, .int 0]))] sz)) 0 0 (va_A [(a0, .inr (6, [.int 0, .int 0, .ref a1, .int 52, .int 1, .int 3, .int 1, .int 1, .ref a2])), (a1, .inr (5, [.ref cb, .int 81, .int 0, .ref a3, .int 9, .ref a4, .int 3, .ref a5, .int 1, .int 1, .ref a6, .int 6, .int 0, .int 1, .int 0]))] sz) := by
  refine Met.ofW (cc := cX6_readByte) (maxL := 1) (ret := (some .int)) (by decide) rfl ?_
  intro p e s m args below meth c s₁ B hml hv
  obtain ⟨rfl, hsz, hP, hK, hD0, hN, hSK⟩ := hv
  have hx := B.exec
  have hb := B.bytes
  have hr := B.returns
  have hts := atoms_spec (ws := wsX6_readByte) B.pre
  have hown : s.vm.findClass RX6 = some m.cls := findClass_of_methodNamed B.named
  have hlocks := B.notSynchronized
  subst hsz
  have hD := hD0.self (sz := s.heap.size)
  generalize hAe : va_A [(a0, .inr (6, [.int 0, .int 0, .ref a1, .int 52, .int 1, .int 3, .int 1, .int 1, .ref a2])), (a1, .inr (5, [.ref cb, .int 81, .int 0, .ref a3, .int 9, .ref a4, .int 3, .ref a5, .int 1, .int 1, .ref a6, .int 6, .int 0, .int 1, .int 0]))] s.heap.size = A at hD hSK ⊢
  have hA : ∀ q : Nat, s.heap.size ≤ q → A q := fun q h => by rw [← hAe]; exact Or.inr h
  have hS : va_S A s.heap s.heap [] := va_S.rf
  have hP : va_P (dC, dI) vwCl [(a0, .inr (6, [.int 0, .int 0, .ref a1, .int 52, .int 1, .int 3, .int 1, .int 1, .ref a2])), (a1, .inr (5, [.ref cb, .int 81, .int 0, .ref a3, .int 9, .ref a4, .int 3, .ref a5, .int 1, .int 1, .ref a6, .int 6, .int 0, .int 1, .int 0]))] s.heap := hP
  have hl := lv_entry ([.ref a0]) (n := 1) (Nat.le_of_ble_eq_true rfl)
  rw [lg_entry_eq]
  generalize (lg_sl ([.ref a0]) ++ List.replicate (1 - (lg_sl ([.ref a0])).length) Slot.unset).toArray = ls at hl ⊢
  replace hl : lv_has ls 1 [(0, .ref a0)] := hl
  refine lv_aload_n hx hb dX6_readByte_0 rfl (lv_at hl 0 rfl) ?_
  refine va_get (D := (dC, dI)) (ci := 6) (v := .int 0) (C := RX6) (T := TX6) (N := 9) hx hb hts iw_X6_readByte_X6 hown hK hP 0 rfl rfl 1 (by decide) (hts _ m_X6_readByte_1) (fun _ h9 => h9) rfl dX6_readByte_1 ?_
  refine lv_if_eq (tgt := 9) hx hb dX6_readByte_4 (by decide) (fun _ => ?_) (fun h => absurd (by decide) h)
  refine lv_aload_n hx hb dX6_readByte_9 rfl (lv_at hl 0 rfl) ?_
  refine va_get (D := (dC, dI)) (ci := 6) (v := .int 52) (C := RX6) (T := TX6) (N := 9) hx hb hts iw_X6_readByte_X6 hown hK hP 0 rfl rfl 3 (by decide) (hts _ m_X6_readByte_2) (fun _ h9 => h9) rfl dX6_readByte_10 ?_
  refine lv_aload_n hx hb dX6_readByte_13 rfl (lv_at hl 0 rfl) ?_
  refine va_get (D := (dC, dI)) (ci := 6) (v := .ref a1) (C := RX6) (T := TX6) (N := 9) hx hb hts iw_X6_readByte_X6 hown hK hP 0 rfl rfl 2 (by decide) (hts _ m_X6_readByte_3) (fun _ h9 => h9) rfl dX6_readByte_14 ?_
  refine va_get (D := (dC, dI)) (ci := 5) (v := .int 81) (C := RX5) (T := TX5) (N := 15) hx hb hts iw_X6_readByte_X5 hown hK hP 1 rfl rfl 1 (by decide) (hts _ m_X6_readByte_4) (fun _ h9 => h9) rfl dX6_readByte_17 ?_
  refine lv_icmp_lt (tgt := 41) hx hb dX6_readByte_20 (by decide) (fun _ => ?_) (fun h => absurd (by decide) h)
  refine lv_aload_n hx hb dX6_readByte_41 rfl (lv_at hl 0 rfl) ?_
  refine va_get (D := (dC, dI)) (ci := 6) (v := .ref a1) (C := RX6) (T := TX6) (N := 9) hx hb hts iw_X6_readByte_X6 hown hK hP 0 rfl rfl 2 (by decide) (hts _ m_X6_readByte_3) (fun _ h9 => h9) rfl dX6_readByte_42 ?_
  refine va_get (D := (dC, dI)) (ci := 5) (v := .ref cb) (C := RX5) (T := TX5) (N := 15) hx hb hts iw_X6_readByte_X5 hown hK hP 1 rfl rfl 0 (by decide) (hts _ m_X6_readByte_6) (fun _ h9 => h9) rfl dX6_readByte_45 ?_
  refine lv_aload_n hx hb dX6_readByte_48 rfl (lv_at hl 0 rfl) ?_
  refine lv_dup hx hb dX6_readByte_49 rfl ?_
  refine va_get (D := (dC, dI)) (ci := 6) (v := .int 52) (C := RX6) (T := TX6) (N := 9) hx hb hts iw_X6_readByte_X6 hown hK hP 0 rfl rfl 3 (by decide) (hts _ m_X6_readByte_2) (fun _ h9 => h9) rfl dX6_readByte_50 ?_
  refine lv_dup_x1 hx hb dX6_readByte_53 rfl rfl ?_
  refine lv_iconst (v := 1) hx hb dX6_readByte_54 (by decide) ?_
  refine lv_iadd hx hb dX6_readByte_55 ?_
  refine lv_topi (fun z_1 ez_1 => ?_)
  obtain rfl : z_1 = 53 := ez_1.trans (by decide)
  clear ez_1
  refine va_put (D := (dC, dI)) (ci := 6) (v := .int 53) (ty := .int) (C := RX6) (T := TX6) (N := 9) hx hb hts iw_X6_readByte_X6 tyX6 tyX6_ok nmX6 hown hK hP hD hS 0 rfl rfl 3 (by decide) (hts _ m_X6_readByte_2) (fun _ h9 => h9) rfl (by decide +kernel) rfl rfl (Nat.le_of_ble_eq_true rfl) dX6_readByte_56 (fun H_2 locs hP2 hD2 hS2 => ?_)
  replace hP : va_P (dC, dI) vwCl [(a0, .inr (6, [.int 0, .int 0, .ref a1, .int 53, .int 1, .int 3, .int 1, .int 1, .ref a2])), (a1, .inr (5, [.ref cb, .int 81, .int 0, .ref a3, .int 9, .ref a4, .int 3, .ref a5, .int 1, .int 1, .ref a6, .int 6, .int 0, .int 1, .int 0]))] H_2 := hP2
  replace hD : va_D A [(a0, .inr (6, [.int 0, .int 0, .ref a1, .int 53, .int 1, .int 3, .int 1, .int 1, .ref a2])), (a1, .inr (5, [.ref cb, .int 81, .int 0, .ref a3, .int 9, .ref a4, .int 3, .ref a5, .int 1, .int 1, .ref a6, .int 6, .int 0, .int 1, .int 0]))] := hD2
  replace hS := hS2
  clear hP2 hD2 hS2
  refine va_tb (v := .int 6) hx hb hSK.2 hS (by unfold vp_in; decide) rfl dX6_readByte_59 ?_
  refine lv_sipush (v := 255) hx hb dX6_readByte_60 (by decide) ?_
  refine lv_iand hx hb dX6_readByte_63 ?_
  refine lv_topi (fun z_3 ez_3 => ?_)
  obtain rfl : z_3 = 6 := ez_3.trans (by decide)
  clear ez_3
  exact W.iret hx hb hr (fun t ht hW => ⟨⟨6, (), rfl, rfl, by rw [ht]; exact hP, va_K.moved hW.alike hK, hD⟩, hS.F ht⟩) hS.2.2 dX6_readByte_64

set_option maxHeartbeats 4000000 in
set_option maxRecDepth 100000 in
theorem cc_399_X6_readByte (l : Launch) (dC : Nat → ClassId) (dI : Nat → Nat → Nat) (cy : Nat → ClassId) (sz : Nat) (cb : Nat) (a0 : Nat) (a1 : Nat) (a2 : Nat) (a3 : Nat) (a4 : Nat) (a5 : Nat) (a6 : Nat)  : Met l yX6_readByte wsX6_readByte ({ frames := 0, cells := 0, slots := 0, locals := 0 }) (va_Pc [.ref a0] (fun U => U.heap.size = sz ∧ va_P (dC, dI) vwCl [(a0, .inr (6, [.int 0, .int 0, .ref a1, .int 53, .int 1, .int 3, .int 1, .int 1, .ref a2])), (a1, .inr (5, [.ref cb, .int 81, .int 0, .ref a3, .int 9, .ref a4, .int 3, .ref a5, .int 1, .int 1, .ref a6, .int 6, .int 0, .int 1, .int 0]))] U.heap ∧ va_K (dC, dI) vwCl (TYS cy) U ∧ va_D (fun _ => True) [(a0, .inr (6, [.int 0, .int 0, .ref a1, .int 53, .int 1, .int 3, .int 1, .int 1, .ref a2])), (a1, .inr (5, [.ref cb, .int 81, .int 0, .ref a3, .int 9, .ref a4, .int 3, .ref a5, .int 1, .int 1, .ref a6, .int 6, .int 0, .int 1, .int 0]))] ∧ NK U ∧ SK cb (va_A [(a0, .inr (6, [.int 0, .int 0, .ref a1, .int 53, .int 1, .int 3, .int 1, .int 1, .ref a2])), (a1, .inr (5, [.ref cb, .int 81, .int 0, .ref a3, .int 9, .ref a4, .int 3, .ref a5, .int 1, .int 1, .ref a6, .int 6, .int 0, .int 1, .int 0]))] sz) U U.heap)) (va_Qi (fun (r : Int32) (u : Unit) => r = 0) (fun u t => va_P (dC, dI) vwCl [(a0, .inr (6, [.int 0, .int 0, .ref a1, .int 54, .int 1, .int 3, .int 1, .int 1, .ref a2])), (a1, .inr (5, [.ref cb, .int 81, .int 0, .ref a3, .int 9, .ref a4, .int 3, .ref a5, .int 1, .int 1, .ref a6, .int 6, .int 0, .int 1, .int 0]))] t.heap ∧ va_K (dC, dI) vwCl (TYS cy) t ∧ va_D (va_A [(a0, .inr (6, [.int 0, .int 0, .ref a1, .int 53, .int 1, .int 3, .int 1, .int 1, .ref a2])), (a1, .inr (5, [.ref cb, .int 81, .int 0, .ref a3, .int 9, .ref a4, .int 3, .ref a5, .int 1, .int 1, .ref a6, .int 6, .int 0, .int 1, .int 0]))] sz) [(a0, .inr (6, [.int 0, .int 0, .ref a1, .int 54, .int 1, .int 3, .int 1, .int 1, .ref a2])), (a1, .inr (5, [.ref cb, .int 81, .int 0, .ref a3, .int 9, .ref a4, .int 3, .ref a5, .int 1, .int 1, .ref a6, .int 6, .int 0, .int 1, .int 0]))]) (va_A [(a0, .inr (6, [.int 0, .int 0, .ref a1, .int 53, .int 1, .int 3, .int 1, .int 1, .ref a2])), (a1, .inr (5, [.ref cb, .int 81, .int 0, .ref a3, .int 9, .ref a4, .int 3, .ref a5, .int 1, .int 1, .ref a6, .int 6, .int 0, .int 1, .int 0]))] sz)) 0 0 (va_A [(a0, .inr (6, [.int 0, .int 0, .ref a1, .int 53, .int 1, .int 3, .int 1, .int 1, .ref a2])), (a1, .inr (5, [.ref cb, .int 81, .int 0, .ref a3, .int 9, .ref a4, .int 3, .ref a5, .int 1, .int 1, .ref a6, .int 6, .int 0, .int 1, .int 0]))] sz) := by
  refine Met.ofW (cc := cX6_readByte) (maxL := 1) (ret := (some .int)) (by decide) rfl ?_
  intro p e s m args below meth c s₁ B hml hv
  obtain ⟨rfl, hsz, hP, hK, hD0, hN, hSK⟩ := hv
  have hx := B.exec
  have hb := B.bytes
  have hr := B.returns
  have hts := atoms_spec (ws := wsX6_readByte) B.pre
  have hown : s.vm.findClass RX6 = some m.cls := findClass_of_methodNamed B.named
  have hlocks := B.notSynchronized
  subst hsz
  have hD := hD0.self (sz := s.heap.size)
  generalize hAe : va_A [(a0, .inr (6, [.int 0, .int 0, .ref a1, .int 53, .int 1, .int 3, .int 1, .int 1, .ref a2])), (a1, .inr (5, [.ref cb, .int 81, .int 0, .ref a3, .int 9, .ref a4, .int 3, .ref a5, .int 1, .int 1, .ref a6, .int 6, .int 0, .int 1, .int 0]))] s.heap.size = A at hD hSK ⊢
  have hA : ∀ q : Nat, s.heap.size ≤ q → A q := fun q h => by rw [← hAe]; exact Or.inr h
  have hS : va_S A s.heap s.heap [] := va_S.rf
  have hP : va_P (dC, dI) vwCl [(a0, .inr (6, [.int 0, .int 0, .ref a1, .int 53, .int 1, .int 3, .int 1, .int 1, .ref a2])), (a1, .inr (5, [.ref cb, .int 81, .int 0, .ref a3, .int 9, .ref a4, .int 3, .ref a5, .int 1, .int 1, .ref a6, .int 6, .int 0, .int 1, .int 0]))] s.heap := hP
  have hl := lv_entry ([.ref a0]) (n := 1) (Nat.le_of_ble_eq_true rfl)
  rw [lg_entry_eq]
  generalize (lg_sl ([.ref a0]) ++ List.replicate (1 - (lg_sl ([.ref a0])).length) Slot.unset).toArray = ls at hl ⊢
  replace hl : lv_has ls 1 [(0, .ref a0)] := hl
  refine lv_aload_n hx hb dX6_readByte_0 rfl (lv_at hl 0 rfl) ?_
  refine va_get (D := (dC, dI)) (ci := 6) (v := .int 0) (C := RX6) (T := TX6) (N := 9) hx hb hts iw_X6_readByte_X6 hown hK hP 0 rfl rfl 1 (by decide) (hts _ m_X6_readByte_1) (fun _ h9 => h9) rfl dX6_readByte_1 ?_
  refine lv_if_eq (tgt := 9) hx hb dX6_readByte_4 (by decide) (fun _ => ?_) (fun h => absurd (by decide) h)
  refine lv_aload_n hx hb dX6_readByte_9 rfl (lv_at hl 0 rfl) ?_
  refine va_get (D := (dC, dI)) (ci := 6) (v := .int 53) (C := RX6) (T := TX6) (N := 9) hx hb hts iw_X6_readByte_X6 hown hK hP 0 rfl rfl 3 (by decide) (hts _ m_X6_readByte_2) (fun _ h9 => h9) rfl dX6_readByte_10 ?_
  refine lv_aload_n hx hb dX6_readByte_13 rfl (lv_at hl 0 rfl) ?_
  refine va_get (D := (dC, dI)) (ci := 6) (v := .ref a1) (C := RX6) (T := TX6) (N := 9) hx hb hts iw_X6_readByte_X6 hown hK hP 0 rfl rfl 2 (by decide) (hts _ m_X6_readByte_3) (fun _ h9 => h9) rfl dX6_readByte_14 ?_
  refine va_get (D := (dC, dI)) (ci := 5) (v := .int 81) (C := RX5) (T := TX5) (N := 15) hx hb hts iw_X6_readByte_X5 hown hK hP 1 rfl rfl 1 (by decide) (hts _ m_X6_readByte_4) (fun _ h9 => h9) rfl dX6_readByte_17 ?_
  refine lv_icmp_lt (tgt := 41) hx hb dX6_readByte_20 (by decide) (fun _ => ?_) (fun h => absurd (by decide) h)
  refine lv_aload_n hx hb dX6_readByte_41 rfl (lv_at hl 0 rfl) ?_
  refine va_get (D := (dC, dI)) (ci := 6) (v := .ref a1) (C := RX6) (T := TX6) (N := 9) hx hb hts iw_X6_readByte_X6 hown hK hP 0 rfl rfl 2 (by decide) (hts _ m_X6_readByte_3) (fun _ h9 => h9) rfl dX6_readByte_42 ?_
  refine va_get (D := (dC, dI)) (ci := 5) (v := .ref cb) (C := RX5) (T := TX5) (N := 15) hx hb hts iw_X6_readByte_X5 hown hK hP 1 rfl rfl 0 (by decide) (hts _ m_X6_readByte_6) (fun _ h9 => h9) rfl dX6_readByte_45 ?_
  refine lv_aload_n hx hb dX6_readByte_48 rfl (lv_at hl 0 rfl) ?_
  refine lv_dup hx hb dX6_readByte_49 rfl ?_
  refine va_get (D := (dC, dI)) (ci := 6) (v := .int 53) (C := RX6) (T := TX6) (N := 9) hx hb hts iw_X6_readByte_X6 hown hK hP 0 rfl rfl 3 (by decide) (hts _ m_X6_readByte_2) (fun _ h9 => h9) rfl dX6_readByte_50 ?_
  refine lv_dup_x1 hx hb dX6_readByte_53 rfl rfl ?_
  refine lv_iconst (v := 1) hx hb dX6_readByte_54 (by decide) ?_
  refine lv_iadd hx hb dX6_readByte_55 ?_
  refine lv_topi (fun z_1 ez_1 => ?_)
  obtain rfl : z_1 = 54 := ez_1.trans (by decide)
  clear ez_1
  refine va_put (D := (dC, dI)) (ci := 6) (v := .int 54) (ty := .int) (C := RX6) (T := TX6) (N := 9) hx hb hts iw_X6_readByte_X6 tyX6 tyX6_ok nmX6 hown hK hP hD hS 0 rfl rfl 3 (by decide) (hts _ m_X6_readByte_2) (fun _ h9 => h9) rfl (by decide +kernel) rfl rfl (Nat.le_of_ble_eq_true rfl) dX6_readByte_56 (fun H_2 locs hP2 hD2 hS2 => ?_)
  replace hP : va_P (dC, dI) vwCl [(a0, .inr (6, [.int 0, .int 0, .ref a1, .int 54, .int 1, .int 3, .int 1, .int 1, .ref a2])), (a1, .inr (5, [.ref cb, .int 81, .int 0, .ref a3, .int 9, .ref a4, .int 3, .ref a5, .int 1, .int 1, .ref a6, .int 6, .int 0, .int 1, .int 0]))] H_2 := hP2
  replace hD : va_D A [(a0, .inr (6, [.int 0, .int 0, .ref a1, .int 54, .int 1, .int 3, .int 1, .int 1, .ref a2])), (a1, .inr (5, [.ref cb, .int 81, .int 0, .ref a3, .int 9, .ref a4, .int 3, .ref a5, .int 1, .int 1, .ref a6, .int 6, .int 0, .int 1, .int 0]))] := hD2
  replace hS := hS2
  clear hP2 hD2 hS2
  refine va_tb (v := .int 0) hx hb hSK.2 hS (by unfold vp_in; decide) rfl dX6_readByte_59 ?_
  refine lv_sipush (v := 255) hx hb dX6_readByte_60 (by decide) ?_
  refine lv_iand hx hb dX6_readByte_63 ?_
  refine lv_topi (fun z_3 ez_3 => ?_)
  obtain rfl : z_3 = 0 := ez_3.trans (by decide)
  clear ez_3
  exact W.iret hx hb hr (fun t ht hW => ⟨⟨0, (), rfl, rfl, by rw [ht]; exact hP, va_K.moved hW.alike hK, hD⟩, hS.F ht⟩) hS.2.2 dX6_readByte_64

set_option maxHeartbeats 4000000 in
set_option maxRecDepth 100000 in
theorem cc_397_X6_readOneType (l : Launch) (dC : Nat → ClassId) (dI : Nat → Nat → Nat) (cy : Nat → ClassId) (sz : Nat) (cb : Nat) (a0 : Nat) (a1 : Nat) (a2 : Nat) (a3 : Nat) (a4 : Nat) (a5 : Nat) (a6 : Nat)  : Met l yX6_readOneType wsX6_readOneType ({ frames := 1, cells := 0, slots := 0, locals := 20 }) (va_Pc [.ref a0, .int 1] (fun U => U.heap.size = sz ∧ va_P (dC, dI) vwCl [(a0, .inr (6, [.int 0, .int 0, .ref a1, .int 52, .int 1, .int 3, .int 1, .int 1, .ref a2])), (a1, .inr (5, [.ref cb, .int 81, .int 0, .ref a3, .int 9, .ref a4, .int 3, .ref a5, .int 1, .int 1, .ref a6, .int 6, .int 0, .int 1, .int 0]))] U.heap ∧ va_K (dC, dI) vwCl (TYS cy) U ∧ va_D (fun _ => True) [(a0, .inr (6, [.int 0, .int 0, .ref a1, .int 52, .int 1, .int 3, .int 1, .int 1, .ref a2])), (a1, .inr (5, [.ref cb, .int 81, .int 0, .ref a3, .int 9, .ref a4, .int 3, .ref a5, .int 1, .int 1, .ref a6, .int 6, .int 0, .int 1, .int 0]))] ∧ NK U ∧ SK cb (va_A [(a0, .inr (6, [.int 0, .int 0, .ref a1, .int 52, .int 1, .int 3, .int 1, .int 1, .ref a2])), (a1, .inr (5, [.ref cb, .int 81, .int 0, .ref a3, .int 9, .ref a4, .int 3, .ref a5, .int 1, .int 1, .ref a6, .int 6, .int 0, .int 1, .int 0]))] sz) U U.heap)) (va_Ql (fun (r : Int64) (u : Unit) => r = 1536) (fun u t => va_P (dC, dI) vwCl [(a0, .inr (6, [.int 0, .int 0, .ref a1, .int 54, .int 1, .int 3, .int 1, .int 1, .ref a2])), (a1, .inr (5, [.ref cb, .int 81, .int 0, .ref a3, .int 9, .ref a4, .int 3, .ref a5, .int 1, .int 1, .ref a6, .int 6, .int 0, .int 1, .int 0]))] t.heap ∧ va_K (dC, dI) vwCl (TYS cy) t ∧ va_D (va_A [(a0, .inr (6, [.int 0, .int 0, .ref a1, .int 52, .int 1, .int 3, .int 1, .int 1, .ref a2])), (a1, .inr (5, [.ref cb, .int 81, .int 0, .ref a3, .int 9, .ref a4, .int 3, .ref a5, .int 1, .int 1, .ref a6, .int 6, .int 0, .int 1, .int 0]))] sz) [(a0, .inr (6, [.int 0, .int 0, .ref a1, .int 54, .int 1, .int 3, .int 1, .int 1, .ref a2])), (a1, .inr (5, [.ref cb, .int 81, .int 0, .ref a3, .int 9, .ref a4, .int 3, .ref a5, .int 1, .int 1, .ref a6, .int 6, .int 0, .int 1, .int 0]))]) (va_A [(a0, .inr (6, [.int 0, .int 0, .ref a1, .int 52, .int 1, .int 3, .int 1, .int 1, .ref a2])), (a1, .inr (5, [.ref cb, .int 81, .int 0, .ref a3, .int 9, .ref a4, .int 3, .ref a5, .int 1, .int 1, .ref a6, .int 6, .int 0, .int 1, .int 0]))] sz)) 0 0 (va_A [(a0, .inr (6, [.int 0, .int 0, .ref a1, .int 52, .int 1, .int 3, .int 1, .int 1, .ref a2])), (a1, .inr (5, [.ref cb, .int 81, .int 0, .ref a3, .int 9, .ref a4, .int 3, .ref a5, .int 1, .int 1, .ref a6, .int 6, .int 0, .int 1, .int 0]))] sz) := by
  refine Met.ofW (cc := cX6_readOneType) (maxL := 7) (ret := (some .long)) (by decide) rfl ?_
  intro p e s m args below meth c s₁ B hml hv
  obtain ⟨rfl, hsz, hP, hK, hD0, hN, hSK⟩ := hv
  have hx := B.exec
  have hb := B.bytes
  have hr := B.returns
  have hts := atoms_spec (ws := wsX6_readOneType) B.pre
  have hown : s.vm.findClass RX6 = some m.cls := findClass_of_methodNamed B.named
  have hlocks := B.notSynchronized
  subst hsz
  have hD := hD0.self (sz := s.heap.size)
  generalize hAe : va_A [(a0, .inr (6, [.int 0, .int 0, .ref a1, .int 52, .int 1, .int 3, .int 1, .int 1, .ref a2])), (a1, .inr (5, [.ref cb, .int 81, .int 0, .ref a3, .int 9, .ref a4, .int 3, .ref a5, .int 1, .int 1, .ref a6, .int 6, .int 0, .int 1, .int 0]))] s.heap.size = A at hD hSK ⊢
  have hA : ∀ q : Nat, s.heap.size ≤ q → A q := fun q h => by rw [← hAe]; exact Or.inr h
  have hS : va_S A s.heap s.heap [] := va_S.rf
  have hP : va_P (dC, dI) vwCl [(a0, .inr (6, [.int 0, .int 0, .ref a1, .int 52, .int 1, .int 3, .int 1, .int 1, .ref a2])), (a1, .inr (5, [.ref cb, .int 81, .int 0, .ref a3, .int 9, .ref a4, .int 3, .ref a5, .int 1, .int 1, .ref a6, .int 6, .int 0, .int 1, .int 0]))] s.heap := hP
  have hl := lv_entry ([.ref a0, .int 1]) (n := 7) (Nat.le_of_ble_eq_true rfl)
  rw [lg_entry_eq]
  generalize (lg_sl ([.ref a0, .int 1]) ++ List.replicate (7 - (lg_sl ([.ref a0, .int 1])).length) Slot.unset).toArray = ls at hl ⊢
  replace hl : lv_has ls 7 [(0, .ref a0), (1, .int 1)] := hl
  refine lv_lconst (v := 0) hx hb dX6_readOneType_0 (by decide) ?_
  refine lv_lstore_n (lv' := [(2, .long 0), (0, .ref a0), (1, .int 1)]) hx hb dX6_readOneType_1 rfl hl (by decide) rfl (fun ls hl2 => ?_)
  replace hl := hl2
  clear hl2
  refine lv_aload_n hx hb dX6_readOneType_2 rfl (lv_at hl 1 rfl) ?_
  refine va_get (D := (dC, dI)) (ci := 6) (v := .int 52) (C := RX6) (T := TX6) (N := 9) hx hb hts iw_X6_readOneType_X6 hown hK hP 0 rfl rfl 3 (by decide) (hts _ m_X6_readOneType_1) (fun _ h9 => h9) rfl dX6_readOneType_3 ?_
  refine lv_istore (lv' := [(4, .int 52), (2, .long 0), (0, .ref a0), (1, .int 1)]) hx hb dX6_readOneType_6 hl (by decide) rfl (fun ls hl2 => ?_)
  replace hl := hl2
  clear hl2
  refine lv_aload_n hx hb dX6_readOneType_8 rfl (lv_at hl 2 rfl) ?_
  have hPc := hP.sub (ws' := [(a0, .inr (6, [.int 0, .int 0, .ref a1, .int 52, .int 1, .int 3, .int 1, .int 1, .ref a2])), (a1, .inr (5, [.ref cb, .int 81, .int 0, .ref a3, .int 9, .ref a4, .int 3, .ref a5, .int 1, .int 1, .ref a6, .int 6, .int 0, .int 1, .int 0]))]) [0, 1] rfl
  have hDc := hD.sub (ws' := [(a0, .inr (6, [.int 0, .int 0, .ref a1, .int 52, .int 1, .int 3, .int 1, .int 1, .ref a2])), (a1, .inr (5, [.ref cb, .int 81, .int 0, .ref a3, .int 9, .ref a4, .int 3, .ref a5, .int 1, .int 1, .ref a6, .int 6, .int 0, .int 1, .int 0]))]) [0, 1] (by decide) rfl
  have hFc := va_free (wc := [(a0, .inr (6, [.int 0, .int 0, .ref a1, .int 52, .int 1, .int 3, .int 1, .int 1, .ref a2])), (a1, .inr (5, [.ref cb, .int 81, .int 0, .ref a3, .int 9, .ref a4, .int 3, .ref a5, .int 1, .int 1, .ref a6, .int 6, .int 0, .int 1, .int 0]))]) hD hS hA [0, 1] rfl
  refine va_calli (va_runV (As := []) (rest := []) ⟨hx, hb, hml, hown, hts⟩ (cc_398_X6_readByte l dC dI cy s.heap.size cb a0 a1 a2 a3 a4 a5 a6) (cwV 0 hts gX6_readOneType_X6_readByte rfl rfl rfl (by decide +kernel) ⟨Nat.le_of_ble_eq_true rfl, Nat.le_of_ble_eq_true rfl⟩) ⟨fun a U g mk q => by obtain ⟨q0, q1, qP, qK, qD, qN, qS⟩ := q; exact ⟨q0, q1, qP, va_K.moved (u := U) (U := U.calling g mk a) (Vm.Alike.refl U.vm) qK, qD, qN.same rfl, SK.moved (u := U) (U := U.calling g mk a) (Vm.Alike.refl U.vm) qS⟩, va_recv hK hPc (ci := 6) (q0 := 0) rfl rfl, fun U hU hW => ⟨rfl, by rw [hU], by rw [hU]; exact hPc, va_K.moved hW.alike hK, hDc.weaken (fun _ _ _ _ => trivial), hN.warm hW, by rw [hU]; exact ((hSK.kept hS.2.1).narrow hFc).moved hW.alike⟩⟩ rfl rfl hl.1 rfl (lv_room (Nat.le_of_ble_eq_true rfl)) dX6_readOneType_9 ⟨Nat.le_of_ble_eq_true rfl, Nat.le_of_ble_eq_true rfl⟩) hS (fun q _ h => hFc q h) hFc (fun r_1 u t H_2 locs ht hvm hw hB hz1 hk1 hS2 => ?_)
  obtain ⟨hP1, hK1, hD1⟩ := hB
  rw [ht] at hP1
  obtain rfl := hw
  obtain ⟨hP2, hD2⟩ := va_join (wr := []) (w1 := [(a0, .inr (6, [.int 0, .int 0, .ref a1, .int 53, .int 1, .int 3, .int 1, .int 1, .ref a2])), (a1, .inr (5, [.ref cb, .int 81, .int 0, .ref a3, .int 9, .ref a4, .int 3, .ref a5, .int 1, .int 1, .ref a6, .int 6, .int 0, .int 1, .int 0]))]) hP hD [0, 1] [] rfl rfl (by decide) (by decide) hk1 hFc hP1 hD1
  replace hP : va_P (dC, dI) vwCl [(a0, .inr (6, [.int 0, .int 0, .ref a1, .int 53, .int 1, .int 3, .int 1, .int 1, .ref a2])), (a1, .inr (5, [.ref cb, .int 81, .int 0, .ref a3, .int 9, .ref a4, .int 3, .ref a5, .int 1, .int 1, .ref a6, .int 6, .int 0, .int 1, .int 0]))] H_2 := hP2
  replace hD : va_D A [(a0, .inr (6, [.int 0, .int 0, .ref a1, .int 53, .int 1, .int 3, .int 1, .int 1, .ref a2])), (a1, .inr (5, [.ref cb, .int 81, .int 0, .ref a3, .int 9, .ref a4, .int 3, .ref a5, .int 1, .int 1, .ref a6, .int 6, .int 0, .int 1, .int 0]))] := hD2
  replace hS := hS2
  clear hP2 hD2 hS2
  clear hPc hDc hFc hP1 hD1 hK1 hk1 hz1 hvm ht
  refine W.widen (k := 0) (n := 0) (Nat.le_of_ble_eq_true rfl) (Nat.le_of_ble_eq_true rfl) ?_
  refine lv_istore (lv' := [(5, .int 6), (4, .int 52), (2, .long 0), (0, .ref a0), (1, .int 1)]) hx hb dX6_readOneType_12 hl (by decide) rfl (fun ls hl2 => ?_)
  replace hl := hl2
  clear hl2
  refine lv_iload_n hx hb dX6_readOneType_14 rfl (lv_at hl 4 rfl) ?_
  refine lv_if_eq (tgt := 48) hx hb dX6_readOneType_15 (by decide) (fun h => absurd h (by decide)) (fun _ => ?_)
  refine lv_iload hx hb dX6_readOneType_18 (lv_at hl 0 rfl) ?_
  refine lv_bipush (v := 8) hx hb dX6_readOneType_20 (by decide) ?_
  refine lv_icmp_eq (tgt := 32) hx hb dX6_readOneType_22 (by decide) (fun h => absurd h (by decide)) (fun _ => ?_)
  refine lv_iload hx hb dX6_readOneType_25 (lv_at hl 0 rfl) ?_
  refine lv_bipush (v := 9) hx hb dX6_readOneType_27 (by decide) ?_
  refine lv_icmp_ne (tgt := 48) hx hb dX6_readOneType_29 (by decide) (fun _ => ?_) (fun h => absurd h (by decide))
  refine lv_iconst (v := 0) hx hb dX6_readOneType_48 (by decide) ?_
  refine lv_istore (lv' := [(6, .int 0), (5, .int 6), (4, .int 52), (2, .long 0), (0, .ref a0), (1, .int 1)]) hx hb dX6_readOneType_49 hl (by decide) rfl (fun ls hl2 => ?_)
  replace hl := hl2
  clear hl2
  refine lv_iload hx hb dX6_readOneType_51 (lv_at hl 0 rfl) ?_
  refine lv_iconst (v := 4) hx hb dX6_readOneType_53 (by decide) ?_
  refine lv_icmp_ge (tgt := 91) hx hb dX6_readOneType_54 (by decide) (fun h => absurd h (by decide)) (fun _ => ?_)
  refine lv_iload hx hb dX6_readOneType_57 (lv_at hl 1 rfl) ?_
  refine lv_bipush (v := 7) hx hb dX6_readOneType_59 (by decide) ?_
  refine lv_icmp_ne (tgt := 91) hx hb dX6_readOneType_61 (by decide) (fun _ => ?_) (fun h => absurd h (by decide))
  refine lv_iload hx hb dX6_readOneType_91 (lv_at hl 1 rfl) ?_
  refine lv_iconst (v := 1) hx hb dX6_readOneType_93 (by decide) ?_
  refine lv_icmp_lt (tgt := 104) hx hb dX6_readOneType_94 (by decide) (fun h => absurd h (by decide)) (fun _ => ?_)
  refine lv_iload hx hb dX6_readOneType_97 (lv_at hl 1 rfl) ?_
  refine lv_bipush (v := 6) hx hb dX6_readOneType_99 (by decide) ?_
  refine lv_icmp_le (tgt := 111) hx hb dX6_readOneType_101 (by decide) (fun _ => ?_) (fun h => absurd (by decide) h)
  refine lv_lload_n hx hb dX6_readOneType_111 rfl (lv_at hl 3 rfl) ?_
  refine lv_bipush (v := 8) hx hb dX6_readOneType_112 (by decide) ?_
  refine lv_lshl (v := 0) hx hb dX6_readOneType_114 (by decide) ?_
  refine lv_iload hx hb dX6_readOneType_115 (lv_at hl 1 rfl) ?_
  refine lv_i2l (v := 6) hx hb dX6_readOneType_117 (by decide) ?_
  refine lv_lor hx hb dX6_readOneType_118 ?_
  refine lv_topl (fun z_3 ez_3 => ?_)
  obtain rfl : z_3 = 6 := ez_3.trans (by decide)
  clear ez_3
  refine lv_lstore_n (lv' := [(2, .long 6), (6, .int 0), (5, .int 6), (4, .int 52), (0, .ref a0), (1, .int 1)]) hx hb dX6_readOneType_119 rfl hl (by decide) rfl (fun ls hl2 => ?_)
  replace hl := hl2
  clear hl2
  refine lv_iload hx hb dX6_readOneType_120 (lv_at hl 2 rfl) ?_
  refine lv_bipush (v := 6) hx hb dX6_readOneType_122 (by decide) ?_
  refine lv_icmp_eq (tgt := 129) hx hb dX6_readOneType_124 (by decide) (fun _ => ?_) (fun h => absurd (by decide) h)
  refine lv_aload_n hx hb dX6_readOneType_129 rfl (lv_at hl 4 rfl) ?_
  refine va_get (D := (dC, dI)) (ci := 6) (v := .int 53) (C := RX6) (T := TX6) (N := 9) hx hb hts iw_X6_readOneType_X6 hown hK hP 0 rfl rfl 3 (by decide) (hts _ m_X6_readOneType_1) (fun _ h9 => h9) rfl dX6_readOneType_130 ?_
  refine lv_istore (lv' := [(4, .int 53), (2, .long 6), (6, .int 0), (5, .int 6), (0, .ref a0), (1, .int 1)]) hx hb dX6_readOneType_133 hl (by decide) rfl (fun ls hl2 => ?_)
  replace hl := hl2
  clear hl2
  refine lv_aload_n hx hb dX6_readOneType_135 rfl (lv_at hl 4 rfl) ?_
  have hPc := hP.sub (ws' := [(a0, .inr (6, [.int 0, .int 0, .ref a1, .int 53, .int 1, .int 3, .int 1, .int 1, .ref a2])), (a1, .inr (5, [.ref cb, .int 81, .int 0, .ref a3, .int 9, .ref a4, .int 3, .ref a5, .int 1, .int 1, .ref a6, .int 6, .int 0, .int 1, .int 0]))]) [0, 1] rfl
  have hDc := hD.sub (ws' := [(a0, .inr (6, [.int 0, .int 0, .ref a1, .int 53, .int 1, .int 3, .int 1, .int 1, .ref a2])), (a1, .inr (5, [.ref cb, .int 81, .int 0, .ref a3, .int 9, .ref a4, .int 3, .ref a5, .int 1, .int 1, .ref a6, .int 6, .int 0, .int 1, .int 0]))]) [0, 1] (by decide) rfl
  have hFc := va_free (wc := [(a0, .inr (6, [.int 0, .int 0, .ref a1, .int 53, .int 1, .int 3, .int 1, .int 1, .ref a2])), (a1, .inr (5, [.ref cb, .int 81, .int 0, .ref a3, .int 9, .ref a4, .int 3, .ref a5, .int 1, .int 1, .ref a6, .int 6, .int 0, .int 1, .int 0]))]) hD hS hA [0, 1] rfl
  refine va_calli (va_runV (As := []) (rest := []) ⟨hx, hb, hml, hown, hts⟩ (cc_399_X6_readByte l dC dI cy H_2.size cb a0 a1 a2 a3 a4 a5 a6) (cwV 0 hts gX6_readOneType_X6_readByte rfl rfl rfl (by decide +kernel) ⟨Nat.le_of_ble_eq_true rfl, Nat.le_of_ble_eq_true rfl⟩) ⟨fun a U g mk q => by obtain ⟨q0, q1, qP, qK, qD, qN, qS⟩ := q; exact ⟨q0, q1, qP, va_K.moved (u := U) (U := U.calling g mk a) (Vm.Alike.refl U.vm) qK, qD, qN.same rfl, SK.moved (u := U) (U := U.calling g mk a) (Vm.Alike.refl U.vm) qS⟩, va_recv hK hPc (ci := 6) (q0 := 0) rfl rfl, fun U hU hW => ⟨rfl, by rw [hU], by rw [hU]; exact hPc, va_K.moved hW.alike hK, hDc.weaken (fun _ _ _ _ => trivial), hN.warm hW, by rw [hU]; exact ((hSK.kept hS.2.1).narrow hFc).moved hW.alike⟩⟩ rfl rfl hl.1 rfl (lv_room (Nat.le_of_ble_eq_true rfl)) dX6_readOneType_136 ⟨Nat.le_of_ble_eq_true rfl, Nat.le_of_ble_eq_true rfl⟩) hS (fun q _ h => hFc q h) hFc (fun r_4 u t H_5 locs ht hvm hw hB hz1 hk1 hS2 => ?_)
  obtain ⟨hP1, hK1, hD1⟩ := hB
  rw [ht] at hP1
  obtain rfl := hw
  obtain ⟨hP2, hD2⟩ := va_join (wr := []) (w1 := [(a0, .inr (6, [.int 0, .int 0, .ref a1, .int 54, .int 1, .int 3, .int 1, .int 1, .ref a2])), (a1, .inr (5, [.ref cb, .int 81, .int 0, .ref a3, .int 9, .ref a4, .int 3, .ref a5, .int 1, .int 1, .ref a6, .int 6, .int 0, .int 1, .int 0]))]) hP hD [0, 1] [] rfl rfl (by decide) (by decide) hk1 hFc hP1 hD1
  replace hP : va_P (dC, dI) vwCl [(a0, .inr (6, [.int 0, .int 0, .ref a1, .int 54, .int 1, .int 3, .int 1, .int 1, .ref a2])), (a1, .inr (5, [.ref cb, .int 81, .int 0, .ref a3, .int 9, .ref a4, .int 3, .ref a5, .int 1, .int 1, .ref a6, .int 6, .int 0, .int 1, .int 0]))] H_5 := hP2
  replace hD : va_D A [(a0, .inr (6, [.int 0, .int 0, .ref a1, .int 54, .int 1, .int 3, .int 1, .int 1, .ref a2])), (a1, .inr (5, [.ref cb, .int 81, .int 0, .ref a3, .int 9, .ref a4, .int 3, .ref a5, .int 1, .int 1, .ref a6, .int 6, .int 0, .int 1, .int 0]))] := hD2
  replace hS := hS2
  clear hP2 hD2 hS2
  clear hPc hDc hFc hP1 hD1 hK1 hk1 hz1 hvm ht
  refine W.widen (k := 0) (n := 0) (Nat.le_of_ble_eq_true rfl) (Nat.le_of_ble_eq_true rfl) ?_
  refine lv_istore (lv' := [(6, .int 0), (4, .int 53), (2, .long 6), (5, .int 6), (0, .ref a0), (1, .int 1)]) hx hb dX6_readOneType_139 hl (by decide) rfl (fun ls hl2 => ?_)
  replace hl := hl2
  clear hl2
  refine lv_aload_n hx hb dX6_readOneType_141 rfl (lv_at hl 4 rfl) ?_
  refine va_get (D := (dC, dI)) (ci := 6) (v := .int 1) (C := RX6) (T := TX6) (N := 9) hx hb hts iw_X6_readOneType_X6 hown hK hP 0 rfl rfl 4 (by decide) (hts _ m_X6_readOneType_2) (fun _ h9 => h9) rfl dX6_readOneType_142 ?_
  refine lv_if_eq (tgt := 168) hx hb dX6_readOneType_145 (by decide) (fun h => absurd h (by decide)) (fun _ => ?_)
  refine lv_iload hx hb dX6_readOneType_148 (lv_at hl 0 rfl) ?_
  refine lv_aload_n hx hb dX6_readOneType_150 rfl (lv_at hl 4 rfl) ?_
  refine va_get (D := (dC, dI)) (ci := 6) (v := .ref a1) (C := RX6) (T := TX6) (N := 9) hx hb hts iw_X6_readOneType_X6 hown hK hP 0 rfl rfl 2 (by decide) (hts _ m_X6_readOneType_3) (fun _ h9 => h9) rfl dX6_readOneType_151 ?_
  refine va_get (D := (dC, dI)) (ci := 5) (v := .int 1) (C := RX5) (T := TX5) (N := 15) hx hb hts iw_X6_readOneType_X5 hown hK hP 1 rfl rfl 9 (by decide) (hts _ m_X6_readOneType_4) (fun _ h9 => h9) rfl dX6_readOneType_154 ?_
  refine lv_icmp_lt (tgt := 168) hx hb dX6_readOneType_157 (by decide) (fun _ => ?_) (fun h => absurd (by decide) h)
  refine lv_lload_n hx hb dX6_readOneType_168 rfl (lv_at hl 2 rfl) ?_
  refine lv_bipush (v := 8) hx hb dX6_readOneType_169 (by decide) ?_
  refine lv_lshl (v := 1536) hx hb dX6_readOneType_171 (by decide) ?_
  refine lv_iload hx hb dX6_readOneType_172 (lv_at hl 0 rfl) ?_
  refine lv_i2l (v := 0) hx hb dX6_readOneType_174 (by decide) ?_
  refine lv_lor hx hb dX6_readOneType_175 ?_
  refine lv_topl (fun z_6 ez_6 => ?_)
  obtain rfl : z_6 = 1536 := ez_6.trans (by decide)
  clear ez_6
  exact W.lret hx hb hr (fun t ht hW => ⟨⟨1536, (), rfl, rfl, by rw [ht]; exact hP, va_K.moved hW.alike hK, hD⟩, hS.F ht⟩) hS.2.2 dX6_readOneType_176

set_option maxHeartbeats 4000000 in
set_option maxRecDepth 100000 in
theorem cc_396_X6_readTypes (l : Launch) (dC : Nat → ClassId) (dI : Nat → Nat → Nat) (cy : Nat → ClassId) (sz : Nat) (cb : Nat) (a0 : Nat) (a1 : Nat) (a2 : Nat) (a3 : Nat) (a4 : Nat) (a5 : Nat) (a6 : Nat) (f0 : Nat → Int64) (f0_0 : f0 0 = 3) : Met l yX6_readTypes wsX6_readTypes ({ frames := 2, cells := 0, slots := 0, locals := 46 }) (va_Pc [.ref a0, .int 1, .int 1] (fun U => U.heap.size = sz ∧ va_P (dC, dI) vwCl [(a0, .inr (6, [.int 0, .int 0, .ref a1, .int 52, .int 1, .int 3, .int 1, .int 1, .ref a3])), (a1, .inr (5, [.ref cb, .int 81, .int 0, .ref a2, .int 9, .ref a4, .int 3, .ref a5, .int 1, .int 1, .ref a6, .int 6, .int 0, .int 1, .int 0])), (a2, .inl (cy 2, 2048, .inr (.inl f0)))] U.heap ∧ va_K (dC, dI) vwCl (TYS cy) U ∧ va_D (fun _ => True) [(a0, .inr (6, [.int 0, .int 0, .ref a1, .int 52, .int 1, .int 3, .int 1, .int 1, .ref a3])), (a1, .inr (5, [.ref cb, .int 81, .int 0, .ref a2, .int 9, .ref a4, .int 3, .ref a5, .int 1, .int 1, .ref a6, .int 6, .int 0, .int 1, .int 0])), (a2, .inl (cy 2, 2048, .inr (.inl f0)))] ∧ NK U ∧ SK cb (va_A [(a0, .inr (6, [.int 0, .int 0, .ref a1, .int 52, .int 1, .int 3, .int 1, .int 1, .ref a3])), (a1, .inr (5, [.ref cb, .int 81, .int 0, .ref a2, .int 9, .ref a4, .int 3, .ref a5, .int 1, .int 1, .ref a6, .int 6, .int 0, .int 1, .int 0])), (a2, .inl (cy 2, 2048, .inr (.inl f0)))] sz) U U.heap)) (va_Qv (fun u : (Nat → Int64) => match u with | (u0) => u0 0 = 3) (fun u t => match u with | (u0) => va_P (dC, dI) vwCl [(a0, .inr (6, [.int 0, .int 0, .ref a1, .int 54, .int 1, .int 3, .int 1, .int 1, .ref a3])), (a1, .inr (5, [.ref cb, .int 81, .int 0, .ref a2, .int 10, .ref a4, .int 3, .ref a5, .int 1, .int 1, .ref a6, .int 6, .int 0, .int 1, .int 0])), (a2, .inl (cy 2, 2048, .inr (.inl u0)))] t.heap ∧ va_K (dC, dI) vwCl (TYS cy) t ∧ va_D (va_A [(a0, .inr (6, [.int 0, .int 0, .ref a1, .int 52, .int 1, .int 3, .int 1, .int 1, .ref a3])), (a1, .inr (5, [.ref cb, .int 81, .int 0, .ref a2, .int 9, .ref a4, .int 3, .ref a5, .int 1, .int 1, .ref a6, .int 6, .int 0, .int 1, .int 0])), (a2, .inl (cy 2, 2048, .inr (.inl f0)))] sz) [(a0, .inr (6, [.int 0, .int 0, .ref a1, .int 54, .int 1, .int 3, .int 1, .int 1, .ref a3])), (a1, .inr (5, [.ref cb, .int 81, .int 0, .ref a2, .int 10, .ref a4, .int 3, .ref a5, .int 1, .int 1, .ref a6, .int 6, .int 0, .int 1, .int 0])), (a2, .inl (cy 2, 2048, .inr (.inl u0)))]) (va_A [(a0, .inr (6, [.int 0, .int 0, .ref a1, .int 52, .int 1, .int 3, .int 1, .int 1, .ref a3])), (a1, .inr (5, [.ref cb, .int 81, .int 0, .ref a2, .int 9, .ref a4, .int 3, .ref a5, .int 1, .int 1, .ref a6, .int 6, .int 0, .int 1, .int 0])), (a2, .inl (cy 2, 2048, .inr (.inl f0)))] sz)) 0 0 (va_A [(a0, .inr (6, [.int 0, .int 0, .ref a1, .int 52, .int 1, .int 3, .int 1, .int 1, .ref a3])), (a1, .inr (5, [.ref cb, .int 81, .int 0, .ref a2, .int 9, .ref a4, .int 3, .ref a5, .int 1, .int 1, .ref a6, .int 6, .int 0, .int 1, .int 0])), (a2, .inl (cy 2, 2048, .inr (.inl f0)))] sz) := by
  refine Met.ofW (cc := cX6_readTypes) (maxL := 4) (ret := none) (by decide) rfl ?_
  intro p e s m args below meth c s₁ B hml hv
  obtain ⟨rfl, hsz, hP, hK, hD0, hN, hSK⟩ := hv
  have hx := B.exec
  have hb := B.bytes
  have hr := B.returns
  have hts := atoms_spec (ws := wsX6_readTypes) B.pre
  have hown : s.vm.findClass RX6 = some m.cls := findClass_of_methodNamed B.named
  have hlocks := B.notSynchronized
  subst hsz
  have hD := hD0.self (sz := s.heap.size)
  generalize hAe : va_A [(a0, .inr (6, [.int 0, .int 0, .ref a1, .int 52, .int 1, .int 3, .int 1, .int 1, .ref a3])), (a1, .inr (5, [.ref cb, .int 81, .int 0, .ref a2, .int 9, .ref a4, .int 3, .ref a5, .int 1, .int 1, .ref a6, .int 6, .int 0, .int 1, .int 0])), (a2, .inl (cy 2, 2048, .inr (.inl f0)))] s.heap.size = A at hD hSK ⊢
  have hA : ∀ q : Nat, s.heap.size ≤ q → A q := fun q h => by rw [← hAe]; exact Or.inr h
  have hS : va_S A s.heap s.heap [] := va_S.rf
  have hP : va_P (dC, dI) vwCl [(a0, .inr (6, [.int 0, .int 0, .ref a1, .int 52, .int 1, .int 3, .int 1, .int 1, .ref a3])), (a1, .inr (5, [.ref cb, .int 81, .int 0, .ref a2, .int 9, .ref a4, .int 3, .ref a5, .int 1, .int 1, .ref a6, .int 6, .int 0, .int 1, .int 0])), (a2, .inl (cy 2, 2048, .inr (.inl f0)))] s.heap := hP
  have hl := lv_entry ([.ref a0, .int 1, .int 1]) (n := 4) (Nat.le_of_ble_eq_true rfl)
  rw [lg_entry_eq]
  generalize (lg_sl ([.ref a0, .int 1, .int 1]) ++ List.replicate (4 - (lg_sl ([.ref a0, .int 1, .int 1])).length) Slot.unset).toArray = ls at hl ⊢
  replace hl : lv_has ls 4 [(0, .ref a0), (1, .int 1), (2, .int 1)] := hl
  refine lv_iconst (v := 0) hx hb dX6_readTypes_0 (by decide) ?_
  refine lv_istore_n (lv' := [(3, .int 0), (0, .ref a0), (1, .int 1), (2, .int 1)]) hx hb dX6_readTypes_1 rfl hl (by decide) rfl (fun ls hl2 => ?_)
  replace hl := hl2
  clear hl2
  refine lv_iload_n hx hb dX6_readTypes_2 rfl (lv_at hl 0 rfl) ?_
  refine lv_iload_n hx hb dX6_readTypes_3 rfl (lv_at hl 2 rfl) ?_
  refine lv_icmp_ge (tgt := 32) hx hb dX6_readTypes_4 (by decide) (fun h => absurd h (by decide)) (fun _ => ?_)
  refine lv_aload_n hx hb dX6_readTypes_7 rfl (lv_at hl 1 rfl) ?_
  refine va_get (D := (dC, dI)) (ci := 6) (v := .int 0) (C := RX6) (T := TX6) (N := 9) hx hb hts iw_X6_readTypes_X6 hown hK hP 0 rfl rfl 1 (by decide) (hts _ m_X6_readTypes_1) (fun _ h9 => h9) rfl dX6_readTypes_8 ?_
  refine lv_if_ne (tgt := 32) hx hb dX6_readTypes_11 (by decide) (fun h => absurd (by decide) h) (fun _ => ?_)
  refine lv_aload_n hx hb dX6_readTypes_14 rfl (lv_at hl 1 rfl) ?_
  refine va_get (D := (dC, dI)) (ci := 6) (v := .ref a1) (C := RX6) (T := TX6) (N := 9) hx hb hts iw_X6_readTypes_X6 hown hK hP 0 rfl rfl 2 (by decide) (hts _ m_X6_readTypes_2) (fun _ h9 => h9) rfl dX6_readTypes_15 ?_
  refine lv_aload_n hx hb dX6_readTypes_18 rfl (lv_at hl 1 rfl) ?_
  refine lv_iload_n hx hb dX6_readTypes_19 rfl (lv_at hl 3 rfl) ?_
  have hPc := hP.sub (ws' := [(a0, .inr (6, [.int 0, .int 0, .ref a1, .int 52, .int 1, .int 3, .int 1, .int 1, .ref a3])), (a1, .inr (5, [.ref cb, .int 81, .int 0, .ref a2, .int 9, .ref a4, .int 3, .ref a5, .int 1, .int 1, .ref a6, .int 6, .int 0, .int 1, .int 0]))]) [0, 1] rfl
  have hDc := hD.sub (ws' := [(a0, .inr (6, [.int 0, .int 0, .ref a1, .int 52, .int 1, .int 3, .int 1, .int 1, .ref a3])), (a1, .inr (5, [.ref cb, .int 81, .int 0, .ref a2, .int 9, .ref a4, .int 3, .ref a5, .int 1, .int 1, .ref a6, .int 6, .int 0, .int 1, .int 0]))]) [0, 1] (by decide) rfl
  have hFc := va_free (wc := [(a0, .inr (6, [.int 0, .int 0, .ref a1, .int 52, .int 1, .int 3, .int 1, .int 1, .ref a3])), (a1, .inr (5, [.ref cb, .int 81, .int 0, .ref a2, .int 9, .ref a4, .int 3, .ref a5, .int 1, .int 1, .ref a6, .int 6, .int 0, .int 1, .int 0]))]) hD hS hA [0, 1] rfl
  refine va_calll (va_runV (As := [.int 1]) (rest := [.ref a1]) ⟨hx, hb, hml, hown, hts⟩ (cc_397_X6_readOneType l dC dI cy s.heap.size cb a0 a1 a3 a2 a4 a5 a6) (cwV 1 hts gX6_readTypes_X6_readOneType rfl rfl rfl (by decide +kernel) ⟨Nat.le_of_ble_eq_true rfl, Nat.le_of_ble_eq_true rfl⟩) ⟨fun a U g mk q => by obtain ⟨q0, q1, qP, qK, qD, qN, qS⟩ := q; exact ⟨q0, q1, qP, va_K.moved (u := U) (U := U.calling g mk a) (Vm.Alike.refl U.vm) qK, qD, qN.same rfl, SK.moved (u := U) (U := U.calling g mk a) (Vm.Alike.refl U.vm) qS⟩, va_recv hK hPc (ci := 6) (q0 := 0) rfl rfl, fun U hU hW => ⟨rfl, by rw [hU], by rw [hU]; exact hPc, va_K.moved hW.alike hK, hDc.weaken (fun _ _ _ _ => trivial), hN.warm hW, by rw [hU]; exact ((hSK.kept hS.2.1).narrow hFc).moved hW.alike⟩⟩ rfl rfl hl.1 rfl (lv_room (Nat.le_of_ble_eq_true rfl)) dX6_readTypes_20 ⟨Nat.le_of_ble_eq_true rfl, Nat.le_of_ble_eq_true rfl⟩) hS (fun q _ h => hFc q h) hFc (fun r_1 u t H_2 locs ht hvm hw hB hz1 hk1 hS2 => ?_)
  obtain ⟨hP1, hK1, hD1⟩ := hB
  rw [ht] at hP1
  obtain rfl := hw
  obtain ⟨hP2, hD2⟩ := va_join (wr := [(a2, .inl (cy 2, 2048, .inr (.inl f0)))]) (w1 := [(a0, .inr (6, [.int 0, .int 0, .ref a1, .int 54, .int 1, .int 3, .int 1, .int 1, .ref a3])), (a1, .inr (5, [.ref cb, .int 81, .int 0, .ref a2, .int 9, .ref a4, .int 3, .ref a5, .int 1, .int 1, .ref a6, .int 6, .int 0, .int 1, .int 0]))]) hP hD [0, 1] [2] rfl rfl (by decide) (by decide) hk1 hFc hP1 hD1
  replace hP : va_P (dC, dI) vwCl [(a2, .inl (cy 2, 2048, .inr (.inl f0))), (a0, .inr (6, [.int 0, .int 0, .ref a1, .int 54, .int 1, .int 3, .int 1, .int 1, .ref a3])), (a1, .inr (5, [.ref cb, .int 81, .int 0, .ref a2, .int 9, .ref a4, .int 3, .ref a5, .int 1, .int 1, .ref a6, .int 6, .int 0, .int 1, .int 0]))] H_2 := hP2
  replace hD : va_D A [(a2, .inl (cy 2, 2048, .inr (.inl f0))), (a0, .inr (6, [.int 0, .int 0, .ref a1, .int 54, .int 1, .int 3, .int 1, .int 1, .ref a3])), (a1, .inr (5, [.ref cb, .int 81, .int 0, .ref a2, .int 9, .ref a4, .int 3, .ref a5, .int 1, .int 1, .ref a6, .int 6, .int 0, .int 1, .int 0]))] := hD2
  replace hS := hS2
  clear hP2 hD2 hS2
  clear hPc hDc hFc hP1 hD1 hK1 hk1 hz1 hvm ht
  refine W.widen (k := 0) (n := 0) (Nat.le_of_ble_eq_true rfl) (Nat.le_of_ble_eq_true rfl) ?_
  have hPc := hP.sub (ws' := [(a1, .inr (5, [.ref cb, .int 81, .int 0, .ref a2, .int 9, .ref a4, .int 3, .ref a5, .int 1, .int 1, .ref a6, .int 6, .int 0, .int 1, .int 0])), (a2, .inl (cy 2, 2048, .inr (.inl f0)))]) [2, 0] rfl
  have hDc := hD.sub (ws' := [(a1, .inr (5, [.ref cb, .int 81, .int 0, .ref a2, .int 9, .ref a4, .int 3, .ref a5, .int 1, .int 1, .ref a6, .int 6, .int 0, .int 1, .int 0])), (a2, .inl (cy 2, 2048, .inr (.inl f0)))]) [2, 0] (by decide) rfl
  have hFc := va_free (wc := [(a1, .inr (5, [.ref cb, .int 81, .int 0, .ref a2, .int 9, .ref a4, .int 3, .ref a5, .int 1, .int 1, .ref a6, .int 6, .int 0, .int 1, .int 0])), (a2, .inl (cy 2, 2048, .inr (.inl f0)))]) hD hS hA [2, 0] rfl
  refine va_callv (va_runV (As := [.long 1536]) (rest := []) ⟨hx, hb, hml, hown, hts⟩ (cc_176_X5_addType l dC dI cy H_2.size cb a1 a2 a4 a5 a6 f0 f0_0) (cwV 1 hts gX6_readTypes_X5_addType rfl rfl rfl (by decide +kernel) ⟨Nat.le_of_ble_eq_true rfl, Nat.le_of_ble_eq_true rfl⟩) ⟨fun a U g mk q => by obtain ⟨q0, q1, qP, qK, qD, qN, qS⟩ := q; exact ⟨q0, q1, qP, va_K.moved (u := U) (U := U.calling g mk a) (Vm.Alike.refl U.vm) qK, qD, qN.same rfl, SK.moved (u := U) (U := U.calling g mk a) (Vm.Alike.refl U.vm) qS⟩, va_recv hK hPc (ci := 5) (q0 := 0) rfl rfl, fun U hU hW => ⟨rfl, by rw [hU], by rw [hU]; exact hPc, va_K.moved hW.alike hK, hDc.weaken (fun _ _ _ _ => trivial), hN.warm hW, by rw [hU]; exact ((hSK.kept hS.2.1).narrow hFc).moved hW.alike⟩⟩ rfl rfl hl.1 rfl (lv_room (Nat.le_of_ble_eq_true rfl)) dX6_readTypes_23 ⟨Nat.le_of_ble_eq_true rfl, Nat.le_of_ble_eq_true rfl⟩) hS (fun q _ h => hFc q h) hFc (fun u t H_3 locs ht hvm hw hB hz1 hk1 hS2 => ?_)
  obtain ⟨g_4, rfl⟩ : ∃ z, z = u := ⟨_, rfl⟩
  obtain ⟨hP1, hK1, hD1⟩ := hB
  rw [ht] at hP1
  have kp_5 := hw
  obtain ⟨hP2, hD2⟩ := va_join (wr := [(a0, .inr (6, [.int 0, .int 0, .ref a1, .int 54, .int 1, .int 3, .int 1, .int 1, .ref a3]))]) (w1 := [(a1, .inr (5, [.ref cb, .int 81, .int 0, .ref a2, .int 10, .ref a4, .int 3, .ref a5, .int 1, .int 1, .ref a6, .int 6, .int 0, .int 1, .int 0])), (a2, .inl (cy 2, 2048, .inr (.inl g_4)))]) hP hD [2, 0] [1] rfl rfl (by decide) (by decide) hk1 hFc hP1 hD1
  replace hP : va_P (dC, dI) vwCl [(a0, .inr (6, [.int 0, .int 0, .ref a1, .int 54, .int 1, .int 3, .int 1, .int 1, .ref a3])), (a1, .inr (5, [.ref cb, .int 81, .int 0, .ref a2, .int 10, .ref a4, .int 3, .ref a5, .int 1, .int 1, .ref a6, .int 6, .int 0, .int 1, .int 0])), (a2, .inl (cy 2, 2048, .inr (.inl g_4)))] H_3 := hP2
  replace hD : va_D A [(a0, .inr (6, [.int 0, .int 0, .ref a1, .int 54, .int 1, .int 3, .int 1, .int 1, .ref a3])), (a1, .inr (5, [.ref cb, .int 81, .int 0, .ref a2, .int 10, .ref a4, .int 3, .ref a5, .int 1, .int 1, .ref a6, .int 6, .int 0, .int 1, .int 0])), (a2, .inl (cy 2, 2048, .inr (.inl g_4)))] := hD2
  replace hS := hS2
  clear hP2 hD2 hS2
  clear hPc hDc hFc hP1 hD1 hK1 hk1 hz1 hvm ht
  refine W.widen (k := 0) (n := 0) (Nat.le_of_ble_eq_true rfl) (Nat.le_of_ble_eq_true rfl) ?_
  refine lv_iinc (v := 1) (lv' := [(3, .int 1), (0, .ref a0), (1, .int 1), (2, .int 1)]) hx hb dX6_readTypes_26 hl (k := 0) rfl (by decide) (by decide) rfl (fun ls hl2 => ?_)
  replace hl := hl2
  clear hl2
  refine lv_goto (tgt := 2) hx hb dX6_readTypes_29 (by decide) ?_
  refine lv_iload_n hx hb dX6_readTypes_2 rfl (lv_at hl 0 rfl) ?_
  refine lv_iload_n hx hb dX6_readTypes_3 rfl (lv_at hl 2 rfl) ?_
  refine lv_icmp_ge (tgt := 32) hx hb dX6_readTypes_4 (by decide) (fun _ => ?_) (fun h => absurd (by decide) h)
  exact W.vret hx hb hr (fun t ht hW => ⟨⟨(g_4), rfl, kp_5, by rw [ht]; exact hP, va_K.moved hW.alike hK, hD⟩, hS.F ht⟩) hS.2.2 dX6_readTypes_32

set_option maxHeartbeats 4000000 in
set_option maxRecDepth 100000 in
theorem cc_393_X6_readList (l : Launch) (dC : Nat → ClassId) (dI : Nat → Nat → Nat) (cy : Nat → ClassId) (sz : Nat) (cb : Nat) (a0 : Nat) (a1 : Nat) (a2 : Nat) (a3 : Nat) (a4 : Nat) (a5 : Nat) (a6 : Nat) (f0 : Nat → Int64) (f0_0 : f0 0 = 3) : Met l yX6_readList wsX6_readList ({ frames := 3, cells := 0, slots := 0, locals := 69 }) (va_Pc [.ref a0, .int 8] (fun U => U.heap.size = sz ∧ va_P (dC, dI) vwCl [(a0, .inr (6, [.int 0, .int 0, .ref a1, .int 51, .int 1, .int 3, .int 1, .int 1, .ref a3])), (a1, .inr (5, [.ref cb, .int 81, .int 0, .ref a2, .int 9, .ref a4, .int 3, .ref a5, .int 1, .int 1, .ref a6, .int 6, .int 0, .int 1, .int 0])), (a2, .inl (cy 2, 2048, .inr (.inl f0)))] U.heap ∧ va_K (dC, dI) vwCl (TYS cy) U ∧ va_D (fun _ => True) [(a0, .inr (6, [.int 0, .int 0, .ref a1, .int 51, .int 1, .int 3, .int 1, .int 1, .ref a3])), (a1, .inr (5, [.ref cb, .int 81, .int 0, .ref a2, .int 9, .ref a4, .int 3, .ref a5, .int 1, .int 1, .ref a6, .int 6, .int 0, .int 1, .int 0])), (a2, .inl (cy 2, 2048, .inr (.inl f0)))] ∧ NK U ∧ SK cb (va_A [(a0, .inr (6, [.int 0, .int 0, .ref a1, .int 51, .int 1, .int 3, .int 1, .int 1, .ref a3])), (a1, .inr (5, [.ref cb, .int 81, .int 0, .ref a2, .int 9, .ref a4, .int 3, .ref a5, .int 1, .int 1, .ref a6, .int 6, .int 0, .int 1, .int 0])), (a2, .inl (cy 2, 2048, .inr (.inl f0)))] sz) U U.heap)) (va_Qi (fun (r : Int32) (u : (Nat → Int64)) => match u with | (u0) => r = 1 ∧ u0 0 = 3) (fun u t => match u with | (u0) => va_P (dC, dI) vwCl [(a0, .inr (6, [.int 0, .int 0, .ref a1, .int 54, .int 1, .int 3, .int 1, .int 1, .ref a3])), (a1, .inr (5, [.ref cb, .int 81, .int 0, .ref a2, .int 10, .ref a4, .int 3, .ref a5, .int 1, .int 1, .ref a6, .int 6, .int 0, .int 1, .int 0])), (a2, .inl (cy 2, 2048, .inr (.inl u0)))] t.heap ∧ va_K (dC, dI) vwCl (TYS cy) t ∧ va_D (va_A [(a0, .inr (6, [.int 0, .int 0, .ref a1, .int 51, .int 1, .int 3, .int 1, .int 1, .ref a3])), (a1, .inr (5, [.ref cb, .int 81, .int 0, .ref a2, .int 9, .ref a4, .int 3, .ref a5, .int 1, .int 1, .ref a6, .int 6, .int 0, .int 1, .int 0])), (a2, .inl (cy 2, 2048, .inr (.inl f0)))] sz) [(a0, .inr (6, [.int 0, .int 0, .ref a1, .int 54, .int 1, .int 3, .int 1, .int 1, .ref a3])), (a1, .inr (5, [.ref cb, .int 81, .int 0, .ref a2, .int 10, .ref a4, .int 3, .ref a5, .int 1, .int 1, .ref a6, .int 6, .int 0, .int 1, .int 0])), (a2, .inl (cy 2, 2048, .inr (.inl u0)))]) (va_A [(a0, .inr (6, [.int 0, .int 0, .ref a1, .int 51, .int 1, .int 3, .int 1, .int 1, .ref a3])), (a1, .inr (5, [.ref cb, .int 81, .int 0, .ref a2, .int 9, .ref a4, .int 3, .ref a5, .int 1, .int 1, .ref a6, .int 6, .int 0, .int 1, .int 0])), (a2, .inl (cy 2, 2048, .inr (.inl f0)))] sz)) 0 0 (va_A [(a0, .inr (6, [.int 0, .int 0, .ref a1, .int 51, .int 1, .int 3, .int 1, .int 1, .ref a3])), (a1, .inr (5, [.ref cb, .int 81, .int 0, .ref a2, .int 9, .ref a4, .int 3, .ref a5, .int 1, .int 1, .ref a6, .int 6, .int 0, .int 1, .int 0])), (a2, .inl (cy 2, 2048, .inr (.inl f0)))] sz) := by
  refine Met.ofW (cc := cX6_readList) (maxL := 3) (ret := (some .int)) (by decide) rfl ?_
  intro p e s m args below meth c s₁ B hml hv
  obtain ⟨rfl, hsz, hP, hK, hD0, hN, hSK⟩ := hv
  have hx := B.exec
  have hb := B.bytes
  have hr := B.returns
  have hts := atoms_spec (ws := wsX6_readList) B.pre
  have hown : s.vm.findClass RX6 = some m.cls := findClass_of_methodNamed B.named
  have hlocks := B.notSynchronized
  subst hsz
  have hD := hD0.self (sz := s.heap.size)
  generalize hAe : va_A [(a0, .inr (6, [.int 0, .int 0, .ref a1, .int 51, .int 1, .int 3, .int 1, .int 1, .ref a3])), (a1, .inr (5, [.ref cb, .int 81, .int 0, .ref a2, .int 9, .ref a4, .int 3, .ref a5, .int 1, .int 1, .ref a6, .int 6, .int 0, .int 1, .int 0])), (a2, .inl (cy 2, 2048, .inr (.inl f0)))] s.heap.size = A at hD hSK ⊢
  have hA : ∀ q : Nat, s.heap.size ≤ q → A q := fun q h => by rw [← hAe]; exact Or.inr h
  have hS : va_S A s.heap s.heap [] := va_S.rf
  have hP : va_P (dC, dI) vwCl [(a0, .inr (6, [.int 0, .int 0, .ref a1, .int 51, .int 1, .int 3, .int 1, .int 1, .ref a3])), (a1, .inr (5, [.ref cb, .int 81, .int 0, .ref a2, .int 9, .ref a4, .int 3, .ref a5, .int 1, .int 1, .ref a6, .int 6, .int 0, .int 1, .int 0])), (a2, .inl (cy 2, 2048, .inr (.inl f0)))] s.heap := hP
  have hl := lv_entry ([.ref a0, .int 8]) (n := 3) (Nat.le_of_ble_eq_true rfl)
  rw [lg_entry_eq]
  generalize (lg_sl ([.ref a0, .int 8]) ++ List.replicate (3 - (lg_sl ([.ref a0, .int 8])).length) Slot.unset).toArray = ls at hl ⊢
  replace hl : lv_has ls 3 [(0, .ref a0), (1, .int 8)] := hl
  refine lv_aload_n hx hb dX6_readList_0 rfl (lv_at hl 0 rfl) ?_
  refine lv_iconst (v := 0) hx hb dX6_readList_1 (by decide) ?_
  refine lv_iload_n hx hb dX6_readList_2 rfl (lv_at hl 1 rfl) ?_
  have hPc := hP.sub (ws' := [(a0, .inr (6, [.int 0, .int 0, .ref a1, .int 51, .int 1, .int 3, .int 1, .int 1, .ref a3])), (a1, .inr (5, [.ref cb, .int 81, .int 0, .ref a2, .int 9, .ref a4, .int 3, .ref a5, .int 1, .int 1, .ref a6, .int 6, .int 0, .int 1, .int 0]))]) [0, 1] rfl
  have hDc := hD.sub (ws' := [(a0, .inr (6, [.int 0, .int 0, .ref a1, .int 51, .int 1, .int 3, .int 1, .int 1, .ref a3])), (a1, .inr (5, [.ref cb, .int 81, .int 0, .ref a2, .int 9, .ref a4, .int 3, .ref a5, .int 1, .int 1, .ref a6, .int 6, .int 0, .int 1, .int 0]))]) [0, 1] (by decide) rfl
  have hFc := va_free (wc := [(a0, .inr (6, [.int 0, .int 0, .ref a1, .int 51, .int 1, .int 3, .int 1, .int 1, .ref a3])), (a1, .inr (5, [.ref cb, .int 81, .int 0, .ref a2, .int 9, .ref a4, .int 3, .ref a5, .int 1, .int 1, .ref a6, .int 6, .int 0, .int 1, .int 0]))]) hD hS hA [0, 1] rfl
  refine va_calli (va_runV (As := [.int 0, .int 8]) (rest := []) ⟨hx, hb, hml, hown, hts⟩ (cc_394_X6_readNumber l dC dI cy s.heap.size cb a0 a1 a3 a2 a4 a5 a6) (cwV 2 hts gX6_readList_X6_readNumber rfl rfl rfl (by decide +kernel) ⟨Nat.le_of_ble_eq_true rfl, Nat.le_of_ble_eq_true rfl⟩) ⟨fun a U g mk q => by obtain ⟨q0, q1, qP, qK, qD, qN, qS⟩ := q; exact ⟨q0, q1, qP, va_K.moved (u := U) (U := U.calling g mk a) (Vm.Alike.refl U.vm) qK, qD, qN.same rfl, SK.moved (u := U) (U := U.calling g mk a) (Vm.Alike.refl U.vm) qS⟩, va_recv hK hPc (ci := 6) (q0 := 0) rfl rfl, fun U hU hW => ⟨rfl, by rw [hU], by rw [hU]; exact hPc, va_K.moved hW.alike hK, hDc.weaken (fun _ _ _ _ => trivial), hN.warm hW, by rw [hU]; exact ((hSK.kept hS.2.1).narrow hFc).moved hW.alike⟩⟩ rfl rfl hl.1 rfl (lv_room (Nat.le_of_ble_eq_true rfl)) dX6_readList_3 ⟨Nat.le_of_ble_eq_true rfl, Nat.le_of_ble_eq_true rfl⟩) hS (fun q _ h => hFc q h) hFc (fun r_1 u t H_2 locs ht hvm hw hB hz1 hk1 hS2 => ?_)
  obtain ⟨hP1, hK1, hD1⟩ := hB
  rw [ht] at hP1
  obtain rfl := hw
  obtain ⟨hP2, hD2⟩ := va_join (wr := [(a2, .inl (cy 2, 2048, .inr (.inl f0)))]) (w1 := [(a0, .inr (6, [.int 0, .int 0, .ref a1, .int 52, .int 1, .int 3, .int 1, .int 1, .ref a3])), (a1, .inr (5, [.ref cb, .int 81, .int 0, .ref a2, .int 9, .ref a4, .int 3, .ref a5, .int 1, .int 1, .ref a6, .int 6, .int 0, .int 1, .int 0]))]) hP hD [0, 1] [2] rfl rfl (by decide) (by decide) hk1 hFc hP1 hD1
  replace hP : va_P (dC, dI) vwCl [(a2, .inl (cy 2, 2048, .inr (.inl f0))), (a0, .inr (6, [.int 0, .int 0, .ref a1, .int 52, .int 1, .int 3, .int 1, .int 1, .ref a3])), (a1, .inr (5, [.ref cb, .int 81, .int 0, .ref a2, .int 9, .ref a4, .int 3, .ref a5, .int 1, .int 1, .ref a6, .int 6, .int 0, .int 1, .int 0]))] H_2 := hP2
  replace hD : va_D A [(a2, .inl (cy 2, 2048, .inr (.inl f0))), (a0, .inr (6, [.int 0, .int 0, .ref a1, .int 52, .int 1, .int 3, .int 1, .int 1, .ref a3])), (a1, .inr (5, [.ref cb, .int 81, .int 0, .ref a2, .int 9, .ref a4, .int 3, .ref a5, .int 1, .int 1, .ref a6, .int 6, .int 0, .int 1, .int 0]))] := hD2
  replace hS := hS2
  clear hP2 hD2 hS2
  clear hPc hDc hFc hP1 hD1 hK1 hk1 hz1 hvm ht
  refine W.widen (k := 0) (n := 0) (Nat.le_of_ble_eq_true rfl) (Nat.le_of_ble_eq_true rfl) ?_
  refine lv_istore_n (lv' := [(2, .int 1), (0, .ref a0), (1, .int 8)]) hx hb dX6_readList_6 rfl hl (by decide) rfl (fun ls hl2 => ?_)
  replace hl := hl2
  clear hl2
  refine lv_aload_n hx hb dX6_readList_7 rfl (lv_at hl 1 rfl) ?_
  refine lv_iload_n hx hb dX6_readList_8 rfl (lv_at hl 0 rfl) ?_
  refine lv_iconst (v := 1) hx hb dX6_readList_9 (by decide) ?_
  have hPc := hP.sub (ws' := [(a0, .inr (6, [.int 0, .int 0, .ref a1, .int 52, .int 1, .int 3, .int 1, .int 1, .ref a3])), (a1, .inr (5, [.ref cb, .int 81, .int 0, .ref a2, .int 9, .ref a4, .int 3, .ref a5, .int 1, .int 1, .ref a6, .int 6, .int 0, .int 1, .int 0])), (a2, .inl (cy 2, 2048, .inr (.inl f0)))]) [1, 2, 0] rfl
  have hDc := hD.sub (ws' := [(a0, .inr (6, [.int 0, .int 0, .ref a1, .int 52, .int 1, .int 3, .int 1, .int 1, .ref a3])), (a1, .inr (5, [.ref cb, .int 81, .int 0, .ref a2, .int 9, .ref a4, .int 3, .ref a5, .int 1, .int 1, .ref a6, .int 6, .int 0, .int 1, .int 0])), (a2, .inl (cy 2, 2048, .inr (.inl f0)))]) [1, 2, 0] (by decide) rfl
  have hFc := va_free (wc := [(a0, .inr (6, [.int 0, .int 0, .ref a1, .int 52, .int 1, .int 3, .int 1, .int 1, .ref a3])), (a1, .inr (5, [.ref cb, .int 81, .int 0, .ref a2, .int 9, .ref a4, .int 3, .ref a5, .int 1, .int 1, .ref a6, .int 6, .int 0, .int 1, .int 0])), (a2, .inl (cy 2, 2048, .inr (.inl f0)))]) hD hS hA [1, 2, 0] rfl
  refine va_callv (va_runV (As := [.int 1, .int 1]) (rest := []) ⟨hx, hb, hml, hown, hts⟩ (cc_396_X6_readTypes l dC dI cy H_2.size cb a0 a1 a2 a3 a4 a5 a6 f0 f0_0) (cwV 2 hts gX6_readList_X6_readTypes rfl rfl rfl (by decide +kernel) ⟨Nat.le_of_ble_eq_true rfl, Nat.le_of_ble_eq_true rfl⟩) ⟨fun a U g mk q => by obtain ⟨q0, q1, qP, qK, qD, qN, qS⟩ := q; exact ⟨q0, q1, qP, va_K.moved (u := U) (U := U.calling g mk a) (Vm.Alike.refl U.vm) qK, qD, qN.same rfl, SK.moved (u := U) (U := U.calling g mk a) (Vm.Alike.refl U.vm) qS⟩, va_recv hK hPc (ci := 6) (q0 := 0) rfl rfl, fun U hU hW => ⟨rfl, by rw [hU], by rw [hU]; exact hPc, va_K.moved hW.alike hK, hDc.weaken (fun _ _ _ _ => trivial), hN.warm hW, by rw [hU]; exact ((hSK.kept hS.2.1).narrow hFc).moved hW.alike⟩⟩ rfl rfl hl.1 rfl (lv_room (Nat.le_of_ble_eq_true rfl)) dX6_readList_10 ⟨Nat.le_of_ble_eq_true rfl, Nat.le_of_ble_eq_true rfl⟩) hS (fun q _ h => hFc q h) hFc (fun u t H_3 locs ht hvm hw hB hz1 hk1 hS2 => ?_)
  obtain ⟨g_4, rfl⟩ : ∃ z, z = u := ⟨_, rfl⟩
  obtain ⟨hP1, hK1, hD1⟩ := hB
  rw [ht] at hP1
  have kp_5 := hw
  obtain ⟨hP2, hD2⟩ := va_join (wr := []) (w1 := [(a0, .inr (6, [.int 0, .int 0, .ref a1, .int 54, .int 1, .int 3, .int 1, .int 1, .ref a3])), (a1, .inr (5, [.ref cb, .int 81, .int 0, .ref a2, .int 10, .ref a4, .int 3, .ref a5, .int 1, .int 1, .ref a6, .int 6, .int 0, .int 1, .int 0])), (a2, .inl (cy 2, 2048, .inr (.inl g_4)))]) hP hD [1, 2, 0] [] rfl rfl (by decide) (by decide) hk1 hFc hP1 hD1
  replace hP : va_P (dC, dI) vwCl [(a0, .inr (6, [.int 0, .int 0, .ref a1, .int 54, .int 1, .int 3, .int 1, .int 1, .ref a3])), (a1, .inr (5, [.ref cb, .int 81, .int 0, .ref a2, .int 10, .ref a4, .int 3, .ref a5, .int 1, .int 1, .ref a6, .int 6, .int 0, .int 1, .int 0])), (a2, .inl (cy 2, 2048, .inr (.inl g_4)))] H_3 := hP2
  replace hD : va_D A [(a0, .inr (6, [.int 0, .int 0, .ref a1, .int 54, .int 1, .int 3, .int 1, .int 1, .ref a3])), (a1, .inr (5, [.ref cb, .int 81, .int 0, .ref a2, .int 10, .ref a4, .int 3, .ref a5, .int 1, .int 1, .ref a6, .int 6, .int 0, .int 1, .int 0])), (a2, .inl (cy 2, 2048, .inr (.inl g_4)))] := hD2
  replace hS := hS2
  clear hP2 hD2 hS2
  clear hPc hDc hFc hP1 hD1 hK1 hk1 hz1 hvm ht
  refine W.widen (k := 0) (n := 0) (Nat.le_of_ble_eq_true rfl) (Nat.le_of_ble_eq_true rfl) ?_
  refine lv_iload_n hx hb dX6_readList_13 rfl (lv_at hl 0 rfl) ?_
  exact W.iret hx hb hr (fun t ht hW => ⟨⟨1, (g_4), rfl, ⟨rfl, kp_5⟩, by rw [ht]; exact hP, va_K.moved hW.alike hK, hD⟩, hS.F ht⟩) hS.2.2 dX6_readList_14

set_option maxHeartbeats 4000000 in
set_option maxRecDepth 100000 in
theorem cc_402_X6_readByte (l : Launch) (dC : Nat → ClassId) (dI : Nat → Nat → Nat) (cy : Nat → ClassId) (sz : Nat) (cb : Nat) (a0 : Nat) (a1 : Nat) (a2 : Nat) (a3 : Nat) (a4 : Nat) (a5 : Nat) (a6 : Nat)  : Met l yX6_readByte wsX6_readByte ({ frames := 0, cells := 0, slots := 0, locals := 0 }) (va_Pc [.ref a0] (fun U => U.heap.size = sz ∧ va_P (dC, dI) vwCl [(a0, .inr (6, [.int 0, .int 0, .ref a1, .int 54, .int 1, .int 3, .int 1, .int 1, .ref a2])), (a1, .inr (5, [.ref cb, .int 81, .int 0, .ref a3, .int 10, .ref a4, .int 3, .ref a5, .int 1, .int 1, .ref a6, .int 6, .int 0, .int 1, .int 0]))] U.heap ∧ va_K (dC, dI) vwCl (TYS cy) U ∧ va_D (fun _ => True) [(a0, .inr (6, [.int 0, .int 0, .ref a1, .int 54, .int 1, .int 3, .int 1, .int 1, .ref a2])), (a1, .inr (5, [.ref cb, .int 81, .int 0, .ref a3, .int 10, .ref a4, .int 3, .ref a5, .int 1, .int 1, .ref a6, .int 6, .int 0, .int 1, .int 0]))] ∧ NK U ∧ SK cb (va_A [(a0, .inr (6, [.int 0, .int 0, .ref a1, .int 54, .int 1, .int 3, .int 1, .int 1, .ref a2])), (a1, .inr (5, [.ref cb, .int 81, .int 0, .ref a3, .int 10, .ref a4, .int 3, .ref a5, .int 1, .int 1, .ref a6, .int 6, .int 0, .int 1, .int 0]))] sz) U U.heap)) (va_Qi (fun (r : Int32) (u : Unit) => r = 0) (fun u t => va_P (dC, dI) vwCl [(a0, .inr (6, [.int 0, .int 0, .ref a1, .int 55, .int 1, .int 3, .int 1, .int 1, .ref a2])), (a1, .inr (5, [.ref cb, .int 81, .int 0, .ref a3, .int 10, .ref a4, .int 3, .ref a5, .int 1, .int 1, .ref a6, .int 6, .int 0, .int 1, .int 0]))] t.heap ∧ va_K (dC, dI) vwCl (TYS cy) t ∧ va_D (va_A [(a0, .inr (6, [.int 0, .int 0, .ref a1, .int 54, .int 1, .int 3, .int 1, .int 1, .ref a2])), (a1, .inr (5, [.ref cb, .int 81, .int 0, .ref a3, .int 10, .ref a4, .int 3, .ref a5, .int 1, .int 1, .ref a6, .int 6, .int 0, .int 1, .int 0]))] sz) [(a0, .inr (6, [.int 0, .int 0, .ref a1, .int 55, .int 1, .int 3, .int 1, .int 1, .ref a2])), (a1, .inr (5, [.ref cb, .int 81, .int 0, .ref a3, .int 10, .ref a4, .int 3, .ref a5, .int 1, .int 1, .ref a6, .int 6, .int 0, .int 1, .int 0]))]) (va_A [(a0, .inr (6, [.int 0, .int 0, .ref a1, .int 54, .int 1, .int 3, .int 1, .int 1, .ref a2])), (a1, .inr (5, [.ref cb, .int 81, .int 0, .ref a3, .int 10, .ref a4, .int 3, .ref a5, .int 1, .int 1, .ref a6, .int 6, .int 0, .int 1, .int 0]))] sz)) 0 0 (va_A [(a0, .inr (6, [.int 0, .int 0, .ref a1, .int 54, .int 1, .int 3, .int 1, .int 1, .ref a2])), (a1, .inr (5, [.ref cb, .int 81, .int 0, .ref a3, .int 10, .ref a4, .int 3, .ref a5, .int 1, .int 1, .ref a6, .int 6, .int 0, .int 1, .int 0]))] sz) := by
  refine Met.ofW (cc := cX6_readByte) (maxL := 1) (ret := (some .int)) (by decide) rfl ?_
  intro p e s m args below meth c s₁ B hml hv
  obtain ⟨rfl, hsz, hP, hK, hD0, hN, hSK⟩ := hv
  have hx := B.exec
  have hb := B.bytes
  have hr := B.returns
  have hts := atoms_spec (ws := wsX6_readByte) B.pre
  have hown : s.vm.findClass RX6 = some m.cls := findClass_of_methodNamed B.named
  have hlocks := B.notSynchronized
  subst hsz
  have hD := hD0.self (sz := s.heap.size)
  generalize hAe : va_A [(a0, .inr (6, [.int 0, .int 0, .ref a1, .int 54, .int 1, .int 3, .int 1, .int 1, .ref a2])), (a1, .inr (5, [.ref cb, .int 81, .int 0, .ref a3, .int 10, .ref a4, .int 3, .ref a5, .int 1, .int 1, .ref a6, .int 6, .int 0, .int 1, .int 0]))] s.heap.size = A at hD hSK ⊢
  have hA : ∀ q : Nat, s.heap.size ≤ q → A q := fun q h => by rw [← hAe]; exact Or.inr h
  have hS : va_S A s.heap s.heap [] := va_S.rf
  have hP : va_P (dC, dI) vwCl [(a0, .inr (6, [.int 0, .int 0, .ref a1, .int 54, .int 1, .int 3, .int 1, .int 1, .ref a2])), (a1, .inr (5, [.ref cb, .int 81, .int 0, .ref a3, .int 10, .ref a4, .int 3, .ref a5, .int 1, .int 1, .ref a6, .int 6, .int 0, .int 1, .int 0]))] s.heap := hP
  have hl := lv_entry ([.ref a0]) (n := 1) (Nat.le_of_ble_eq_true rfl)
  rw [lg_entry_eq]
  generalize (lg_sl ([.ref a0]) ++ List.replicate (1 - (lg_sl ([.ref a0])).length) Slot.unset).toArray = ls at hl ⊢
  replace hl : lv_has ls 1 [(0, .ref a0)] := hl
  refine lv_aload_n hx hb dX6_readByte_0 rfl (lv_at hl 0 rfl) ?_
  refine va_get (D := (dC, dI)) (ci := 6) (v := .int 0) (C := RX6) (T := TX6) (N := 9) hx hb hts iw_X6_readByte_X6 hown hK hP 0 rfl rfl 1 (by decide) (hts _ m_X6_readByte_1) (fun _ h9 => h9) rfl dX6_readByte_1 ?_
  refine lv_if_eq (tgt := 9) hx hb dX6_readByte_4 (by decide) (fun _ => ?_) (fun h => absurd (by decide) h)
  refine lv_aload_n hx hb dX6_readByte_9 rfl (lv_at hl 0 rfl) ?_
  refine va_get (D := (dC, dI)) (ci := 6) (v := .int 54) (C := RX6) (T := TX6) (N := 9) hx hb hts iw_X6_readByte_X6 hown hK hP 0 rfl rfl 3 (by decide) (hts _ m_X6_readByte_2) (fun _ h9 => h9) rfl dX6_readByte_10 ?_
  refine lv_aload_n hx hb dX6_readByte_13 rfl (lv_at hl 0 rfl) ?_
  refine va_get (D := (dC, dI)) (ci := 6) (v := .ref a1) (C := RX6) (T := TX6) (N := 9) hx hb hts iw_X6_readByte_X6 hown hK hP 0 rfl rfl 2 (by decide) (hts _ m_X6_readByte_3) (fun _ h9 => h9) rfl dX6_readByte_14 ?_
  refine va_get (D := (dC, dI)) (ci := 5) (v := .int 81) (C := RX5) (T := TX5) (N := 15) hx hb hts iw_X6_readByte_X5 hown hK hP 1 rfl rfl 1 (by decide) (hts _ m_X6_readByte_4) (fun _ h9 => h9) rfl dX6_readByte_17 ?_
  refine lv_icmp_lt (tgt := 41) hx hb dX6_readByte_20 (by decide) (fun _ => ?_) (fun h => absurd (by decide) h)
  refine lv_aload_n hx hb dX6_readByte_41 rfl (lv_at hl 0 rfl) ?_
  refine va_get (D := (dC, dI)) (ci := 6) (v := .ref a1) (C := RX6) (T := TX6) (N := 9) hx hb hts iw_X6_readByte_X6 hown hK hP 0 rfl rfl 2 (by decide) (hts _ m_X6_readByte_3) (fun _ h9 => h9) rfl dX6_readByte_42 ?_
  refine va_get (D := (dC, dI)) (ci := 5) (v := .ref cb) (C := RX5) (T := TX5) (N := 15) hx hb hts iw_X6_readByte_X5 hown hK hP 1 rfl rfl 0 (by decide) (hts _ m_X6_readByte_6) (fun _ h9 => h9) rfl dX6_readByte_45 ?_
  refine lv_aload_n hx hb dX6_readByte_48 rfl (lv_at hl 0 rfl) ?_
  refine lv_dup hx hb dX6_readByte_49 rfl ?_
  refine va_get (D := (dC, dI)) (ci := 6) (v := .int 54) (C := RX6) (T := TX6) (N := 9) hx hb hts iw_X6_readByte_X6 hown hK hP 0 rfl rfl 3 (by decide) (hts _ m_X6_readByte_2) (fun _ h9 => h9) rfl dX6_readByte_50 ?_
  refine lv_dup_x1 hx hb dX6_readByte_53 rfl rfl ?_
  refine lv_iconst (v := 1) hx hb dX6_readByte_54 (by decide) ?_
  refine lv_iadd hx hb dX6_readByte_55 ?_
  refine lv_topi (fun z_1 ez_1 => ?_)
  obtain rfl : z_1 = 55 := ez_1.trans (by decide)
  clear ez_1
  refine va_put (D := (dC, dI)) (ci := 6) (v := .int 55) (ty := .int) (C := RX6) (T := TX6) (N := 9) hx hb hts iw_X6_readByte_X6 tyX6 tyX6_ok nmX6 hown hK hP hD hS 0 rfl rfl 3 (by decide) (hts _ m_X6_readByte_2) (fun _ h9 => h9) rfl (by decide +kernel) rfl rfl (Nat.le_of_ble_eq_true rfl) dX6_readByte_56 (fun H_2 locs hP2 hD2 hS2 => ?_)
  replace hP : va_P (dC, dI) vwCl [(a0, .inr (6, [.int 0, .int 0, .ref a1, .int 55, .int 1, .int 3, .int 1, .int 1, .ref a2])), (a1, .inr (5, [.ref cb, .int 81, .int 0, .ref a3, .int 10, .ref a4, .int 3, .ref a5, .int 1, .int 1, .ref a6, .int 6, .int 0, .int 1, .int 0]))] H_2 := hP2
  replace hD : va_D A [(a0, .inr (6, [.int 0, .int 0, .ref a1, .int 55, .int 1, .int 3, .int 1, .int 1, .ref a2])), (a1, .inr (5, [.ref cb, .int 81, .int 0, .ref a3, .int 10, .ref a4, .int 3, .ref a5, .int 1, .int 1, .ref a6, .int 6, .int 0, .int 1, .int 0]))] := hD2
  replace hS := hS2
  clear hP2 hD2 hS2
  refine va_tb (v := .int 0) hx hb hSK.2 hS (by unfold vp_in; decide) rfl dX6_readByte_59 ?_
  refine lv_sipush (v := 255) hx hb dX6_readByte_60 (by decide) ?_
  refine lv_iand hx hb dX6_readByte_63 ?_
  refine lv_topi (fun z_3 ez_3 => ?_)
  obtain rfl : z_3 = 0 := ez_3.trans (by decide)
  clear ez_3
  exact W.iret hx hb hr (fun t ht hW => ⟨⟨0, (), rfl, rfl, by rw [ht]; exact hP, va_K.moved hW.alike hK, hD⟩, hS.F ht⟩) hS.2.2 dX6_readByte_64

set_option maxHeartbeats 4000000 in
set_option maxRecDepth 100000 in
theorem cc_401_X6_readNumber (l : Launch) (dC : Nat → ClassId) (dI : Nat → Nat → Nat) (cy : Nat → ClassId) (sz : Nat) (cb : Nat) (a0 : Nat) (a1 : Nat) (a2 : Nat) (a3 : Nat) (a4 : Nat) (a5 : Nat) (a6 : Nat)  : Met l yX6_readNumber wsX6_readNumber ({ frames := 1, cells := 0, slots := 0, locals := 20 }) (va_Pc [.ref a0, .int 0, .int 32] (fun U => U.heap.size = sz ∧ va_P (dC, dI) vwCl [(a0, .inr (6, [.int 0, .int 0, .ref a1, .int 54, .int 1, .int 3, .int 1, .int 1, .ref a2])), (a1, .inr (5, [.ref cb, .int 81, .int 0, .ref a3, .int 10, .ref a4, .int 3, .ref a5, .int 1, .int 1, .ref a6, .int 6, .int 0, .int 1, .int 0]))] U.heap ∧ va_K (dC, dI) vwCl (TYS cy) U ∧ va_D (fun _ => True) [(a0, .inr (6, [.int 0, .int 0, .ref a1, .int 54, .int 1, .int 3, .int 1, .int 1, .ref a2])), (a1, .inr (5, [.ref cb, .int 81, .int 0, .ref a3, .int 10, .ref a4, .int 3, .ref a5, .int 1, .int 1, .ref a6, .int 6, .int 0, .int 1, .int 0]))] ∧ NK U ∧ SK cb (va_A [(a0, .inr (6, [.int 0, .int 0, .ref a1, .int 54, .int 1, .int 3, .int 1, .int 1, .ref a2])), (a1, .inr (5, [.ref cb, .int 81, .int 0, .ref a3, .int 10, .ref a4, .int 3, .ref a5, .int 1, .int 1, .ref a6, .int 6, .int 0, .int 1, .int 0]))] sz) U U.heap)) (va_Qi (fun (r : Int32) (u : Unit) => r = 0) (fun u t => va_P (dC, dI) vwCl [(a0, .inr (6, [.int 0, .int 0, .ref a1, .int 55, .int 1, .int 3, .int 1, .int 1, .ref a2])), (a1, .inr (5, [.ref cb, .int 81, .int 0, .ref a3, .int 10, .ref a4, .int 3, .ref a5, .int 1, .int 1, .ref a6, .int 6, .int 0, .int 1, .int 0]))] t.heap ∧ va_K (dC, dI) vwCl (TYS cy) t ∧ va_D (va_A [(a0, .inr (6, [.int 0, .int 0, .ref a1, .int 54, .int 1, .int 3, .int 1, .int 1, .ref a2])), (a1, .inr (5, [.ref cb, .int 81, .int 0, .ref a3, .int 10, .ref a4, .int 3, .ref a5, .int 1, .int 1, .ref a6, .int 6, .int 0, .int 1, .int 0]))] sz) [(a0, .inr (6, [.int 0, .int 0, .ref a1, .int 55, .int 1, .int 3, .int 1, .int 1, .ref a2])), (a1, .inr (5, [.ref cb, .int 81, .int 0, .ref a3, .int 10, .ref a4, .int 3, .ref a5, .int 1, .int 1, .ref a6, .int 6, .int 0, .int 1, .int 0]))]) (va_A [(a0, .inr (6, [.int 0, .int 0, .ref a1, .int 54, .int 1, .int 3, .int 1, .int 1, .ref a2])), (a1, .inr (5, [.ref cb, .int 81, .int 0, .ref a3, .int 10, .ref a4, .int 3, .ref a5, .int 1, .int 1, .ref a6, .int 6, .int 0, .int 1, .int 0]))] sz)) 0 0 (va_A [(a0, .inr (6, [.int 0, .int 0, .ref a1, .int 54, .int 1, .int 3, .int 1, .int 1, .ref a2])), (a1, .inr (5, [.ref cb, .int 81, .int 0, .ref a3, .int 10, .ref a4, .int 3, .ref a5, .int 1, .int 1, .ref a6, .int 6, .int 0, .int 1, .int 0]))] sz) := by
  refine Met.ofW (cc := cX6_readNumber) (maxL := 5) (ret := (some .int)) (by decide) rfl ?_
  intro p e s m args below meth c s₁ B hml hv
  obtain ⟨rfl, hsz, hP, hK, hD0, hN, hSK⟩ := hv
  have hx := B.exec
  have hb := B.bytes
  have hr := B.returns
  have hts := atoms_spec (ws := wsX6_readNumber) B.pre
  have hown : s.vm.findClass RX6 = some m.cls := findClass_of_methodNamed B.named
  have hlocks := B.notSynchronized
  subst hsz
  have hD := hD0.self (sz := s.heap.size)
  generalize hAe : va_A [(a0, .inr (6, [.int 0, .int 0, .ref a1, .int 54, .int 1, .int 3, .int 1, .int 1, .ref a2])), (a1, .inr (5, [.ref cb, .int 81, .int 0, .ref a3, .int 10, .ref a4, .int 3, .ref a5, .int 1, .int 1, .ref a6, .int 6, .int 0, .int 1, .int 0]))] s.heap.size = A at hD hSK ⊢
  have hA : ∀ q : Nat, s.heap.size ≤ q → A q := fun q h => by rw [← hAe]; exact Or.inr h
  have hS : va_S A s.heap s.heap [] := va_S.rf
  have hP : va_P (dC, dI) vwCl [(a0, .inr (6, [.int 0, .int 0, .ref a1, .int 54, .int 1, .int 3, .int 1, .int 1, .ref a2])), (a1, .inr (5, [.ref cb, .int 81, .int 0, .ref a3, .int 10, .ref a4, .int 3, .ref a5, .int 1, .int 1, .ref a6, .int 6, .int 0, .int 1, .int 0]))] s.heap := hP
  have hl := lv_entry ([.ref a0, .int 0, .int 32]) (n := 5) (Nat.le_of_ble_eq_true rfl)
  rw [lg_entry_eq]
  generalize (lg_sl ([.ref a0, .int 0, .int 32]) ++ List.replicate (5 - (lg_sl ([.ref a0, .int 0, .int 32])).length) Slot.unset).toArray = ls at hl ⊢
  replace hl : lv_has ls 5 [(0, .ref a0), (1, .int 0), (2, .int 32)] := hl
  refine lv_aload_n hx hb dX6_readNumber_0 rfl (lv_at hl 0 rfl) ?_
  refine va_get (D := (dC, dI)) (ci := 6) (v := .int 54) (C := RX6) (T := TX6) (N := 9) hx hb hts iw_X6_readNumber_X6 hown hK hP 0 rfl rfl 3 (by decide) (hts _ m_X6_readNumber_1) (fun _ h9 => h9) rfl dX6_readNumber_1 ?_
  refine lv_istore_n (lv' := [(3, .int 54), (0, .ref a0), (1, .int 0), (2, .int 32)]) hx hb dX6_readNumber_4 rfl hl (by decide) rfl (fun ls hl2 => ?_)
  replace hl := hl2
  clear hl2
  refine lv_aload_n hx hb dX6_readNumber_5 rfl (lv_at hl 1 rfl) ?_
  have hPc := hP.sub (ws' := [(a0, .inr (6, [.int 0, .int 0, .ref a1, .int 54, .int 1, .int 3, .int 1, .int 1, .ref a2])), (a1, .inr (5, [.ref cb, .int 81, .int 0, .ref a3, .int 10, .ref a4, .int 3, .ref a5, .int 1, .int 1, .ref a6, .int 6, .int 0, .int 1, .int 0]))]) [0, 1] rfl
  have hDc := hD.sub (ws' := [(a0, .inr (6, [.int 0, .int 0, .ref a1, .int 54, .int 1, .int 3, .int 1, .int 1, .ref a2])), (a1, .inr (5, [.ref cb, .int 81, .int 0, .ref a3, .int 10, .ref a4, .int 3, .ref a5, .int 1, .int 1, .ref a6, .int 6, .int 0, .int 1, .int 0]))]) [0, 1] (by decide) rfl
  have hFc := va_free (wc := [(a0, .inr (6, [.int 0, .int 0, .ref a1, .int 54, .int 1, .int 3, .int 1, .int 1, .ref a2])), (a1, .inr (5, [.ref cb, .int 81, .int 0, .ref a3, .int 10, .ref a4, .int 3, .ref a5, .int 1, .int 1, .ref a6, .int 6, .int 0, .int 1, .int 0]))]) hD hS hA [0, 1] rfl
  refine va_calli (va_runV (As := []) (rest := []) ⟨hx, hb, hml, hown, hts⟩ (cc_402_X6_readByte l dC dI cy s.heap.size cb a0 a1 a2 a3 a4 a5 a6) (cwV 0 hts gX6_readNumber_X6_readByte rfl rfl rfl (by decide +kernel) ⟨Nat.le_of_ble_eq_true rfl, Nat.le_of_ble_eq_true rfl⟩) ⟨fun a U g mk q => by obtain ⟨q0, q1, qP, qK, qD, qN, qS⟩ := q; exact ⟨q0, q1, qP, va_K.moved (u := U) (U := U.calling g mk a) (Vm.Alike.refl U.vm) qK, qD, qN.same rfl, SK.moved (u := U) (U := U.calling g mk a) (Vm.Alike.refl U.vm) qS⟩, va_recv hK hPc (ci := 6) (q0 := 0) rfl rfl, fun U hU hW => ⟨rfl, by rw [hU], by rw [hU]; exact hPc, va_K.moved hW.alike hK, hDc.weaken (fun _ _ _ _ => trivial), hN.warm hW, by rw [hU]; exact ((hSK.kept hS.2.1).narrow hFc).moved hW.alike⟩⟩ rfl rfl hl.1 rfl (lv_room (Nat.le_of_ble_eq_true rfl)) dX6_readNumber_6 ⟨Nat.le_of_ble_eq_true rfl, Nat.le_of_ble_eq_true rfl⟩) hS (fun q _ h => hFc q h) hFc (fun r_1 u t H_2 locs ht hvm hw hB hz1 hk1 hS2 => ?_)
  obtain ⟨hP1, hK1, hD1⟩ := hB
  rw [ht] at hP1
  obtain rfl := hw
  obtain ⟨hP2, hD2⟩ := va_join (wr := []) (w1 := [(a0, .inr (6, [.int 0, .int 0, .ref a1, .int 55, .int 1, .int 3, .int 1, .int 1, .ref a2])), (a1, .inr (5, [.ref cb, .int 81, .int 0, .ref a3, .int 10, .ref a4, .int 3, .ref a5, .int 1, .int 1, .ref a6, .int 6, .int 0, .int 1, .int 0]))]) hP hD [0, 1] [] rfl rfl (by decide) (by decide) hk1 hFc hP1 hD1
  replace hP : va_P (dC, dI) vwCl [(a0, .inr (6, [.int 0, .int 0, .ref a1, .int 55, .int 1, .int 3, .int 1, .int 1, .ref a2])), (a1, .inr (5, [.ref cb, .int 81, .int 0, .ref a3, .int 10, .ref a4, .int 3, .ref a5, .int 1, .int 1, .ref a6, .int 6, .int 0, .int 1, .int 0]))] H_2 := hP2
  replace hD : va_D A [(a0, .inr (6, [.int 0, .int 0, .ref a1, .int 55, .int 1, .int 3, .int 1, .int 1, .ref a2])), (a1, .inr (5, [.ref cb, .int 81, .int 0, .ref a3, .int 10, .ref a4, .int 3, .ref a5, .int 1, .int 1, .ref a6, .int 6, .int 0, .int 1, .int 0]))] := hD2
  replace hS := hS2
  clear hP2 hD2 hS2
  clear hPc hDc hFc hP1 hD1 hK1 hk1 hz1 hvm ht
  refine W.widen (k := 0) (n := 0) (Nat.le_of_ble_eq_true rfl) (Nat.le_of_ble_eq_true rfl) ?_
  refine lv_istore (lv' := [(4, .int 0), (3, .int 54), (0, .ref a0), (1, .int 0), (2, .int 32)]) hx hb dX6_readNumber_9 hl (by decide) rfl (fun ls hl2 => ?_)
  replace hl := hl2
  clear hl2
  refine lv_iload hx hb dX6_readNumber_11 (lv_at hl 0 rfl) ?_
  refine lv_iload_n hx hb dX6_readNumber_13 rfl (lv_at hl 3 rfl) ?_
  refine lv_icmp_lt (tgt := 23) hx hb dX6_readNumber_14 (by decide) (fun h => absurd h (by decide)) (fun _ => ?_)
  refine lv_iload hx hb dX6_readNumber_17 (lv_at hl 0 rfl) ?_
  refine lv_iload_n hx hb dX6_readNumber_19 rfl (lv_at hl 4 rfl) ?_
  refine lv_icmp_le (tgt := 29) hx hb dX6_readNumber_20 (by decide) (fun _ => ?_) (fun h => absurd (by decide) h)
  refine lv_aload_n hx hb dX6_readNumber_29 rfl (lv_at hl 2 rfl) ?_
  refine va_get (D := (dC, dI)) (ci := 6) (v := .int 0) (C := RX6) (T := TX6) (N := 9) hx hb hts iw_X6_readNumber_X6 hown hK hP 0 rfl rfl 1 (by decide) (hts _ m_X6_readNumber_2) (fun _ h9 => h9) rfl dX6_readNumber_30 ?_
  refine lv_if_ne (tgt := 41) hx hb dX6_readNumber_33 (by decide) (fun h => absurd (by decide) h) (fun _ => ?_)
  refine lv_iload hx hb dX6_readNumber_36 (lv_at hl 0 rfl) ?_
  refine lv_goto (tgt := 42) hx hb dX6_readNumber_38 (by decide) ?_
  exact W.iret hx hb hr (fun t ht hW => ⟨⟨0, (), rfl, rfl, by rw [ht]; exact hP, va_K.moved hW.alike hK, hD⟩, hS.F ht⟩) hS.2.2 dX6_readNumber_42

set_option maxHeartbeats 4000000 in
set_option maxRecDepth 100000 in
theorem cc_403_X6_readTypes (l : Launch) (dC : Nat → ClassId) (dI : Nat → Nat → Nat) (cy : Nat → ClassId) (sz : Nat) (cb : Nat) (a0 : Nat) (a1 : Nat) (a2 : Nat)  : Met l yX6_readTypes wsX6_readTypes ({ frames := 0, cells := 0, slots := 0, locals := 0 }) (va_Pc [.ref a0, .int 0, .int 1] (fun U => U.heap.size = sz ∧ va_P (dC, dI) vwCl [(a0, .inr (6, [.int 0, .int 0, .ref a1, .int 55, .int 1, .int 3, .int 1, .int 1, .ref a2]))] U.heap ∧ va_K (dC, dI) vwCl (TYS cy) U ∧ va_D (fun _ => True) [(a0, .inr (6, [.int 0, .int 0, .ref a1, .int 55, .int 1, .int 3, .int 1, .int 1, .ref a2]))] ∧ NK U ∧ SK cb (va_A [(a0, .inr (6, [.int 0, .int 0, .ref a1, .int 55, .int 1, .int 3, .int 1, .int 1, .ref a2]))] sz) U U.heap)) (va_Qv (fun u : Unit => True) (fun u t => va_P (dC, dI) vwCl [(a0, .inr (6, [.int 0, .int 0, .ref a1, .int 55, .int 1, .int 3, .int 1, .int 1, .ref a2]))] t.heap ∧ va_K (dC, dI) vwCl (TYS cy) t ∧ va_D (va_A [(a0, .inr (6, [.int 0, .int 0, .ref a1, .int 55, .int 1, .int 3, .int 1, .int 1, .ref a2]))] sz) [(a0, .inr (6, [.int 0, .int 0, .ref a1, .int 55, .int 1, .int 3, .int 1, .int 1, .ref a2]))]) (va_A [(a0, .inr (6, [.int 0, .int 0, .ref a1, .int 55, .int 1, .int 3, .int 1, .int 1, .ref a2]))] sz)) 0 0 (va_A [(a0, .inr (6, [.int 0, .int 0, .ref a1, .int 55, .int 1, .int 3, .int 1, .int 1, .ref a2]))] sz) := by
  refine Met.ofW (cc := cX6_readTypes) (maxL := 4) (ret := none) (by decide) rfl ?_
  intro p e s m args below meth c s₁ B hml hv
  obtain ⟨rfl, hsz, hP, hK, hD0, hN, hSK⟩ := hv
  have hx := B.exec
  have hb := B.bytes
  have hr := B.returns
  have hts := atoms_spec (ws := wsX6_readTypes) B.pre
  have hown : s.vm.findClass RX6 = some m.cls := findClass_of_methodNamed B.named
  have hlocks := B.notSynchronized
  subst hsz
  have hD := hD0.self (sz := s.heap.size)
  generalize hAe : va_A [(a0, .inr (6, [.int 0, .int 0, .ref a1, .int 55, .int 1, .int 3, .int 1, .int 1, .ref a2]))] s.heap.size = A at hD hSK ⊢
  have hA : ∀ q : Nat, s.heap.size ≤ q → A q := fun q h => by rw [← hAe]; exact Or.inr h
  have hS : va_S A s.heap s.heap [] := va_S.rf
  have hP : va_P (dC, dI) vwCl [(a0, .inr (6, [.int 0, .int 0, .ref a1, .int 55, .int 1, .int 3, .int 1, .int 1, .ref a2]))] s.heap := hP
  have hl := lv_entry ([.ref a0, .int 0, .int 1]) (n := 4) (Nat.le_of_ble_eq_true rfl)
  rw [lg_entry_eq]
  generalize (lg_sl ([.ref a0, .int 0, .int 1]) ++ List.replicate (4 - (lg_sl ([.ref a0, .int 0, .int 1])).length) Slot.unset).toArray = ls at hl ⊢
  replace hl : lv_has ls 4 [(0, .ref a0), (1, .int 0), (2, .int 1)] := hl
  refine lv_iconst (v := 0) hx hb dX6_readTypes_0 (by decide) ?_
  refine lv_istore_n (lv' := [(3, .int 0), (0, .ref a0), (1, .int 0), (2, .int 1)]) hx hb dX6_readTypes_1 rfl hl (by decide) rfl (fun ls hl2 => ?_)
  replace hl := hl2
  clear hl2
  refine lv_iload_n hx hb dX6_readTypes_2 rfl (lv_at hl 0 rfl) ?_
  refine lv_iload_n hx hb dX6_readTypes_3 rfl (lv_at hl 2 rfl) ?_
  refine lv_icmp_ge (tgt := 32) hx hb dX6_readTypes_4 (by decide) (fun _ => ?_) (fun h => absurd (by decide) h)
  exact W.vret hx hb hr (fun t ht hW => ⟨⟨(), rfl, trivial, by rw [ht]; exact hP, va_K.moved hW.alike hK, hD⟩, hS.F ht⟩) hS.2.2 dX6_readTypes_32
