theorem md_X0_init_1 : (.methodLink RX0 1 objectInit : Cond) ∈ wsX0_init := List.mem_of_getElem? (i := 1) rfl
theorem md_X0_init_2 : (.instanceMethod objectInit : Cond) ∈ wsX0_init := List.mem_of_getElem? (i := 2) rfl
theorem md_X0_init_3 : (.code objectInit ⟨#[0xb1]⟩ 1 none : Cond) ∈ wsX0_init := List.mem_of_getElem? (i := 3) rfl
theorem md_X0_init_4 : (.arrayClass .int : Cond) ∈ wsX0_init := List.mem_of_getElem? (i := 4) rfl
theorem md_X0_init_5 : (.fieldLink RX0 7 "ResourceLedger$Digest" "words" "[I" : Cond) ∈ wsX0_init := List.mem_of_getElem? (i := 5) rfl
theorem iwd_X0_init_X0 : ∀ w ∈ wsX00, w ∈ wsX0_init := fun _ h => List.mem_cons_of_mem _ (List.mem_append_right _ h)
theorem md_X0_init_6 : (.fieldLink RX0 13 "ResourceLedger$Digest" "w" "[I" : Cond) ∈ wsX0_init := List.mem_of_getElem? (i := 6) rfl
set_option maxHeartbeats 4000000 in
set_option maxRecDepth 100000 in
theorem da_X0_init (l : Launch) (dC : Nat → ClassId) (dI : Nat → Nat → Nat) (cy : Nat → ClassId) (a0 : Nat → Nat) (sh0 : Nat → Nat × Nat) (n0 sz : Nat) (F : Nat) (z0 : St) (h0 : Nat) (hk0 : lk z0 n0) {sh8 : Nat → Nat × Nat} {n8 : Nat} {z8 : St} {r8 : Unit} (hf : fa_X0_init F sh0 n0 z0 h0 = some (sh8, n8, z8, r8)) : Met l yX0_init wsX0_init ({ frames := 1, cells := 2, slots := 72, locals := 12 }) (va_Pc [.ref (a0 h0)] (fun U => U.heap.size = sz ∧ va_P (dC, dI) vwCl (Wd cy a0 sh0 n0 z0) U.heap ∧ va_K (dC, dI) vwCl (TYS cy) U ∧ va_D (fun _ => True) (Wd cy a0 sh0 n0 z0) ∧ NK U)) (va_Qv (fun u : Nat → Nat => ((∀ k, k < n0 ∨ k = CBK → u k = a0 k) ∧ n0 ≤ n8) ∧ lk z8 n8) (fun u t => va_P (dC, dI) vwCl (Wd cy u sh8 n8 z8) t.heap ∧ va_K (dC, dI) vwCl (TYS cy) t ∧ va_D (va_A (Wd cy a0 sh0 n0 z0) sz) (Wd cy u sh8 n8 z8)) (va_A (Wd cy a0 sh0 n0 z0) sz)) 2 72 (va_A (Wd cy a0 sh0 n0 z0) sz) := by
  refine Met.ofW (cc := cX0_init) (maxL := 1) (ret := none) (by decide) rfl ?_
  intro p e s m args below meth c s₁ B hml hv
  obtain ⟨rfl, hsz, hP, hK, hD0, hN⟩ := hv
  have hx := B.exec
  have hb := B.bytes
  have hr := B.returns
  have hts := atoms_spec (ws := wsX0_init) B.pre
  have hown : s.vm.findClass RX0 = some m.cls := findClass_of_methodNamed B.named
  have hlocks := B.notSynchronized
  have hin : meth.name = "<init>" := (name_of_methodNamed B.named B.method).1
  subst hsz
  have hD := hD0.self (sz := s.heap.size)
  clear hD0
  generalize hAe : va_A (Wd cy a0 sh0 n0 z0) s.heap.size = A at hD ⊢
  have hA : ∀ q : Nat, s.heap.size ≤ q → A q := fun q h => by rw [← hAe]; exact Or.inr h
  clear hAe
  have hS : va_S A s.heap s.heap [] := va_S.rf
  have hl := lv_entry ([.ref (a0 h0)]) (n := 1) (Nat.le_of_ble_eq_true rfl)
  rw [lg_entry_eq]
  generalize (lg_sl ([.ref (a0 h0)]) ++ List.replicate (1 - (lg_sl ([.ref (a0 h0)])).length) Slot.unset).toArray = ls at hl ⊢
  replace hl : lv_has ls 1 [(0, .ref (a0 h0))] := hl
  unfold fa_X0_init at hf
  refine da_start (fn := fun sh n z => fa_X0_init F sh n z h0) (av := fun a => [(0, .ref (a h0))]) (sk := fun q => True) hf hk0 hS hD hP hl trivial (fun a sh n z H locs hf hag hk hS hD hP hl hSK => ?_)
  unfold fa_X0_init at hf
  try dsimp only at hf hl hSK
  refine lv_aload_n hx hb dX0_init_0 rfl (lv_at hl 0 rfl) ?_
  refine W.objInit hx hb hown (hts _ md_X0_init_1) (hts _ md_X0_init_2) (hts _ md_X0_init_3) rfl (by rw [hml]; exact hl.1) rfl dX0_init_1 (Nat.le_of_ble_eq_true rfl) (Nat.le_of_ble_eq_true rfl) ?_
  refine W.eq (g2 := F0 m 4 ls []) rfl ?_
  refine lv_aload_n hx hb dX0_init_4 rfl (lv_at hl 0 rfl) ?_
  refine lv_bipush (v := 8) hx hb dX0_init_5 (by decide) ?_
  obtain ⟨g_1, hf⟩ := grd_some hf
  refine de_newa (atype := .int) (ty := .int) (t := 1) (N := 8) (a0 := (8, .inl (fun _ => 0))) hf hk hx hb (hts _ md_X0_init_4) rfl hK hP hD hS hA rfl rfl (fun _ => rfl) (by decide) (by decide) (Nat.le_of_ble_eq_true rfl) (Nat.le_of_ble_eq_true rfl) (Nat.le_of_ble_eq_true rfl) dX0_init_7 (fun a sh n z_2 k_3 H_4 hf hax hk hnn hP hD hS => ?_)
  refine W.eq (g2 := F0 m 9 ls [.ref (a k_3), .ref (a h0)]) (by rw [hax h0 (okN_at g_1)]) ?_
  replace hl : lv_has ls 1 [(0, .ref (a h0))] := by rw [hax h0 (okN_at g_1)]; exact hl
  replace hag := hag_new hag hax hnn
  clear hax hnn
  refine W.widen (k := 1) (n := 8) (Nat.le_of_ble_eq_true rfl) (Nat.le_of_ble_eq_true rfl) ?_
  obtain ⟨g_5, hf⟩ := grd_some hf
  obtain ⟨g_6, hf⟩ := grd_some hf
  obtain ⟨kg_6, sg_6⟩ := okO_at g_6
  refine va_putF (D := (dC, dI)) (ci := 0) (v := .ref (a k_3)) (ty := .array .int) (C := RX0) (T := TX0) (N := 4) hx hb hts iwd_X0_init_X0 tyX0 tyX0_ok nmX0 hown hK hP hD hS h0 (Wd_ob kg_6 sg_6 (by decide)) rfl 0 (by decide) (hts _ md_X0_init_5) (fun _ h9 => h9) rfl hin rfl (by decide +kernel) rfl rfl (by rw [fl_len]; decide) dX0_init_9 (fun H_7 locs hP2 hD2 hS2 => ?_)
  rw [Wd_sq1 sg_6 (by decide) rfl] at hP2 hD2
  obtain ⟨z_8, ez_8⟩ : ∃ w, w = sq z_2 h0 0 (some k_3) := ⟨_, rfl⟩
  rw [← ez_8] at hP2 hD2
  replace hf := lt_at ez_8 hf
  replace hk : lk z_8 n := by rw [ez_8]; exact lk_sq1 hk (okN_at g_5)
  clear ez_8
  replace hP := hP2
  replace hD := hD2
  replace hS := hS2
  clear hP2 hD2 hS2
  refine lv_aload_n hx hb dX0_init_12 rfl (lv_at hl 0 rfl) ?_
  refine lv_bipush (v := 64) hx hb dX0_init_13 (by decide) ?_
  obtain ⟨g_9, hf⟩ := grd_some hf
  refine de_newa (atype := .int) (ty := .int) (t := 1) (N := 64) (a0 := (64, .inl (fun _ => 0))) hf hk hx hb (hts _ md_X0_init_4) rfl hK hP hD hS hA rfl rfl (fun _ => rfl) (by decide) (by decide) (Nat.le_of_ble_eq_true rfl) (Nat.le_of_ble_eq_true rfl) (Nat.le_of_ble_eq_true rfl) dX0_init_15 (fun a sh n z_10 k_11 H_12 hf hax hk hnn hP hD hS => ?_)
  refine W.eq (g2 := F0 m 17 ls [.ref (a k_11), .ref (a h0)]) (by rw [hax h0 (okN_at g_9)]) ?_
  replace hl : lv_has ls 1 [(0, .ref (a h0))] := by rw [hax h0 (okN_at g_9)]; exact hl
  replace hag := hag_new hag hax hnn
  clear hax hnn
  refine W.widen (k := 2) (n := 72) (Nat.le_of_ble_eq_true rfl) (Nat.le_of_ble_eq_true rfl) ?_
  obtain ⟨g_13, hf⟩ := grd_some hf
  obtain ⟨g_14, hf⟩ := grd_some hf
  obtain ⟨kg_14, sg_14⟩ := okO_at g_14
  refine va_putF (D := (dC, dI)) (ci := 0) (v := .ref (a k_11)) (ty := .array .int) (C := RX0) (T := TX0) (N := 4) hx hb hts iwd_X0_init_X0 tyX0 tyX0_ok nmX0 hown hK hP hD hS h0 (Wd_ob kg_14 sg_14 (by decide)) rfl 1 (by decide) (hts _ md_X0_init_6) (fun _ h9 => h9) rfl hin rfl (by decide +kernel) rfl rfl (by rw [fl_len]; decide) dX0_init_17 (fun H_15 locs hP2 hD2 hS2 => ?_)
  rw [Wd_sq1 sg_14 (by decide) rfl] at hP2 hD2
  obtain ⟨z_16, ez_16⟩ : ∃ w, w = sq z_10 h0 1 (some k_11) := ⟨_, rfl⟩
  rw [← ez_16] at hP2 hD2
  replace hf := lt_at ez_16 hf
  replace hk : lk z_16 n := by rw [ez_16]; exact lk_sq1 hk (okN_at g_13)
  clear ez_16
  replace hP := hP2
  replace hD := hD2
  replace hS := hS2
  clear hP2 hD2 hS2
  obtain ⟨h5, h6, h8, h9⟩ := rta_some hf
  rw [h5, h6, h8]
  exact W.vret hx hb hr (fun t ht hW => ⟨⟨a, rfl, ⟨hag, hk⟩, by rw [ht]; exact hP, va_K.moved hW.alike hK, hD⟩, hS.F ht⟩) hS.2.2 dX0_init_20

theorem md_X1_init_1 : (.methodLink RX1 3 objectInit : Cond) ∈ wsX1_init := List.mem_of_getElem? (i := 1) rfl
theorem md_X1_init_2 : (.instanceMethod objectInit : Cond) ∈ wsX1_init := List.mem_of_getElem? (i := 2) rfl
theorem md_X1_init_3 : (.code objectInit ⟨#[0xb1]⟩ 1 none : Cond) ∈ wsX1_init := List.mem_of_getElem? (i := 3) rfl
theorem md_X1_init_4 : (.arrayClass .byte : Cond) ∈ wsX1_init := List.mem_of_getElem? (i := 4) rfl
theorem md_X1_init_5 : (.fieldLink RX1 11 "ResourceLedger$Heap" "kind" "[B" : Cond) ∈ wsX1_init := List.mem_of_getElem? (i := 5) rfl
theorem iwd_X1_init_X1 : ∀ w ∈ wsX10, w ∈ wsX1_init := fun _ h => List.mem_cons_of_mem _ (List.mem_append_right _ h)
theorem md_X1_init_6 : (.arrayClass .long : Cond) ∈ wsX1_init := List.mem_of_getElem? (i := 6) rfl
theorem md_X1_init_7 : (.fieldLink RX1 15 "ResourceLedger$Heap" "low" "[J" : Cond) ∈ wsX1_init := List.mem_of_getElem? (i := 7) rfl
theorem md_X1_init_8 : (.fieldLink RX1 19 "ResourceLedger$Heap" "high" "[J" : Cond) ∈ wsX1_init := List.mem_of_getElem? (i := 8) rfl
theorem md_X1_init_9 : (.arrayClass .int : Cond) ∈ wsX1_init := List.mem_of_getElem? (i := 9) rfl
theorem md_X1_init_10 : (.fieldLink RX1 22 "ResourceLedger$Heap" "next" "[I" : Cond) ∈ wsX1_init := List.mem_of_getElem? (i := 10) rfl
set_option maxHeartbeats 4000000 in
set_option maxRecDepth 100000 in
theorem da_X1_init (l : Launch) (dC : Nat → ClassId) (dI : Nat → Nat → Nat) (cy : Nat → ClassId) (a0 : Nat → Nat) (sh0 : Nat → Nat × Nat) (n0 sz : Nat) (F : Nat) (z0 : St) (h0 : Nat) (hk0 : lk z0 n0) {sh8 : Nat → Nat × Nat} {n8 : Nat} {z8 : St} {r8 : Unit} (hf : fa_X1_init F sh0 n0 z0 h0 = some (sh8, n8, z8, r8)) : Met l yX1_init wsX1_init ({ frames := 1, cells := 4, slots := 86400, locals := 12 }) (va_Pc [.ref (a0 h0)] (fun U => U.heap.size = sz ∧ va_P (dC, dI) vwCl (Wd cy a0 sh0 n0 z0) U.heap ∧ va_K (dC, dI) vwCl (TYS cy) U ∧ va_D (fun _ => True) (Wd cy a0 sh0 n0 z0) ∧ NK U)) (va_Qv (fun u : Nat → Nat => ((∀ k, k < n0 ∨ k = CBK → u k = a0 k) ∧ n0 ≤ n8) ∧ lk z8 n8) (fun u t => va_P (dC, dI) vwCl (Wd cy u sh8 n8 z8) t.heap ∧ va_K (dC, dI) vwCl (TYS cy) t ∧ va_D (va_A (Wd cy a0 sh0 n0 z0) sz) (Wd cy u sh8 n8 z8)) (va_A (Wd cy a0 sh0 n0 z0) sz)) 4 86400 (va_A (Wd cy a0 sh0 n0 z0) sz) := by
  refine Met.ofW (cc := cX1_init) (maxL := 1) (ret := none) (by decide) rfl ?_
  intro p e s m args below meth c s₁ B hml hv
  obtain ⟨rfl, hsz, hP, hK, hD0, hN⟩ := hv
  have hx := B.exec
  have hb := B.bytes
  have hr := B.returns
  have hts := atoms_spec (ws := wsX1_init) B.pre
  have hown : s.vm.findClass RX1 = some m.cls := findClass_of_methodNamed B.named
  have hlocks := B.notSynchronized
  have hin : meth.name = "<init>" := (name_of_methodNamed B.named B.method).1
  subst hsz
  have hD := hD0.self (sz := s.heap.size)
  clear hD0
  generalize hAe : va_A (Wd cy a0 sh0 n0 z0) s.heap.size = A at hD ⊢
  have hA : ∀ q : Nat, s.heap.size ≤ q → A q := fun q h => by rw [← hAe]; exact Or.inr h
  clear hAe
  have hS : va_S A s.heap s.heap [] := va_S.rf
  have hl := lv_entry ([.ref (a0 h0)]) (n := 1) (Nat.le_of_ble_eq_true rfl)
  rw [lg_entry_eq]
  generalize (lg_sl ([.ref (a0 h0)]) ++ List.replicate (1 - (lg_sl ([.ref (a0 h0)])).length) Slot.unset).toArray = ls at hl ⊢
  replace hl : lv_has ls 1 [(0, .ref (a0 h0))] := hl
  unfold fa_X1_init at hf
  refine da_start (fn := fun sh n z => fa_X1_init F sh n z h0) (av := fun a => [(0, .ref (a h0))]) (sk := fun q => True) hf hk0 hS hD hP hl trivial (fun a sh n z H locs hf hag hk hS hD hP hl hSK => ?_)
  unfold fa_X1_init at hf
  try dsimp only at hf hl hSK
  refine lv_aload_n hx hb dX1_init_0 rfl (lv_at hl 0 rfl) ?_
  refine W.objInit hx hb hown (hts _ md_X1_init_1) (hts _ md_X1_init_2) (hts _ md_X1_init_3) rfl (by rw [hml]; exact hl.1) rfl dX1_init_1 (Nat.le_of_ble_eq_true rfl) (Nat.le_of_ble_eq_true rfl) ?_
  refine W.eq (g2 := F0 m 4 ls []) rfl ?_
  refine lv_aload_n hx hb dX1_init_4 rfl (lv_at hl 0 rfl) ?_
  refine lv_sipush (v := 21600) hx hb dX1_init_5 (by decide) ?_
  obtain ⟨g_1, hf⟩ := grd_some hf
  refine de_newa (atype := .byte) (ty := .byte) (t := 0) (N := 21600) (a0 := (21600, .inl (fun _ => 0))) hf hk hx hb (hts _ md_X1_init_4) rfl hK hP hD hS hA rfl rfl (fun _ => rfl) (by decide) (by decide) (Nat.le_of_ble_eq_true rfl) (Nat.le_of_ble_eq_true rfl) (Nat.le_of_ble_eq_true rfl) dX1_init_8 (fun a sh n z_2 k_3 H_4 hf hax hk hnn hP hD hS => ?_)
  refine W.eq (g2 := F0 m 10 ls [.ref (a k_3), .ref (a h0)]) (by rw [hax h0 (okN_at g_1)]) ?_
  replace hl : lv_has ls 1 [(0, .ref (a h0))] := by rw [hax h0 (okN_at g_1)]; exact hl
  replace hag := hag_new hag hax hnn
  clear hax hnn
  refine W.widen (k := 1) (n := 21600) (Nat.le_of_ble_eq_true rfl) (Nat.le_of_ble_eq_true rfl) ?_
  obtain ⟨g_5, hf⟩ := grd_some hf
  obtain ⟨g_6, hf⟩ := grd_some hf
  obtain ⟨kg_6, sg_6⟩ := okO_at g_6
  refine va_putF (D := (dC, dI)) (ci := 1) (v := .ref (a k_3)) (ty := .array .byte) (C := RX1) (T := TX1) (N := 7) hx hb hts iwd_X1_init_X1 tyX1 tyX1_ok nmX1 hown hK hP hD hS h0 (Wd_ob kg_6 sg_6 (by decide)) rfl 0 (by decide) (hts _ md_X1_init_5) (fun _ h9 => h9) rfl hin rfl (by decide +kernel) rfl rfl (by rw [fl_len]; decide) dX1_init_10 (fun H_7 locs hP2 hD2 hS2 => ?_)
  rw [Wd_sq1 sg_6 (by decide) rfl] at hP2 hD2
  obtain ⟨z_8, ez_8⟩ : ∃ w, w = sq z_2 h0 0 (some k_3) := ⟨_, rfl⟩
  rw [← ez_8] at hP2 hD2
  replace hf := lt_at ez_8 hf
  replace hk : lk z_8 n := by rw [ez_8]; exact lk_sq1 hk (okN_at g_5)
  clear ez_8
  replace hP := hP2
  replace hD := hD2
  replace hS := hS2
  clear hP2 hD2 hS2
  refine lv_aload_n hx hb dX1_init_13 rfl (lv_at hl 0 rfl) ?_
  refine lv_sipush (v := 21600) hx hb dX1_init_14 (by decide) ?_
  obtain ⟨g_9, hf⟩ := grd_some hf
  refine de_newa (atype := .long) (ty := .long) (t := 2) (N := 21600) (a0 := (21600, .inr (.inl (fun _ => 0)))) hf hk hx hb (hts _ md_X1_init_6) rfl hK hP hD hS hA rfl rfl (fun _ => rfl) (by decide) (by decide) (Nat.le_of_ble_eq_true rfl) (Nat.le_of_ble_eq_true rfl) (Nat.le_of_ble_eq_true rfl) dX1_init_17 (fun a sh n z_10 k_11 H_12 hf hax hk hnn hP hD hS => ?_)
  refine W.eq (g2 := F0 m 19 ls [.ref (a k_11), .ref (a h0)]) (by rw [hax h0 (okN_at g_9)]) ?_
  replace hl : lv_has ls 1 [(0, .ref (a h0))] := by rw [hax h0 (okN_at g_9)]; exact hl
  replace hag := hag_new hag hax hnn
  clear hax hnn
  refine W.widen (k := 2) (n := 43200) (Nat.le_of_ble_eq_true rfl) (Nat.le_of_ble_eq_true rfl) ?_
  obtain ⟨g_13, hf⟩ := grd_some hf
  obtain ⟨g_14, hf⟩ := grd_some hf
  obtain ⟨kg_14, sg_14⟩ := okO_at g_14
  refine va_putF (D := (dC, dI)) (ci := 1) (v := .ref (a k_11)) (ty := .array .long) (C := RX1) (T := TX1) (N := 7) hx hb hts iwd_X1_init_X1 tyX1 tyX1_ok nmX1 hown hK hP hD hS h0 (Wd_ob kg_14 sg_14 (by decide)) rfl 1 (by decide) (hts _ md_X1_init_7) (fun _ h9 => h9) rfl hin rfl (by decide +kernel) rfl rfl (by rw [fl_len]; decide) dX1_init_19 (fun H_15 locs hP2 hD2 hS2 => ?_)
  rw [Wd_sq1 sg_14 (by decide) rfl] at hP2 hD2
  obtain ⟨z_16, ez_16⟩ : ∃ w, w = sq z_10 h0 1 (some k_11) := ⟨_, rfl⟩
  rw [← ez_16] at hP2 hD2
  replace hf := lt_at ez_16 hf
  replace hk : lk z_16 n := by rw [ez_16]; exact lk_sq1 hk (okN_at g_13)
  clear ez_16
  replace hP := hP2
  replace hD := hD2
  replace hS := hS2
  clear hP2 hD2 hS2
  refine lv_aload_n hx hb dX1_init_22 rfl (lv_at hl 0 rfl) ?_
  refine lv_sipush (v := 21600) hx hb dX1_init_23 (by decide) ?_
  obtain ⟨g_17, hf⟩ := grd_some hf
  refine de_newa (atype := .long) (ty := .long) (t := 2) (N := 21600) (a0 := (21600, .inr (.inl (fun _ => 0)))) hf hk hx hb (hts _ md_X1_init_6) rfl hK hP hD hS hA rfl rfl (fun _ => rfl) (by decide) (by decide) (Nat.le_of_ble_eq_true rfl) (Nat.le_of_ble_eq_true rfl) (Nat.le_of_ble_eq_true rfl) dX1_init_26 (fun a sh n z_18 k_19 H_20 hf hax hk hnn hP hD hS => ?_)
  refine W.eq (g2 := F0 m 28 ls [.ref (a k_19), .ref (a h0)]) (by rw [hax h0 (okN_at g_17)]) ?_
  replace hl : lv_has ls 1 [(0, .ref (a h0))] := by rw [hax h0 (okN_at g_17)]; exact hl
  replace hag := hag_new hag hax hnn
  clear hax hnn
  refine W.widen (k := 3) (n := 64800) (Nat.le_of_ble_eq_true rfl) (Nat.le_of_ble_eq_true rfl) ?_
  obtain ⟨g_21, hf⟩ := grd_some hf
  obtain ⟨g_22, hf⟩ := grd_some hf
  obtain ⟨kg_22, sg_22⟩ := okO_at g_22
  refine va_putF (D := (dC, dI)) (ci := 1) (v := .ref (a k_19)) (ty := .array .long) (C := RX1) (T := TX1) (N := 7) hx hb hts iwd_X1_init_X1 tyX1 tyX1_ok nmX1 hown hK hP hD hS h0 (Wd_ob kg_22 sg_22 (by decide)) rfl 2 (by decide) (hts _ md_X1_init_8) (fun _ h9 => h9) rfl hin rfl (by decide +kernel) rfl rfl (by rw [fl_len]; decide) dX1_init_28 (fun H_23 locs hP2 hD2 hS2 => ?_)
  rw [Wd_sq1 sg_22 (by decide) rfl] at hP2 hD2
  obtain ⟨z_24, ez_24⟩ : ∃ w, w = sq z_18 h0 2 (some k_19) := ⟨_, rfl⟩
  rw [← ez_24] at hP2 hD2
  replace hf := lt_at ez_24 hf
  replace hk : lk z_24 n := by rw [ez_24]; exact lk_sq1 hk (okN_at g_21)
  clear ez_24
  replace hP := hP2
  replace hD := hD2
  replace hS := hS2
  clear hP2 hD2 hS2
  refine lv_aload_n hx hb dX1_init_31 rfl (lv_at hl 0 rfl) ?_
  refine lv_sipush (v := 21600) hx hb dX1_init_32 (by decide) ?_
  obtain ⟨g_25, hf⟩ := grd_some hf
  refine de_newa (atype := .int) (ty := .int) (t := 1) (N := 21600) (a0 := (21600, .inl (fun _ => 0))) hf hk hx hb (hts _ md_X1_init_9) rfl hK hP hD hS hA rfl rfl (fun _ => rfl) (by decide) (by decide) (Nat.le_of_ble_eq_true rfl) (Nat.le_of_ble_eq_true rfl) (Nat.le_of_ble_eq_true rfl) dX1_init_35 (fun a sh n z_26 k_27 H_28 hf hax hk hnn hP hD hS => ?_)
  refine W.eq (g2 := F0 m 37 ls [.ref (a k_27), .ref (a h0)]) (by rw [hax h0 (okN_at g_25)]) ?_
  replace hl : lv_has ls 1 [(0, .ref (a h0))] := by rw [hax h0 (okN_at g_25)]; exact hl
  replace hag := hag_new hag hax hnn
  clear hax hnn
  refine W.widen (k := 4) (n := 86400) (Nat.le_of_ble_eq_true rfl) (Nat.le_of_ble_eq_true rfl) ?_
  obtain ⟨g_29, hf⟩ := grd_some hf
  obtain ⟨g_30, hf⟩ := grd_some hf
  obtain ⟨kg_30, sg_30⟩ := okO_at g_30
  refine va_putF (D := (dC, dI)) (ci := 1) (v := .ref (a k_27)) (ty := .array .int) (C := RX1) (T := TX1) (N := 7) hx hb hts iwd_X1_init_X1 tyX1 tyX1_ok nmX1 hown hK hP hD hS h0 (Wd_ob kg_30 sg_30 (by decide)) rfl 3 (by decide) (hts _ md_X1_init_10) (fun _ h9 => h9) rfl hin rfl (by decide +kernel) rfl rfl (by rw [fl_len]; decide) dX1_init_37 (fun H_31 locs hP2 hD2 hS2 => ?_)
  rw [Wd_sq1 sg_30 (by decide) rfl] at hP2 hD2
  obtain ⟨z_32, ez_32⟩ : ∃ w, w = sq z_26 h0 3 (some k_27) := ⟨_, rfl⟩
  rw [← ez_32] at hP2 hD2
  replace hf := lt_at ez_32 hf
  replace hk : lk z_32 n := by rw [ez_32]; exact lk_sq1 hk (okN_at g_29)
  clear ez_32
  replace hP := hP2
  replace hD := hD2
  replace hS := hS2
  clear hP2 hD2 hS2
  obtain ⟨h5, h6, h8, h9⟩ := rta_some hf
  rw [h5, h6, h8]
  exact W.vret hx hb hr (fun t ht hW => ⟨⟨a, rfl, ⟨hag, hk⟩, by rw [ht]; exact hP, va_K.moved hW.alike hK, hD⟩, hS.F ht⟩) hS.2.2 dX1_init_40

theorem md_X3_init_1 : (.methodLink RX3 3 objectInit : Cond) ∈ wsX3_init := List.mem_of_getElem? (i := 1) rfl
theorem md_X3_init_2 : (.instanceMethod objectInit : Cond) ∈ wsX3_init := List.mem_of_getElem? (i := 2) rfl
theorem md_X3_init_3 : (.code objectInit ⟨#[0xb1]⟩ 1 none : Cond) ∈ wsX3_init := List.mem_of_getElem? (i := 3) rfl
theorem md_X3_init_4 : (.arrayClass .long : Cond) ∈ wsX3_init := List.mem_of_getElem? (i := 4) rfl
theorem md_X3_init_5 : (.fieldLink RX3 11 "ResourceLedger$Looker" "stackType" "[J" : Cond) ∈ wsX3_init := List.mem_of_getElem? (i := 5) rfl
theorem iwd_X3_init_X3 : ∀ w ∈ wsX30, w ∈ wsX3_init := fun _ h => List.mem_cons_of_mem _ (List.mem_append_right _ h)
theorem md_X3_init_6 : (.fieldLink RX3 15 "ResourceLedger$Looker" "stackOrigins" "[J" : Cond) ∈ wsX3_init := List.mem_of_getElem? (i := 6) rfl
theorem md_X3_init_7 : (.arrayClass .boolean : Cond) ∈ wsX3_init := List.mem_of_getElem? (i := 7) rfl
theorem md_X3_init_8 : (.fieldLink RX3 18 "ResourceLedger$Looker" "stackInside" "[Z" : Cond) ∈ wsX3_init := List.mem_of_getElem? (i := 8) rfl
theorem md_X3_init_9 : (.fieldLink RX3 22 "ResourceLedger$Looker" "localType" "[J" : Cond) ∈ wsX3_init := List.mem_of_getElem? (i := 9) rfl
theorem md_X3_init_10 : (.fieldLink RX3 25 "ResourceLedger$Looker" "localOrigins" "[J" : Cond) ∈ wsX3_init := List.mem_of_getElem? (i := 10) rfl
theorem md_X3_init_11 : (.fieldLink RX3 28 "ResourceLedger$Looker" "target" "[Z" : Cond) ∈ wsX3_init := List.mem_of_getElem? (i := 11) rfl
theorem md_X3_init_12 : (.fieldLink RX3 31 "ResourceLedger$Looker" "reached" "[Z" : Cond) ∈ wsX3_init := List.mem_of_getElem? (i := 12) rfl
theorem md_X3_init_13 : (.fieldLink RX3 34 "ResourceLedger$Looker" "keptThere" "[J" : Cond) ∈ wsX3_init := List.mem_of_getElem? (i := 13) rfl
theorem md_X3_init_14 : (.fieldLink RX3 37 "ResourceLedger$Looker" "keptInside" "[J" : Cond) ∈ wsX3_init := List.mem_of_getElem? (i := 14) rfl
theorem md_X3_init_15 : (.constant RX3 40 (40960) : Cond) ∈ wsX3_init := List.mem_of_getElem? (i := 15) rfl
theorem md_X3_init_16 : (.fieldLink RX3 41 "ResourceLedger$Looker" "keptOrigins" "[J" : Cond) ∈ wsX3_init := List.mem_of_getElem? (i := 16) rfl
set_option maxHeartbeats 4000000 in
set_option maxRecDepth 100000 in
theorem da_X3_init (l : Launch) (dC : Nat → ClassId) (dI : Nat → Nat → Nat) (cy : Nat → ClassId) (a0 : Nat → Nat) (sh0 : Nat → Nat × Nat) (n0 sz : Nat) (F : Nat) (z0 : St) (h0 : Nat) (hk0 : lk z0 n0) {sh8 : Nat → Nat × Nat} {n8 : Nat} {z8 : St} {r8 : Unit} (hf : fa_X3_init F sh0 n0 z0 h0 = some (sh8, n8, z8, r8)) : Met l yX3_init wsX3_init ({ frames := 1, cells := 10, slots := 45328, locals := 12 }) (va_Pc [.ref (a0 h0)] (fun U => U.heap.size = sz ∧ va_P (dC, dI) vwCl (Wd cy a0 sh0 n0 z0) U.heap ∧ va_K (dC, dI) vwCl (TYS cy) U ∧ va_D (fun _ => True) (Wd cy a0 sh0 n0 z0) ∧ NK U)) (va_Qv (fun u : Nat → Nat => ((∀ k, k < n0 ∨ k = CBK → u k = a0 k) ∧ n0 ≤ n8) ∧ lk z8 n8) (fun u t => va_P (dC, dI) vwCl (Wd cy u sh8 n8 z8) t.heap ∧ va_K (dC, dI) vwCl (TYS cy) t ∧ va_D (va_A (Wd cy a0 sh0 n0 z0) sz) (Wd cy u sh8 n8 z8)) (va_A (Wd cy a0 sh0 n0 z0) sz)) 10 45328 (va_A (Wd cy a0 sh0 n0 z0) sz) := by
  refine Met.ofW (cc := cX3_init) (maxL := 1) (ret := none) (by decide) rfl ?_
  intro p e s m args below meth c s₁ B hml hv
  obtain ⟨rfl, hsz, hP, hK, hD0, hN⟩ := hv
  have hx := B.exec
  have hb := B.bytes
  have hr := B.returns
  have hts := atoms_spec (ws := wsX3_init) B.pre
  have hown : s.vm.findClass RX3 = some m.cls := findClass_of_methodNamed B.named
  have hlocks := B.notSynchronized
  have hin : meth.name = "<init>" := (name_of_methodNamed B.named B.method).1
  subst hsz
  have hD := hD0.self (sz := s.heap.size)
  clear hD0
  generalize hAe : va_A (Wd cy a0 sh0 n0 z0) s.heap.size = A at hD ⊢
  have hA : ∀ q : Nat, s.heap.size ≤ q → A q := fun q h => by rw [← hAe]; exact Or.inr h
  clear hAe
  have hS : va_S A s.heap s.heap [] := va_S.rf
  have hl := lv_entry ([.ref (a0 h0)]) (n := 1) (Nat.le_of_ble_eq_true rfl)
  rw [lg_entry_eq]
  generalize (lg_sl ([.ref (a0 h0)]) ++ List.replicate (1 - (lg_sl ([.ref (a0 h0)])).length) Slot.unset).toArray = ls at hl ⊢
  replace hl : lv_has ls 1 [(0, .ref (a0 h0))] := hl
  unfold fa_X3_init at hf
  refine da_start (fn := fun sh n z => fa_X3_init F sh n z h0) (av := fun a => [(0, .ref (a h0))]) (sk := fun q => True) hf hk0 hS hD hP hl trivial (fun a sh n z H locs hf hag hk hS hD hP hl hSK => ?_)
  unfold fa_X3_init at hf
  try dsimp only at hf hl hSK
  refine lv_aload_n hx hb dX3_init_0 rfl (lv_at hl 0 rfl) ?_
  refine W.objInit hx hb hown (hts _ md_X3_init_1) (hts _ md_X3_init_2) (hts _ md_X3_init_3) rfl (by rw [hml]; exact hl.1) rfl dX3_init_1 (Nat.le_of_ble_eq_true rfl) (Nat.le_of_ble_eq_true rfl) ?_
  refine W.eq (g2 := F0 m 4 ls []) rfl ?_
  refine lv_aload_n hx hb dX3_init_4 rfl (lv_at hl 0 rfl) ?_
  refine lv_bipush (v := 64) hx hb dX3_init_5 (by decide) ?_
  obtain ⟨g_1, hf⟩ := grd_some hf
  refine de_newa (atype := .long) (ty := .long) (t := 2) (N := 64) (a0 := (64, .inr (.inl (fun _ => 0)))) hf hk hx hb (hts _ md_X3_init_4) rfl hK hP hD hS hA rfl rfl (fun _ => rfl) (by decide) (by decide) (Nat.le_of_ble_eq_true rfl) (Nat.le_of_ble_eq_true rfl) (Nat.le_of_ble_eq_true rfl) dX3_init_7 (fun a sh n z_2 k_3 H_4 hf hax hk hnn hP hD hS => ?_)
  refine W.eq (g2 := F0 m 9 ls [.ref (a k_3), .ref (a h0)]) (by rw [hax h0 (okN_at g_1)]) ?_
  replace hl : lv_has ls 1 [(0, .ref (a h0))] := by rw [hax h0 (okN_at g_1)]; exact hl
  replace hag := hag_new hag hax hnn
  clear hax hnn
  refine W.widen (k := 1) (n := 64) (Nat.le_of_ble_eq_true rfl) (Nat.le_of_ble_eq_true rfl) ?_
  obtain ⟨g_5, hf⟩ := grd_some hf
  obtain ⟨g_6, hf⟩ := grd_some hf
  obtain ⟨kg_6, sg_6⟩ := okO_at g_6
  refine va_putF (D := (dC, dI)) (ci := 3) (v := .ref (a k_3)) (ty := .array .long) (C := RX3) (T := TX3) (N := 22) hx hb hts iwd_X3_init_X3 tyX3 tyX3_ok nmX3 hown hK hP hD hS h0 (Wd_ob kg_6 sg_6 (by decide)) rfl 5 (by decide) (hts _ md_X3_init_5) (fun _ h9 => h9) rfl hin rfl (by decide +kernel) rfl rfl (by rw [fl_len]; decide) dX3_init_9 (fun H_7 locs hP2 hD2 hS2 => ?_)
  rw [Wd_sq1 sg_6 (by decide) rfl] at hP2 hD2
  obtain ⟨z_8, ez_8⟩ : ∃ w, w = sq z_2 h0 5 (some k_3) := ⟨_, rfl⟩
  rw [← ez_8] at hP2 hD2
  replace hf := lt_at ez_8 hf
  replace hk : lk z_8 n := by rw [ez_8]; exact lk_sq1 hk (okN_at g_5)
  clear ez_8
  replace hP := hP2
  replace hD := hD2
  replace hS := hS2
  clear hP2 hD2 hS2
  refine lv_aload_n hx hb dX3_init_12 rfl (lv_at hl 0 rfl) ?_
  refine lv_bipush (v := 64) hx hb dX3_init_13 (by decide) ?_
  obtain ⟨g_9, hf⟩ := grd_some hf
  refine de_newa (atype := .long) (ty := .long) (t := 2) (N := 64) (a0 := (64, .inr (.inl (fun _ => 0)))) hf hk hx hb (hts _ md_X3_init_4) rfl hK hP hD hS hA rfl rfl (fun _ => rfl) (by decide) (by decide) (Nat.le_of_ble_eq_true rfl) (Nat.le_of_ble_eq_true rfl) (Nat.le_of_ble_eq_true rfl) dX3_init_15 (fun a sh n z_10 k_11 H_12 hf hax hk hnn hP hD hS => ?_)
  refine W.eq (g2 := F0 m 17 ls [.ref (a k_11), .ref (a h0)]) (by rw [hax h0 (okN_at g_9)]) ?_
  replace hl : lv_has ls 1 [(0, .ref (a h0))] := by rw [hax h0 (okN_at g_9)]; exact hl
  replace hag := hag_new hag hax hnn
  clear hax hnn
  refine W.widen (k := 2) (n := 128) (Nat.le_of_ble_eq_true rfl) (Nat.le_of_ble_eq_true rfl) ?_
  obtain ⟨g_13, hf⟩ := grd_some hf
  obtain ⟨g_14, hf⟩ := grd_some hf
  obtain ⟨kg_14, sg_14⟩ := okO_at g_14
  refine va_putF (D := (dC, dI)) (ci := 3) (v := .ref (a k_11)) (ty := .array .long) (C := RX3) (T := TX3) (N := 22) hx hb hts iwd_X3_init_X3 tyX3 tyX3_ok nmX3 hown hK hP hD hS h0 (Wd_ob kg_14 sg_14 (by decide)) rfl 6 (by decide) (hts _ md_X3_init_6) (fun _ h9 => h9) rfl hin rfl (by decide +kernel) rfl rfl (by rw [fl_len]; decide) dX3_init_17 (fun H_15 locs hP2 hD2 hS2 => ?_)
  rw [Wd_sq1 sg_14 (by decide) rfl] at hP2 hD2
  obtain ⟨z_16, ez_16⟩ : ∃ w, w = sq z_10 h0 6 (some k_11) := ⟨_, rfl⟩
  rw [← ez_16] at hP2 hD2
  replace hf := lt_at ez_16 hf
  replace hk : lk z_16 n := by rw [ez_16]; exact lk_sq1 hk (okN_at g_13)
  clear ez_16
  replace hP := hP2
  replace hD := hD2
  replace hS := hS2
  clear hP2 hD2 hS2
  refine lv_aload_n hx hb dX3_init_20 rfl (lv_at hl 0 rfl) ?_
  refine lv_bipush (v := 64) hx hb dX3_init_21 (by decide) ?_
  obtain ⟨g_17, hf⟩ := grd_some hf
  refine de_newa (atype := .boolean) (ty := .boolean) (t := 3) (N := 64) (a0 := (64, .inl (fun _ => 0))) hf hk hx hb (hts _ md_X3_init_7) rfl hK hP hD hS hA rfl rfl (fun _ => rfl) (by decide) (by decide) (Nat.le_of_ble_eq_true rfl) (Nat.le_of_ble_eq_true rfl) (Nat.le_of_ble_eq_true rfl) dX3_init_23 (fun a sh n z_18 k_19 H_20 hf hax hk hnn hP hD hS => ?_)
  refine W.eq (g2 := F0 m 25 ls [.ref (a k_19), .ref (a h0)]) (by rw [hax h0 (okN_at g_17)]) ?_
  replace hl : lv_has ls 1 [(0, .ref (a h0))] := by rw [hax h0 (okN_at g_17)]; exact hl
  replace hag := hag_new hag hax hnn
  clear hax hnn
  refine W.widen (k := 3) (n := 192) (Nat.le_of_ble_eq_true rfl) (Nat.le_of_ble_eq_true rfl) ?_
  obtain ⟨g_21, hf⟩ := grd_some hf
  obtain ⟨g_22, hf⟩ := grd_some hf
  obtain ⟨kg_22, sg_22⟩ := okO_at g_22
  refine va_putF (D := (dC, dI)) (ci := 3) (v := .ref (a k_19)) (ty := .array .boolean) (C := RX3) (T := TX3) (N := 22) hx hb hts iwd_X3_init_X3 tyX3 tyX3_ok nmX3 hown hK hP hD hS h0 (Wd_ob kg_22 sg_22 (by decide)) rfl 7 (by decide) (hts _ md_X3_init_8) (fun _ h9 => h9) rfl hin rfl (by decide +kernel) rfl rfl (by rw [fl_len]; decide) dX3_init_25 (fun H_23 locs hP2 hD2 hS2 => ?_)
  rw [Wd_sq1 sg_22 (by decide) rfl] at hP2 hD2
  obtain ⟨z_24, ez_24⟩ : ∃ w, w = sq z_18 h0 7 (some k_19) := ⟨_, rfl⟩
  rw [← ez_24] at hP2 hD2
  replace hf := lt_at ez_24 hf
  replace hk : lk z_24 n := by rw [ez_24]; exact lk_sq1 hk (okN_at g_21)
  clear ez_24
  replace hP := hP2
  replace hD := hD2
  replace hS := hS2
  clear hP2 hD2 hS2
  refine lv_aload_n hx hb dX3_init_28 rfl (lv_at hl 0 rfl) ?_
  refine lv_bipush (v := 40) hx hb dX3_init_29 (by decide) ?_
  obtain ⟨g_25, hf⟩ := grd_some hf
  refine de_newa (atype := .long) (ty := .long) (t := 2) (N := 40) (a0 := (40, .inr (.inl (fun _ => 0)))) hf hk hx hb (hts _ md_X3_init_4) rfl hK hP hD hS hA rfl rfl (fun _ => rfl) (by decide) (by decide) (Nat.le_of_ble_eq_true rfl) (Nat.le_of_ble_eq_true rfl) (Nat.le_of_ble_eq_true rfl) dX3_init_31 (fun a sh n z_26 k_27 H_28 hf hax hk hnn hP hD hS => ?_)
  refine W.eq (g2 := F0 m 33 ls [.ref (a k_27), .ref (a h0)]) (by rw [hax h0 (okN_at g_25)]) ?_
  replace hl : lv_has ls 1 [(0, .ref (a h0))] := by rw [hax h0 (okN_at g_25)]; exact hl
  replace hag := hag_new hag hax hnn
  clear hax hnn
  refine W.widen (k := 4) (n := 232) (Nat.le_of_ble_eq_true rfl) (Nat.le_of_ble_eq_true rfl) ?_
  obtain ⟨g_29, hf⟩ := grd_some hf
  obtain ⟨g_30, hf⟩ := grd_some hf
  obtain ⟨kg_30, sg_30⟩ := okO_at g_30
  refine va_putF (D := (dC, dI)) (ci := 3) (v := .ref (a k_27)) (ty := .array .long) (C := RX3) (T := TX3) (N := 22) hx hb hts iwd_X3_init_X3 tyX3 tyX3_ok nmX3 hown hK hP hD hS h0 (Wd_ob kg_30 sg_30 (by decide)) rfl 9 (by decide) (hts _ md_X3_init_9) (fun _ h9 => h9) rfl hin rfl (by decide +kernel) rfl rfl (by rw [fl_len]; decide) dX3_init_33 (fun H_31 locs hP2 hD2 hS2 => ?_)
  rw [Wd_sq1 sg_30 (by decide) rfl] at hP2 hD2
  obtain ⟨z_32, ez_32⟩ : ∃ w, w = sq z_26 h0 9 (some k_27) := ⟨_, rfl⟩
  rw [← ez_32] at hP2 hD2
  replace hf := lt_at ez_32 hf
  replace hk : lk z_32 n := by rw [ez_32]; exact lk_sq1 hk (okN_at g_29)
  clear ez_32
  replace hP := hP2
  replace hD := hD2
  replace hS := hS2
  clear hP2 hD2 hS2
  refine lv_aload_n hx hb dX3_init_36 rfl (lv_at hl 0 rfl) ?_
  refine lv_bipush (v := 40) hx hb dX3_init_37 (by decide) ?_
  obtain ⟨g_33, hf⟩ := grd_some hf
  refine de_newa (atype := .long) (ty := .long) (t := 2) (N := 40) (a0 := (40, .inr (.inl (fun _ => 0)))) hf hk hx hb (hts _ md_X3_init_4) rfl hK hP hD hS hA rfl rfl (fun _ => rfl) (by decide) (by decide) (Nat.le_of_ble_eq_true rfl) (Nat.le_of_ble_eq_true rfl) (Nat.le_of_ble_eq_true rfl) dX3_init_39 (fun a sh n z_34 k_35 H_36 hf hax hk hnn hP hD hS => ?_)
  refine W.eq (g2 := F0 m 41 ls [.ref (a k_35), .ref (a h0)]) (by rw [hax h0 (okN_at g_33)]) ?_
  replace hl : lv_has ls 1 [(0, .ref (a h0))] := by rw [hax h0 (okN_at g_33)]; exact hl
  replace hag := hag_new hag hax hnn
  clear hax hnn
  refine W.widen (k := 5) (n := 272) (Nat.le_of_ble_eq_true rfl) (Nat.le_of_ble_eq_true rfl) ?_
  obtain ⟨g_37, hf⟩ := grd_some hf
  obtain ⟨g_38, hf⟩ := grd_some hf
  obtain ⟨kg_38, sg_38⟩ := okO_at g_38
  refine va_putF (D := (dC, dI)) (ci := 3) (v := .ref (a k_35)) (ty := .array .long) (C := RX3) (T := TX3) (N := 22) hx hb hts iwd_X3_init_X3 tyX3 tyX3_ok nmX3 hown hK hP hD hS h0 (Wd_ob kg_38 sg_38 (by decide)) rfl 10 (by decide) (hts _ md_X3_init_10) (fun _ h9 => h9) rfl hin rfl (by decide +kernel) rfl rfl (by rw [fl_len]; decide) dX3_init_41 (fun H_39 locs hP2 hD2 hS2 => ?_)
  rw [Wd_sq1 sg_38 (by decide) rfl] at hP2 hD2
  obtain ⟨z_40, ez_40⟩ : ∃ w, w = sq z_34 h0 10 (some k_35) := ⟨_, rfl⟩
  rw [← ez_40] at hP2 hD2
  replace hf := lt_at ez_40 hf
  replace hk : lk z_40 n := by rw [ez_40]; exact lk_sq1 hk (okN_at g_37)
  clear ez_40
  replace hP := hP2
  replace hD := hD2
  replace hS := hS2
  clear hP2 hD2 hS2
  refine lv_aload_n hx hb dX3_init_44 rfl (lv_at hl 0 rfl) ?_
  refine lv_sipush (v := 1024) hx hb dX3_init_45 (by decide) ?_
  obtain ⟨g_41, hf⟩ := grd_some hf
  refine de_newa (atype := .boolean) (ty := .boolean) (t := 3) (N := 1024) (a0 := (1024, .inl (fun _ => 0))) hf hk hx hb (hts _ md_X3_init_7) rfl hK hP hD hS hA rfl rfl (fun _ => rfl) (by decide) (by decide) (Nat.le_of_ble_eq_true rfl) (Nat.le_of_ble_eq_true rfl) (Nat.le_of_ble_eq_true rfl) dX3_init_48 (fun a sh n z_42 k_43 H_44 hf hax hk hnn hP hD hS => ?_)
  refine W.eq (g2 := F0 m 50 ls [.ref (a k_43), .ref (a h0)]) (by rw [hax h0 (okN_at g_41)]) ?_
  replace hl : lv_has ls 1 [(0, .ref (a h0))] := by rw [hax h0 (okN_at g_41)]; exact hl
  replace hag := hag_new hag hax hnn
  clear hax hnn
  refine W.widen (k := 6) (n := 1296) (Nat.le_of_ble_eq_true rfl) (Nat.le_of_ble_eq_true rfl) ?_
  obtain ⟨g_45, hf⟩ := grd_some hf
  obtain ⟨g_46, hf⟩ := grd_some hf
  obtain ⟨kg_46, sg_46⟩ := okO_at g_46
  refine va_putF (D := (dC, dI)) (ci := 3) (v := .ref (a k_43)) (ty := .array .boolean) (C := RX3) (T := TX3) (N := 22) hx hb hts iwd_X3_init_X3 tyX3 tyX3_ok nmX3 hown hK hP hD hS h0 (Wd_ob kg_46 sg_46 (by decide)) rfl 17 (by decide) (hts _ md_X3_init_11) (fun _ h9 => h9) rfl hin rfl (by decide +kernel) rfl rfl (by rw [fl_len]; decide) dX3_init_50 (fun H_47 locs hP2 hD2 hS2 => ?_)
  rw [Wd_sq1 sg_46 (by decide) rfl] at hP2 hD2
  obtain ⟨z_48, ez_48⟩ : ∃ w, w = sq z_42 h0 17 (some k_43) := ⟨_, rfl⟩
  rw [← ez_48] at hP2 hD2
  replace hf := lt_at ez_48 hf
  replace hk : lk z_48 n := by rw [ez_48]; exact lk_sq1 hk (okN_at g_45)
  clear ez_48
  replace hP := hP2
  replace hD := hD2
  replace hS := hS2
  clear hP2 hD2 hS2
  refine lv_aload_n hx hb dX3_init_53 rfl (lv_at hl 0 rfl) ?_
  refine lv_sipush (v := 1024) hx hb dX3_init_54 (by decide) ?_
  obtain ⟨g_49, hf⟩ := grd_some hf
  refine de_newa (atype := .boolean) (ty := .boolean) (t := 3) (N := 1024) (a0 := (1024, .inl (fun _ => 0))) hf hk hx hb (hts _ md_X3_init_7) rfl hK hP hD hS hA rfl rfl (fun _ => rfl) (by decide) (by decide) (Nat.le_of_ble_eq_true rfl) (Nat.le_of_ble_eq_true rfl) (Nat.le_of_ble_eq_true rfl) dX3_init_57 (fun a sh n z_50 k_51 H_52 hf hax hk hnn hP hD hS => ?_)
  refine W.eq (g2 := F0 m 59 ls [.ref (a k_51), .ref (a h0)]) (by rw [hax h0 (okN_at g_49)]) ?_
  replace hl : lv_has ls 1 [(0, .ref (a h0))] := by rw [hax h0 (okN_at g_49)]; exact hl
  replace hag := hag_new hag hax hnn
  clear hax hnn
  refine W.widen (k := 7) (n := 2320) (Nat.le_of_ble_eq_true rfl) (Nat.le_of_ble_eq_true rfl) ?_
  obtain ⟨g_53, hf⟩ := grd_some hf
  obtain ⟨g_54, hf⟩ := grd_some hf
  obtain ⟨kg_54, sg_54⟩ := okO_at g_54
  refine va_putF (D := (dC, dI)) (ci := 3) (v := .ref (a k_51)) (ty := .array .boolean) (C := RX3) (T := TX3) (N := 22) hx hb hts iwd_X3_init_X3 tyX3 tyX3_ok nmX3 hown hK hP hD hS h0 (Wd_ob kg_54 sg_54 (by decide)) rfl 18 (by decide) (hts _ md_X3_init_12) (fun _ h9 => h9) rfl hin rfl (by decide +kernel) rfl rfl (by rw [fl_len]; decide) dX3_init_59 (fun H_55 locs hP2 hD2 hS2 => ?_)
  rw [Wd_sq1 sg_54 (by decide) rfl] at hP2 hD2
  obtain ⟨z_56, ez_56⟩ : ∃ w, w = sq z_50 h0 18 (some k_51) := ⟨_, rfl⟩
  rw [← ez_56] at hP2 hD2
  replace hf := lt_at ez_56 hf
  replace hk : lk z_56 n := by rw [ez_56]; exact lk_sq1 hk (okN_at g_53)
  clear ez_56
  replace hP := hP2
  replace hD := hD2
  replace hS := hS2
  clear hP2 hD2 hS2
  refine lv_aload_n hx hb dX3_init_62 rfl (lv_at hl 0 rfl) ?_
  refine lv_sipush (v := 1024) hx hb dX3_init_63 (by decide) ?_
  obtain ⟨g_57, hf⟩ := grd_some hf
  refine de_newa (atype := .long) (ty := .long) (t := 2) (N := 1024) (a0 := (1024, .inr (.inl (fun _ => 0)))) hf hk hx hb (hts _ md_X3_init_4) rfl hK hP hD hS hA rfl rfl (fun _ => rfl) (by decide) (by decide) (Nat.le_of_ble_eq_true rfl) (Nat.le_of_ble_eq_true rfl) (Nat.le_of_ble_eq_true rfl) dX3_init_66 (fun a sh n z_58 k_59 H_60 hf hax hk hnn hP hD hS => ?_)
  refine W.eq (g2 := F0 m 68 ls [.ref (a k_59), .ref (a h0)]) (by rw [hax h0 (okN_at g_57)]) ?_
  replace hl : lv_has ls 1 [(0, .ref (a h0))] := by rw [hax h0 (okN_at g_57)]; exact hl
  replace hag := hag_new hag hax hnn
  clear hax hnn
  refine W.widen (k := 8) (n := 3344) (Nat.le_of_ble_eq_true rfl) (Nat.le_of_ble_eq_true rfl) ?_
  obtain ⟨g_61, hf⟩ := grd_some hf
  obtain ⟨g_62, hf⟩ := grd_some hf
  obtain ⟨kg_62, sg_62⟩ := okO_at g_62
  refine va_putF (D := (dC, dI)) (ci := 3) (v := .ref (a k_59)) (ty := .array .long) (C := RX3) (T := TX3) (N := 22) hx hb hts iwd_X3_init_X3 tyX3 tyX3_ok nmX3 hown hK hP hD hS h0 (Wd_ob kg_62 sg_62 (by decide)) rfl 19 (by decide) (hts _ md_X3_init_13) (fun _ h9 => h9) rfl hin rfl (by decide +kernel) rfl rfl (by rw [fl_len]; decide) dX3_init_68 (fun H_63 locs hP2 hD2 hS2 => ?_)
  rw [Wd_sq1 sg_62 (by decide) rfl] at hP2 hD2
  obtain ⟨z_64, ez_64⟩ : ∃ w, w = sq z_58 h0 19 (some k_59) := ⟨_, rfl⟩
  rw [← ez_64] at hP2 hD2
  replace hf := lt_at ez_64 hf
  replace hk : lk z_64 n := by rw [ez_64]; exact lk_sq1 hk (okN_at g_61)
  clear ez_64
  replace hP := hP2
  replace hD := hD2
  replace hS := hS2
  clear hP2 hD2 hS2
  refine lv_aload_n hx hb dX3_init_71 rfl (lv_at hl 0 rfl) ?_
  refine lv_sipush (v := 1024) hx hb dX3_init_72 (by decide) ?_
  obtain ⟨g_65, hf⟩ := grd_some hf
  refine de_newa (atype := .long) (ty := .long) (t := 2) (N := 1024) (a0 := (1024, .inr (.inl (fun _ => 0)))) hf hk hx hb (hts _ md_X3_init_4) rfl hK hP hD hS hA rfl rfl (fun _ => rfl) (by decide) (by decide) (Nat.le_of_ble_eq_true rfl) (Nat.le_of_ble_eq_true rfl) (Nat.le_of_ble_eq_true rfl) dX3_init_75 (fun a sh n z_66 k_67 H_68 hf hax hk hnn hP hD hS => ?_)
  refine W.eq (g2 := F0 m 77 ls [.ref (a k_67), .ref (a h0)]) (by rw [hax h0 (okN_at g_65)]) ?_
  replace hl : lv_has ls 1 [(0, .ref (a h0))] := by rw [hax h0 (okN_at g_65)]; exact hl
  replace hag := hag_new hag hax hnn
  clear hax hnn
  refine W.widen (k := 9) (n := 4368) (Nat.le_of_ble_eq_true rfl) (Nat.le_of_ble_eq_true rfl) ?_
  obtain ⟨g_69, hf⟩ := grd_some hf
  obtain ⟨g_70, hf⟩ := grd_some hf
  obtain ⟨kg_70, sg_70⟩ := okO_at g_70
  refine va_putF (D := (dC, dI)) (ci := 3) (v := .ref (a k_67)) (ty := .array .long) (C := RX3) (T := TX3) (N := 22) hx hb hts iwd_X3_init_X3 tyX3 tyX3_ok nmX3 hown hK hP hD hS h0 (Wd_ob kg_70 sg_70 (by decide)) rfl 20 (by decide) (hts _ md_X3_init_14) (fun _ h9 => h9) rfl hin rfl (by decide +kernel) rfl rfl (by rw [fl_len]; decide) dX3_init_77 (fun H_71 locs hP2 hD2 hS2 => ?_)
  rw [Wd_sq1 sg_70 (by decide) rfl] at hP2 hD2
  obtain ⟨z_72, ez_72⟩ : ∃ w, w = sq z_66 h0 20 (some k_67) := ⟨_, rfl⟩
  rw [← ez_72] at hP2 hD2
  replace hf := lt_at ez_72 hf
  replace hk : lk z_72 n := by rw [ez_72]; exact lk_sq1 hk (okN_at g_69)
  clear ez_72
  replace hP := hP2
  replace hD := hD2
  replace hS := hS2
  clear hP2 hD2 hS2
  refine lv_aload_n hx hb dX3_init_80 rfl (lv_at hl 0 rfl) ?_
  refine lv_ldc hx hb hown (hts _ md_X3_init_15) dX3_init_81 ?_
  obtain ⟨g_73, hf⟩ := grd_some hf
  refine de_newa (atype := .long) (ty := .long) (t := 2) (N := 40960) (a0 := (40960, .inr (.inl (fun _ => 0)))) hf hk hx hb (hts _ md_X3_init_4) rfl hK hP hD hS hA rfl rfl (fun _ => rfl) (by decide) (by decide) (Nat.le_of_ble_eq_true rfl) (Nat.le_of_ble_eq_true rfl) (Nat.le_of_ble_eq_true rfl) dX3_init_83 (fun a sh n z_74 k_75 H_76 hf hax hk hnn hP hD hS => ?_)
  refine W.eq (g2 := F0 m 85 ls [.ref (a k_75), .ref (a h0)]) (by rw [hax h0 (okN_at g_73)]) ?_
  replace hl : lv_has ls 1 [(0, .ref (a h0))] := by rw [hax h0 (okN_at g_73)]; exact hl
  replace hag := hag_new hag hax hnn
  clear hax hnn
  refine W.widen (k := 10) (n := 45328) (Nat.le_of_ble_eq_true rfl) (Nat.le_of_ble_eq_true rfl) ?_
  obtain ⟨g_77, hf⟩ := grd_some hf
  obtain ⟨g_78, hf⟩ := grd_some hf
  obtain ⟨kg_78, sg_78⟩ := okO_at g_78
  refine va_putF (D := (dC, dI)) (ci := 3) (v := .ref (a k_75)) (ty := .array .long) (C := RX3) (T := TX3) (N := 22) hx hb hts iwd_X3_init_X3 tyX3 tyX3_ok nmX3 hown hK hP hD hS h0 (Wd_ob kg_78 sg_78 (by decide)) rfl 21 (by decide) (hts _ md_X3_init_16) (fun _ h9 => h9) rfl hin rfl (by decide +kernel) rfl rfl (by rw [fl_len]; decide) dX3_init_85 (fun H_79 locs hP2 hD2 hS2 => ?_)
  rw [Wd_sq1 sg_78 (by decide) rfl] at hP2 hD2
  obtain ⟨z_80, ez_80⟩ : ∃ w, w = sq z_74 h0 21 (some k_75) := ⟨_, rfl⟩
  rw [← ez_80] at hP2 hD2
  replace hf := lt_at ez_80 hf
  replace hk : lk z_80 n := by rw [ez_80]; exact lk_sq1 hk (okN_at g_77)
  clear ez_80
  replace hP := hP2
  replace hD := hD2
  replace hS := hS2
  clear hP2 hD2 hS2
  obtain ⟨h5, h6, h8, h9⟩ := rta_some hf
  rw [h5, h6, h8]
  exact W.vret hx hb hr (fun t ht hW => ⟨⟨a, rfl, ⟨hag, hk⟩, by rw [ht]; exact hP, va_K.moved hW.alike hK, hD⟩, hS.F ht⟩) hS.2.2 dX3_init_88

theorem md_X5_init_1 : (.methodLink RX5 3 objectInit : Cond) ∈ wsX5_init := List.mem_of_getElem? (i := 1) rfl
theorem md_X5_init_2 : (.instanceMethod objectInit : Cond) ∈ wsX5_init := List.mem_of_getElem? (i := 2) rfl
theorem md_X5_init_3 : (.code objectInit ⟨#[0xb1]⟩ 1 none : Cond) ∈ wsX5_init := List.mem_of_getElem? (i := 3) rfl
theorem md_X5_init_4 : (.arrayClass .long : Cond) ∈ wsX5_init := List.mem_of_getElem? (i := 4) rfl
theorem md_X5_init_5 : (.fieldLink RX5 9 "ResourceLedger$Program" "types" "[J" : Cond) ∈ wsX5_init := List.mem_of_getElem? (i := 5) rfl
theorem iwd_X5_init_X5 : ∀ w ∈ wsX50, w ∈ wsX5_init := fun _ h => List.mem_cons_of_mem _ (List.mem_append_right _ h)
theorem md_X5_init_6 : (.arrayClass .int : Cond) ∈ wsX5_init := List.mem_of_getElem? (i := 6) rfl
theorem md_X5_init_7 : (.fieldLink RX5 15 "ResourceLedger$Program" "starts" "[I" : Cond) ∈ wsX5_init := List.mem_of_getElem? (i := 7) rfl
theorem md_X5_init_8 : (.fieldLink RX5 19 "ResourceLedger$Program" "structureRows" "[I" : Cond) ∈ wsX5_init := List.mem_of_getElem? (i := 8) rfl
theorem md_X5_init_9 : (.fieldLink RX5 22 "ResourceLedger$Program" "functionRows" "[I" : Cond) ∈ wsX5_init := List.mem_of_getElem? (i := 9) rfl
set_option maxHeartbeats 4000000 in
set_option maxRecDepth 100000 in
theorem da_X5_init (l : Launch) (dC : Nat → ClassId) (dI : Nat → Nat → Nat) (cy : Nat → ClassId) (a0 : Nat → Nat) (sh0 : Nat → Nat × Nat) (n0 sz : Nat) (F : Nat) (z0 : St) (h0 : Nat) (hk0 : lk z0 n0) {sh8 : Nat → Nat × Nat} {n8 : Nat} {z8 : St} {r8 : Unit} (hf : fa_X5_init F sh0 n0 z0 h0 = some (sh8, n8, z8, r8)) : Met l yX5_init wsX5_init ({ frames := 1, cells := 4, slots := 5408, locals := 12 }) (va_Pc [.ref (a0 h0)] (fun U => U.heap.size = sz ∧ va_P (dC, dI) vwCl (Wd cy a0 sh0 n0 z0) U.heap ∧ va_K (dC, dI) vwCl (TYS cy) U ∧ va_D (fun _ => True) (Wd cy a0 sh0 n0 z0) ∧ NK U)) (va_Qv (fun u : Nat → Nat => ((∀ k, k < n0 ∨ k = CBK → u k = a0 k) ∧ n0 ≤ n8) ∧ lk z8 n8) (fun u t => va_P (dC, dI) vwCl (Wd cy u sh8 n8 z8) t.heap ∧ va_K (dC, dI) vwCl (TYS cy) t ∧ va_D (va_A (Wd cy a0 sh0 n0 z0) sz) (Wd cy u sh8 n8 z8)) (va_A (Wd cy a0 sh0 n0 z0) sz)) 4 5408 (va_A (Wd cy a0 sh0 n0 z0) sz) := by
  refine Met.ofW (cc := cX5_init) (maxL := 1) (ret := none) (by decide) rfl ?_
  intro p e s m args below meth c s₁ B hml hv
  obtain ⟨rfl, hsz, hP, hK, hD0, hN⟩ := hv
  have hx := B.exec
  have hb := B.bytes
  have hr := B.returns
  have hts := atoms_spec (ws := wsX5_init) B.pre
  have hown : s.vm.findClass RX5 = some m.cls := findClass_of_methodNamed B.named
  have hlocks := B.notSynchronized
  have hin : meth.name = "<init>" := (name_of_methodNamed B.named B.method).1
  subst hsz
  have hD := hD0.self (sz := s.heap.size)
  clear hD0
  generalize hAe : va_A (Wd cy a0 sh0 n0 z0) s.heap.size = A at hD ⊢
  have hA : ∀ q : Nat, s.heap.size ≤ q → A q := fun q h => by rw [← hAe]; exact Or.inr h
  clear hAe
  have hS : va_S A s.heap s.heap [] := va_S.rf
  have hl := lv_entry ([.ref (a0 h0)]) (n := 1) (Nat.le_of_ble_eq_true rfl)
  rw [lg_entry_eq]
  generalize (lg_sl ([.ref (a0 h0)]) ++ List.replicate (1 - (lg_sl ([.ref (a0 h0)])).length) Slot.unset).toArray = ls at hl ⊢
  replace hl : lv_has ls 1 [(0, .ref (a0 h0))] := hl
  unfold fa_X5_init at hf
  refine da_start (fn := fun sh n z => fa_X5_init F sh n z h0) (av := fun a => [(0, .ref (a h0))]) (sk := fun q => True) hf hk0 hS hD hP hl trivial (fun a sh n z H locs hf hag hk hS hD hP hl hSK => ?_)
  unfold fa_X5_init at hf
  try dsimp only at hf hl hSK
  refine lv_aload_n hx hb dX5_init_0 rfl (lv_at hl 0 rfl) ?_
  refine W.objInit hx hb hown (hts _ md_X5_init_1) (hts _ md_X5_init_2) (hts _ md_X5_init_3) rfl (by rw [hml]; exact hl.1) rfl dX5_init_1 (Nat.le_of_ble_eq_true rfl) (Nat.le_of_ble_eq_true rfl) ?_
  refine W.eq (g2 := F0 m 4 ls []) rfl ?_
  refine lv_aload_n hx hb dX5_init_4 rfl (lv_at hl 0 rfl) ?_
  refine lv_sipush (v := 2048) hx hb dX5_init_5 (by decide) ?_
  obtain ⟨g_1, hf⟩ := grd_some hf
  refine de_newa (atype := .long) (ty := .long) (t := 2) (N := 2048) (a0 := (2048, .inr (.inl (fun _ => 0)))) hf hk hx hb (hts _ md_X5_init_4) rfl hK hP hD hS hA rfl rfl (fun _ => rfl) (by decide) (by decide) (Nat.le_of_ble_eq_true rfl) (Nat.le_of_ble_eq_true rfl) (Nat.le_of_ble_eq_true rfl) dX5_init_8 (fun a sh n z_2 k_3 H_4 hf hax hk hnn hP hD hS => ?_)
  refine W.eq (g2 := F0 m 10 ls [.ref (a k_3), .ref (a h0)]) (by rw [hax h0 (okN_at g_1)]) ?_
  replace hl : lv_has ls 1 [(0, .ref (a h0))] := by rw [hax h0 (okN_at g_1)]; exact hl
  replace hag := hag_new hag hax hnn
  clear hax hnn
  refine W.widen (k := 1) (n := 2048) (Nat.le_of_ble_eq_true rfl) (Nat.le_of_ble_eq_true rfl) ?_
  obtain ⟨g_5, hf⟩ := grd_some hf
  obtain ⟨g_6, hf⟩ := grd_some hf
  obtain ⟨kg_6, sg_6⟩ := okO_at g_6
  refine va_putF (D := (dC, dI)) (ci := 5) (v := .ref (a k_3)) (ty := .array .long) (C := RX5) (T := TX5) (N := 15) hx hb hts iwd_X5_init_X5 tyX5 tyX5_ok nmX5 hown hK hP hD hS h0 (Wd_ob kg_6 sg_6 (by decide)) rfl 3 (by decide) (hts _ md_X5_init_5) (fun _ h9 => h9) rfl hin rfl (by decide +kernel) rfl rfl (by rw [fl_len]; decide) dX5_init_10 (fun H_7 locs hP2 hD2 hS2 => ?_)
  rw [Wd_sq1 sg_6 (by decide) rfl] at hP2 hD2
  obtain ⟨z_8, ez_8⟩ : ∃ w, w = sq z_2 h0 3 (some k_3) := ⟨_, rfl⟩
  rw [← ez_8] at hP2 hD2
  replace hf := lt_at ez_8 hf
  replace hk : lk z_8 n := by rw [ez_8]; exact lk_sq1 hk (okN_at g_5)
  clear ez_8
  replace hP := hP2
  replace hD := hD2
  replace hS := hS2
  clear hP2 hD2 hS2
  refine lv_aload_n hx hb dX5_init_13 rfl (lv_at hl 0 rfl) ?_
  refine lv_sipush (v := 2048) hx hb dX5_init_14 (by decide) ?_
  obtain ⟨g_9, hf⟩ := grd_some hf
  refine de_newa (atype := .int) (ty := .int) (t := 1) (N := 2048) (a0 := (2048, .inl (fun _ => 0))) hf hk hx hb (hts _ md_X5_init_6) rfl hK hP hD hS hA rfl rfl (fun _ => rfl) (by decide) (by decide) (Nat.le_of_ble_eq_true rfl) (Nat.le_of_ble_eq_true rfl) (Nat.le_of_ble_eq_true rfl) dX5_init_17 (fun a sh n z_10 k_11 H_12 hf hax hk hnn hP hD hS => ?_)
  refine W.eq (g2 := F0 m 19 ls [.ref (a k_11), .ref (a h0)]) (by rw [hax h0 (okN_at g_9)]) ?_
  replace hl : lv_has ls 1 [(0, .ref (a h0))] := by rw [hax h0 (okN_at g_9)]; exact hl
  replace hag := hag_new hag hax hnn
  clear hax hnn
  refine W.widen (k := 2) (n := 4096) (Nat.le_of_ble_eq_true rfl) (Nat.le_of_ble_eq_true rfl) ?_
  obtain ⟨g_13, hf⟩ := grd_some hf
  obtain ⟨g_14, hf⟩ := grd_some hf
  obtain ⟨kg_14, sg_14⟩ := okO_at g_14
  refine va_putF (D := (dC, dI)) (ci := 5) (v := .ref (a k_11)) (ty := .array .int) (C := RX5) (T := TX5) (N := 15) hx hb hts iwd_X5_init_X5 tyX5 tyX5_ok nmX5 hown hK hP hD hS h0 (Wd_ob kg_14 sg_14 (by decide)) rfl 5 (by decide) (hts _ md_X5_init_7) (fun _ h9 => h9) rfl hin rfl (by decide +kernel) rfl rfl (by rw [fl_len]; decide) dX5_init_19 (fun H_15 locs hP2 hD2 hS2 => ?_)
  rw [Wd_sq1 sg_14 (by decide) rfl] at hP2 hD2
  obtain ⟨z_16, ez_16⟩ : ∃ w, w = sq z_10 h0 5 (some k_11) := ⟨_, rfl⟩
  rw [← ez_16] at hP2 hD2
  replace hf := lt_at ez_16 hf
  replace hk : lk z_16 n := by rw [ez_16]; exact lk_sq1 hk (okN_at g_13)
  clear ez_16
  replace hP := hP2
  replace hD := hD2
  replace hS := hS2
  clear hP2 hD2 hS2
  refine lv_aload_n hx hb dX5_init_22 rfl (lv_at hl 0 rfl) ?_
  refine lv_sipush (v := 448) hx hb dX5_init_23 (by decide) ?_
  obtain ⟨g_17, hf⟩ := grd_some hf
  refine de_newa (atype := .int) (ty := .int) (t := 1) (N := 448) (a0 := (448, .inl (fun _ => 0))) hf hk hx hb (hts _ md_X5_init_6) rfl hK hP hD hS hA rfl rfl (fun _ => rfl) (by decide) (by decide) (Nat.le_of_ble_eq_true rfl) (Nat.le_of_ble_eq_true rfl) (Nat.le_of_ble_eq_true rfl) dX5_init_26 (fun a sh n z_18 k_19 H_20 hf hax hk hnn hP hD hS => ?_)
  refine W.eq (g2 := F0 m 28 ls [.ref (a k_19), .ref (a h0)]) (by rw [hax h0 (okN_at g_17)]) ?_
  replace hl : lv_has ls 1 [(0, .ref (a h0))] := by rw [hax h0 (okN_at g_17)]; exact hl
  replace hag := hag_new hag hax hnn
  clear hax hnn
  refine W.widen (k := 3) (n := 4544) (Nat.le_of_ble_eq_true rfl) (Nat.le_of_ble_eq_true rfl) ?_
  obtain ⟨g_21, hf⟩ := grd_some hf
  obtain ⟨g_22, hf⟩ := grd_some hf
  obtain ⟨kg_22, sg_22⟩ := okO_at g_22
  refine va_putF (D := (dC, dI)) (ci := 5) (v := .ref (a k_19)) (ty := .array .int) (C := RX5) (T := TX5) (N := 15) hx hb hts iwd_X5_init_X5 tyX5 tyX5_ok nmX5 hown hK hP hD hS h0 (Wd_ob kg_22 sg_22 (by decide)) rfl 7 (by decide) (hts _ md_X5_init_8) (fun _ h9 => h9) rfl hin rfl (by decide +kernel) rfl rfl (by rw [fl_len]; decide) dX5_init_28 (fun H_23 locs hP2 hD2 hS2 => ?_)
  rw [Wd_sq1 sg_22 (by decide) rfl] at hP2 hD2
  obtain ⟨z_24, ez_24⟩ : ∃ w, w = sq z_18 h0 7 (some k_19) := ⟨_, rfl⟩
  rw [← ez_24] at hP2 hD2
  replace hf := lt_at ez_24 hf
  replace hk : lk z_24 n := by rw [ez_24]; exact lk_sq1 hk (okN_at g_21)
  clear ez_24
  replace hP := hP2
  replace hD := hD2
  replace hS := hS2
  clear hP2 hD2 hS2
  refine lv_aload_n hx hb dX5_init_31 rfl (lv_at hl 0 rfl) ?_
  refine lv_sipush (v := 864) hx hb dX5_init_32 (by decide) ?_
  obtain ⟨g_25, hf⟩ := grd_some hf
  refine de_newa (atype := .int) (ty := .int) (t := 1) (N := 864) (a0 := (864, .inl (fun _ => 0))) hf hk hx hb (hts _ md_X5_init_6) rfl hK hP hD hS hA rfl rfl (fun _ => rfl) (by decide) (by decide) (Nat.le_of_ble_eq_true rfl) (Nat.le_of_ble_eq_true rfl) (Nat.le_of_ble_eq_true rfl) dX5_init_35 (fun a sh n z_26 k_27 H_28 hf hax hk hnn hP hD hS => ?_)
  refine W.eq (g2 := F0 m 37 ls [.ref (a k_27), .ref (a h0)]) (by rw [hax h0 (okN_at g_25)]) ?_
  replace hl : lv_has ls 1 [(0, .ref (a h0))] := by rw [hax h0 (okN_at g_25)]; exact hl
  replace hag := hag_new hag hax hnn
  clear hax hnn
  refine W.widen (k := 4) (n := 5408) (Nat.le_of_ble_eq_true rfl) (Nat.le_of_ble_eq_true rfl) ?_
  obtain ⟨g_29, hf⟩ := grd_some hf
  obtain ⟨g_30, hf⟩ := grd_some hf
  obtain ⟨kg_30, sg_30⟩ := okO_at g_30
  refine va_putF (D := (dC, dI)) (ci := 5) (v := .ref (a k_27)) (ty := .array .int) (C := RX5) (T := TX5) (N := 15) hx hb hts iwd_X5_init_X5 tyX5 tyX5_ok nmX5 hown hK hP hD hS h0 (Wd_ob kg_30 sg_30 (by decide)) rfl 10 (by decide) (hts _ md_X5_init_9) (fun _ h9 => h9) rfl hin rfl (by decide +kernel) rfl rfl (by rw [fl_len]; decide) dX5_init_37 (fun H_31 locs hP2 hD2 hS2 => ?_)
  rw [Wd_sq1 sg_30 (by decide) rfl] at hP2 hD2
  obtain ⟨z_32, ez_32⟩ : ∃ w, w = sq z_26 h0 10 (some k_27) := ⟨_, rfl⟩
  rw [← ez_32] at hP2 hD2
  replace hf := lt_at ez_32 hf
  replace hk : lk z_32 n := by rw [ez_32]; exact lk_sq1 hk (okN_at g_29)
  clear ez_32
  replace hP := hP2
  replace hD := hD2
  replace hS := hS2
  clear hP2 hD2 hS2
  obtain ⟨h5, h6, h8, h9⟩ := rta_some hf
  rw [h5, h6, h8]
  exact W.vret hx hb hr (fun t ht hW => ⟨⟨a, rfl, ⟨hag, hk⟩, by rw [ht]; exact hP, va_K.moved hW.alike hK, hD⟩, hS.F ht⟩) hS.2.2 dX5_init_40

theorem md_X6_init_1 : (.methodLink RX6 3 objectInit : Cond) ∈ wsX6_init := List.mem_of_getElem? (i := 1) rfl
theorem md_X6_init_2 : (.instanceMethod objectInit : Cond) ∈ wsX6_init := List.mem_of_getElem? (i := 2) rfl
theorem md_X6_init_3 : (.code objectInit ⟨#[0xb1]⟩ 1 none : Cond) ∈ wsX6_init := List.mem_of_getElem? (i := 3) rfl
theorem md_X6_init_4 : (.arrayClass .int : Cond) ∈ wsX6_init := List.mem_of_getElem? (i := 4) rfl
theorem md_X6_init_5 : (.fieldLink RX6 11 "ResourceLedger$Reader" "holds" "[I" : Cond) ∈ wsX6_init := List.mem_of_getElem? (i := 5) rfl
theorem iwd_X6_init_X6 : ∀ w ∈ wsX60, w ∈ wsX6_init := fun _ h => List.mem_cons_of_mem _ (List.mem_append_right _ h)
set_option maxHeartbeats 4000000 in
set_option maxRecDepth 100000 in
theorem da_X6_init (l : Launch) (dC : Nat → ClassId) (dI : Nat → Nat → Nat) (cy : Nat → ClassId) (a0 : Nat → Nat) (sh0 : Nat → Nat × Nat) (n0 sz : Nat) (F : Nat) (z0 : St) (h0 : Nat) (hk0 : lk z0 n0) {sh8 : Nat → Nat × Nat} {n8 : Nat} {z8 : St} {r8 : Unit} (hf : fa_X6_init F sh0 n0 z0 h0 = some (sh8, n8, z8, r8)) : Met l yX6_init wsX6_init ({ frames := 1, cells := 1, slots := 32, locals := 12 }) (va_Pc [.ref (a0 h0)] (fun U => U.heap.size = sz ∧ va_P (dC, dI) vwCl (Wd cy a0 sh0 n0 z0) U.heap ∧ va_K (dC, dI) vwCl (TYS cy) U ∧ va_D (fun _ => True) (Wd cy a0 sh0 n0 z0) ∧ NK U)) (va_Qv (fun u : Nat → Nat => ((∀ k, k < n0 ∨ k = CBK → u k = a0 k) ∧ n0 ≤ n8) ∧ lk z8 n8) (fun u t => va_P (dC, dI) vwCl (Wd cy u sh8 n8 z8) t.heap ∧ va_K (dC, dI) vwCl (TYS cy) t ∧ va_D (va_A (Wd cy a0 sh0 n0 z0) sz) (Wd cy u sh8 n8 z8)) (va_A (Wd cy a0 sh0 n0 z0) sz)) 1 32 (va_A (Wd cy a0 sh0 n0 z0) sz) := by
  refine Met.ofW (cc := cX6_init) (maxL := 1) (ret := none) (by decide) rfl ?_
  intro p e s m args below meth c s₁ B hml hv
  obtain ⟨rfl, hsz, hP, hK, hD0, hN⟩ := hv
  have hx := B.exec
  have hb := B.bytes
  have hr := B.returns
  have hts := atoms_spec (ws := wsX6_init) B.pre
  have hown : s.vm.findClass RX6 = some m.cls := findClass_of_methodNamed B.named
  have hlocks := B.notSynchronized
  have hin : meth.name = "<init>" := (name_of_methodNamed B.named B.method).1
  subst hsz
  have hD := hD0.self (sz := s.heap.size)
  clear hD0
  generalize hAe : va_A (Wd cy a0 sh0 n0 z0) s.heap.size = A at hD ⊢
  have hA : ∀ q : Nat, s.heap.size ≤ q → A q := fun q h => by rw [← hAe]; exact Or.inr h
  clear hAe
  have hS : va_S A s.heap s.heap [] := va_S.rf
  have hl := lv_entry ([.ref (a0 h0)]) (n := 1) (Nat.le_of_ble_eq_true rfl)
  rw [lg_entry_eq]
  generalize (lg_sl ([.ref (a0 h0)]) ++ List.replicate (1 - (lg_sl ([.ref (a0 h0)])).length) Slot.unset).toArray = ls at hl ⊢
  replace hl : lv_has ls 1 [(0, .ref (a0 h0))] := hl
  unfold fa_X6_init at hf
  refine da_start (fn := fun sh n z => fa_X6_init F sh n z h0) (av := fun a => [(0, .ref (a h0))]) (sk := fun q => True) hf hk0 hS hD hP hl trivial (fun a sh n z H locs hf hag hk hS hD hP hl hSK => ?_)
  unfold fa_X6_init at hf
  try dsimp only at hf hl hSK
  refine lv_aload_n hx hb dX6_init_0 rfl (lv_at hl 0 rfl) ?_
  refine W.objInit hx hb hown (hts _ md_X6_init_1) (hts _ md_X6_init_2) (hts _ md_X6_init_3) rfl (by rw [hml]; exact hl.1) rfl dX6_init_1 (Nat.le_of_ble_eq_true rfl) (Nat.le_of_ble_eq_true rfl) ?_
  refine W.eq (g2 := F0 m 4 ls []) rfl ?_
  refine lv_aload_n hx hb dX6_init_4 rfl (lv_at hl 0 rfl) ?_
  refine lv_bipush (v := 32) hx hb dX6_init_5 (by decide) ?_
  obtain ⟨g_1, hf⟩ := grd_some hf
  refine de_newa (atype := .int) (ty := .int) (t := 1) (N := 32) (a0 := (32, .inl (fun _ => 0))) hf hk hx hb (hts _ md_X6_init_4) rfl hK hP hD hS hA rfl rfl (fun _ => rfl) (by decide) (by decide) (Nat.le_of_ble_eq_true rfl) (Nat.le_of_ble_eq_true rfl) (Nat.le_of_ble_eq_true rfl) dX6_init_7 (fun a sh n z_2 k_3 H_4 hf hax hk hnn hP hD hS => ?_)
  refine W.eq (g2 := F0 m 9 ls [.ref (a k_3), .ref (a h0)]) (by rw [hax h0 (okN_at g_1)]) ?_
  replace hl : lv_has ls 1 [(0, .ref (a h0))] := by rw [hax h0 (okN_at g_1)]; exact hl
  replace hag := hag_new hag hax hnn
  clear hax hnn
  refine W.widen (k := 1) (n := 32) (Nat.le_of_ble_eq_true rfl) (Nat.le_of_ble_eq_true rfl) ?_
  obtain ⟨g_5, hf⟩ := grd_some hf
  obtain ⟨g_6, hf⟩ := grd_some hf
  obtain ⟨kg_6, sg_6⟩ := okO_at g_6
  refine va_putF (D := (dC, dI)) (ci := 6) (v := .ref (a k_3)) (ty := .array .int) (C := RX6) (T := TX6) (N := 9) hx hb hts iwd_X6_init_X6 tyX6 tyX6_ok nmX6 hown hK hP hD hS h0 (Wd_ob kg_6 sg_6 (by decide)) rfl 8 (by decide) (hts _ md_X6_init_5) (fun _ h9 => h9) rfl hin rfl (by decide +kernel) rfl rfl (by rw [fl_len]; decide) dX6_init_9 (fun H_7 locs hP2 hD2 hS2 => ?_)
  rw [Wd_sq1 sg_6 (by decide) rfl] at hP2 hD2
  obtain ⟨z_8, ez_8⟩ : ∃ w, w = sq z_2 h0 8 (some k_3) := ⟨_, rfl⟩
  rw [← ez_8] at hP2 hD2
  replace hf := lt_at ez_8 hf
  replace hk : lk z_8 n := by rw [ez_8]; exact lk_sq1 hk (okN_at g_5)
  clear ez_8
  replace hP := hP2
  replace hD := hD2
  replace hS := hS2
  clear hP2 hD2 hS2
  obtain ⟨h5, h6, h8, h9⟩ := rta_some hf
  rw [h5, h6, h8]
  exact W.vret hx hb hr (fun t ht hW => ⟨⟨a, rfl, ⟨hag, hk⟩, by rw [ht]; exact hP, va_K.moved hW.alike hK, hD⟩, hS.F ht⟩) hS.2.2 dX6_init_12

theorem md_X8_init_1 : (.methodLink RX8 3 objectInit : Cond) ∈ wsX8_init := List.mem_of_getElem? (i := 1) rfl
theorem md_X8_init_2 : (.instanceMethod objectInit : Cond) ∈ wsX8_init := List.mem_of_getElem? (i := 2) rfl
theorem md_X8_init_3 : (.code objectInit ⟨#[0xb1]⟩ 1 none : Cond) ∈ wsX8_init := List.mem_of_getElem? (i := 3) rfl
theorem md_X8_init_4 : (.arrayClass .int : Cond) ∈ wsX8_init := List.mem_of_getElem? (i := 4) rfl
theorem md_X8_init_5 : (.fieldLink RX8 9 "ResourceLedger$Transaction" "argumentType" "[I" : Cond) ∈ wsX8_init := List.mem_of_getElem? (i := 5) rfl
theorem iwd_X8_init_X8 : ∀ w ∈ wsX80, w ∈ wsX8_init := fun _ h => List.mem_cons_of_mem _ (List.mem_append_right _ h)
theorem md_X8_init_6 : (.arrayClass .long : Cond) ∈ wsX8_init := List.mem_of_getElem? (i := 6) rfl
theorem md_X8_init_7 : (.fieldLink RX8 15 "ResourceLedger$Transaction" "argumentHigh" "[J" : Cond) ∈ wsX8_init := List.mem_of_getElem? (i := 7) rfl
theorem md_X8_init_8 : (.fieldLink RX8 19 "ResourceLedger$Transaction" "argumentLow" "[J" : Cond) ∈ wsX8_init := List.mem_of_getElem? (i := 8) rfl
theorem md_X8_init_9 : (.fieldLink RX8 22 "ResourceLedger$Transaction" "resultType" "[I" : Cond) ∈ wsX8_init := List.mem_of_getElem? (i := 9) rfl
theorem md_X8_init_10 : (.fieldLink RX8 25 "ResourceLedger$Transaction" "resultHigh" "[J" : Cond) ∈ wsX8_init := List.mem_of_getElem? (i := 10) rfl
theorem md_X8_init_11 : (.fieldLink RX8 28 "ResourceLedger$Transaction" "resultLow" "[J" : Cond) ∈ wsX8_init := List.mem_of_getElem? (i := 11) rfl
set_option maxHeartbeats 4000000 in
set_option maxRecDepth 100000 in
theorem da_X8_init (l : Launch) (dC : Nat → ClassId) (dI : Nat → Nat → Nat) (cy : Nat → ClassId) (a0 : Nat → Nat) (sh0 : Nat → Nat × Nat) (n0 sz : Nat) (F : Nat) (z0 : St) (h0 : Nat) (hk0 : lk z0 n0) {sh8 : Nat → Nat × Nat} {n8 : Nat} {z8 : St} {r8 : Unit} (hf : fa_X8_init F sh0 n0 z0 h0 = some (sh8, n8, z8, r8)) : Met l yX8_init wsX8_init ({ frames := 1, cells := 6, slots := 48, locals := 12 }) (va_Pc [.ref (a0 h0)] (fun U => U.heap.size = sz ∧ va_P (dC, dI) vwCl (Wd cy a0 sh0 n0 z0) U.heap ∧ va_K (dC, dI) vwCl (TYS cy) U ∧ va_D (fun _ => True) (Wd cy a0 sh0 n0 z0) ∧ NK U)) (va_Qv (fun u : Nat → Nat => ((∀ k, k < n0 ∨ k = CBK → u k = a0 k) ∧ n0 ≤ n8) ∧ lk z8 n8) (fun u t => va_P (dC, dI) vwCl (Wd cy u sh8 n8 z8) t.heap ∧ va_K (dC, dI) vwCl (TYS cy) t ∧ va_D (va_A (Wd cy a0 sh0 n0 z0) sz) (Wd cy u sh8 n8 z8)) (va_A (Wd cy a0 sh0 n0 z0) sz)) 6 48 (va_A (Wd cy a0 sh0 n0 z0) sz) := by
  refine Met.ofW (cc := cX8_init) (maxL := 1) (ret := none) (by decide) rfl ?_
  intro p e s m args below meth c s₁ B hml hv
  obtain ⟨rfl, hsz, hP, hK, hD0, hN⟩ := hv
  have hx := B.exec
  have hb := B.bytes
  have hr := B.returns
  have hts := atoms_spec (ws := wsX8_init) B.pre
  have hown : s.vm.findClass RX8 = some m.cls := findClass_of_methodNamed B.named
  have hlocks := B.notSynchronized
  have hin : meth.name = "<init>" := (name_of_methodNamed B.named B.method).1
  subst hsz
  have hD := hD0.self (sz := s.heap.size)
  clear hD0
  generalize hAe : va_A (Wd cy a0 sh0 n0 z0) s.heap.size = A at hD ⊢
  have hA : ∀ q : Nat, s.heap.size ≤ q → A q := fun q h => by rw [← hAe]; exact Or.inr h
  clear hAe
  have hS : va_S A s.heap s.heap [] := va_S.rf
  have hl := lv_entry ([.ref (a0 h0)]) (n := 1) (Nat.le_of_ble_eq_true rfl)
  rw [lg_entry_eq]
  generalize (lg_sl ([.ref (a0 h0)]) ++ List.replicate (1 - (lg_sl ([.ref (a0 h0)])).length) Slot.unset).toArray = ls at hl ⊢
  replace hl : lv_has ls 1 [(0, .ref (a0 h0))] := hl
  unfold fa_X8_init at hf
  refine da_start (fn := fun sh n z => fa_X8_init F sh n z h0) (av := fun a => [(0, .ref (a h0))]) (sk := fun q => True) hf hk0 hS hD hP hl trivial (fun a sh n z H locs hf hag hk hS hD hP hl hSK => ?_)
  unfold fa_X8_init at hf
  try dsimp only at hf hl hSK
  refine lv_aload_n hx hb dX8_init_0 rfl (lv_at hl 0 rfl) ?_
  refine W.objInit hx hb hown (hts _ md_X8_init_1) (hts _ md_X8_init_2) (hts _ md_X8_init_3) rfl (by rw [hml]; exact hl.1) rfl dX8_init_1 (Nat.le_of_ble_eq_true rfl) (Nat.le_of_ble_eq_true rfl) ?_
  refine W.eq (g2 := F0 m 4 ls []) rfl ?_
  refine lv_aload_n hx hb dX8_init_4 rfl (lv_at hl 0 rfl) ?_
  refine lv_bipush (v := 8) hx hb dX8_init_5 (by decide) ?_
  obtain ⟨g_1, hf⟩ := grd_some hf
  refine de_newa (atype := .int) (ty := .int) (t := 1) (N := 8) (a0 := (8, .inl (fun _ => 0))) hf hk hx hb (hts _ md_X8_init_4) rfl hK hP hD hS hA rfl rfl (fun _ => rfl) (by decide) (by decide) (Nat.le_of_ble_eq_true rfl) (Nat.le_of_ble_eq_true rfl) (Nat.le_of_ble_eq_true rfl) dX8_init_7 (fun a sh n z_2 k_3 H_4 hf hax hk hnn hP hD hS => ?_)
  refine W.eq (g2 := F0 m 9 ls [.ref (a k_3), .ref (a h0)]) (by rw [hax h0 (okN_at g_1)]) ?_
  replace hl : lv_has ls 1 [(0, .ref (a h0))] := by rw [hax h0 (okN_at g_1)]; exact hl
  replace hag := hag_new hag hax hnn
  clear hax hnn
  refine W.widen (k := 1) (n := 8) (Nat.le_of_ble_eq_true rfl) (Nat.le_of_ble_eq_true rfl) ?_
  obtain ⟨g_5, hf⟩ := grd_some hf
  obtain ⟨g_6, hf⟩ := grd_some hf
  obtain ⟨kg_6, sg_6⟩ := okO_at g_6
  refine va_putF (D := (dC, dI)) (ci := 8) (v := .ref (a k_3)) (ty := .array .int) (C := RX8) (T := TX8) (N := 19) hx hb hts iwd_X8_init_X8 tyX8 tyX8_ok nmX8 hown hK hP hD hS h0 (Wd_ob kg_6 sg_6 (by decide)) rfl 8 (by decide) (hts _ md_X8_init_5) (fun _ h9 => h9) rfl hin rfl (by decide +kernel) rfl rfl (by rw [fl_len]; decide) dX8_init_9 (fun H_7 locs hP2 hD2 hS2 => ?_)
  rw [Wd_sq1 sg_6 (by decide) rfl] at hP2 hD2
  obtain ⟨z_8, ez_8⟩ : ∃ w, w = sq z_2 h0 8 (some k_3) := ⟨_, rfl⟩
  rw [← ez_8] at hP2 hD2
  replace hf := lt_at ez_8 hf
  replace hk : lk z_8 n := by rw [ez_8]; exact lk_sq1 hk (okN_at g_5)
  clear ez_8
  replace hP := hP2
  replace hD := hD2
  replace hS := hS2
  clear hP2 hD2 hS2
  refine lv_aload_n hx hb dX8_init_12 rfl (lv_at hl 0 rfl) ?_
  refine lv_bipush (v := 8) hx hb dX8_init_13 (by decide) ?_
  obtain ⟨g_9, hf⟩ := grd_some hf
  refine de_newa (atype := .long) (ty := .long) (t := 2) (N := 8) (a0 := (8, .inr (.inl (fun _ => 0)))) hf hk hx hb (hts _ md_X8_init_6) rfl hK hP hD hS hA rfl rfl (fun _ => rfl) (by decide) (by decide) (Nat.le_of_ble_eq_true rfl) (Nat.le_of_ble_eq_true rfl) (Nat.le_of_ble_eq_true rfl) dX8_init_15 (fun a sh n z_10 k_11 H_12 hf hax hk hnn hP hD hS => ?_)
  refine W.eq (g2 := F0 m 17 ls [.ref (a k_11), .ref (a h0)]) (by rw [hax h0 (okN_at g_9)]) ?_
  replace hl : lv_has ls 1 [(0, .ref (a h0))] := by rw [hax h0 (okN_at g_9)]; exact hl
  replace hag := hag_new hag hax hnn
  clear hax hnn
  refine W.widen (k := 2) (n := 16) (Nat.le_of_ble_eq_true rfl) (Nat.le_of_ble_eq_true rfl) ?_
  obtain ⟨g_13, hf⟩ := grd_some hf
  obtain ⟨g_14, hf⟩ := grd_some hf
  obtain ⟨kg_14, sg_14⟩ := okO_at g_14
  refine va_putF (D := (dC, dI)) (ci := 8) (v := .ref (a k_11)) (ty := .array .long) (C := RX8) (T := TX8) (N := 19) hx hb hts iwd_X8_init_X8 tyX8 tyX8_ok nmX8 hown hK hP hD hS h0 (Wd_ob kg_14 sg_14 (by decide)) rfl 9 (by decide) (hts _ md_X8_init_7) (fun _ h9 => h9) rfl hin rfl (by decide +kernel) rfl rfl (by rw [fl_len]; decide) dX8_init_17 (fun H_15 locs hP2 hD2 hS2 => ?_)
  rw [Wd_sq1 sg_14 (by decide) rfl] at hP2 hD2
  obtain ⟨z_16, ez_16⟩ : ∃ w, w = sq z_10 h0 9 (some k_11) := ⟨_, rfl⟩
  rw [← ez_16] at hP2 hD2
  replace hf := lt_at ez_16 hf
  replace hk : lk z_16 n := by rw [ez_16]; exact lk_sq1 hk (okN_at g_13)
  clear ez_16
  replace hP := hP2
  replace hD := hD2
  replace hS := hS2
  clear hP2 hD2 hS2
  refine lv_aload_n hx hb dX8_init_20 rfl (lv_at hl 0 rfl) ?_
  refine lv_bipush (v := 8) hx hb dX8_init_21 (by decide) ?_
  obtain ⟨g_17, hf⟩ := grd_some hf
  refine de_newa (atype := .long) (ty := .long) (t := 2) (N := 8) (a0 := (8, .inr (.inl (fun _ => 0)))) hf hk hx hb (hts _ md_X8_init_6) rfl hK hP hD hS hA rfl rfl (fun _ => rfl) (by decide) (by decide) (Nat.le_of_ble_eq_true rfl) (Nat.le_of_ble_eq_true rfl) (Nat.le_of_ble_eq_true rfl) dX8_init_23 (fun a sh n z_18 k_19 H_20 hf hax hk hnn hP hD hS => ?_)
  refine W.eq (g2 := F0 m 25 ls [.ref (a k_19), .ref (a h0)]) (by rw [hax h0 (okN_at g_17)]) ?_
  replace hl : lv_has ls 1 [(0, .ref (a h0))] := by rw [hax h0 (okN_at g_17)]; exact hl
  replace hag := hag_new hag hax hnn
  clear hax hnn
  refine W.widen (k := 3) (n := 24) (Nat.le_of_ble_eq_true rfl) (Nat.le_of_ble_eq_true rfl) ?_
  obtain ⟨g_21, hf⟩ := grd_some hf
  obtain ⟨g_22, hf⟩ := grd_some hf
  obtain ⟨kg_22, sg_22⟩ := okO_at g_22
  refine va_putF (D := (dC, dI)) (ci := 8) (v := .ref (a k_19)) (ty := .array .long) (C := RX8) (T := TX8) (N := 19) hx hb hts iwd_X8_init_X8 tyX8 tyX8_ok nmX8 hown hK hP hD hS h0 (Wd_ob kg_22 sg_22 (by decide)) rfl 10 (by decide) (hts _ md_X8_init_8) (fun _ h9 => h9) rfl hin rfl (by decide +kernel) rfl rfl (by rw [fl_len]; decide) dX8_init_25 (fun H_23 locs hP2 hD2 hS2 => ?_)
  rw [Wd_sq1 sg_22 (by decide) rfl] at hP2 hD2
  obtain ⟨z_24, ez_24⟩ : ∃ w, w = sq z_18 h0 10 (some k_19) := ⟨_, rfl⟩
  rw [← ez_24] at hP2 hD2
  replace hf := lt_at ez_24 hf
  replace hk : lk z_24 n := by rw [ez_24]; exact lk_sq1 hk (okN_at g_21)
  clear ez_24
  replace hP := hP2
  replace hD := hD2
  replace hS := hS2
  clear hP2 hD2 hS2
  refine lv_aload_n hx hb dX8_init_28 rfl (lv_at hl 0 rfl) ?_
  refine lv_bipush (v := 8) hx hb dX8_init_29 (by decide) ?_
  obtain ⟨g_25, hf⟩ := grd_some hf
  refine de_newa (atype := .int) (ty := .int) (t := 1) (N := 8) (a0 := (8, .inl (fun _ => 0))) hf hk hx hb (hts _ md_X8_init_4) rfl hK hP hD hS hA rfl rfl (fun _ => rfl) (by decide) (by decide) (Nat.le_of_ble_eq_true rfl) (Nat.le_of_ble_eq_true rfl) (Nat.le_of_ble_eq_true rfl) dX8_init_31 (fun a sh n z_26 k_27 H_28 hf hax hk hnn hP hD hS => ?_)
  refine W.eq (g2 := F0 m 33 ls [.ref (a k_27), .ref (a h0)]) (by rw [hax h0 (okN_at g_25)]) ?_
  replace hl : lv_has ls 1 [(0, .ref (a h0))] := by rw [hax h0 (okN_at g_25)]; exact hl
  replace hag := hag_new hag hax hnn
  clear hax hnn
  refine W.widen (k := 4) (n := 32) (Nat.le_of_ble_eq_true rfl) (Nat.le_of_ble_eq_true rfl) ?_
  obtain ⟨g_29, hf⟩ := grd_some hf
  obtain ⟨g_30, hf⟩ := grd_some hf
  obtain ⟨kg_30, sg_30⟩ := okO_at g_30
  refine va_putF (D := (dC, dI)) (ci := 8) (v := .ref (a k_27)) (ty := .array .int) (C := RX8) (T := TX8) (N := 19) hx hb hts iwd_X8_init_X8 tyX8 tyX8_ok nmX8 hown hK hP hD hS h0 (Wd_ob kg_30 sg_30 (by decide)) rfl 16 (by decide) (hts _ md_X8_init_9) (fun _ h9 => h9) rfl hin rfl (by decide +kernel) rfl rfl (by rw [fl_len]; decide) dX8_init_33 (fun H_31 locs hP2 hD2 hS2 => ?_)
  rw [Wd_sq1 sg_30 (by decide) rfl] at hP2 hD2
  obtain ⟨z_32, ez_32⟩ : ∃ w, w = sq z_26 h0 16 (some k_27) := ⟨_, rfl⟩
  rw [← ez_32] at hP2 hD2
  replace hf := lt_at ez_32 hf
  replace hk : lk z_32 n := by rw [ez_32]; exact lk_sq1 hk (okN_at g_29)
  clear ez_32
  replace hP := hP2
  replace hD := hD2
  replace hS := hS2
  clear hP2 hD2 hS2
  refine lv_aload_n hx hb dX8_init_36 rfl (lv_at hl 0 rfl) ?_
  refine lv_bipush (v := 8) hx hb dX8_init_37 (by decide) ?_
  obtain ⟨g_33, hf⟩ := grd_some hf
  refine de_newa (atype := .long) (ty := .long) (t := 2) (N := 8) (a0 := (8, .inr (.inl (fun _ => 0)))) hf hk hx hb (hts _ md_X8_init_6) rfl hK hP hD hS hA rfl rfl (fun _ => rfl) (by decide) (by decide) (Nat.le_of_ble_eq_true rfl) (Nat.le_of_ble_eq_true rfl) (Nat.le_of_ble_eq_true rfl) dX8_init_39 (fun a sh n z_34 k_35 H_36 hf hax hk hnn hP hD hS => ?_)
  refine W.eq (g2 := F0 m 41 ls [.ref (a k_35), .ref (a h0)]) (by rw [hax h0 (okN_at g_33)]) ?_
  replace hl : lv_has ls 1 [(0, .ref (a h0))] := by rw [hax h0 (okN_at g_33)]; exact hl
  replace hag := hag_new hag hax hnn
  clear hax hnn
  refine W.widen (k := 5) (n := 40) (Nat.le_of_ble_eq_true rfl) (Nat.le_of_ble_eq_true rfl) ?_
  obtain ⟨g_37, hf⟩ := grd_some hf
  obtain ⟨g_38, hf⟩ := grd_some hf
  obtain ⟨kg_38, sg_38⟩ := okO_at g_38
  refine va_putF (D := (dC, dI)) (ci := 8) (v := .ref (a k_35)) (ty := .array .long) (C := RX8) (T := TX8) (N := 19) hx hb hts iwd_X8_init_X8 tyX8 tyX8_ok nmX8 hown hK hP hD hS h0 (Wd_ob kg_38 sg_38 (by decide)) rfl 17 (by decide) (hts _ md_X8_init_10) (fun _ h9 => h9) rfl hin rfl (by decide +kernel) rfl rfl (by rw [fl_len]; decide) dX8_init_41 (fun H_39 locs hP2 hD2 hS2 => ?_)
  rw [Wd_sq1 sg_38 (by decide) rfl] at hP2 hD2
  obtain ⟨z_40, ez_40⟩ : ∃ w, w = sq z_34 h0 17 (some k_35) := ⟨_, rfl⟩
  rw [← ez_40] at hP2 hD2
  replace hf := lt_at ez_40 hf
  replace hk : lk z_40 n := by rw [ez_40]; exact lk_sq1 hk (okN_at g_37)
  clear ez_40
  replace hP := hP2
  replace hD := hD2
  replace hS := hS2
  clear hP2 hD2 hS2
  refine lv_aload_n hx hb dX8_init_44 rfl (lv_at hl 0 rfl) ?_
  refine lv_bipush (v := 8) hx hb dX8_init_45 (by decide) ?_
  obtain ⟨g_41, hf⟩ := grd_some hf
  refine de_newa (atype := .long) (ty := .long) (t := 2) (N := 8) (a0 := (8, .inr (.inl (fun _ => 0)))) hf hk hx hb (hts _ md_X8_init_6) rfl hK hP hD hS hA rfl rfl (fun _ => rfl) (by decide) (by decide) (Nat.le_of_ble_eq_true rfl) (Nat.le_of_ble_eq_true rfl) (Nat.le_of_ble_eq_true rfl) dX8_init_47 (fun a sh n z_42 k_43 H_44 hf hax hk hnn hP hD hS => ?_)
  refine W.eq (g2 := F0 m 49 ls [.ref (a k_43), .ref (a h0)]) (by rw [hax h0 (okN_at g_41)]) ?_
  replace hl : lv_has ls 1 [(0, .ref (a h0))] := by rw [hax h0 (okN_at g_41)]; exact hl
  replace hag := hag_new hag hax hnn
  clear hax hnn
  refine W.widen (k := 6) (n := 48) (Nat.le_of_ble_eq_true rfl) (Nat.le_of_ble_eq_true rfl) ?_
  obtain ⟨g_45, hf⟩ := grd_some hf
  obtain ⟨g_46, hf⟩ := grd_some hf
  obtain ⟨kg_46, sg_46⟩ := okO_at g_46
  refine va_putF (D := (dC, dI)) (ci := 8) (v := .ref (a k_43)) (ty := .array .long) (C := RX8) (T := TX8) (N := 19) hx hb hts iwd_X8_init_X8 tyX8 tyX8_ok nmX8 hown hK hP hD hS h0 (Wd_ob kg_46 sg_46 (by decide)) rfl 18 (by decide) (hts _ md_X8_init_11) (fun _ h9 => h9) rfl hin rfl (by decide +kernel) rfl rfl (by rw [fl_len]; decide) dX8_init_49 (fun H_47 locs hP2 hD2 hS2 => ?_)
  rw [Wd_sq1 sg_46 (by decide) rfl] at hP2 hD2
  obtain ⟨z_48, ez_48⟩ : ∃ w, w = sq z_42 h0 18 (some k_43) := ⟨_, rfl⟩
  rw [← ez_48] at hP2 hD2
  replace hf := lt_at ez_48 hf
  replace hk : lk z_48 n := by rw [ez_48]; exact lk_sq1 hk (okN_at g_45)
  clear ez_48
  replace hP := hP2
  replace hD := hD2
  replace hS := hS2
  clear hP2 hD2 hS2
  obtain ⟨h5, h6, h8, h9⟩ := rta_some hf
  rw [h5, h6, h8]
  exact W.vret hx hb hr (fun t ht hW => ⟨⟨a, rfl, ⟨hag, hk⟩, by rw [ht]; exact hP, va_K.moved hW.alike hK, hD⟩, hS.F ht⟩) hS.2.2 dX8_init_52

theorem md_X10_init_1 : (.methodLink RX10 3 objectInit : Cond) ∈ wsX10_init := List.mem_of_getElem? (i := 1) rfl
theorem md_X10_init_2 : (.instanceMethod objectInit : Cond) ∈ wsX10_init := List.mem_of_getElem? (i := 2) rfl
theorem md_X10_init_3 : (.code objectInit ⟨#[0xb1]⟩ 1 none : Cond) ∈ wsX10_init := List.mem_of_getElem? (i := 3) rfl
set_option maxHeartbeats 4000000 in
set_option maxRecDepth 100000 in
theorem da_X10_init (l : Launch) (dC : Nat → ClassId) (dI : Nat → Nat → Nat) (cy : Nat → ClassId) (a0 : Nat → Nat) (sh0 : Nat → Nat × Nat) (n0 sz : Nat) (F : Nat) (z0 : St) (h0 : Nat) (hk0 : lk z0 n0) {sh8 : Nat → Nat × Nat} {n8 : Nat} {z8 : St} {r8 : Unit} (hf : fa_X10_init F sh0 n0 z0 h0 = some (sh8, n8, z8, r8)) : Met l yX10_init wsX10_init ({ frames := 1, cells := 0, slots := 0, locals := 12 }) (va_Pc [.ref (a0 h0)] (fun U => U.heap.size = sz ∧ va_P (dC, dI) vwCl (Wd cy a0 sh0 n0 z0) U.heap ∧ va_K (dC, dI) vwCl (TYS cy) U ∧ va_D (fun _ => True) (Wd cy a0 sh0 n0 z0) ∧ NK U)) (va_Qv (fun u : Nat → Nat => ((∀ k, k < n0 ∨ k = CBK → u k = a0 k) ∧ n0 ≤ n8) ∧ lk z8 n8) (fun u t => va_P (dC, dI) vwCl (Wd cy u sh8 n8 z8) t.heap ∧ va_K (dC, dI) vwCl (TYS cy) t ∧ va_D (va_A (Wd cy a0 sh0 n0 z0) sz) (Wd cy u sh8 n8 z8)) (va_A (Wd cy a0 sh0 n0 z0) sz)) 0 0 (va_A (Wd cy a0 sh0 n0 z0) sz) := by
  refine Met.ofW (cc := cX10_init) (maxL := 1) (ret := none) (by decide) rfl ?_
  intro p e s m args below meth c s₁ B hml hv
  obtain ⟨rfl, hsz, hP, hK, hD0, hN⟩ := hv
  have hx := B.exec
  have hb := B.bytes
  have hr := B.returns
  have hts := atoms_spec (ws := wsX10_init) B.pre
  have hown : s.vm.findClass RX10 = some m.cls := findClass_of_methodNamed B.named
  have hlocks := B.notSynchronized
  have hin : meth.name = "<init>" := (name_of_methodNamed B.named B.method).1
  subst hsz
  have hD := hD0.self (sz := s.heap.size)
  clear hD0
  generalize hAe : va_A (Wd cy a0 sh0 n0 z0) s.heap.size = A at hD ⊢
  have hA : ∀ q : Nat, s.heap.size ≤ q → A q := fun q h => by rw [← hAe]; exact Or.inr h
  clear hAe
  have hS : va_S A s.heap s.heap [] := va_S.rf
  have hl := lv_entry ([.ref (a0 h0)]) (n := 1) (Nat.le_of_ble_eq_true rfl)
  rw [lg_entry_eq]
  generalize (lg_sl ([.ref (a0 h0)]) ++ List.replicate (1 - (lg_sl ([.ref (a0 h0)])).length) Slot.unset).toArray = ls at hl ⊢
  replace hl : lv_has ls 1 [(0, .ref (a0 h0))] := hl
  unfold fa_X10_init at hf
  refine da_start (fn := fun sh n z => fa_X10_init F sh n z h0) (av := fun a => [(0, .ref (a h0))]) (sk := fun q => True) hf hk0 hS hD hP hl trivial (fun a sh n z H locs hf hag hk hS hD hP hl hSK => ?_)
  unfold fa_X10_init at hf
  try dsimp only at hf hl hSK
  refine lv_aload_n hx hb dX10_init_0 rfl (lv_at hl 0 rfl) ?_
  refine W.objInit hx hb hown (hts _ md_X10_init_1) (hts _ md_X10_init_2) (hts _ md_X10_init_3) rfl (by rw [hml]; exact hl.1) rfl dX10_init_1 (Nat.le_of_ble_eq_true rfl) (Nat.le_of_ble_eq_true rfl) ?_
  refine W.eq (g2 := F0 m 4 ls []) rfl ?_
  obtain ⟨h5, h6, h8, h9⟩ := rta_some hf
  rw [h5, h6, h8]
  exact W.vret hx hb hr (fun t ht hW => ⟨⟨a, rfl, ⟨hag, hk⟩, by rw [ht]; exact hP, va_K.moved hW.alike hK, hD⟩, hS.F ht⟩) hS.2.2 dX10_init_4

theorem md_X12_init_1 : (.methodLink RX12 1 objectInit : Cond) ∈ wsX12_init := List.mem_of_getElem? (i := 1) rfl
theorem md_X12_init_2 : (.instanceMethod objectInit : Cond) ∈ wsX12_init := List.mem_of_getElem? (i := 2) rfl
theorem md_X12_init_3 : (.code objectInit ⟨#[0xb1]⟩ 1 none : Cond) ∈ wsX12_init := List.mem_of_getElem? (i := 3) rfl
theorem md_X12_init_4 : (.arrayClass .byte : Cond) ∈ wsX12_init := List.mem_of_getElem? (i := 4) rfl
theorem md_X12_init_5 : (.fieldLink RX12 7 "ResourceLedgerModel$Digester" "message" "[B" : Cond) ∈ wsX12_init := List.mem_of_getElem? (i := 5) rfl
theorem iwd_X12_init_X12 : ∀ w ∈ wsX120, w ∈ wsX12_init := fun _ h => List.mem_cons_of_mem _ (List.mem_append_right _ h)
theorem md_X12_init_6 : (.arrayClass .long : Cond) ∈ wsX12_init := List.mem_of_getElem? (i := 6) rfl
theorem md_X12_init_7 : (.fieldLink RX12 13 "ResourceLedgerModel$Digester" "words" "[J" : Cond) ∈ wsX12_init := List.mem_of_getElem? (i := 7) rfl
theorem md_X12_init_8 : (.fieldLink RX12 17 "ResourceLedgerModel$Digester" "schedule" "[J" : Cond) ∈ wsX12_init := List.mem_of_getElem? (i := 8) rfl
set_option maxHeartbeats 4000000 in
set_option maxRecDepth 100000 in
theorem da_X12_init (l : Launch) (dC : Nat → ClassId) (dI : Nat → Nat → Nat) (cy : Nat → ClassId) (a0 : Nat → Nat) (sh0 : Nat → Nat × Nat) (n0 sz : Nat) (F : Nat) (z0 : St) (h0 : Nat) (hk0 : lk z0 n0) {sh8 : Nat → Nat × Nat} {n8 : Nat} {z8 : St} {r8 : Unit} (hf : fa_X12_init F sh0 n0 z0 h0 = some (sh8, n8, z8, r8)) : Met l yX12_init wsX12_init ({ frames := 1, cells := 3, slots := 4168, locals := 12 }) (va_Pc [.ref (a0 h0)] (fun U => U.heap.size = sz ∧ va_P (dC, dI) vwCl (Wd cy a0 sh0 n0 z0) U.heap ∧ va_K (dC, dI) vwCl (TYS cy) U ∧ va_D (fun _ => True) (Wd cy a0 sh0 n0 z0) ∧ NK U)) (va_Qv (fun u : Nat → Nat => ((∀ k, k < n0 ∨ k = CBK → u k = a0 k) ∧ n0 ≤ n8) ∧ lk z8 n8) (fun u t => va_P (dC, dI) vwCl (Wd cy u sh8 n8 z8) t.heap ∧ va_K (dC, dI) vwCl (TYS cy) t ∧ va_D (va_A (Wd cy a0 sh0 n0 z0) sz) (Wd cy u sh8 n8 z8)) (va_A (Wd cy a0 sh0 n0 z0) sz)) 3 4168 (va_A (Wd cy a0 sh0 n0 z0) sz) := by
  refine Met.ofW (cc := cX12_init) (maxL := 1) (ret := none) (by decide) rfl ?_
  intro p e s m args below meth c s₁ B hml hv
  obtain ⟨rfl, hsz, hP, hK, hD0, hN⟩ := hv
  have hx := B.exec
  have hb := B.bytes
  have hr := B.returns
  have hts := atoms_spec (ws := wsX12_init) B.pre
  have hown : s.vm.findClass RX12 = some m.cls := findClass_of_methodNamed B.named
  have hlocks := B.notSynchronized
  have hin : meth.name = "<init>" := (name_of_methodNamed B.named B.method).1
  subst hsz
  have hD := hD0.self (sz := s.heap.size)
  clear hD0
  generalize hAe : va_A (Wd cy a0 sh0 n0 z0) s.heap.size = A at hD ⊢
  have hA : ∀ q : Nat, s.heap.size ≤ q → A q := fun q h => by rw [← hAe]; exact Or.inr h
  clear hAe
  have hS : va_S A s.heap s.heap [] := va_S.rf
  have hl := lv_entry ([.ref (a0 h0)]) (n := 1) (Nat.le_of_ble_eq_true rfl)
  rw [lg_entry_eq]
  generalize (lg_sl ([.ref (a0 h0)]) ++ List.replicate (1 - (lg_sl ([.ref (a0 h0)])).length) Slot.unset).toArray = ls at hl ⊢
  replace hl : lv_has ls 1 [(0, .ref (a0 h0))] := hl
  unfold fa_X12_init at hf
  refine da_start (fn := fun sh n z => fa_X12_init F sh n z h0) (av := fun a => [(0, .ref (a h0))]) (sk := fun q => True) hf hk0 hS hD hP hl trivial (fun a sh n z H locs hf hag hk hS hD hP hl hSK => ?_)
  unfold fa_X12_init at hf
  try dsimp only at hf hl hSK
  refine lv_aload_n hx hb dX12_init_0 rfl (lv_at hl 0 rfl) ?_
  refine W.objInit hx hb hown (hts _ md_X12_init_1) (hts _ md_X12_init_2) (hts _ md_X12_init_3) rfl (by rw [hml]; exact hl.1) rfl dX12_init_1 (Nat.le_of_ble_eq_true rfl) (Nat.le_of_ble_eq_true rfl) ?_
  refine W.eq (g2 := F0 m 4 ls []) rfl ?_
  refine lv_aload_n hx hb dX12_init_4 rfl (lv_at hl 0 rfl) ?_
  refine lv_sipush (v := 4096) hx hb dX12_init_5 (by decide) ?_
  obtain ⟨g_1, hf⟩ := grd_some hf
  refine de_newa (atype := .byte) (ty := .byte) (t := 0) (N := 4096) (a0 := (4096, .inl (fun _ => 0))) hf hk hx hb (hts _ md_X12_init_4) rfl hK hP hD hS hA rfl rfl (fun _ => rfl) (by decide) (by decide) (Nat.le_of_ble_eq_true rfl) (Nat.le_of_ble_eq_true rfl) (Nat.le_of_ble_eq_true rfl) dX12_init_8 (fun a sh n z_2 k_3 H_4 hf hax hk hnn hP hD hS => ?_)
  refine W.eq (g2 := F0 m 10 ls [.ref (a k_3), .ref (a h0)]) (by rw [hax h0 (okN_at g_1)]) ?_
  replace hl : lv_has ls 1 [(0, .ref (a h0))] := by rw [hax h0 (okN_at g_1)]; exact hl
  replace hag := hag_new hag hax hnn
  clear hax hnn
  refine W.widen (k := 1) (n := 4096) (Nat.le_of_ble_eq_true rfl) (Nat.le_of_ble_eq_true rfl) ?_
  obtain ⟨g_5, hf⟩ := grd_some hf
  obtain ⟨g_6, hf⟩ := grd_some hf
  obtain ⟨kg_6, sg_6⟩ := okO_at g_6
  refine va_putF (D := (dC, dI)) (ci := 12) (v := .ref (a k_3)) (ty := .array .byte) (C := RX12) (T := TX12) (N := 4) hx hb hts iwd_X12_init_X12 tyX12 tyX12_ok nmX12 hown hK hP hD hS h0 (Wd_ob kg_6 sg_6 (by decide)) rfl 0 (by decide) (hts _ md_X12_init_5) (fun _ h9 => h9) rfl hin rfl (by decide +kernel) rfl rfl (by rw [fl_len]; decide) dX12_init_10 (fun H_7 locs hP2 hD2 hS2 => ?_)
  rw [Wd_sq1 sg_6 (by decide) rfl] at hP2 hD2
  obtain ⟨z_8, ez_8⟩ : ∃ w, w = sq z_2 h0 0 (some k_3) := ⟨_, rfl⟩
  rw [← ez_8] at hP2 hD2
  replace hf := lt_at ez_8 hf
  replace hk : lk z_8 n := by rw [ez_8]; exact lk_sq1 hk (okN_at g_5)
  clear ez_8
  replace hP := hP2
  replace hD := hD2
  replace hS := hS2
  clear hP2 hD2 hS2
  refine lv_aload_n hx hb dX12_init_13 rfl (lv_at hl 0 rfl) ?_
  refine lv_bipush (v := 8) hx hb dX12_init_14 (by decide) ?_
  obtain ⟨g_9, hf⟩ := grd_some hf
  refine de_newa (atype := .long) (ty := .long) (t := 2) (N := 8) (a0 := (8, .inr (.inl (fun _ => 0)))) hf hk hx hb (hts _ md_X12_init_6) rfl hK hP hD hS hA rfl rfl (fun _ => rfl) (by decide) (by decide) (Nat.le_of_ble_eq_true rfl) (Nat.le_of_ble_eq_true rfl) (Nat.le_of_ble_eq_true rfl) dX12_init_16 (fun a sh n z_10 k_11 H_12 hf hax hk hnn hP hD hS => ?_)
  refine W.eq (g2 := F0 m 18 ls [.ref (a k_11), .ref (a h0)]) (by rw [hax h0 (okN_at g_9)]) ?_
  replace hl : lv_has ls 1 [(0, .ref (a h0))] := by rw [hax h0 (okN_at g_9)]; exact hl
  replace hag := hag_new hag hax hnn
  clear hax hnn
  refine W.widen (k := 2) (n := 4104) (Nat.le_of_ble_eq_true rfl) (Nat.le_of_ble_eq_true rfl) ?_
  obtain ⟨g_13, hf⟩ := grd_some hf
  obtain ⟨g_14, hf⟩ := grd_some hf
  obtain ⟨kg_14, sg_14⟩ := okO_at g_14
  refine va_putF (D := (dC, dI)) (ci := 12) (v := .ref (a k_11)) (ty := .array .long) (C := RX12) (T := TX12) (N := 4) hx hb hts iwd_X12_init_X12 tyX12 tyX12_ok nmX12 hown hK hP hD hS h0 (Wd_ob kg_14 sg_14 (by decide)) rfl 2 (by decide) (hts _ md_X12_init_7) (fun _ h9 => h9) rfl hin rfl (by decide +kernel) rfl rfl (by rw [fl_len]; decide) dX12_init_18 (fun H_15 locs hP2 hD2 hS2 => ?_)
  rw [Wd_sq1 sg_14 (by decide) rfl] at hP2 hD2
  obtain ⟨z_16, ez_16⟩ : ∃ w, w = sq z_10 h0 2 (some k_11) := ⟨_, rfl⟩
  rw [← ez_16] at hP2 hD2
  replace hf := lt_at ez_16 hf
  replace hk : lk z_16 n := by rw [ez_16]; exact lk_sq1 hk (okN_at g_13)
  clear ez_16
  replace hP := hP2
  replace hD := hD2
  replace hS := hS2
  clear hP2 hD2 hS2
  refine lv_aload_n hx hb dX12_init_21 rfl (lv_at hl 0 rfl) ?_
  refine lv_bipush (v := 64) hx hb dX12_init_22 (by decide) ?_
  obtain ⟨g_17, hf⟩ := grd_some hf
  refine de_newa (atype := .long) (ty := .long) (t := 2) (N := 64) (a0 := (64, .inr (.inl (fun _ => 0)))) hf hk hx hb (hts _ md_X12_init_6) rfl hK hP hD hS hA rfl rfl (fun _ => rfl) (by decide) (by decide) (Nat.le_of_ble_eq_true rfl) (Nat.le_of_ble_eq_true rfl) (Nat.le_of_ble_eq_true rfl) dX12_init_24 (fun a sh n z_18 k_19 H_20 hf hax hk hnn hP hD hS => ?_)
  refine W.eq (g2 := F0 m 26 ls [.ref (a k_19), .ref (a h0)]) (by rw [hax h0 (okN_at g_17)]) ?_
  replace hl : lv_has ls 1 [(0, .ref (a h0))] := by rw [hax h0 (okN_at g_17)]; exact hl
  replace hag := hag_new hag hax hnn
  clear hax hnn
  refine W.widen (k := 3) (n := 4168) (Nat.le_of_ble_eq_true rfl) (Nat.le_of_ble_eq_true rfl) ?_
  obtain ⟨g_21, hf⟩ := grd_some hf
  obtain ⟨g_22, hf⟩ := grd_some hf
  obtain ⟨kg_22, sg_22⟩ := okO_at g_22
  refine va_putF (D := (dC, dI)) (ci := 12) (v := .ref (a k_19)) (ty := .array .long) (C := RX12) (T := TX12) (N := 4) hx hb hts iwd_X12_init_X12 tyX12 tyX12_ok nmX12 hown hK hP hD hS h0 (Wd_ob kg_22 sg_22 (by decide)) rfl 3 (by decide) (hts _ md_X12_init_8) (fun _ h9 => h9) rfl hin rfl (by decide +kernel) rfl rfl (by rw [fl_len]; decide) dX12_init_26 (fun H_23 locs hP2 hD2 hS2 => ?_)
  rw [Wd_sq1 sg_22 (by decide) rfl] at hP2 hD2
  obtain ⟨z_24, ez_24⟩ : ∃ w, w = sq z_18 h0 3 (some k_19) := ⟨_, rfl⟩
  rw [← ez_24] at hP2 hD2
  replace hf := lt_at ez_24 hf
  replace hk : lk z_24 n := by rw [ez_24]; exact lk_sq1 hk (okN_at g_21)
  clear ez_24
  replace hP := hP2
  replace hD := hD2
  replace hS := hS2
  clear hP2 hD2 hS2
  obtain ⟨h5, h6, h8, h9⟩ := rta_some hf
  rw [h5, h6, h8]
  exact W.vret hx hb hr (fun t ht hW => ⟨⟨a, rfl, ⟨hag, hk⟩, by rw [ht]; exact hP, va_K.moved hW.alike hK, hD⟩, hS.F ht⟩) hS.2.2 dX12_init_29

theorem md_X13_init_1 : (.methodLink RX13 1 objectInit : Cond) ∈ wsX13_init := List.mem_of_getElem? (i := 1) rfl
theorem md_X13_init_2 : (.instanceMethod objectInit : Cond) ∈ wsX13_init := List.mem_of_getElem? (i := 2) rfl
theorem md_X13_init_3 : (.code objectInit ⟨#[0xb1]⟩ 1 none : Cond) ∈ wsX13_init := List.mem_of_getElem? (i := 3) rfl
theorem md_X13_init_4 : (.arrayClass .long : Cond) ∈ wsX13_init := List.mem_of_getElem? (i := 4) rfl
theorem md_X13_init_5 : (.fieldLink RX13 7 "ResourceLedgerModel$Looker" "localTypes" "[J" : Cond) ∈ wsX13_init := List.mem_of_getElem? (i := 5) rfl
theorem iwd_X13_init_X13 : ∀ w ∈ wsX130, w ∈ wsX13_init := fun _ h => List.mem_cons_of_mem _ (List.mem_append_right _ h)
theorem md_X13_init_6 : (.arrayClass .boolean : Cond) ∈ wsX13_init := List.mem_of_getElem? (i := 6) rfl
theorem md_X13_init_7 : (.fieldLink RX13 13 "ResourceLedgerModel$Looker" "came" "[Z" : Cond) ∈ wsX13_init := List.mem_of_getElem? (i := 7) rfl
theorem md_X13_init_8 : (.fieldLink RX13 17 "ResourceLedgerModel$Looker" "led" "[Z" : Cond) ∈ wsX13_init := List.mem_of_getElem? (i := 8) rfl
theorem md_X13_init_9 : (.constant RX13 20 (41000) : Cond) ∈ wsX13_init := List.mem_of_getElem? (i := 9) rfl
theorem md_X13_init_10 : (.fieldLink RX13 21 "ResourceLedgerModel$Looker" "thereAt" "[Z" : Cond) ∈ wsX13_init := List.mem_of_getElem? (i := 10) rfl
theorem md_X13_init_11 : (.fieldLink RX13 24 "ResourceLedgerModel$Looker" "originsAt" "[J" : Cond) ∈ wsX13_init := List.mem_of_getElem? (i := 11) rfl
theorem md_X13_init_12 : (.fieldLink RX13 27 "ResourceLedgerModel$Looker" "insideAt" "[Z" : Cond) ∈ wsX13_init := List.mem_of_getElem? (i := 12) rfl
theorem md_X13_init_13 : (.fieldLink RX13 30 "ResourceLedgerModel$Looker" "types" "[J" : Cond) ∈ wsX13_init := List.mem_of_getElem? (i := 13) rfl
theorem md_X13_init_14 : (.fieldLink RX13 33 "ResourceLedgerModel$Looker" "origins" "[J" : Cond) ∈ wsX13_init := List.mem_of_getElem? (i := 14) rfl
theorem md_X13_init_15 : (.fieldLink RX13 36 "ResourceLedgerModel$Looker" "insides" "[Z" : Cond) ∈ wsX13_init := List.mem_of_getElem? (i := 15) rfl
theorem md_X13_init_16 : (.fieldLink RX13 39 "ResourceLedgerModel$Looker" "there" "[Z" : Cond) ∈ wsX13_init := List.mem_of_getElem? (i := 16) rfl
theorem md_X13_init_17 : (.fieldLink RX13 42 "ResourceLedgerModel$Looker" "points" "[J" : Cond) ∈ wsX13_init := List.mem_of_getElem? (i := 17) rfl
theorem md_X13_init_18 : (.fieldLink RX13 45 "ResourceLedgerModel$Looker" "within" "[Z" : Cond) ∈ wsX13_init := List.mem_of_getElem? (i := 18) rfl
set_option maxHeartbeats 4000000 in
set_option maxRecDepth 100000 in
theorem da_X13_init (l : Launch) (dC : Nat → ClassId) (dI : Nat → Nat → Nat) (cy : Nat → ClassId) (a0 : Nat → Nat) (sh0 : Nat → Nat × Nat) (n0 sz : Nat) (F : Nat) (z0 : St) (h0 : Nat) (hk0 : lk z0 n0) {sh8 : Nat → Nat × Nat} {n8 : Nat} {z8 : St} {r8 : Unit} (hf : fa_X13_init F sh0 n0 z0 h0 = some (sh8, n8, z8, r8)) : Met l yX13_init wsX13_init ({ frames := 1, cells := 12, slots := 125810, locals := 12 }) (va_Pc [.ref (a0 h0)] (fun U => U.heap.size = sz ∧ va_P (dC, dI) vwCl (Wd cy a0 sh0 n0 z0) U.heap ∧ va_K (dC, dI) vwCl (TYS cy) U ∧ va_D (fun _ => True) (Wd cy a0 sh0 n0 z0) ∧ NK U)) (va_Qv (fun u : Nat → Nat => ((∀ k, k < n0 ∨ k = CBK → u k = a0 k) ∧ n0 ≤ n8) ∧ lk z8 n8) (fun u t => va_P (dC, dI) vwCl (Wd cy u sh8 n8 z8) t.heap ∧ va_K (dC, dI) vwCl (TYS cy) t ∧ va_D (va_A (Wd cy a0 sh0 n0 z0) sz) (Wd cy u sh8 n8 z8)) (va_A (Wd cy a0 sh0 n0 z0) sz)) 12 125810 (va_A (Wd cy a0 sh0 n0 z0) sz) := by
  refine Met.ofW (cc := cX13_init) (maxL := 1) (ret := none) (by decide) rfl ?_
  intro p e s m args below meth c s₁ B hml hv
  obtain ⟨rfl, hsz, hP, hK, hD0, hN⟩ := hv
  have hx := B.exec
  have hb := B.bytes
  have hr := B.returns
  have hts := atoms_spec (ws := wsX13_init) B.pre
  have hown : s.vm.findClass RX13 = some m.cls := findClass_of_methodNamed B.named
  have hlocks := B.notSynchronized
  have hin : meth.name = "<init>" := (name_of_methodNamed B.named B.method).1
  subst hsz
  have hD := hD0.self (sz := s.heap.size)
  clear hD0
  generalize hAe : va_A (Wd cy a0 sh0 n0 z0) s.heap.size = A at hD ⊢
  have hA : ∀ q : Nat, s.heap.size ≤ q → A q := fun q h => by rw [← hAe]; exact Or.inr h
  clear hAe
  have hS : va_S A s.heap s.heap [] := va_S.rf
  have hl := lv_entry ([.ref (a0 h0)]) (n := 1) (Nat.le_of_ble_eq_true rfl)
  rw [lg_entry_eq]
  generalize (lg_sl ([.ref (a0 h0)]) ++ List.replicate (1 - (lg_sl ([.ref (a0 h0)])).length) Slot.unset).toArray = ls at hl ⊢
  replace hl : lv_has ls 1 [(0, .ref (a0 h0))] := hl
  unfold fa_X13_init at hf
  refine da_start (fn := fun sh n z => fa_X13_init F sh n z h0) (av := fun a => [(0, .ref (a h0))]) (sk := fun q => True) hf hk0 hS hD hP hl trivial (fun a sh n z H locs hf hag hk hS hD hP hl hSK => ?_)
  unfold fa_X13_init at hf
  try dsimp only at hf hl hSK
  refine lv_aload_n hx hb dX13_init_0 rfl (lv_at hl 0 rfl) ?_
  refine W.objInit hx hb hown (hts _ md_X13_init_1) (hts _ md_X13_init_2) (hts _ md_X13_init_3) rfl (by rw [hml]; exact hl.1) rfl dX13_init_1 (Nat.le_of_ble_eq_true rfl) (Nat.le_of_ble_eq_true rfl) ?_
  refine W.eq (g2 := F0 m 4 ls []) rfl ?_
  refine lv_aload_n hx hb dX13_init_4 rfl (lv_at hl 0 rfl) ?_
  refine lv_bipush (v := 40) hx hb dX13_init_5 (by decide) ?_
  obtain ⟨g_1, hf⟩ := grd_some hf
  refine de_newa (atype := .long) (ty := .long) (t := 2) (N := 40) (a0 := (40, .inr (.inl (fun _ => 0)))) hf hk hx hb (hts _ md_X13_init_4) rfl hK hP hD hS hA rfl rfl (fun _ => rfl) (by decide) (by decide) (Nat.le_of_ble_eq_true rfl) (Nat.le_of_ble_eq_true rfl) (Nat.le_of_ble_eq_true rfl) dX13_init_7 (fun a sh n z_2 k_3 H_4 hf hax hk hnn hP hD hS => ?_)
  refine W.eq (g2 := F0 m 9 ls [.ref (a k_3), .ref (a h0)]) (by rw [hax h0 (okN_at g_1)]) ?_
  replace hl : lv_has ls 1 [(0, .ref (a h0))] := by rw [hax h0 (okN_at g_1)]; exact hl
  replace hag := hag_new hag hax hnn
  clear hax hnn
  refine W.widen (k := 1) (n := 40) (Nat.le_of_ble_eq_true rfl) (Nat.le_of_ble_eq_true rfl) ?_
  obtain ⟨g_5, hf⟩ := grd_some hf
  obtain ⟨g_6, hf⟩ := grd_some hf
  obtain ⟨kg_6, sg_6⟩ := okO_at g_6
  refine va_putF (D := (dC, dI)) (ci := 13) (v := .ref (a k_3)) (ty := .array .long) (C := RX13) (T := TX13) (N := 22) hx hb hts iwd_X13_init_X13 tyX13 tyX13_ok nmX13 hown hK hP hD hS h0 (Wd_ob kg_6 sg_6 (by decide)) rfl 3 (by decide) (hts _ md_X13_init_5) (fun _ h9 => h9) rfl hin rfl (by decide +kernel) rfl rfl (by rw [fl_len]; decide) dX13_init_9 (fun H_7 locs hP2 hD2 hS2 => ?_)
  rw [Wd_sq1 sg_6 (by decide) rfl] at hP2 hD2
  obtain ⟨z_8, ez_8⟩ : ∃ w, w = sq z_2 h0 3 (some k_3) := ⟨_, rfl⟩
  rw [← ez_8] at hP2 hD2
  replace hf := lt_at ez_8 hf
  replace hk : lk z_8 n := by rw [ez_8]; exact lk_sq1 hk (okN_at g_5)
  clear ez_8
  replace hP := hP2
  replace hD := hD2
  replace hS := hS2
  clear hP2 hD2 hS2
  refine lv_aload_n hx hb dX13_init_12 rfl (lv_at hl 0 rfl) ?_
  refine lv_sipush (v := 1025) hx hb dX13_init_13 (by decide) ?_
  obtain ⟨g_9, hf⟩ := grd_some hf
  refine de_newa (atype := .boolean) (ty := .boolean) (t := 3) (N := 1025) (a0 := (1025, .inl (fun _ => 0))) hf hk hx hb (hts _ md_X13_init_6) rfl hK hP hD hS hA rfl rfl (fun _ => rfl) (by decide) (by decide) (Nat.le_of_ble_eq_true rfl) (Nat.le_of_ble_eq_true rfl) (Nat.le_of_ble_eq_true rfl) dX13_init_16 (fun a sh n z_10 k_11 H_12 hf hax hk hnn hP hD hS => ?_)
  refine W.eq (g2 := F0 m 18 ls [.ref (a k_11), .ref (a h0)]) (by rw [hax h0 (okN_at g_9)]) ?_
  replace hl : lv_has ls 1 [(0, .ref (a h0))] := by rw [hax h0 (okN_at g_9)]; exact hl
  replace hag := hag_new hag hax hnn
  clear hax hnn
  refine W.widen (k := 2) (n := 1065) (Nat.le_of_ble_eq_true rfl) (Nat.le_of_ble_eq_true rfl) ?_
  obtain ⟨g_13, hf⟩ := grd_some hf
  obtain ⟨g_14, hf⟩ := grd_some hf
  obtain ⟨kg_14, sg_14⟩ := okO_at g_14
  refine va_putF (D := (dC, dI)) (ci := 13) (v := .ref (a k_11)) (ty := .array .boolean) (C := RX13) (T := TX13) (N := 22) hx hb hts iwd_X13_init_X13 tyX13 tyX13_ok nmX13 hown hK hP hD hS h0 (Wd_ob kg_14 sg_14 (by decide)) rfl 6 (by decide) (hts _ md_X13_init_7) (fun _ h9 => h9) rfl hin rfl (by decide +kernel) rfl rfl (by rw [fl_len]; decide) dX13_init_18 (fun H_15 locs hP2 hD2 hS2 => ?_)
  rw [Wd_sq1 sg_14 (by decide) rfl] at hP2 hD2
  obtain ⟨z_16, ez_16⟩ : ∃ w, w = sq z_10 h0 6 (some k_11) := ⟨_, rfl⟩
  rw [← ez_16] at hP2 hD2
  replace hf := lt_at ez_16 hf
  replace hk : lk z_16 n := by rw [ez_16]; exact lk_sq1 hk (okN_at g_13)
  clear ez_16
  replace hP := hP2
  replace hD := hD2
  replace hS := hS2
  clear hP2 hD2 hS2
  refine lv_aload_n hx hb dX13_init_21 rfl (lv_at hl 0 rfl) ?_
  refine lv_sipush (v := 1025) hx hb dX13_init_22 (by decide) ?_
  obtain ⟨g_17, hf⟩ := grd_some hf
  refine de_newa (atype := .boolean) (ty := .boolean) (t := 3) (N := 1025) (a0 := (1025, .inl (fun _ => 0))) hf hk hx hb (hts _ md_X13_init_6) rfl hK hP hD hS hA rfl rfl (fun _ => rfl) (by decide) (by decide) (Nat.le_of_ble_eq_true rfl) (Nat.le_of_ble_eq_true rfl) (Nat.le_of_ble_eq_true rfl) dX13_init_25 (fun a sh n z_18 k_19 H_20 hf hax hk hnn hP hD hS => ?_)
  refine W.eq (g2 := F0 m 27 ls [.ref (a k_19), .ref (a h0)]) (by rw [hax h0 (okN_at g_17)]) ?_
  replace hl : lv_has ls 1 [(0, .ref (a h0))] := by rw [hax h0 (okN_at g_17)]; exact hl
  replace hag := hag_new hag hax hnn
  clear hax hnn
  refine W.widen (k := 3) (n := 2090) (Nat.le_of_ble_eq_true rfl) (Nat.le_of_ble_eq_true rfl) ?_
  obtain ⟨g_21, hf⟩ := grd_some hf
  obtain ⟨g_22, hf⟩ := grd_some hf
  obtain ⟨kg_22, sg_22⟩ := okO_at g_22
  refine va_putF (D := (dC, dI)) (ci := 13) (v := .ref (a k_19)) (ty := .array .boolean) (C := RX13) (T := TX13) (N := 22) hx hb hts iwd_X13_init_X13 tyX13 tyX13_ok nmX13 hown hK hP hD hS h0 (Wd_ob kg_22 sg_22 (by decide)) rfl 7 (by decide) (hts _ md_X13_init_8) (fun _ h9 => h9) rfl hin rfl (by decide +kernel) rfl rfl (by rw [fl_len]; decide) dX13_init_27 (fun H_23 locs hP2 hD2 hS2 => ?_)
  rw [Wd_sq1 sg_22 (by decide) rfl] at hP2 hD2
  obtain ⟨z_24, ez_24⟩ : ∃ w, w = sq z_18 h0 7 (some k_19) := ⟨_, rfl⟩
  rw [← ez_24] at hP2 hD2
  replace hf := lt_at ez_24 hf
  replace hk : lk z_24 n := by rw [ez_24]; exact lk_sq1 hk (okN_at g_21)
  clear ez_24
  replace hP := hP2
  replace hD := hD2
  replace hS := hS2
  clear hP2 hD2 hS2
  refine lv_aload_n hx hb dX13_init_30 rfl (lv_at hl 0 rfl) ?_
  refine lv_ldc hx hb hown (hts _ md_X13_init_9) dX13_init_31 ?_
  obtain ⟨g_25, hf⟩ := grd_some hf
  refine de_newa (atype := .boolean) (ty := .boolean) (t := 3) (N := 41000) (a0 := (41000, .inl (fun _ => 0))) hf hk hx hb (hts _ md_X13_init_6) rfl hK hP hD hS hA rfl rfl (fun _ => rfl) (by decide) (by decide) (Nat.le_of_ble_eq_true rfl) (Nat.le_of_ble_eq_true rfl) (Nat.le_of_ble_eq_true rfl) dX13_init_33 (fun a sh n z_26 k_27 H_28 hf hax hk hnn hP hD hS => ?_)
  refine W.eq (g2 := F0 m 35 ls [.ref (a k_27), .ref (a h0)]) (by rw [hax h0 (okN_at g_25)]) ?_
  replace hl : lv_has ls 1 [(0, .ref (a h0))] := by rw [hax h0 (okN_at g_25)]; exact hl
  replace hag := hag_new hag hax hnn
  clear hax hnn
  refine W.widen (k := 4) (n := 43090) (Nat.le_of_ble_eq_true rfl) (Nat.le_of_ble_eq_true rfl) ?_
  obtain ⟨g_29, hf⟩ := grd_some hf
  obtain ⟨g_30, hf⟩ := grd_some hf
  obtain ⟨kg_30, sg_30⟩ := okO_at g_30
  refine va_putF (D := (dC, dI)) (ci := 13) (v := .ref (a k_27)) (ty := .array .boolean) (C := RX13) (T := TX13) (N := 22) hx hb hts iwd_X13_init_X13 tyX13 tyX13_ok nmX13 hown hK hP hD hS h0 (Wd_ob kg_30 sg_30 (by decide)) rfl 8 (by decide) (hts _ md_X13_init_10) (fun _ h9 => h9) rfl hin rfl (by decide +kernel) rfl rfl (by rw [fl_len]; decide) dX13_init_35 (fun H_31 locs hP2 hD2 hS2 => ?_)
  rw [Wd_sq1 sg_30 (by decide) rfl] at hP2 hD2
  obtain ⟨z_32, ez_32⟩ : ∃ w, w = sq z_26 h0 8 (some k_27) := ⟨_, rfl⟩
  rw [← ez_32] at hP2 hD2
  replace hf := lt_at ez_32 hf
  replace hk : lk z_32 n := by rw [ez_32]; exact lk_sq1 hk (okN_at g_29)
  clear ez_32
  replace hP := hP2
  replace hD := hD2
  replace hS := hS2
  clear hP2 hD2 hS2
  refine lv_aload_n hx hb dX13_init_38 rfl (lv_at hl 0 rfl) ?_
  refine lv_ldc hx hb hown (hts _ md_X13_init_9) dX13_init_39 ?_
  obtain ⟨g_33, hf⟩ := grd_some hf
  refine de_newa (atype := .long) (ty := .long) (t := 2) (N := 41000) (a0 := (41000, .inr (.inl (fun _ => 0)))) hf hk hx hb (hts _ md_X13_init_4) rfl hK hP hD hS hA rfl rfl (fun _ => rfl) (by decide) (by decide) (Nat.le_of_ble_eq_true rfl) (Nat.le_of_ble_eq_true rfl) (Nat.le_of_ble_eq_true rfl) dX13_init_41 (fun a sh n z_34 k_35 H_36 hf hax hk hnn hP hD hS => ?_)
  refine W.eq (g2 := F0 m 43 ls [.ref (a k_35), .ref (a h0)]) (by rw [hax h0 (okN_at g_33)]) ?_
  replace hl : lv_has ls 1 [(0, .ref (a h0))] := by rw [hax h0 (okN_at g_33)]; exact hl
  replace hag := hag_new hag hax hnn
  clear hax hnn
  refine W.widen (k := 5) (n := 84090) (Nat.le_of_ble_eq_true rfl) (Nat.le_of_ble_eq_true rfl) ?_
  obtain ⟨g_37, hf⟩ := grd_some hf
  obtain ⟨g_38, hf⟩ := grd_some hf
  obtain ⟨kg_38, sg_38⟩ := okO_at g_38
  refine va_putF (D := (dC, dI)) (ci := 13) (v := .ref (a k_35)) (ty := .array .long) (C := RX13) (T := TX13) (N := 22) hx hb hts iwd_X13_init_X13 tyX13 tyX13_ok nmX13 hown hK hP hD hS h0 (Wd_ob kg_38 sg_38 (by decide)) rfl 9 (by decide) (hts _ md_X13_init_11) (fun _ h9 => h9) rfl hin rfl (by decide +kernel) rfl rfl (by rw [fl_len]; decide) dX13_init_43 (fun H_39 locs hP2 hD2 hS2 => ?_)
  rw [Wd_sq1 sg_38 (by decide) rfl] at hP2 hD2
  obtain ⟨z_40, ez_40⟩ : ∃ w, w = sq z_34 h0 9 (some k_35) := ⟨_, rfl⟩
  rw [← ez_40] at hP2 hD2
  replace hf := lt_at ez_40 hf
  replace hk : lk z_40 n := by rw [ez_40]; exact lk_sq1 hk (okN_at g_37)
  clear ez_40
  replace hP := hP2
  replace hD := hD2
  replace hS := hS2
  clear hP2 hD2 hS2
  refine lv_aload_n hx hb dX13_init_46 rfl (lv_at hl 0 rfl) ?_
  refine lv_ldc hx hb hown (hts _ md_X13_init_9) dX13_init_47 ?_
  obtain ⟨g_41, hf⟩ := grd_some hf
  refine de_newa (atype := .boolean) (ty := .boolean) (t := 3) (N := 41000) (a0 := (41000, .inl (fun _ => 0))) hf hk hx hb (hts _ md_X13_init_6) rfl hK hP hD hS hA rfl rfl (fun _ => rfl) (by decide) (by decide) (Nat.le_of_ble_eq_true rfl) (Nat.le_of_ble_eq_true rfl) (Nat.le_of_ble_eq_true rfl) dX13_init_49 (fun a sh n z_42 k_43 H_44 hf hax hk hnn hP hD hS => ?_)
  refine W.eq (g2 := F0 m 51 ls [.ref (a k_43), .ref (a h0)]) (by rw [hax h0 (okN_at g_41)]) ?_
  replace hl : lv_has ls 1 [(0, .ref (a h0))] := by rw [hax h0 (okN_at g_41)]; exact hl
  replace hag := hag_new hag hax hnn
  clear hax hnn
  refine W.widen (k := 6) (n := 125090) (Nat.le_of_ble_eq_true rfl) (Nat.le_of_ble_eq_true rfl) ?_
  obtain ⟨g_45, hf⟩ := grd_some hf
  obtain ⟨g_46, hf⟩ := grd_some hf
  obtain ⟨kg_46, sg_46⟩ := okO_at g_46
  refine va_putF (D := (dC, dI)) (ci := 13) (v := .ref (a k_43)) (ty := .array .boolean) (C := RX13) (T := TX13) (N := 22) hx hb hts iwd_X13_init_X13 tyX13 tyX13_ok nmX13 hown hK hP hD hS h0 (Wd_ob kg_46 sg_46 (by decide)) rfl 10 (by decide) (hts _ md_X13_init_12) (fun _ h9 => h9) rfl hin rfl (by decide +kernel) rfl rfl (by rw [fl_len]; decide) dX13_init_51 (fun H_47 locs hP2 hD2 hS2 => ?_)
  rw [Wd_sq1 sg_46 (by decide) rfl] at hP2 hD2
  obtain ⟨z_48, ez_48⟩ : ∃ w, w = sq z_42 h0 10 (some k_43) := ⟨_, rfl⟩
  rw [← ez_48] at hP2 hD2
  replace hf := lt_at ez_48 hf
  replace hk : lk z_48 n := by rw [ez_48]; exact lk_sq1 hk (okN_at g_45)
  clear ez_48
  replace hP := hP2
  replace hD := hD2
  replace hS := hS2
  clear hP2 hD2 hS2
  refine lv_aload_n hx hb dX13_init_54 rfl (lv_at hl 0 rfl) ?_
  refine lv_sipush (v := 200) hx hb dX13_init_55 (by decide) ?_
  obtain ⟨g_49, hf⟩ := grd_some hf
  refine de_newa (atype := .long) (ty := .long) (t := 2) (N := 200) (a0 := (200, .inr (.inl (fun _ => 0)))) hf hk hx hb (hts _ md_X13_init_4) rfl hK hP hD hS hA rfl rfl (fun _ => rfl) (by decide) (by decide) (Nat.le_of_ble_eq_true rfl) (Nat.le_of_ble_eq_true rfl) (Nat.le_of_ble_eq_true rfl) dX13_init_58 (fun a sh n z_50 k_51 H_52 hf hax hk hnn hP hD hS => ?_)
  refine W.eq (g2 := F0 m 60 ls [.ref (a k_51), .ref (a h0)]) (by rw [hax h0 (okN_at g_49)]) ?_
  replace hl : lv_has ls 1 [(0, .ref (a h0))] := by rw [hax h0 (okN_at g_49)]; exact hl
  replace hag := hag_new hag hax hnn
  clear hax hnn
  refine W.widen (k := 7) (n := 125290) (Nat.le_of_ble_eq_true rfl) (Nat.le_of_ble_eq_true rfl) ?_
  obtain ⟨g_53, hf⟩ := grd_some hf
  obtain ⟨g_54, hf⟩ := grd_some hf
  obtain ⟨kg_54, sg_54⟩ := okO_at g_54
  refine va_putF (D := (dC, dI)) (ci := 13) (v := .ref (a k_51)) (ty := .array .long) (C := RX13) (T := TX13) (N := 22) hx hb hts iwd_X13_init_X13 tyX13 tyX13_ok nmX13 hown hK hP hD hS h0 (Wd_ob kg_54 sg_54 (by decide)) rfl 11 (by decide) (hts _ md_X13_init_13) (fun _ h9 => h9) rfl hin rfl (by decide +kernel) rfl rfl (by rw [fl_len]; decide) dX13_init_60 (fun H_55 locs hP2 hD2 hS2 => ?_)
  rw [Wd_sq1 sg_54 (by decide) rfl] at hP2 hD2
  obtain ⟨z_56, ez_56⟩ : ∃ w, w = sq z_50 h0 11 (some k_51) := ⟨_, rfl⟩
  rw [← ez_56] at hP2 hD2
  replace hf := lt_at ez_56 hf
  replace hk : lk z_56 n := by rw [ez_56]; exact lk_sq1 hk (okN_at g_53)
  clear ez_56
  replace hP := hP2
  replace hD := hD2
  replace hS := hS2
  clear hP2 hD2 hS2
  refine lv_aload_n hx hb dX13_init_63 rfl (lv_at hl 0 rfl) ?_
  refine lv_sipush (v := 200) hx hb dX13_init_64 (by decide) ?_
  obtain ⟨g_57, hf⟩ := grd_some hf
  refine de_newa (atype := .long) (ty := .long) (t := 2) (N := 200) (a0 := (200, .inr (.inl (fun _ => 0)))) hf hk hx hb (hts _ md_X13_init_4) rfl hK hP hD hS hA rfl rfl (fun _ => rfl) (by decide) (by decide) (Nat.le_of_ble_eq_true rfl) (Nat.le_of_ble_eq_true rfl) (Nat.le_of_ble_eq_true rfl) dX13_init_67 (fun a sh n z_58 k_59 H_60 hf hax hk hnn hP hD hS => ?_)
  refine W.eq (g2 := F0 m 69 ls [.ref (a k_59), .ref (a h0)]) (by rw [hax h0 (okN_at g_57)]) ?_
  replace hl : lv_has ls 1 [(0, .ref (a h0))] := by rw [hax h0 (okN_at g_57)]; exact hl
  replace hag := hag_new hag hax hnn
  clear hax hnn
  refine W.widen (k := 8) (n := 125490) (Nat.le_of_ble_eq_true rfl) (Nat.le_of_ble_eq_true rfl) ?_
  obtain ⟨g_61, hf⟩ := grd_some hf
  obtain ⟨g_62, hf⟩ := grd_some hf
  obtain ⟨kg_62, sg_62⟩ := okO_at g_62
  refine va_putF (D := (dC, dI)) (ci := 13) (v := .ref (a k_59)) (ty := .array .long) (C := RX13) (T := TX13) (N := 22) hx hb hts iwd_X13_init_X13 tyX13 tyX13_ok nmX13 hown hK hP hD hS h0 (Wd_ob kg_62 sg_62 (by decide)) rfl 12 (by decide) (hts _ md_X13_init_14) (fun _ h9 => h9) rfl hin rfl (by decide +kernel) rfl rfl (by rw [fl_len]; decide) dX13_init_69 (fun H_63 locs hP2 hD2 hS2 => ?_)
  rw [Wd_sq1 sg_62 (by decide) rfl] at hP2 hD2
  obtain ⟨z_64, ez_64⟩ : ∃ w, w = sq z_58 h0 12 (some k_59) := ⟨_, rfl⟩
  rw [← ez_64] at hP2 hD2
  replace hf := lt_at ez_64 hf
  replace hk : lk z_64 n := by rw [ez_64]; exact lk_sq1 hk (okN_at g_61)
  clear ez_64
  replace hP := hP2
  replace hD := hD2
  replace hS := hS2
  clear hP2 hD2 hS2
  refine lv_aload_n hx hb dX13_init_72 rfl (lv_at hl 0 rfl) ?_
  refine lv_sipush (v := 200) hx hb dX13_init_73 (by decide) ?_
  obtain ⟨g_65, hf⟩ := grd_some hf
  refine de_newa (atype := .boolean) (ty := .boolean) (t := 3) (N := 200) (a0 := (200, .inl (fun _ => 0))) hf hk hx hb (hts _ md_X13_init_6) rfl hK hP hD hS hA rfl rfl (fun _ => rfl) (by decide) (by decide) (Nat.le_of_ble_eq_true rfl) (Nat.le_of_ble_eq_true rfl) (Nat.le_of_ble_eq_true rfl) dX13_init_76 (fun a sh n z_66 k_67 H_68 hf hax hk hnn hP hD hS => ?_)
  refine W.eq (g2 := F0 m 78 ls [.ref (a k_67), .ref (a h0)]) (by rw [hax h0 (okN_at g_65)]) ?_
  replace hl : lv_has ls 1 [(0, .ref (a h0))] := by rw [hax h0 (okN_at g_65)]; exact hl
  replace hag := hag_new hag hax hnn
  clear hax hnn
  refine W.widen (k := 9) (n := 125690) (Nat.le_of_ble_eq_true rfl) (Nat.le_of_ble_eq_true rfl) ?_
  obtain ⟨g_69, hf⟩ := grd_some hf
  obtain ⟨g_70, hf⟩ := grd_some hf
  obtain ⟨kg_70, sg_70⟩ := okO_at g_70
  refine va_putF (D := (dC, dI)) (ci := 13) (v := .ref (a k_67)) (ty := .array .boolean) (C := RX13) (T := TX13) (N := 22) hx hb hts iwd_X13_init_X13 tyX13 tyX13_ok nmX13 hown hK hP hD hS h0 (Wd_ob kg_70 sg_70 (by decide)) rfl 13 (by decide) (hts _ md_X13_init_15) (fun _ h9 => h9) rfl hin rfl (by decide +kernel) rfl rfl (by rw [fl_len]; decide) dX13_init_78 (fun H_71 locs hP2 hD2 hS2 => ?_)
  rw [Wd_sq1 sg_70 (by decide) rfl] at hP2 hD2
  obtain ⟨z_72, ez_72⟩ : ∃ w, w = sq z_66 h0 13 (some k_67) := ⟨_, rfl⟩
  rw [← ez_72] at hP2 hD2
  replace hf := lt_at ez_72 hf
  replace hk : lk z_72 n := by rw [ez_72]; exact lk_sq1 hk (okN_at g_69)
  clear ez_72
  replace hP := hP2
  replace hD := hD2
  replace hS := hS2
  clear hP2 hD2 hS2
  refine lv_aload_n hx hb dX13_init_81 rfl (lv_at hl 0 rfl) ?_
  refine lv_bipush (v := 40) hx hb dX13_init_82 (by decide) ?_
  obtain ⟨g_73, hf⟩ := grd_some hf
  refine de_newa (atype := .boolean) (ty := .boolean) (t := 3) (N := 40) (a0 := (40, .inl (fun _ => 0))) hf hk hx hb (hts _ md_X13_init_6) rfl hK hP hD hS hA rfl rfl (fun _ => rfl) (by decide) (by decide) (Nat.le_of_ble_eq_true rfl) (Nat.le_of_ble_eq_true rfl) (Nat.le_of_ble_eq_true rfl) dX13_init_84 (fun a sh n z_74 k_75 H_76 hf hax hk hnn hP hD hS => ?_)
  refine W.eq (g2 := F0 m 86 ls [.ref (a k_75), .ref (a h0)]) (by rw [hax h0 (okN_at g_73)]) ?_
  replace hl : lv_has ls 1 [(0, .ref (a h0))] := by rw [hax h0 (okN_at g_73)]; exact hl
  replace hag := hag_new hag hax hnn
  clear hax hnn
  refine W.widen (k := 10) (n := 125730) (Nat.le_of_ble_eq_true rfl) (Nat.le_of_ble_eq_true rfl) ?_
  obtain ⟨g_77, hf⟩ := grd_some hf
  obtain ⟨g_78, hf⟩ := grd_some hf
  obtain ⟨kg_78, sg_78⟩ := okO_at g_78
  refine va_putF (D := (dC, dI)) (ci := 13) (v := .ref (a k_75)) (ty := .array .boolean) (C := RX13) (T := TX13) (N := 22) hx hb hts iwd_X13_init_X13 tyX13 tyX13_ok nmX13 hown hK hP hD hS h0 (Wd_ob kg_78 sg_78 (by decide)) rfl 15 (by decide) (hts _ md_X13_init_16) (fun _ h9 => h9) rfl hin rfl (by decide +kernel) rfl rfl (by rw [fl_len]; decide) dX13_init_86 (fun H_79 locs hP2 hD2 hS2 => ?_)
  rw [Wd_sq1 sg_78 (by decide) rfl] at hP2 hD2
  obtain ⟨z_80, ez_80⟩ : ∃ w, w = sq z_74 h0 15 (some k_75) := ⟨_, rfl⟩
  rw [← ez_80] at hP2 hD2
  replace hf := lt_at ez_80 hf
  replace hk : lk z_80 n := by rw [ez_80]; exact lk_sq1 hk (okN_at g_77)
  clear ez_80
  replace hP := hP2
  replace hD := hD2
  replace hS := hS2
  clear hP2 hD2 hS2
  refine lv_aload_n hx hb dX13_init_89 rfl (lv_at hl 0 rfl) ?_
  refine lv_bipush (v := 40) hx hb dX13_init_90 (by decide) ?_
  obtain ⟨g_81, hf⟩ := grd_some hf
  refine de_newa (atype := .long) (ty := .long) (t := 2) (N := 40) (a0 := (40, .inr (.inl (fun _ => 0)))) hf hk hx hb (hts _ md_X13_init_4) rfl hK hP hD hS hA rfl rfl (fun _ => rfl) (by decide) (by decide) (Nat.le_of_ble_eq_true rfl) (Nat.le_of_ble_eq_true rfl) (Nat.le_of_ble_eq_true rfl) dX13_init_92 (fun a sh n z_82 k_83 H_84 hf hax hk hnn hP hD hS => ?_)
  refine W.eq (g2 := F0 m 94 ls [.ref (a k_83), .ref (a h0)]) (by rw [hax h0 (okN_at g_81)]) ?_
  replace hl : lv_has ls 1 [(0, .ref (a h0))] := by rw [hax h0 (okN_at g_81)]; exact hl
  replace hag := hag_new hag hax hnn
  clear hax hnn
  refine W.widen (k := 11) (n := 125770) (Nat.le_of_ble_eq_true rfl) (Nat.le_of_ble_eq_true rfl) ?_
  obtain ⟨g_85, hf⟩ := grd_some hf
  obtain ⟨g_86, hf⟩ := grd_some hf
  obtain ⟨kg_86, sg_86⟩ := okO_at g_86
  refine va_putF (D := (dC, dI)) (ci := 13) (v := .ref (a k_83)) (ty := .array .long) (C := RX13) (T := TX13) (N := 22) hx hb hts iwd_X13_init_X13 tyX13 tyX13_ok nmX13 hown hK hP hD hS h0 (Wd_ob kg_86 sg_86 (by decide)) rfl 16 (by decide) (hts _ md_X13_init_17) (fun _ h9 => h9) rfl hin rfl (by decide +kernel) rfl rfl (by rw [fl_len]; decide) dX13_init_94 (fun H_87 locs hP2 hD2 hS2 => ?_)
  rw [Wd_sq1 sg_86 (by decide) rfl] at hP2 hD2
  obtain ⟨z_88, ez_88⟩ : ∃ w, w = sq z_82 h0 16 (some k_83) := ⟨_, rfl⟩
  rw [← ez_88] at hP2 hD2
  replace hf := lt_at ez_88 hf
  replace hk : lk z_88 n := by rw [ez_88]; exact lk_sq1 hk (okN_at g_85)
  clear ez_88
  replace hP := hP2
  replace hD := hD2
  replace hS := hS2
  clear hP2 hD2 hS2
  refine lv_aload_n hx hb dX13_init_97 rfl (lv_at hl 0 rfl) ?_
  refine lv_bipush (v := 40) hx hb dX13_init_98 (by decide) ?_
  obtain ⟨g_89, hf⟩ := grd_some hf
  refine de_newa (atype := .boolean) (ty := .boolean) (t := 3) (N := 40) (a0 := (40, .inl (fun _ => 0))) hf hk hx hb (hts _ md_X13_init_6) rfl hK hP hD hS hA rfl rfl (fun _ => rfl) (by decide) (by decide) (Nat.le_of_ble_eq_true rfl) (Nat.le_of_ble_eq_true rfl) (Nat.le_of_ble_eq_true rfl) dX13_init_100 (fun a sh n z_90 k_91 H_92 hf hax hk hnn hP hD hS => ?_)
  refine W.eq (g2 := F0 m 102 ls [.ref (a k_91), .ref (a h0)]) (by rw [hax h0 (okN_at g_89)]) ?_
  replace hl : lv_has ls 1 [(0, .ref (a h0))] := by rw [hax h0 (okN_at g_89)]; exact hl
  replace hag := hag_new hag hax hnn
  clear hax hnn
  refine W.widen (k := 12) (n := 125810) (Nat.le_of_ble_eq_true rfl) (Nat.le_of_ble_eq_true rfl) ?_
  obtain ⟨g_93, hf⟩ := grd_some hf
  obtain ⟨g_94, hf⟩ := grd_some hf
  obtain ⟨kg_94, sg_94⟩ := okO_at g_94
  refine va_putF (D := (dC, dI)) (ci := 13) (v := .ref (a k_91)) (ty := .array .boolean) (C := RX13) (T := TX13) (N := 22) hx hb hts iwd_X13_init_X13 tyX13 tyX13_ok nmX13 hown hK hP hD hS h0 (Wd_ob kg_94 sg_94 (by decide)) rfl 17 (by decide) (hts _ md_X13_init_18) (fun _ h9 => h9) rfl hin rfl (by decide +kernel) rfl rfl (by rw [fl_len]; decide) dX13_init_102 (fun H_95 locs hP2 hD2 hS2 => ?_)
  rw [Wd_sq1 sg_94 (by decide) rfl] at hP2 hD2
  obtain ⟨z_96, ez_96⟩ : ∃ w, w = sq z_90 h0 17 (some k_91) := ⟨_, rfl⟩
  rw [← ez_96] at hP2 hD2
  replace hf := lt_at ez_96 hf
  replace hk : lk z_96 n := by rw [ez_96]; exact lk_sq1 hk (okN_at g_93)
  clear ez_96
  replace hP := hP2
  replace hD := hD2
  replace hS := hS2
  clear hP2 hD2 hS2
  obtain ⟨h5, h6, h8, h9⟩ := rta_some hf
  rw [h5, h6, h8]
  exact W.vret hx hb hr (fun t ht hW => ⟨⟨a, rfl, ⟨hag, hk⟩, by rw [ht]; exact hP, va_K.moved hW.alike hK, hD⟩, hS.F ht⟩) hS.2.2 dX13_init_105

theorem md_X15_init_1 : (.methodLink RX15 1 objectInit : Cond) ∈ wsX15_init := List.mem_of_getElem? (i := 1) rfl
theorem md_X15_init_2 : (.instanceMethod objectInit : Cond) ∈ wsX15_init := List.mem_of_getElem? (i := 2) rfl
theorem md_X15_init_3 : (.code objectInit ⟨#[0xb1]⟩ 1 none : Cond) ∈ wsX15_init := List.mem_of_getElem? (i := 3) rfl
theorem md_X15_init_4 : (.arrayClass .byte : Cond) ∈ wsX15_init := List.mem_of_getElem? (i := 4) rfl
theorem md_X15_init_5 : (.fieldLink RX15 7 "ResourceLedgerModel$Trees" "kinds" "[B" : Cond) ∈ wsX15_init := List.mem_of_getElem? (i := 5) rfl
theorem iwd_X15_init_X15 : ∀ w ∈ wsX150, w ∈ wsX15_init := fun _ h => List.mem_cons_of_mem _ (List.mem_append_right _ h)
theorem md_X15_init_6 : (.arrayClass .long : Cond) ∈ wsX15_init := List.mem_of_getElem? (i := 6) rfl
theorem md_X15_init_7 : (.fieldLink RX15 13 "ResourceLedgerModel$Trees" "highs" "[J" : Cond) ∈ wsX15_init := List.mem_of_getElem? (i := 7) rfl
theorem md_X15_init_8 : (.fieldLink RX15 17 "ResourceLedgerModel$Trees" "lows" "[J" : Cond) ∈ wsX15_init := List.mem_of_getElem? (i := 8) rfl
theorem md_X15_init_9 : (.arrayClass .int : Cond) ∈ wsX15_init := List.mem_of_getElem? (i := 9) rfl
theorem md_X15_init_10 : (.fieldLink RX15 20 "ResourceLedgerModel$Trees" "firsts" "[I" : Cond) ∈ wsX15_init := List.mem_of_getElem? (i := 10) rfl
theorem md_X15_init_11 : (.fieldLink RX15 24 "ResourceLedgerModel$Trees" "nexts" "[I" : Cond) ∈ wsX15_init := List.mem_of_getElem? (i := 11) rfl
set_option maxHeartbeats 4000000 in
set_option maxRecDepth 100000 in
theorem da_X15_init (l : Launch) (dC : Nat → ClassId) (dI : Nat → Nat → Nat) (cy : Nat → ClassId) (a0 : Nat → Nat) (sh0 : Nat → Nat × Nat) (n0 sz : Nat) (F : Nat) (z0 : St) (h0 : Nat) (hk0 : lk z0 n0) {sh8 : Nat → Nat × Nat} {n8 : Nat} {z8 : St} {r8 : Unit} (hf : fa_X15_init F sh0 n0 z0 h0 = some (sh8, n8, z8, r8)) : Met l yX15_init wsX15_init ({ frames := 1, cells := 5, slots := 122880, locals := 12 }) (va_Pc [.ref (a0 h0)] (fun U => U.heap.size = sz ∧ va_P (dC, dI) vwCl (Wd cy a0 sh0 n0 z0) U.heap ∧ va_K (dC, dI) vwCl (TYS cy) U ∧ va_D (fun _ => True) (Wd cy a0 sh0 n0 z0) ∧ NK U)) (va_Qv (fun u : Nat → Nat => ((∀ k, k < n0 ∨ k = CBK → u k = a0 k) ∧ n0 ≤ n8) ∧ lk z8 n8) (fun u t => va_P (dC, dI) vwCl (Wd cy u sh8 n8 z8) t.heap ∧ va_K (dC, dI) vwCl (TYS cy) t ∧ va_D (va_A (Wd cy a0 sh0 n0 z0) sz) (Wd cy u sh8 n8 z8)) (va_A (Wd cy a0 sh0 n0 z0) sz)) 5 122880 (va_A (Wd cy a0 sh0 n0 z0) sz) := by
  refine Met.ofW (cc := cX15_init) (maxL := 1) (ret := none) (by decide) rfl ?_
  intro p e s m args below meth c s₁ B hml hv
  obtain ⟨rfl, hsz, hP, hK, hD0, hN⟩ := hv
  have hx := B.exec
  have hb := B.bytes
  have hr := B.returns
  have hts := atoms_spec (ws := wsX15_init) B.pre
  have hown : s.vm.findClass RX15 = some m.cls := findClass_of_methodNamed B.named
  have hlocks := B.notSynchronized
  have hin : meth.name = "<init>" := (name_of_methodNamed B.named B.method).1
  subst hsz
  have hD := hD0.self (sz := s.heap.size)
  clear hD0
  generalize hAe : va_A (Wd cy a0 sh0 n0 z0) s.heap.size = A at hD ⊢
  have hA : ∀ q : Nat, s.heap.size ≤ q → A q := fun q h => by rw [← hAe]; exact Or.inr h
  clear hAe
  have hS : va_S A s.heap s.heap [] := va_S.rf
  have hl := lv_entry ([.ref (a0 h0)]) (n := 1) (Nat.le_of_ble_eq_true rfl)
  rw [lg_entry_eq]
  generalize (lg_sl ([.ref (a0 h0)]) ++ List.replicate (1 - (lg_sl ([.ref (a0 h0)])).length) Slot.unset).toArray = ls at hl ⊢
  replace hl : lv_has ls 1 [(0, .ref (a0 h0))] := hl
  unfold fa_X15_init at hf
  refine da_start (fn := fun sh n z => fa_X15_init F sh n z h0) (av := fun a => [(0, .ref (a h0))]) (sk := fun q => True) hf hk0 hS hD hP hl trivial (fun a sh n z H locs hf hag hk hS hD hP hl hSK => ?_)
  unfold fa_X15_init at hf
  try dsimp only at hf hl hSK
  refine lv_aload_n hx hb dX15_init_0 rfl (lv_at hl 0 rfl) ?_
  refine W.objInit hx hb hown (hts _ md_X15_init_1) (hts _ md_X15_init_2) (hts _ md_X15_init_3) rfl (by rw [hml]; exact hl.1) rfl dX15_init_1 (Nat.le_of_ble_eq_true rfl) (Nat.le_of_ble_eq_true rfl) ?_
  refine W.eq (g2 := F0 m 4 ls []) rfl ?_
  refine lv_aload_n hx hb dX15_init_4 rfl (lv_at hl 0 rfl) ?_
  refine lv_sipush (v := 24576) hx hb dX15_init_5 (by decide) ?_
  obtain ⟨g_1, hf⟩ := grd_some hf
  refine de_newa (atype := .byte) (ty := .byte) (t := 0) (N := 24576) (a0 := (24576, .inl (fun _ => 0))) hf hk hx hb (hts _ md_X15_init_4) rfl hK hP hD hS hA rfl rfl (fun _ => rfl) (by decide) (by decide) (Nat.le_of_ble_eq_true rfl) (Nat.le_of_ble_eq_true rfl) (Nat.le_of_ble_eq_true rfl) dX15_init_8 (fun a sh n z_2 k_3 H_4 hf hax hk hnn hP hD hS => ?_)
  refine W.eq (g2 := F0 m 10 ls [.ref (a k_3), .ref (a h0)]) (by rw [hax h0 (okN_at g_1)]) ?_
  replace hl : lv_has ls 1 [(0, .ref (a h0))] := by rw [hax h0 (okN_at g_1)]; exact hl
  replace hag := hag_new hag hax hnn
  clear hax hnn
  refine W.widen (k := 1) (n := 24576) (Nat.le_of_ble_eq_true rfl) (Nat.le_of_ble_eq_true rfl) ?_
  obtain ⟨g_5, hf⟩ := grd_some hf
  obtain ⟨g_6, hf⟩ := grd_some hf
  obtain ⟨kg_6, sg_6⟩ := okO_at g_6
  refine va_putF (D := (dC, dI)) (ci := 15) (v := .ref (a k_3)) (ty := .array .byte) (C := RX15) (T := TX15) (N := 6) hx hb hts iwd_X15_init_X15 tyX15 tyX15_ok nmX15 hown hK hP hD hS h0 (Wd_ob kg_6 sg_6 (by decide)) rfl 0 (by decide) (hts _ md_X15_init_5) (fun _ h9 => h9) rfl hin rfl (by decide +kernel) rfl rfl (by rw [fl_len]; decide) dX15_init_10 (fun H_7 locs hP2 hD2 hS2 => ?_)
  rw [Wd_sq1 sg_6 (by decide) rfl] at hP2 hD2
  obtain ⟨z_8, ez_8⟩ : ∃ w, w = sq z_2 h0 0 (some k_3) := ⟨_, rfl⟩
  rw [← ez_8] at hP2 hD2
  replace hf := lt_at ez_8 hf
  replace hk : lk z_8 n := by rw [ez_8]; exact lk_sq1 hk (okN_at g_5)
  clear ez_8
  replace hP := hP2
  replace hD := hD2
  replace hS := hS2
  clear hP2 hD2 hS2
  refine lv_aload_n hx hb dX15_init_13 rfl (lv_at hl 0 rfl) ?_
  refine lv_sipush (v := 24576) hx hb dX15_init_14 (by decide) ?_
  obtain ⟨g_9, hf⟩ := grd_some hf
  refine de_newa (atype := .long) (ty := .long) (t := 2) (N := 24576) (a0 := (24576, .inr (.inl (fun _ => 0)))) hf hk hx hb (hts _ md_X15_init_6) rfl hK hP hD hS hA rfl rfl (fun _ => rfl) (by decide) (by decide) (Nat.le_of_ble_eq_true rfl) (Nat.le_of_ble_eq_true rfl) (Nat.le_of_ble_eq_true rfl) dX15_init_17 (fun a sh n z_10 k_11 H_12 hf hax hk hnn hP hD hS => ?_)
  refine W.eq (g2 := F0 m 19 ls [.ref (a k_11), .ref (a h0)]) (by rw [hax h0 (okN_at g_9)]) ?_
  replace hl : lv_has ls 1 [(0, .ref (a h0))] := by rw [hax h0 (okN_at g_9)]; exact hl
  replace hag := hag_new hag hax hnn
  clear hax hnn
  refine W.widen (k := 2) (n := 49152) (Nat.le_of_ble_eq_true rfl) (Nat.le_of_ble_eq_true rfl) ?_
  obtain ⟨g_13, hf⟩ := grd_some hf
  obtain ⟨g_14, hf⟩ := grd_some hf
  obtain ⟨kg_14, sg_14⟩ := okO_at g_14
  refine va_putF (D := (dC, dI)) (ci := 15) (v := .ref (a k_11)) (ty := .array .long) (C := RX15) (T := TX15) (N := 6) hx hb hts iwd_X15_init_X15 tyX15 tyX15_ok nmX15 hown hK hP hD hS h0 (Wd_ob kg_14 sg_14 (by decide)) rfl 1 (by decide) (hts _ md_X15_init_7) (fun _ h9 => h9) rfl hin rfl (by decide +kernel) rfl rfl (by rw [fl_len]; decide) dX15_init_19 (fun H_15 locs hP2 hD2 hS2 => ?_)
  rw [Wd_sq1 sg_14 (by decide) rfl] at hP2 hD2
  obtain ⟨z_16, ez_16⟩ : ∃ w, w = sq z_10 h0 1 (some k_11) := ⟨_, rfl⟩
  rw [← ez_16] at hP2 hD2
  replace hf := lt_at ez_16 hf
  replace hk : lk z_16 n := by rw [ez_16]; exact lk_sq1 hk (okN_at g_13)
  clear ez_16
  replace hP := hP2
  replace hD := hD2
  replace hS := hS2
  clear hP2 hD2 hS2
  refine lv_aload_n hx hb dX15_init_22 rfl (lv_at hl 0 rfl) ?_
  refine lv_sipush (v := 24576) hx hb dX15_init_23 (by decide) ?_
  obtain ⟨g_17, hf⟩ := grd_some hf
  refine de_newa (atype := .long) (ty := .long) (t := 2) (N := 24576) (a0 := (24576, .inr (.inl (fun _ => 0)))) hf hk hx hb (hts _ md_X15_init_6) rfl hK hP hD hS hA rfl rfl (fun _ => rfl) (by decide) (by decide) (Nat.le_of_ble_eq_true rfl) (Nat.le_of_ble_eq_true rfl) (Nat.le_of_ble_eq_true rfl) dX15_init_26 (fun a sh n z_18 k_19 H_20 hf hax hk hnn hP hD hS => ?_)
  refine W.eq (g2 := F0 m 28 ls [.ref (a k_19), .ref (a h0)]) (by rw [hax h0 (okN_at g_17)]) ?_
  replace hl : lv_has ls 1 [(0, .ref (a h0))] := by rw [hax h0 (okN_at g_17)]; exact hl
  replace hag := hag_new hag hax hnn
  clear hax hnn
  refine W.widen (k := 3) (n := 73728) (Nat.le_of_ble_eq_true rfl) (Nat.le_of_ble_eq_true rfl) ?_
  obtain ⟨g_21, hf⟩ := grd_some hf
  obtain ⟨g_22, hf⟩ := grd_some hf
  obtain ⟨kg_22, sg_22⟩ := okO_at g_22
  refine va_putF (D := (dC, dI)) (ci := 15) (v := .ref (a k_19)) (ty := .array .long) (C := RX15) (T := TX15) (N := 6) hx hb hts iwd_X15_init_X15 tyX15 tyX15_ok nmX15 hown hK hP hD hS h0 (Wd_ob kg_22 sg_22 (by decide)) rfl 2 (by decide) (hts _ md_X15_init_8) (fun _ h9 => h9) rfl hin rfl (by decide +kernel) rfl rfl (by rw [fl_len]; decide) dX15_init_28 (fun H_23 locs hP2 hD2 hS2 => ?_)
  rw [Wd_sq1 sg_22 (by decide) rfl] at hP2 hD2
  obtain ⟨z_24, ez_24⟩ : ∃ w, w = sq z_18 h0 2 (some k_19) := ⟨_, rfl⟩
  rw [← ez_24] at hP2 hD2
  replace hf := lt_at ez_24 hf
  replace hk : lk z_24 n := by rw [ez_24]; exact lk_sq1 hk (okN_at g_21)
  clear ez_24
  replace hP := hP2
  replace hD := hD2
  replace hS := hS2
  clear hP2 hD2 hS2
  refine lv_aload_n hx hb dX15_init_31 rfl (lv_at hl 0 rfl) ?_
  refine lv_sipush (v := 24576) hx hb dX15_init_32 (by decide) ?_
  obtain ⟨g_25, hf⟩ := grd_some hf
  refine de_newa (atype := .int) (ty := .int) (t := 1) (N := 24576) (a0 := (24576, .inl (fun _ => 0))) hf hk hx hb (hts _ md_X15_init_9) rfl hK hP hD hS hA rfl rfl (fun _ => rfl) (by decide) (by decide) (Nat.le_of_ble_eq_true rfl) (Nat.le_of_ble_eq_true rfl) (Nat.le_of_ble_eq_true rfl) dX15_init_35 (fun a sh n z_26 k_27 H_28 hf hax hk hnn hP hD hS => ?_)
  refine W.eq (g2 := F0 m 37 ls [.ref (a k_27), .ref (a h0)]) (by rw [hax h0 (okN_at g_25)]) ?_
  replace hl : lv_has ls 1 [(0, .ref (a h0))] := by rw [hax h0 (okN_at g_25)]; exact hl
  replace hag := hag_new hag hax hnn
  clear hax hnn
  refine W.widen (k := 4) (n := 98304) (Nat.le_of_ble_eq_true rfl) (Nat.le_of_ble_eq_true rfl) ?_
  obtain ⟨g_29, hf⟩ := grd_some hf
  obtain ⟨g_30, hf⟩ := grd_some hf
  obtain ⟨kg_30, sg_30⟩ := okO_at g_30
  refine va_putF (D := (dC, dI)) (ci := 15) (v := .ref (a k_27)) (ty := .array .int) (C := RX15) (T := TX15) (N := 6) hx hb hts iwd_X15_init_X15 tyX15 tyX15_ok nmX15 hown hK hP hD hS h0 (Wd_ob kg_30 sg_30 (by decide)) rfl 3 (by decide) (hts _ md_X15_init_10) (fun _ h9 => h9) rfl hin rfl (by decide +kernel) rfl rfl (by rw [fl_len]; decide) dX15_init_37 (fun H_31 locs hP2 hD2 hS2 => ?_)
  rw [Wd_sq1 sg_30 (by decide) rfl] at hP2 hD2
  obtain ⟨z_32, ez_32⟩ : ∃ w, w = sq z_26 h0 3 (some k_27) := ⟨_, rfl⟩
  rw [← ez_32] at hP2 hD2
  replace hf := lt_at ez_32 hf
  replace hk : lk z_32 n := by rw [ez_32]; exact lk_sq1 hk (okN_at g_29)
  clear ez_32
  replace hP := hP2
  replace hD := hD2
  replace hS := hS2
  clear hP2 hD2 hS2
  refine lv_aload_n hx hb dX15_init_40 rfl (lv_at hl 0 rfl) ?_
  refine lv_sipush (v := 24576) hx hb dX15_init_41 (by decide) ?_
  obtain ⟨g_33, hf⟩ := grd_some hf
  refine de_newa (atype := .int) (ty := .int) (t := 1) (N := 24576) (a0 := (24576, .inl (fun _ => 0))) hf hk hx hb (hts _ md_X15_init_9) rfl hK hP hD hS hA rfl rfl (fun _ => rfl) (by decide) (by decide) (Nat.le_of_ble_eq_true rfl) (Nat.le_of_ble_eq_true rfl) (Nat.le_of_ble_eq_true rfl) dX15_init_44 (fun a sh n z_34 k_35 H_36 hf hax hk hnn hP hD hS => ?_)
  refine W.eq (g2 := F0 m 46 ls [.ref (a k_35), .ref (a h0)]) (by rw [hax h0 (okN_at g_33)]) ?_
  replace hl : lv_has ls 1 [(0, .ref (a h0))] := by rw [hax h0 (okN_at g_33)]; exact hl
  replace hag := hag_new hag hax hnn
  clear hax hnn
  refine W.widen (k := 5) (n := 122880) (Nat.le_of_ble_eq_true rfl) (Nat.le_of_ble_eq_true rfl) ?_
  obtain ⟨g_37, hf⟩ := grd_some hf
  obtain ⟨g_38, hf⟩ := grd_some hf
  obtain ⟨kg_38, sg_38⟩ := okO_at g_38
  refine va_putF (D := (dC, dI)) (ci := 15) (v := .ref (a k_35)) (ty := .array .int) (C := RX15) (T := TX15) (N := 6) hx hb hts iwd_X15_init_X15 tyX15 tyX15_ok nmX15 hown hK hP hD hS h0 (Wd_ob kg_38 sg_38 (by decide)) rfl 4 (by decide) (hts _ md_X15_init_11) (fun _ h9 => h9) rfl hin rfl (by decide +kernel) rfl rfl (by rw [fl_len]; decide) dX15_init_46 (fun H_39 locs hP2 hD2 hS2 => ?_)
  rw [Wd_sq1 sg_38 (by decide) rfl] at hP2 hD2
  obtain ⟨z_40, ez_40⟩ : ∃ w, w = sq z_34 h0 4 (some k_35) := ⟨_, rfl⟩
  rw [← ez_40] at hP2 hD2
  replace hf := lt_at ez_40 hf
  replace hk : lk z_40 n := by rw [ez_40]; exact lk_sq1 hk (okN_at g_37)
  clear ez_40
  replace hP := hP2
  replace hD := hD2
  replace hS := hS2
  clear hP2 hD2 hS2
  obtain ⟨h5, h6, h8, h9⟩ := rta_some hf
  rw [h5, h6, h8]
  exact W.vret hx hb hr (fun t ht hW => ⟨⟨a, rfl, ⟨hag, hk⟩, by rw [ht]; exact hP, va_K.moved hW.alike hK, hD⟩, hS.F ht⟩) hS.2.2 dX15_init_49

theorem md_X16_init_1 : (.methodLink RX16 1 objectInit : Cond) ∈ wsX16_init := List.mem_of_getElem? (i := 1) rfl
theorem md_X16_init_2 : (.instanceMethod objectInit : Cond) ∈ wsX16_init := List.mem_of_getElem? (i := 2) rfl
theorem md_X16_init_3 : (.code objectInit ⟨#[0xb1]⟩ 1 none : Cond) ∈ wsX16_init := List.mem_of_getElem? (i := 3) rfl
theorem md_X16_init_4 : (.arrayClass .byte : Cond) ∈ wsX16_init := List.mem_of_getElem? (i := 4) rfl
theorem md_X16_init_5 : (.fieldLink RX16 7 "ResourceLedgerModel$Unit" "bytes" "[B" : Cond) ∈ wsX16_init := List.mem_of_getElem? (i := 5) rfl
theorem iwd_X16_init_X16 : ∀ w ∈ wsX160, w ∈ wsX16_init := fun _ h => List.mem_cons_of_mem _ (List.mem_append_right _ h)
theorem md_X16_init_6 : (.arrayClass .int : Cond) ∈ wsX16_init := List.mem_of_getElem? (i := 6) rfl
theorem md_X16_init_7 : (.fieldLink RX16 13 "ResourceLedgerModel$Unit" "structureAt" "[I" : Cond) ∈ wsX16_init := List.mem_of_getElem? (i := 7) rfl
theorem md_X16_init_8 : (.fieldLink RX16 17 "ResourceLedgerModel$Unit" "calleeAt" "[I" : Cond) ∈ wsX16_init := List.mem_of_getElem? (i := 8) rfl
theorem md_X16_init_9 : (.fieldLink RX16 20 "ResourceLedgerModel$Unit" "elementAt" "[I" : Cond) ∈ wsX16_init := List.mem_of_getElem? (i := 9) rfl
theorem md_X16_init_10 : (.fieldLink RX16 23 "ResourceLedgerModel$Unit" "functionAt" "[I" : Cond) ∈ wsX16_init := List.mem_of_getElem? (i := 10) rfl
theorem md_X16_init_11 : (.fieldLink RX16 26 "ResourceLedgerModel$Unit" "firsts" "[I" : Cond) ∈ wsX16_init := List.mem_of_getElem? (i := 11) rfl
theorem md_X16_init_12 : (.fieldLink RX16 29 "ResourceLedgerModel$Unit" "instructionAt" "[I" : Cond) ∈ wsX16_init := List.mem_of_getElem? (i := 12) rfl
theorem md_X16_init_13 : (.arrayClass .boolean : Cond) ∈ wsX16_init := List.mem_of_getElem? (i := 13) rfl
theorem md_X16_init_14 : (.fieldLink RX16 32 "ResourceLedgerModel$Unit" "reached" "[Z" : Cond) ∈ wsX16_init := List.mem_of_getElem? (i := 14) rfl
set_option maxHeartbeats 4000000 in
set_option maxRecDepth 100000 in
theorem da_X16_init (l : Launch) (dC : Nat → ClassId) (dI : Nat → Nat → Nat) (cy : Nat → ClassId) (a0 : Nat → Nat) (sh0 : Nat → Nat × Nat) (n0 sz : Nat) (F : Nat) (z0 : St) (h0 : Nat) (hk0 : lk z0 n0) {sh8 : Nat → Nat × Nat} {n8 : Nat} {z8 : St} {r8 : Unit} (hf : fa_X16_init F sh0 n0 z0 h0 = some (sh8, n8, z8, r8)) : Met l yX16_init wsX16_init ({ frames := 1, cells := 8, slots := 4386, locals := 12 }) (va_Pc [.ref (a0 h0)] (fun U => U.heap.size = sz ∧ va_P (dC, dI) vwCl (Wd cy a0 sh0 n0 z0) U.heap ∧ va_K (dC, dI) vwCl (TYS cy) U ∧ va_D (fun _ => True) (Wd cy a0 sh0 n0 z0) ∧ NK U)) (va_Qv (fun u : Nat → Nat => ((∀ k, k < n0 ∨ k = CBK → u k = a0 k) ∧ n0 ≤ n8) ∧ lk z8 n8) (fun u t => va_P (dC, dI) vwCl (Wd cy u sh8 n8 z8) t.heap ∧ va_K (dC, dI) vwCl (TYS cy) t ∧ va_D (va_A (Wd cy a0 sh0 n0 z0) sz) (Wd cy u sh8 n8 z8)) (va_A (Wd cy a0 sh0 n0 z0) sz)) 8 4386 (va_A (Wd cy a0 sh0 n0 z0) sz) := by
  refine Met.ofW (cc := cX16_init) (maxL := 1) (ret := none) (by decide) rfl ?_
  intro p e s m args below meth c s₁ B hml hv
  obtain ⟨rfl, hsz, hP, hK, hD0, hN⟩ := hv
  have hx := B.exec
  have hb := B.bytes
  have hr := B.returns
  have hts := atoms_spec (ws := wsX16_init) B.pre
  have hown : s.vm.findClass RX16 = some m.cls := findClass_of_methodNamed B.named
  have hlocks := B.notSynchronized
  have hin : meth.name = "<init>" := (name_of_methodNamed B.named B.method).1
  subst hsz
  have hD := hD0.self (sz := s.heap.size)
  clear hD0
  generalize hAe : va_A (Wd cy a0 sh0 n0 z0) s.heap.size = A at hD ⊢
  have hA : ∀ q : Nat, s.heap.size ≤ q → A q := fun q h => by rw [← hAe]; exact Or.inr h
  clear hAe
  have hS : va_S A s.heap s.heap [] := va_S.rf
  have hl := lv_entry ([.ref (a0 h0)]) (n := 1) (Nat.le_of_ble_eq_true rfl)
  rw [lg_entry_eq]
  generalize (lg_sl ([.ref (a0 h0)]) ++ List.replicate (1 - (lg_sl ([.ref (a0 h0)])).length) Slot.unset).toArray = ls at hl ⊢
  replace hl : lv_has ls 1 [(0, .ref (a0 h0))] := hl
  unfold fa_X16_init at hf
  refine da_start (fn := fun sh n z => fa_X16_init F sh n z h0) (av := fun a => [(0, .ref (a h0))]) (sk := fun q => True) hf hk0 hS hD hP hl trivial (fun a sh n z H locs hf hag hk hS hD hP hl hSK => ?_)
  unfold fa_X16_init at hf
  try dsimp only at hf hl hSK
  refine lv_aload_n hx hb dX16_init_0 rfl (lv_at hl 0 rfl) ?_
  refine W.objInit hx hb hown (hts _ md_X16_init_1) (hts _ md_X16_init_2) (hts _ md_X16_init_3) rfl (by rw [hml]; exact hl.1) rfl dX16_init_1 (Nat.le_of_ble_eq_true rfl) (Nat.le_of_ble_eq_true rfl) ?_
  refine W.eq (g2 := F0 m 4 ls []) rfl ?_
  refine lv_aload_n hx hb dX16_init_4 rfl (lv_at hl 0 rfl) ?_
  refine lv_sipush (v := 2048) hx hb dX16_init_5 (by decide) ?_
  obtain ⟨g_1, hf⟩ := grd_some hf
  refine de_newa (atype := .byte) (ty := .byte) (t := 0) (N := 2048) (a0 := (2048, .inl (fun _ => 0))) hf hk hx hb (hts _ md_X16_init_4) rfl hK hP hD hS hA rfl rfl (fun _ => rfl) (by decide) (by decide) (Nat.le_of_ble_eq_true rfl) (Nat.le_of_ble_eq_true rfl) (Nat.le_of_ble_eq_true rfl) dX16_init_8 (fun a sh n z_2 k_3 H_4 hf hax hk hnn hP hD hS => ?_)
  refine W.eq (g2 := F0 m 10 ls [.ref (a k_3), .ref (a h0)]) (by rw [hax h0 (okN_at g_1)]) ?_
  replace hl : lv_has ls 1 [(0, .ref (a h0))] := by rw [hax h0 (okN_at g_1)]; exact hl
  replace hag := hag_new hag hax hnn
  clear hax hnn
  refine W.widen (k := 1) (n := 2048) (Nat.le_of_ble_eq_true rfl) (Nat.le_of_ble_eq_true rfl) ?_
  obtain ⟨g_5, hf⟩ := grd_some hf
  obtain ⟨g_6, hf⟩ := grd_some hf
  obtain ⟨kg_6, sg_6⟩ := okO_at g_6
  refine va_putF (D := (dC, dI)) (ci := 16) (v := .ref (a k_3)) (ty := .array .byte) (C := RX16) (T := TX16) (N := 18) hx hb hts iwd_X16_init_X16 tyX16 tyX16_ok nmX16 hown hK hP hD hS h0 (Wd_ob kg_6 sg_6 (by decide)) rfl 0 (by decide) (hts _ md_X16_init_5) (fun _ h9 => h9) rfl hin rfl (by decide +kernel) rfl rfl (by rw [fl_len]; decide) dX16_init_10 (fun H_7 locs hP2 hD2 hS2 => ?_)
  rw [Wd_sq1 sg_6 (by decide) rfl] at hP2 hD2
  obtain ⟨z_8, ez_8⟩ : ∃ w, w = sq z_2 h0 0 (some k_3) := ⟨_, rfl⟩
  rw [← ez_8] at hP2 hD2
  replace hf := lt_at ez_8 hf
  replace hk : lk z_8 n := by rw [ez_8]; exact lk_sq1 hk (okN_at g_5)
  clear ez_8
  replace hP := hP2
  replace hD := hD2
  replace hS := hS2
  clear hP2 hD2 hS2
  refine lv_aload_n hx hb dX16_init_13 rfl (lv_at hl 0 rfl) ?_
  refine lv_bipush (v := 64) hx hb dX16_init_14 (by decide) ?_
  obtain ⟨g_9, hf⟩ := grd_some hf
  refine de_newa (atype := .int) (ty := .int) (t := 1) (N := 64) (a0 := (64, .inl (fun _ => 0))) hf hk hx hb (hts _ md_X16_init_6) rfl hK hP hD hS hA rfl rfl (fun _ => rfl) (by decide) (by decide) (Nat.le_of_ble_eq_true rfl) (Nat.le_of_ble_eq_true rfl) (Nat.le_of_ble_eq_true rfl) dX16_init_16 (fun a sh n z_10 k_11 H_12 hf hax hk hnn hP hD hS => ?_)
  refine W.eq (g2 := F0 m 18 ls [.ref (a k_11), .ref (a h0)]) (by rw [hax h0 (okN_at g_9)]) ?_
  replace hl : lv_has ls 1 [(0, .ref (a h0))] := by rw [hax h0 (okN_at g_9)]; exact hl
  replace hag := hag_new hag hax hnn
  clear hax hnn
  refine W.widen (k := 2) (n := 2112) (Nat.le_of_ble_eq_true rfl) (Nat.le_of_ble_eq_true rfl) ?_
  obtain ⟨g_13, hf⟩ := grd_some hf
  obtain ⟨g_14, hf⟩ := grd_some hf
  obtain ⟨kg_14, sg_14⟩ := okO_at g_14
  refine va_putF (D := (dC, dI)) (ci := 16) (v := .ref (a k_11)) (ty := .array .int) (C := RX16) (T := TX16) (N := 18) hx hb hts iwd_X16_init_X16 tyX16 tyX16_ok nmX16 hown hK hP hD hS h0 (Wd_ob kg_14 sg_14 (by decide)) rfl 11 (by decide) (hts _ md_X16_init_7) (fun _ h9 => h9) rfl hin rfl (by decide +kernel) rfl rfl (by rw [fl_len]; decide) dX16_init_18 (fun H_15 locs hP2 hD2 hS2 => ?_)
  rw [Wd_sq1 sg_14 (by decide) rfl] at hP2 hD2
  obtain ⟨z_16, ez_16⟩ : ∃ w, w = sq z_10 h0 11 (some k_11) := ⟨_, rfl⟩
  rw [← ez_16] at hP2 hD2
  replace hf := lt_at ez_16 hf
  replace hk : lk z_16 n := by rw [ez_16]; exact lk_sq1 hk (okN_at g_13)
  clear ez_16
  replace hP := hP2
  replace hD := hD2
  replace hS := hS2
  clear hP2 hD2 hS2
  refine lv_aload_n hx hb dX16_init_21 rfl (lv_at hl 0 rfl) ?_
  refine lv_bipush (v := 32) hx hb dX16_init_22 (by decide) ?_
  obtain ⟨g_17, hf⟩ := grd_some hf
  refine de_newa (atype := .int) (ty := .int) (t := 1) (N := 32) (a0 := (32, .inl (fun _ => 0))) hf hk hx hb (hts _ md_X16_init_6) rfl hK hP hD hS hA rfl rfl (fun _ => rfl) (by decide) (by decide) (Nat.le_of_ble_eq_true rfl) (Nat.le_of_ble_eq_true rfl) (Nat.le_of_ble_eq_true rfl) dX16_init_24 (fun a sh n z_18 k_19 H_20 hf hax hk hnn hP hD hS => ?_)
  refine W.eq (g2 := F0 m 26 ls [.ref (a k_19), .ref (a h0)]) (by rw [hax h0 (okN_at g_17)]) ?_
  replace hl : lv_has ls 1 [(0, .ref (a h0))] := by rw [hax h0 (okN_at g_17)]; exact hl
  replace hag := hag_new hag hax hnn
  clear hax hnn
  refine W.widen (k := 3) (n := 2144) (Nat.le_of_ble_eq_true rfl) (Nat.le_of_ble_eq_true rfl) ?_
  obtain ⟨g_21, hf⟩ := grd_some hf
  obtain ⟨g_22, hf⟩ := grd_some hf
  obtain ⟨kg_22, sg_22⟩ := okO_at g_22
  refine va_putF (D := (dC, dI)) (ci := 16) (v := .ref (a k_19)) (ty := .array .int) (C := RX16) (T := TX16) (N := 18) hx hb hts iwd_X16_init_X16 tyX16 tyX16_ok nmX16 hown hK hP hD hS h0 (Wd_ob kg_22 sg_22 (by decide)) rfl 12 (by decide) (hts _ md_X16_init_8) (fun _ h9 => h9) rfl hin rfl (by decide +kernel) rfl rfl (by rw [fl_len]; decide) dX16_init_26 (fun H_23 locs hP2 hD2 hS2 => ?_)
  rw [Wd_sq1 sg_22 (by decide) rfl] at hP2 hD2
  obtain ⟨z_24, ez_24⟩ : ∃ w, w = sq z_18 h0 12 (some k_19) := ⟨_, rfl⟩
  rw [← ez_24] at hP2 hD2
  replace hf := lt_at ez_24 hf
  replace hk : lk z_24 n := by rw [ez_24]; exact lk_sq1 hk (okN_at g_21)
  clear ez_24
  replace hP := hP2
  replace hD := hD2
  replace hS := hS2
  clear hP2 hD2 hS2
  refine lv_aload_n hx hb dX16_init_29 rfl (lv_at hl 0 rfl) ?_
  refine lv_bipush (v := 32) hx hb dX16_init_30 (by decide) ?_
  obtain ⟨g_25, hf⟩ := grd_some hf
  refine de_newa (atype := .int) (ty := .int) (t := 1) (N := 32) (a0 := (32, .inl (fun _ => 0))) hf hk hx hb (hts _ md_X16_init_6) rfl hK hP hD hS hA rfl rfl (fun _ => rfl) (by decide) (by decide) (Nat.le_of_ble_eq_true rfl) (Nat.le_of_ble_eq_true rfl) (Nat.le_of_ble_eq_true rfl) dX16_init_32 (fun a sh n z_26 k_27 H_28 hf hax hk hnn hP hD hS => ?_)
  refine W.eq (g2 := F0 m 34 ls [.ref (a k_27), .ref (a h0)]) (by rw [hax h0 (okN_at g_25)]) ?_
  replace hl : lv_has ls 1 [(0, .ref (a h0))] := by rw [hax h0 (okN_at g_25)]; exact hl
  replace hag := hag_new hag hax hnn
  clear hax hnn
  refine W.widen (k := 4) (n := 2176) (Nat.le_of_ble_eq_true rfl) (Nat.le_of_ble_eq_true rfl) ?_
  obtain ⟨g_29, hf⟩ := grd_some hf
  obtain ⟨g_30, hf⟩ := grd_some hf
  obtain ⟨kg_30, sg_30⟩ := okO_at g_30
  refine va_putF (D := (dC, dI)) (ci := 16) (v := .ref (a k_27)) (ty := .array .int) (C := RX16) (T := TX16) (N := 18) hx hb hts iwd_X16_init_X16 tyX16 tyX16_ok nmX16 hown hK hP hD hS h0 (Wd_ob kg_30 sg_30 (by decide)) rfl 13 (by decide) (hts _ md_X16_init_9) (fun _ h9 => h9) rfl hin rfl (by decide +kernel) rfl rfl (by rw [fl_len]; decide) dX16_init_34 (fun H_31 locs hP2 hD2 hS2 => ?_)
  rw [Wd_sq1 sg_30 (by decide) rfl] at hP2 hD2
  obtain ⟨z_32, ez_32⟩ : ∃ w, w = sq z_26 h0 13 (some k_27) := ⟨_, rfl⟩
  rw [← ez_32] at hP2 hD2
  replace hf := lt_at ez_32 hf
  replace hk : lk z_32 n := by rw [ez_32]; exact lk_sq1 hk (okN_at g_29)
  clear ez_32
  replace hP := hP2
  replace hD := hD2
  replace hS := hS2
  clear hP2 hD2 hS2
  refine lv_aload_n hx hb dX16_init_37 rfl (lv_at hl 0 rfl) ?_
  refine lv_bipush (v := 64) hx hb dX16_init_38 (by decide) ?_
  obtain ⟨g_33, hf⟩ := grd_some hf
  refine de_newa (atype := .int) (ty := .int) (t := 1) (N := 64) (a0 := (64, .inl (fun _ => 0))) hf hk hx hb (hts _ md_X16_init_6) rfl hK hP hD hS hA rfl rfl (fun _ => rfl) (by decide) (by decide) (Nat.le_of_ble_eq_true rfl) (Nat.le_of_ble_eq_true rfl) (Nat.le_of_ble_eq_true rfl) dX16_init_40 (fun a sh n z_34 k_35 H_36 hf hax hk hnn hP hD hS => ?_)
  refine W.eq (g2 := F0 m 42 ls [.ref (a k_35), .ref (a h0)]) (by rw [hax h0 (okN_at g_33)]) ?_
  replace hl : lv_has ls 1 [(0, .ref (a h0))] := by rw [hax h0 (okN_at g_33)]; exact hl
  replace hag := hag_new hag hax hnn
  clear hax hnn
  refine W.widen (k := 5) (n := 2240) (Nat.le_of_ble_eq_true rfl) (Nat.le_of_ble_eq_true rfl) ?_
  obtain ⟨g_37, hf⟩ := grd_some hf
  obtain ⟨g_38, hf⟩ := grd_some hf
  obtain ⟨kg_38, sg_38⟩ := okO_at g_38
  refine va_putF (D := (dC, dI)) (ci := 16) (v := .ref (a k_35)) (ty := .array .int) (C := RX16) (T := TX16) (N := 18) hx hb hts iwd_X16_init_X16 tyX16 tyX16_ok nmX16 hown hK hP hD hS h0 (Wd_ob kg_38 sg_38 (by decide)) rfl 14 (by decide) (hts _ md_X16_init_10) (fun _ h9 => h9) rfl hin rfl (by decide +kernel) rfl rfl (by rw [fl_len]; decide) dX16_init_42 (fun H_39 locs hP2 hD2 hS2 => ?_)
  rw [Wd_sq1 sg_38 (by decide) rfl] at hP2 hD2
  obtain ⟨z_40, ez_40⟩ : ∃ w, w = sq z_34 h0 14 (some k_35) := ⟨_, rfl⟩
  rw [← ez_40] at hP2 hD2
  replace hf := lt_at ez_40 hf
  replace hk : lk z_40 n := by rw [ez_40]; exact lk_sq1 hk (okN_at g_37)
  clear ez_40
  replace hP := hP2
  replace hD := hD2
  replace hS := hS2
  clear hP2 hD2 hS2
  refine lv_aload_n hx hb dX16_init_45 rfl (lv_at hl 0 rfl) ?_
  refine lv_bipush (v := 65) hx hb dX16_init_46 (by decide) ?_
  obtain ⟨g_41, hf⟩ := grd_some hf
  refine de_newa (atype := .int) (ty := .int) (t := 1) (N := 65) (a0 := (65, .inl (fun _ => 0))) hf hk hx hb (hts _ md_X16_init_6) rfl hK hP hD hS hA rfl rfl (fun _ => rfl) (by decide) (by decide) (Nat.le_of_ble_eq_true rfl) (Nat.le_of_ble_eq_true rfl) (Nat.le_of_ble_eq_true rfl) dX16_init_48 (fun a sh n z_42 k_43 H_44 hf hax hk hnn hP hD hS => ?_)
  refine W.eq (g2 := F0 m 50 ls [.ref (a k_43), .ref (a h0)]) (by rw [hax h0 (okN_at g_41)]) ?_
  replace hl : lv_has ls 1 [(0, .ref (a h0))] := by rw [hax h0 (okN_at g_41)]; exact hl
  replace hag := hag_new hag hax hnn
  clear hax hnn
  refine W.widen (k := 6) (n := 2305) (Nat.le_of_ble_eq_true rfl) (Nat.le_of_ble_eq_true rfl) ?_
  obtain ⟨g_45, hf⟩ := grd_some hf
  obtain ⟨g_46, hf⟩ := grd_some hf
  obtain ⟨kg_46, sg_46⟩ := okO_at g_46
  refine va_putF (D := (dC, dI)) (ci := 16) (v := .ref (a k_43)) (ty := .array .int) (C := RX16) (T := TX16) (N := 18) hx hb hts iwd_X16_init_X16 tyX16 tyX16_ok nmX16 hown hK hP hD hS h0 (Wd_ob kg_46 sg_46 (by decide)) rfl 15 (by decide) (hts _ md_X16_init_11) (fun _ h9 => h9) rfl hin rfl (by decide +kernel) rfl rfl (by rw [fl_len]; decide) dX16_init_50 (fun H_47 locs hP2 hD2 hS2 => ?_)
  rw [Wd_sq1 sg_46 (by decide) rfl] at hP2 hD2
  obtain ⟨z_48, ez_48⟩ : ∃ w, w = sq z_42 h0 15 (some k_43) := ⟨_, rfl⟩
  rw [← ez_48] at hP2 hD2
  replace hf := lt_at ez_48 hf
  replace hk : lk z_48 n := by rw [ez_48]; exact lk_sq1 hk (okN_at g_45)
  clear ez_48
  replace hP := hP2
  replace hD := hD2
  replace hS := hS2
  clear hP2 hD2 hS2
  refine lv_aload_n hx hb dX16_init_53 rfl (lv_at hl 0 rfl) ?_
  refine lv_sipush (v := 2049) hx hb dX16_init_54 (by decide) ?_
  obtain ⟨g_49, hf⟩ := grd_some hf
  refine de_newa (atype := .int) (ty := .int) (t := 1) (N := 2049) (a0 := (2049, .inl (fun _ => 0))) hf hk hx hb (hts _ md_X16_init_6) rfl hK hP hD hS hA rfl rfl (fun _ => rfl) (by decide) (by decide) (Nat.le_of_ble_eq_true rfl) (Nat.le_of_ble_eq_true rfl) (Nat.le_of_ble_eq_true rfl) dX16_init_57 (fun a sh n z_50 k_51 H_52 hf hax hk hnn hP hD hS => ?_)
  refine W.eq (g2 := F0 m 59 ls [.ref (a k_51), .ref (a h0)]) (by rw [hax h0 (okN_at g_49)]) ?_
  replace hl : lv_has ls 1 [(0, .ref (a h0))] := by rw [hax h0 (okN_at g_49)]; exact hl
  replace hag := hag_new hag hax hnn
  clear hax hnn
  refine W.widen (k := 7) (n := 4354) (Nat.le_of_ble_eq_true rfl) (Nat.le_of_ble_eq_true rfl) ?_
  obtain ⟨g_53, hf⟩ := grd_some hf
  obtain ⟨g_54, hf⟩ := grd_some hf
  obtain ⟨kg_54, sg_54⟩ := okO_at g_54
  refine va_putF (D := (dC, dI)) (ci := 16) (v := .ref (a k_51)) (ty := .array .int) (C := RX16) (T := TX16) (N := 18) hx hb hts iwd_X16_init_X16 tyX16 tyX16_ok nmX16 hown hK hP hD hS h0 (Wd_ob kg_54 sg_54 (by decide)) rfl 16 (by decide) (hts _ md_X16_init_12) (fun _ h9 => h9) rfl hin rfl (by decide +kernel) rfl rfl (by rw [fl_len]; decide) dX16_init_59 (fun H_55 locs hP2 hD2 hS2 => ?_)
  rw [Wd_sq1 sg_54 (by decide) rfl] at hP2 hD2
  obtain ⟨z_56, ez_56⟩ : ∃ w, w = sq z_50 h0 16 (some k_51) := ⟨_, rfl⟩
  rw [← ez_56] at hP2 hD2
  replace hf := lt_at ez_56 hf
  replace hk : lk z_56 n := by rw [ez_56]; exact lk_sq1 hk (okN_at g_53)
  clear ez_56
  replace hP := hP2
  replace hD := hD2
  replace hS := hS2
  clear hP2 hD2 hS2
  refine lv_aload_n hx hb dX16_init_62 rfl (lv_at hl 0 rfl) ?_
  refine lv_bipush (v := 32) hx hb dX16_init_63 (by decide) ?_
  obtain ⟨g_57, hf⟩ := grd_some hf
  refine de_newa (atype := .boolean) (ty := .boolean) (t := 3) (N := 32) (a0 := (32, .inl (fun _ => 0))) hf hk hx hb (hts _ md_X16_init_13) rfl hK hP hD hS hA rfl rfl (fun _ => rfl) (by decide) (by decide) (Nat.le_of_ble_eq_true rfl) (Nat.le_of_ble_eq_true rfl) (Nat.le_of_ble_eq_true rfl) dX16_init_65 (fun a sh n z_58 k_59 H_60 hf hax hk hnn hP hD hS => ?_)
  refine W.eq (g2 := F0 m 67 ls [.ref (a k_59), .ref (a h0)]) (by rw [hax h0 (okN_at g_57)]) ?_
  replace hl : lv_has ls 1 [(0, .ref (a h0))] := by rw [hax h0 (okN_at g_57)]; exact hl
  replace hag := hag_new hag hax hnn
  clear hax hnn
  refine W.widen (k := 8) (n := 4386) (Nat.le_of_ble_eq_true rfl) (Nat.le_of_ble_eq_true rfl) ?_
  obtain ⟨g_61, hf⟩ := grd_some hf
  obtain ⟨g_62, hf⟩ := grd_some hf
  obtain ⟨kg_62, sg_62⟩ := okO_at g_62
  refine va_putF (D := (dC, dI)) (ci := 16) (v := .ref (a k_59)) (ty := .array .boolean) (C := RX16) (T := TX16) (N := 18) hx hb hts iwd_X16_init_X16 tyX16 tyX16_ok nmX16 hown hK hP hD hS h0 (Wd_ob kg_62 sg_62 (by decide)) rfl 17 (by decide) (hts _ md_X16_init_14) (fun _ h9 => h9) rfl hin rfl (by decide +kernel) rfl rfl (by rw [fl_len]; decide) dX16_init_67 (fun H_63 locs hP2 hD2 hS2 => ?_)
  rw [Wd_sq1 sg_62 (by decide) rfl] at hP2 hD2
  obtain ⟨z_64, ez_64⟩ : ∃ w, w = sq z_58 h0 17 (some k_59) := ⟨_, rfl⟩
  rw [← ez_64] at hP2 hD2
  replace hf := lt_at ez_64 hf
  replace hk : lk z_64 n := by rw [ez_64]; exact lk_sq1 hk (okN_at g_61)
  clear ez_64
  replace hP := hP2
  replace hD := hD2
  replace hS := hS2
  clear hP2 hD2 hS2
  obtain ⟨h5, h6, h8, h9⟩ := rta_some hf
  rw [h5, h6, h8]
  exact W.vret hx hb hr (fun t ht hW => ⟨⟨a, rfl, ⟨hag, hk⟩, by rw [ht]; exact hP, va_K.moved hW.alike hK, hD⟩, hS.F ht⟩) hS.2.2 dX16_init_70

theorem md_X17_init_1 : (.methodLink RX17 1 objectInit : Cond) ∈ wsX17_init := List.mem_of_getElem? (i := 1) rfl
theorem md_X17_init_2 : (.instanceMethod objectInit : Cond) ∈ wsX17_init := List.mem_of_getElem? (i := 2) rfl
theorem md_X17_init_3 : (.code objectInit ⟨#[0xb1]⟩ 1 none : Cond) ∈ wsX17_init := List.mem_of_getElem? (i := 3) rfl
theorem md_X17_init_4 : (.arrayClass .int : Cond) ∈ wsX17_init := List.mem_of_getElem? (i := 4) rfl
theorem md_X17_init_5 : (.fieldLink RX17 7 "ResourceLedgerModel$Wide" "a" "[I" : Cond) ∈ wsX17_init := List.mem_of_getElem? (i := 5) rfl
theorem iwd_X17_init_X17 : ∀ w ∈ wsX170, w ∈ wsX17_init := fun _ h => List.mem_cons_of_mem _ (List.mem_append_right _ h)
theorem md_X17_init_6 : (.fieldLink RX17 13 "ResourceLedgerModel$Wide" "b" "[I" : Cond) ∈ wsX17_init := List.mem_of_getElem? (i := 6) rfl
theorem md_X17_init_7 : (.fieldLink RX17 16 "ResourceLedgerModel$Wide" "\x72" "[I" : Cond) ∈ wsX17_init := List.mem_of_getElem? (i := 7) rfl
set_option maxHeartbeats 4000000 in
set_option maxRecDepth 100000 in
theorem da_X17_init (l : Launch) (dC : Nat → ClassId) (dI : Nat → Nat → Nat) (cy : Nat → ClassId) (a0 : Nat → Nat) (sh0 : Nat → Nat × Nat) (n0 sz : Nat) (F : Nat) (z0 : St) (h0 : Nat) (hk0 : lk z0 n0) {sh8 : Nat → Nat × Nat} {n8 : Nat} {z8 : St} {r8 : Unit} (hf : fa_X17_init F sh0 n0 z0 h0 = some (sh8, n8, z8, r8)) : Met l yX17_init wsX17_init ({ frames := 1, cells := 3, slots := 65, locals := 12 }) (va_Pc [.ref (a0 h0)] (fun U => U.heap.size = sz ∧ va_P (dC, dI) vwCl (Wd cy a0 sh0 n0 z0) U.heap ∧ va_K (dC, dI) vwCl (TYS cy) U ∧ va_D (fun _ => True) (Wd cy a0 sh0 n0 z0) ∧ NK U)) (va_Qv (fun u : Nat → Nat => ((∀ k, k < n0 ∨ k = CBK → u k = a0 k) ∧ n0 ≤ n8) ∧ lk z8 n8) (fun u t => va_P (dC, dI) vwCl (Wd cy u sh8 n8 z8) t.heap ∧ va_K (dC, dI) vwCl (TYS cy) t ∧ va_D (va_A (Wd cy a0 sh0 n0 z0) sz) (Wd cy u sh8 n8 z8)) (va_A (Wd cy a0 sh0 n0 z0) sz)) 3 65 (va_A (Wd cy a0 sh0 n0 z0) sz) := by
  refine Met.ofW (cc := cX17_init) (maxL := 1) (ret := none) (by decide) rfl ?_
  intro p e s m args below meth c s₁ B hml hv
  obtain ⟨rfl, hsz, hP, hK, hD0, hN⟩ := hv
  have hx := B.exec
  have hb := B.bytes
  have hr := B.returns
  have hts := atoms_spec (ws := wsX17_init) B.pre
  have hown : s.vm.findClass RX17 = some m.cls := findClass_of_methodNamed B.named
  have hlocks := B.notSynchronized
  have hin : meth.name = "<init>" := (name_of_methodNamed B.named B.method).1
  subst hsz
  have hD := hD0.self (sz := s.heap.size)
  clear hD0
  generalize hAe : va_A (Wd cy a0 sh0 n0 z0) s.heap.size = A at hD ⊢
  have hA : ∀ q : Nat, s.heap.size ≤ q → A q := fun q h => by rw [← hAe]; exact Or.inr h
  clear hAe
  have hS : va_S A s.heap s.heap [] := va_S.rf
  have hl := lv_entry ([.ref (a0 h0)]) (n := 1) (Nat.le_of_ble_eq_true rfl)
  rw [lg_entry_eq]
  generalize (lg_sl ([.ref (a0 h0)]) ++ List.replicate (1 - (lg_sl ([.ref (a0 h0)])).length) Slot.unset).toArray = ls at hl ⊢
  replace hl : lv_has ls 1 [(0, .ref (a0 h0))] := hl
  unfold fa_X17_init at hf
  refine da_start (fn := fun sh n z => fa_X17_init F sh n z h0) (av := fun a => [(0, .ref (a h0))]) (sk := fun q => True) hf hk0 hS hD hP hl trivial (fun a sh n z H locs hf hag hk hS hD hP hl hSK => ?_)
  unfold fa_X17_init at hf
  try dsimp only at hf hl hSK
  refine lv_aload_n hx hb dX17_init_0 rfl (lv_at hl 0 rfl) ?_
  refine W.objInit hx hb hown (hts _ md_X17_init_1) (hts _ md_X17_init_2) (hts _ md_X17_init_3) rfl (by rw [hml]; exact hl.1) rfl dX17_init_1 (Nat.le_of_ble_eq_true rfl) (Nat.le_of_ble_eq_true rfl) ?_
  refine W.eq (g2 := F0 m 4 ls []) rfl ?_
  refine lv_aload_n hx hb dX17_init_4 rfl (lv_at hl 0 rfl) ?_
  refine lv_bipush (v := 16) hx hb dX17_init_5 (by decide) ?_
  obtain ⟨g_1, hf⟩ := grd_some hf
  refine de_newa (atype := .int) (ty := .int) (t := 1) (N := 16) (a0 := (16, .inl (fun _ => 0))) hf hk hx hb (hts _ md_X17_init_4) rfl hK hP hD hS hA rfl rfl (fun _ => rfl) (by decide) (by decide) (Nat.le_of_ble_eq_true rfl) (Nat.le_of_ble_eq_true rfl) (Nat.le_of_ble_eq_true rfl) dX17_init_7 (fun a sh n z_2 k_3 H_4 hf hax hk hnn hP hD hS => ?_)
  refine W.eq (g2 := F0 m 9 ls [.ref (a k_3), .ref (a h0)]) (by rw [hax h0 (okN_at g_1)]) ?_
  replace hl : lv_has ls 1 [(0, .ref (a h0))] := by rw [hax h0 (okN_at g_1)]; exact hl
  replace hag := hag_new hag hax hnn
  clear hax hnn
  refine W.widen (k := 1) (n := 16) (Nat.le_of_ble_eq_true rfl) (Nat.le_of_ble_eq_true rfl) ?_
  obtain ⟨g_5, hf⟩ := grd_some hf
  obtain ⟨g_6, hf⟩ := grd_some hf
  obtain ⟨kg_6, sg_6⟩ := okO_at g_6
  refine va_putF (D := (dC, dI)) (ci := 17) (v := .ref (a k_3)) (ty := .array .int) (C := RX17) (T := TX17) (N := 5) hx hb hts iwd_X17_init_X17 tyX17 tyX17_ok nmX17 hown hK hP hD hS h0 (Wd_ob kg_6 sg_6 (by decide)) rfl 0 (by decide) (hts _ md_X17_init_5) (fun _ h9 => h9) rfl hin rfl (by decide +kernel) rfl rfl (by rw [fl_len]; decide) dX17_init_9 (fun H_7 locs hP2 hD2 hS2 => ?_)
  rw [Wd_sq1 sg_6 (by decide) rfl] at hP2 hD2
  obtain ⟨z_8, ez_8⟩ : ∃ w, w = sq z_2 h0 0 (some k_3) := ⟨_, rfl⟩
  rw [← ez_8] at hP2 hD2
  replace hf := lt_at ez_8 hf
  replace hk : lk z_8 n := by rw [ez_8]; exact lk_sq1 hk (okN_at g_5)
  clear ez_8
  replace hP := hP2
  replace hD := hD2
  replace hS := hS2
  clear hP2 hD2 hS2
  refine lv_aload_n hx hb dX17_init_12 rfl (lv_at hl 0 rfl) ?_
  refine lv_bipush (v := 16) hx hb dX17_init_13 (by decide) ?_
  obtain ⟨g_9, hf⟩ := grd_some hf
  refine de_newa (atype := .int) (ty := .int) (t := 1) (N := 16) (a0 := (16, .inl (fun _ => 0))) hf hk hx hb (hts _ md_X17_init_4) rfl hK hP hD hS hA rfl rfl (fun _ => rfl) (by decide) (by decide) (Nat.le_of_ble_eq_true rfl) (Nat.le_of_ble_eq_true rfl) (Nat.le_of_ble_eq_true rfl) dX17_init_15 (fun a sh n z_10 k_11 H_12 hf hax hk hnn hP hD hS => ?_)
  refine W.eq (g2 := F0 m 17 ls [.ref (a k_11), .ref (a h0)]) (by rw [hax h0 (okN_at g_9)]) ?_
  replace hl : lv_has ls 1 [(0, .ref (a h0))] := by rw [hax h0 (okN_at g_9)]; exact hl
  replace hag := hag_new hag hax hnn
  clear hax hnn
  refine W.widen (k := 2) (n := 32) (Nat.le_of_ble_eq_true rfl) (Nat.le_of_ble_eq_true rfl) ?_
  obtain ⟨g_13, hf⟩ := grd_some hf
  obtain ⟨g_14, hf⟩ := grd_some hf
  obtain ⟨kg_14, sg_14⟩ := okO_at g_14
  refine va_putF (D := (dC, dI)) (ci := 17) (v := .ref (a k_11)) (ty := .array .int) (C := RX17) (T := TX17) (N := 5) hx hb hts iwd_X17_init_X17 tyX17 tyX17_ok nmX17 hown hK hP hD hS h0 (Wd_ob kg_14 sg_14 (by decide)) rfl 1 (by decide) (hts _ md_X17_init_6) (fun _ h9 => h9) rfl hin rfl (by decide +kernel) rfl rfl (by rw [fl_len]; decide) dX17_init_17 (fun H_15 locs hP2 hD2 hS2 => ?_)
  rw [Wd_sq1 sg_14 (by decide) rfl] at hP2 hD2
  obtain ⟨z_16, ez_16⟩ : ∃ w, w = sq z_10 h0 1 (some k_11) := ⟨_, rfl⟩
  rw [← ez_16] at hP2 hD2
  replace hf := lt_at ez_16 hf
  replace hk : lk z_16 n := by rw [ez_16]; exact lk_sq1 hk (okN_at g_13)
  clear ez_16
  replace hP := hP2
  replace hD := hD2
  replace hS := hS2
  clear hP2 hD2 hS2
  refine lv_aload_n hx hb dX17_init_20 rfl (lv_at hl 0 rfl) ?_
  refine lv_bipush (v := 33) hx hb dX17_init_21 (by decide) ?_
  obtain ⟨g_17, hf⟩ := grd_some hf
  refine de_newa (atype := .int) (ty := .int) (t := 1) (N := 33) (a0 := (33, .inl (fun _ => 0))) hf hk hx hb (hts _ md_X17_init_4) rfl hK hP hD hS hA rfl rfl (fun _ => rfl) (by decide) (by decide) (Nat.le_of_ble_eq_true rfl) (Nat.le_of_ble_eq_true rfl) (Nat.le_of_ble_eq_true rfl) dX17_init_23 (fun a sh n z_18 k_19 H_20 hf hax hk hnn hP hD hS => ?_)
  refine W.eq (g2 := F0 m 25 ls [.ref (a k_19), .ref (a h0)]) (by rw [hax h0 (okN_at g_17)]) ?_
  replace hl : lv_has ls 1 [(0, .ref (a h0))] := by rw [hax h0 (okN_at g_17)]; exact hl
  replace hag := hag_new hag hax hnn
  clear hax hnn
  refine W.widen (k := 3) (n := 65) (Nat.le_of_ble_eq_true rfl) (Nat.le_of_ble_eq_true rfl) ?_
  obtain ⟨g_21, hf⟩ := grd_some hf
  obtain ⟨g_22, hf⟩ := grd_some hf
  obtain ⟨kg_22, sg_22⟩ := okO_at g_22
  refine va_putF (D := (dC, dI)) (ci := 17) (v := .ref (a k_19)) (ty := .array .int) (C := RX17) (T := TX17) (N := 5) hx hb hts iwd_X17_init_X17 tyX17 tyX17_ok nmX17 hown hK hP hD hS h0 (Wd_ob kg_22 sg_22 (by decide)) rfl 2 (by decide) (hts _ md_X17_init_7) (fun _ h9 => h9) rfl hin rfl (by decide +kernel) rfl rfl (by rw [fl_len]; decide) dX17_init_25 (fun H_23 locs hP2 hD2 hS2 => ?_)
  rw [Wd_sq1 sg_22 (by decide) rfl] at hP2 hD2
  obtain ⟨z_24, ez_24⟩ : ∃ w, w = sq z_18 h0 2 (some k_19) := ⟨_, rfl⟩
  rw [← ez_24] at hP2 hD2
  replace hf := lt_at ez_24 hf
  replace hk : lk z_24 n := by rw [ez_24]; exact lk_sq1 hk (okN_at g_21)
  clear ez_24
  replace hP := hP2
  replace hD := hD2
  replace hS := hS2
  clear hP2 hD2 hS2
  obtain ⟨h5, h6, h8, h9⟩ := rta_some hf
  rw [h5, h6, h8]
  exact W.vret hx hb hr (fun t ht hW => ⟨⟨a, rfl, ⟨hag, hk⟩, by rw [ht]; exact hP, va_K.moved hW.alike hK, hD⟩, hS.F ht⟩) hS.2.2 dX17_init_28

theorem md_X2_init_1 : (.methodLink RX2 3 objectInit : Cond) ∈ wsX2_init := List.mem_of_getElem? (i := 1) rfl
theorem md_X2_init_2 : (.instanceMethod objectInit : Cond) ∈ wsX2_init := List.mem_of_getElem? (i := 2) rfl
theorem md_X2_init_3 : (.code objectInit ⟨#[0xb1]⟩ 1 none : Cond) ∈ wsX2_init := List.mem_of_getElem? (i := 3) rfl
theorem md_X2_init_4 : (.arrayClass .int : Cond) ∈ wsX2_init := List.mem_of_getElem? (i := 4) rfl
theorem md_X2_init_5 : (.fieldLink RX2 11 "ResourceLedger$Journal" "kind" "[I" : Cond) ∈ wsX2_init := List.mem_of_getElem? (i := 5) rfl
theorem iwd_X2_init_X2 : ∀ w ∈ wsX20, w ∈ wsX2_init := fun _ h => List.mem_cons_of_mem _ (List.mem_append_right _ h)
theorem md_X2_init_6 : (.arrayClass .long : Cond) ∈ wsX2_init := List.mem_of_getElem? (i := 6) rfl
theorem md_X2_init_7 : (.fieldLink RX2 15 "ResourceLedger$Journal" "address" "[J" : Cond) ∈ wsX2_init := List.mem_of_getElem? (i := 7) rfl
theorem md_X2_init_8 : (.fieldLink RX2 19 "ResourceLedger$Journal" "module" "[I" : Cond) ∈ wsX2_init := List.mem_of_getElem? (i := 8) rfl
theorem md_X2_init_9 : (.fieldLink RX2 22 "ResourceLedger$Journal" "structure" "[I" : Cond) ∈ wsX2_init := List.mem_of_getElem? (i := 9) rfl
theorem md_X2_init_10 : (.arrayClass .boolean : Cond) ∈ wsX2_init := List.mem_of_getElem? (i := 10) rfl
theorem md_X2_init_11 : (.fieldLink RX2 25 "ResourceLedger$Journal" "wasThere" "[Z" : Cond) ∈ wsX2_init := List.mem_of_getElem? (i := 11) rfl
theorem md_X2_init_12 : (.fieldLink RX2 29 "ResourceLedger$Journal" "isThere" "[Z" : Cond) ∈ wsX2_init := List.mem_of_getElem? (i := 12) rfl
theorem md_X2_init_13 : (.fieldLink RX2 32 "ResourceLedger$Journal" "balance" "[J" : Cond) ∈ wsX2_init := List.mem_of_getElem? (i := 13) rfl
theorem md_X2_init_14 : (.fieldLink RX2 35 "ResourceLedger$Journal" "node" "[I" : Cond) ∈ wsX2_init := List.mem_of_getElem? (i := 14) rfl
theorem md_X2_init_15 : (.fieldLink RX2 38 "ResourceLedger$Journal" "state" "LResourceLedger$State;" : Cond) ∈ wsX2_init := List.mem_of_getElem? (i := 15) rfl
theorem md_X2_init_16 : (.fieldLink RX2 42 "ResourceLedger$Journal" "heap" "LResourceLedger$Heap;" : Cond) ∈ wsX2_init := List.mem_of_getElem? (i := 16) rfl
set_option maxHeartbeats 4000000 in
set_option maxRecDepth 100000 in
theorem da_X2_init (l : Launch) (dC : Nat → ClassId) (dI : Nat → Nat → Nat) (cy : Nat → ClassId) (a0 : Nat → Nat) (sh0 : Nat → Nat × Nat) (n0 sz : Nat) (F : Nat) (z0 : St) (h0 : Nat) (x0 : Nat) (x1 : Nat) (hk0 : lk z0 n0) {sh8 : Nat → Nat × Nat} {n8 : Nat} {z8 : St} {r8 : Unit} (hf : fa_X2_init F sh0 n0 z0 h0 x0 x1 = some (sh8, n8, z8, r8)) : Met l yX2_init wsX2_init ({ frames := 1, cells := 8, slots := 192, locals := 12 }) (va_Pc [.ref (a0 h0), .ref (a0 x0), .ref (a0 x1)] (fun U => U.heap.size = sz ∧ va_P (dC, dI) vwCl (Wd cy a0 sh0 n0 z0) U.heap ∧ va_K (dC, dI) vwCl (TYS cy) U ∧ va_D (fun _ => True) (Wd cy a0 sh0 n0 z0) ∧ NK U)) (va_Qv (fun u : Nat → Nat => ((∀ k, k < n0 ∨ k = CBK → u k = a0 k) ∧ n0 ≤ n8) ∧ lk z8 n8) (fun u t => va_P (dC, dI) vwCl (Wd cy u sh8 n8 z8) t.heap ∧ va_K (dC, dI) vwCl (TYS cy) t ∧ va_D (va_A (Wd cy a0 sh0 n0 z0) sz) (Wd cy u sh8 n8 z8)) (va_A (Wd cy a0 sh0 n0 z0) sz)) 8 192 (va_A (Wd cy a0 sh0 n0 z0) sz) := by
  refine Met.ofW (cc := cX2_init) (maxL := 3) (ret := none) (by decide) rfl ?_
  intro p e s m args below meth c s₁ B hml hv
  obtain ⟨rfl, hsz, hP, hK, hD0, hN⟩ := hv
  have hx := B.exec
  have hb := B.bytes
  have hr := B.returns
  have hts := atoms_spec (ws := wsX2_init) B.pre
  have hown : s.vm.findClass RX2 = some m.cls := findClass_of_methodNamed B.named
  have hlocks := B.notSynchronized
  have hin : meth.name = "<init>" := (name_of_methodNamed B.named B.method).1
  subst hsz
  have hD := hD0.self (sz := s.heap.size)
  clear hD0
  generalize hAe : va_A (Wd cy a0 sh0 n0 z0) s.heap.size = A at hD ⊢
  have hA : ∀ q : Nat, s.heap.size ≤ q → A q := fun q h => by rw [← hAe]; exact Or.inr h
  clear hAe
  have hS : va_S A s.heap s.heap [] := va_S.rf
  have hl := lv_entry ([.ref (a0 h0), .ref (a0 x0), .ref (a0 x1)]) (n := 3) (Nat.le_of_ble_eq_true rfl)
  rw [lg_entry_eq]
  generalize (lg_sl ([.ref (a0 h0), .ref (a0 x0), .ref (a0 x1)]) ++ List.replicate (3 - (lg_sl ([.ref (a0 h0), .ref (a0 x0), .ref (a0 x1)])).length) Slot.unset).toArray = ls at hl ⊢
  replace hl : lv_has ls 3 [(0, .ref (a0 h0)), (1, .ref (a0 x0)), (2, .ref (a0 x1))] := hl
  unfold fa_X2_init at hf
  refine da_start (fn := fun sh n z => fa_X2_init F sh n z h0 x0 x1) (av := fun a => [(0, .ref (a h0)), (1, .ref (a x0)), (2, .ref (a x1))]) (sk := fun q => True) hf hk0 hS hD hP hl trivial (fun a sh n z H locs hf hag hk hS hD hP hl hSK => ?_)
  unfold fa_X2_init at hf
  try dsimp only at hf hl hSK
  refine lv_aload_n hx hb dX2_init_0 rfl (lv_at hl 0 rfl) ?_
  refine W.objInit hx hb hown (hts _ md_X2_init_1) (hts _ md_X2_init_2) (hts _ md_X2_init_3) rfl (by rw [hml]; exact hl.1) rfl dX2_init_1 (Nat.le_of_ble_eq_true rfl) (Nat.le_of_ble_eq_true rfl) ?_
  refine W.eq (g2 := F0 m 4 ls []) rfl ?_
  refine lv_aload_n hx hb dX2_init_4 rfl (lv_at hl 0 rfl) ?_
  refine lv_bipush (v := 24) hx hb dX2_init_5 (by decide) ?_
  obtain ⟨g_1, hf⟩ := grd_some hf
  obtain ⟨g_2, hf⟩ := grd_some hf
  obtain ⟨g_3, hf⟩ := grd_some hf
  refine de_newa (atype := .int) (ty := .int) (t := 1) (N := 24) (a0 := (24, .inl (fun _ => 0))) hf hk hx hb (hts _ md_X2_init_4) rfl hK hP hD hS hA rfl rfl (fun _ => rfl) (by decide) (by decide) (Nat.le_of_ble_eq_true rfl) (Nat.le_of_ble_eq_true rfl) (Nat.le_of_ble_eq_true rfl) dX2_init_7 (fun a sh n z_4 k_5 H_6 hf hax hk hnn hP hD hS => ?_)
  refine W.eq (g2 := F0 m 9 ls [.ref (a k_5), .ref (a h0)]) (by rw [hax h0 (okN_at g_1)]) ?_
  replace hl : lv_has ls 3 [(0, .ref (a h0)), (1, .ref (a x0)), (2, .ref (a x1))] := by rw [hax h0 (okN_at g_1), hax x0 (okN_at g_2), hax x1 (okN_at g_3)]; exact hl
  replace hag := hag_new hag hax hnn
  clear hax hnn
  refine W.widen (k := 1) (n := 24) (Nat.le_of_ble_eq_true rfl) (Nat.le_of_ble_eq_true rfl) ?_
  obtain ⟨g_7, hf⟩ := grd_some hf
  obtain ⟨g_8, hf⟩ := grd_some hf
  obtain ⟨kg_8, sg_8⟩ := okO_at g_8
  refine va_putF (D := (dC, dI)) (ci := 2) (v := .ref (a k_5)) (ty := .array .int) (C := RX2) (T := TX2) (N := 11) hx hb hts iwd_X2_init_X2 tyX2 tyX2_ok nmX2 hown hK hP hD hS h0 (Wd_ob kg_8 sg_8 (by decide)) rfl 2 (by decide) (hts _ md_X2_init_5) (fun _ h9 => h9) rfl hin rfl (by decide +kernel) rfl rfl (by rw [fl_len]; decide) dX2_init_9 (fun H_9 locs hP2 hD2 hS2 => ?_)
  rw [Wd_sq1 sg_8 (by decide) rfl] at hP2 hD2
  obtain ⟨z_10, ez_10⟩ : ∃ w, w = sq z_4 h0 2 (some k_5) := ⟨_, rfl⟩
  rw [← ez_10] at hP2 hD2
  replace hf := lt_at ez_10 hf
  replace hk : lk z_10 n := by rw [ez_10]; exact lk_sq1 hk (okN_at g_7)
  clear ez_10
  replace hP := hP2
  replace hD := hD2
  replace hS := hS2
  clear hP2 hD2 hS2
  refine lv_aload_n hx hb dX2_init_12 rfl (lv_at hl 0 rfl) ?_
  refine lv_bipush (v := 24) hx hb dX2_init_13 (by decide) ?_
  obtain ⟨g_11, hf⟩ := grd_some hf
  obtain ⟨g_12, hf⟩ := grd_some hf
  obtain ⟨g_13, hf⟩ := grd_some hf
  refine de_newa (atype := .long) (ty := .long) (t := 2) (N := 24) (a0 := (24, .inr (.inl (fun _ => 0)))) hf hk hx hb (hts _ md_X2_init_6) rfl hK hP hD hS hA rfl rfl (fun _ => rfl) (by decide) (by decide) (Nat.le_of_ble_eq_true rfl) (Nat.le_of_ble_eq_true rfl) (Nat.le_of_ble_eq_true rfl) dX2_init_15 (fun a sh n z_14 k_15 H_16 hf hax hk hnn hP hD hS => ?_)
  refine W.eq (g2 := F0 m 17 ls [.ref (a k_15), .ref (a h0)]) (by rw [hax h0 (okN_at g_11)]) ?_
  replace hl : lv_has ls 3 [(0, .ref (a h0)), (1, .ref (a x0)), (2, .ref (a x1))] := by rw [hax h0 (okN_at g_11), hax x0 (okN_at g_12), hax x1 (okN_at g_13)]; exact hl
  replace hag := hag_new hag hax hnn
  clear hax hnn
  refine W.widen (k := 2) (n := 48) (Nat.le_of_ble_eq_true rfl) (Nat.le_of_ble_eq_true rfl) ?_
  obtain ⟨g_17, hf⟩ := grd_some hf
  obtain ⟨g_18, hf⟩ := grd_some hf
  obtain ⟨kg_18, sg_18⟩ := okO_at g_18
  refine va_putF (D := (dC, dI)) (ci := 2) (v := .ref (a k_15)) (ty := .array .long) (C := RX2) (T := TX2) (N := 11) hx hb hts iwd_X2_init_X2 tyX2 tyX2_ok nmX2 hown hK hP hD hS h0 (Wd_ob kg_18 sg_18 (by decide)) rfl 3 (by decide) (hts _ md_X2_init_7) (fun _ h9 => h9) rfl hin rfl (by decide +kernel) rfl rfl (by rw [fl_len]; decide) dX2_init_17 (fun H_19 locs hP2 hD2 hS2 => ?_)
  rw [Wd_sq1 sg_18 (by decide) rfl] at hP2 hD2
  obtain ⟨z_20, ez_20⟩ : ∃ w, w = sq z_14 h0 3 (some k_15) := ⟨_, rfl⟩
  rw [← ez_20] at hP2 hD2
  replace hf := lt_at ez_20 hf
  replace hk : lk z_20 n := by rw [ez_20]; exact lk_sq1 hk (okN_at g_17)
  clear ez_20
  replace hP := hP2
  replace hD := hD2
  replace hS := hS2
  clear hP2 hD2 hS2
  refine lv_aload_n hx hb dX2_init_20 rfl (lv_at hl 0 rfl) ?_
  refine lv_bipush (v := 24) hx hb dX2_init_21 (by decide) ?_
  obtain ⟨g_21, hf⟩ := grd_some hf
  obtain ⟨g_22, hf⟩ := grd_some hf
  obtain ⟨g_23, hf⟩ := grd_some hf
  refine de_newa (atype := .int) (ty := .int) (t := 1) (N := 24) (a0 := (24, .inl (fun _ => 0))) hf hk hx hb (hts _ md_X2_init_4) rfl hK hP hD hS hA rfl rfl (fun _ => rfl) (by decide) (by decide) (Nat.le_of_ble_eq_true rfl) (Nat.le_of_ble_eq_true rfl) (Nat.le_of_ble_eq_true rfl) dX2_init_23 (fun a sh n z_24 k_25 H_26 hf hax hk hnn hP hD hS => ?_)
  refine W.eq (g2 := F0 m 25 ls [.ref (a k_25), .ref (a h0)]) (by rw [hax h0 (okN_at g_21)]) ?_
  replace hl : lv_has ls 3 [(0, .ref (a h0)), (1, .ref (a x0)), (2, .ref (a x1))] := by rw [hax h0 (okN_at g_21), hax x0 (okN_at g_22), hax x1 (okN_at g_23)]; exact hl
  replace hag := hag_new hag hax hnn
  clear hax hnn
  refine W.widen (k := 3) (n := 72) (Nat.le_of_ble_eq_true rfl) (Nat.le_of_ble_eq_true rfl) ?_
  obtain ⟨g_27, hf⟩ := grd_some hf
  obtain ⟨g_28, hf⟩ := grd_some hf
  obtain ⟨kg_28, sg_28⟩ := okO_at g_28
  refine va_putF (D := (dC, dI)) (ci := 2) (v := .ref (a k_25)) (ty := .array .int) (C := RX2) (T := TX2) (N := 11) hx hb hts iwd_X2_init_X2 tyX2 tyX2_ok nmX2 hown hK hP hD hS h0 (Wd_ob kg_28 sg_28 (by decide)) rfl 4 (by decide) (hts _ md_X2_init_8) (fun _ h9 => h9) rfl hin rfl (by decide +kernel) rfl rfl (by rw [fl_len]; decide) dX2_init_25 (fun H_29 locs hP2 hD2 hS2 => ?_)
  rw [Wd_sq1 sg_28 (by decide) rfl] at hP2 hD2
  obtain ⟨z_30, ez_30⟩ : ∃ w, w = sq z_24 h0 4 (some k_25) := ⟨_, rfl⟩
  rw [← ez_30] at hP2 hD2
  replace hf := lt_at ez_30 hf
  replace hk : lk z_30 n := by rw [ez_30]; exact lk_sq1 hk (okN_at g_27)
  clear ez_30
  replace hP := hP2
  replace hD := hD2
  replace hS := hS2
  clear hP2 hD2 hS2
  refine lv_aload_n hx hb dX2_init_28 rfl (lv_at hl 0 rfl) ?_
  refine lv_bipush (v := 24) hx hb dX2_init_29 (by decide) ?_
  obtain ⟨g_31, hf⟩ := grd_some hf
  obtain ⟨g_32, hf⟩ := grd_some hf
  obtain ⟨g_33, hf⟩ := grd_some hf
  refine de_newa (atype := .int) (ty := .int) (t := 1) (N := 24) (a0 := (24, .inl (fun _ => 0))) hf hk hx hb (hts _ md_X2_init_4) rfl hK hP hD hS hA rfl rfl (fun _ => rfl) (by decide) (by decide) (Nat.le_of_ble_eq_true rfl) (Nat.le_of_ble_eq_true rfl) (Nat.le_of_ble_eq_true rfl) dX2_init_31 (fun a sh n z_34 k_35 H_36 hf hax hk hnn hP hD hS => ?_)
  refine W.eq (g2 := F0 m 33 ls [.ref (a k_35), .ref (a h0)]) (by rw [hax h0 (okN_at g_31)]) ?_
  replace hl : lv_has ls 3 [(0, .ref (a h0)), (1, .ref (a x0)), (2, .ref (a x1))] := by rw [hax h0 (okN_at g_31), hax x0 (okN_at g_32), hax x1 (okN_at g_33)]; exact hl
  replace hag := hag_new hag hax hnn
  clear hax hnn
  refine W.widen (k := 4) (n := 96) (Nat.le_of_ble_eq_true rfl) (Nat.le_of_ble_eq_true rfl) ?_
  obtain ⟨g_37, hf⟩ := grd_some hf
  obtain ⟨g_38, hf⟩ := grd_some hf
  obtain ⟨kg_38, sg_38⟩ := okO_at g_38
  refine va_putF (D := (dC, dI)) (ci := 2) (v := .ref (a k_35)) (ty := .array .int) (C := RX2) (T := TX2) (N := 11) hx hb hts iwd_X2_init_X2 tyX2 tyX2_ok nmX2 hown hK hP hD hS h0 (Wd_ob kg_38 sg_38 (by decide)) rfl 5 (by decide) (hts _ md_X2_init_9) (fun _ h9 => h9) rfl hin rfl (by decide +kernel) rfl rfl (by rw [fl_len]; decide) dX2_init_33 (fun H_39 locs hP2 hD2 hS2 => ?_)
  rw [Wd_sq1 sg_38 (by decide) rfl] at hP2 hD2
  obtain ⟨z_40, ez_40⟩ : ∃ w, w = sq z_34 h0 5 (some k_35) := ⟨_, rfl⟩
  rw [← ez_40] at hP2 hD2
  replace hf := lt_at ez_40 hf
  replace hk : lk z_40 n := by rw [ez_40]; exact lk_sq1 hk (okN_at g_37)
  clear ez_40
  replace hP := hP2
  replace hD := hD2
  replace hS := hS2
  clear hP2 hD2 hS2
  refine lv_aload_n hx hb dX2_init_36 rfl (lv_at hl 0 rfl) ?_
  refine lv_bipush (v := 24) hx hb dX2_init_37 (by decide) ?_
  obtain ⟨g_41, hf⟩ := grd_some hf
  obtain ⟨g_42, hf⟩ := grd_some hf
  obtain ⟨g_43, hf⟩ := grd_some hf
  refine de_newa (atype := .boolean) (ty := .boolean) (t := 3) (N := 24) (a0 := (24, .inl (fun _ => 0))) hf hk hx hb (hts _ md_X2_init_10) rfl hK hP hD hS hA rfl rfl (fun _ => rfl) (by decide) (by decide) (Nat.le_of_ble_eq_true rfl) (Nat.le_of_ble_eq_true rfl) (Nat.le_of_ble_eq_true rfl) dX2_init_39 (fun a sh n z_44 k_45 H_46 hf hax hk hnn hP hD hS => ?_)
  refine W.eq (g2 := F0 m 41 ls [.ref (a k_45), .ref (a h0)]) (by rw [hax h0 (okN_at g_41)]) ?_
  replace hl : lv_has ls 3 [(0, .ref (a h0)), (1, .ref (a x0)), (2, .ref (a x1))] := by rw [hax h0 (okN_at g_41), hax x0 (okN_at g_42), hax x1 (okN_at g_43)]; exact hl
  replace hag := hag_new hag hax hnn
  clear hax hnn
  refine W.widen (k := 5) (n := 120) (Nat.le_of_ble_eq_true rfl) (Nat.le_of_ble_eq_true rfl) ?_
  obtain ⟨g_47, hf⟩ := grd_some hf
  obtain ⟨g_48, hf⟩ := grd_some hf
  obtain ⟨kg_48, sg_48⟩ := okO_at g_48
  refine va_putF (D := (dC, dI)) (ci := 2) (v := .ref (a k_45)) (ty := .array .boolean) (C := RX2) (T := TX2) (N := 11) hx hb hts iwd_X2_init_X2 tyX2 tyX2_ok nmX2 hown hK hP hD hS h0 (Wd_ob kg_48 sg_48 (by decide)) rfl 6 (by decide) (hts _ md_X2_init_11) (fun _ h9 => h9) rfl hin rfl (by decide +kernel) rfl rfl (by rw [fl_len]; decide) dX2_init_41 (fun H_49 locs hP2 hD2 hS2 => ?_)
  rw [Wd_sq1 sg_48 (by decide) rfl] at hP2 hD2
  obtain ⟨z_50, ez_50⟩ : ∃ w, w = sq z_44 h0 6 (some k_45) := ⟨_, rfl⟩
  rw [← ez_50] at hP2 hD2
  replace hf := lt_at ez_50 hf
  replace hk : lk z_50 n := by rw [ez_50]; exact lk_sq1 hk (okN_at g_47)
  clear ez_50
  replace hP := hP2
  replace hD := hD2
  replace hS := hS2
  clear hP2 hD2 hS2
  refine lv_aload_n hx hb dX2_init_44 rfl (lv_at hl 0 rfl) ?_
  refine lv_bipush (v := 24) hx hb dX2_init_45 (by decide) ?_
  obtain ⟨g_51, hf⟩ := grd_some hf
  obtain ⟨g_52, hf⟩ := grd_some hf
  obtain ⟨g_53, hf⟩ := grd_some hf
  refine de_newa (atype := .boolean) (ty := .boolean) (t := 3) (N := 24) (a0 := (24, .inl (fun _ => 0))) hf hk hx hb (hts _ md_X2_init_10) rfl hK hP hD hS hA rfl rfl (fun _ => rfl) (by decide) (by decide) (Nat.le_of_ble_eq_true rfl) (Nat.le_of_ble_eq_true rfl) (Nat.le_of_ble_eq_true rfl) dX2_init_47 (fun a sh n z_54 k_55 H_56 hf hax hk hnn hP hD hS => ?_)
  refine W.eq (g2 := F0 m 49 ls [.ref (a k_55), .ref (a h0)]) (by rw [hax h0 (okN_at g_51)]) ?_
  replace hl : lv_has ls 3 [(0, .ref (a h0)), (1, .ref (a x0)), (2, .ref (a x1))] := by rw [hax h0 (okN_at g_51), hax x0 (okN_at g_52), hax x1 (okN_at g_53)]; exact hl
  replace hag := hag_new hag hax hnn
  clear hax hnn
  refine W.widen (k := 6) (n := 144) (Nat.le_of_ble_eq_true rfl) (Nat.le_of_ble_eq_true rfl) ?_
  obtain ⟨g_57, hf⟩ := grd_some hf
  obtain ⟨g_58, hf⟩ := grd_some hf
  obtain ⟨kg_58, sg_58⟩ := okO_at g_58
  refine va_putF (D := (dC, dI)) (ci := 2) (v := .ref (a k_55)) (ty := .array .boolean) (C := RX2) (T := TX2) (N := 11) hx hb hts iwd_X2_init_X2 tyX2 tyX2_ok nmX2 hown hK hP hD hS h0 (Wd_ob kg_58 sg_58 (by decide)) rfl 8 (by decide) (hts _ md_X2_init_12) (fun _ h9 => h9) rfl hin rfl (by decide +kernel) rfl rfl (by rw [fl_len]; decide) dX2_init_49 (fun H_59 locs hP2 hD2 hS2 => ?_)
  rw [Wd_sq1 sg_58 (by decide) rfl] at hP2 hD2
  obtain ⟨z_60, ez_60⟩ : ∃ w, w = sq z_54 h0 8 (some k_55) := ⟨_, rfl⟩
  rw [← ez_60] at hP2 hD2
  replace hf := lt_at ez_60 hf
  replace hk : lk z_60 n := by rw [ez_60]; exact lk_sq1 hk (okN_at g_57)
  clear ez_60
  replace hP := hP2
  replace hD := hD2
  replace hS := hS2
  clear hP2 hD2 hS2
  refine lv_aload_n hx hb dX2_init_52 rfl (lv_at hl 0 rfl) ?_
  refine lv_bipush (v := 24) hx hb dX2_init_53 (by decide) ?_
  obtain ⟨g_61, hf⟩ := grd_some hf
  obtain ⟨g_62, hf⟩ := grd_some hf
  obtain ⟨g_63, hf⟩ := grd_some hf
  refine de_newa (atype := .long) (ty := .long) (t := 2) (N := 24) (a0 := (24, .inr (.inl (fun _ => 0)))) hf hk hx hb (hts _ md_X2_init_6) rfl hK hP hD hS hA rfl rfl (fun _ => rfl) (by decide) (by decide) (Nat.le_of_ble_eq_true rfl) (Nat.le_of_ble_eq_true rfl) (Nat.le_of_ble_eq_true rfl) dX2_init_55 (fun a sh n z_64 k_65 H_66 hf hax hk hnn hP hD hS => ?_)
  refine W.eq (g2 := F0 m 57 ls [.ref (a k_65), .ref (a h0)]) (by rw [hax h0 (okN_at g_61)]) ?_
  replace hl : lv_has ls 3 [(0, .ref (a h0)), (1, .ref (a x0)), (2, .ref (a x1))] := by rw [hax h0 (okN_at g_61), hax x0 (okN_at g_62), hax x1 (okN_at g_63)]; exact hl
  replace hag := hag_new hag hax hnn
  clear hax hnn
  refine W.widen (k := 7) (n := 168) (Nat.le_of_ble_eq_true rfl) (Nat.le_of_ble_eq_true rfl) ?_
  obtain ⟨g_67, hf⟩ := grd_some hf
  obtain ⟨g_68, hf⟩ := grd_some hf
  obtain ⟨kg_68, sg_68⟩ := okO_at g_68
  refine va_putF (D := (dC, dI)) (ci := 2) (v := .ref (a k_65)) (ty := .array .long) (C := RX2) (T := TX2) (N := 11) hx hb hts iwd_X2_init_X2 tyX2 tyX2_ok nmX2 hown hK hP hD hS h0 (Wd_ob kg_68 sg_68 (by decide)) rfl 9 (by decide) (hts _ md_X2_init_13) (fun _ h9 => h9) rfl hin rfl (by decide +kernel) rfl rfl (by rw [fl_len]; decide) dX2_init_57 (fun H_69 locs hP2 hD2 hS2 => ?_)
  rw [Wd_sq1 sg_68 (by decide) rfl] at hP2 hD2
  obtain ⟨z_70, ez_70⟩ : ∃ w, w = sq z_64 h0 9 (some k_65) := ⟨_, rfl⟩
  rw [← ez_70] at hP2 hD2
  replace hf := lt_at ez_70 hf
  replace hk : lk z_70 n := by rw [ez_70]; exact lk_sq1 hk (okN_at g_67)
  clear ez_70
  replace hP := hP2
  replace hD := hD2
  replace hS := hS2
  clear hP2 hD2 hS2
  refine lv_aload_n hx hb dX2_init_60 rfl (lv_at hl 0 rfl) ?_
  refine lv_bipush (v := 24) hx hb dX2_init_61 (by decide) ?_
  obtain ⟨g_71, hf⟩ := grd_some hf
  obtain ⟨g_72, hf⟩ := grd_some hf
  obtain ⟨g_73, hf⟩ := grd_some hf
  refine de_newa (atype := .int) (ty := .int) (t := 1) (N := 24) (a0 := (24, .inl (fun _ => 0))) hf hk hx hb (hts _ md_X2_init_4) rfl hK hP hD hS hA rfl rfl (fun _ => rfl) (by decide) (by decide) (Nat.le_of_ble_eq_true rfl) (Nat.le_of_ble_eq_true rfl) (Nat.le_of_ble_eq_true rfl) dX2_init_63 (fun a sh n z_74 k_75 H_76 hf hax hk hnn hP hD hS => ?_)
  refine W.eq (g2 := F0 m 65 ls [.ref (a k_75), .ref (a h0)]) (by rw [hax h0 (okN_at g_71)]) ?_
  replace hl : lv_has ls 3 [(0, .ref (a h0)), (1, .ref (a x0)), (2, .ref (a x1))] := by rw [hax h0 (okN_at g_71), hax x0 (okN_at g_72), hax x1 (okN_at g_73)]; exact hl
  replace hag := hag_new hag hax hnn
  clear hax hnn
  refine W.widen (k := 8) (n := 192) (Nat.le_of_ble_eq_true rfl) (Nat.le_of_ble_eq_true rfl) ?_
  obtain ⟨g_77, hf⟩ := grd_some hf
  obtain ⟨g_78, hf⟩ := grd_some hf
  obtain ⟨kg_78, sg_78⟩ := okO_at g_78
  refine va_putF (D := (dC, dI)) (ci := 2) (v := .ref (a k_75)) (ty := .array .int) (C := RX2) (T := TX2) (N := 11) hx hb hts iwd_X2_init_X2 tyX2 tyX2_ok nmX2 hown hK hP hD hS h0 (Wd_ob kg_78 sg_78 (by decide)) rfl 10 (by decide) (hts _ md_X2_init_14) (fun _ h9 => h9) rfl hin rfl (by decide +kernel) rfl rfl (by rw [fl_len]; decide) dX2_init_65 (fun H_79 locs hP2 hD2 hS2 => ?_)
  rw [Wd_sq1 sg_78 (by decide) rfl] at hP2 hD2
  obtain ⟨z_80, ez_80⟩ : ∃ w, w = sq z_74 h0 10 (some k_75) := ⟨_, rfl⟩
  rw [← ez_80] at hP2 hD2
  replace hf := lt_at ez_80 hf
  replace hk : lk z_80 n := by rw [ez_80]; exact lk_sq1 hk (okN_at g_77)
  clear ez_80
  replace hP := hP2
  replace hD := hD2
  replace hS := hS2
  clear hP2 hD2 hS2
  refine lv_aload_n hx hb dX2_init_68 rfl (lv_at hl 0 rfl) ?_
  refine lv_aload_n hx hb dX2_init_69 rfl (lv_at hl 1 rfl) ?_
  obtain ⟨g_81, hf⟩ := grd_some hf
  refine va_putF (D := (dC, dI)) (ci := 2) (v := .ref (a x0)) (ty := .object "ResourceLedger$State") (C := RX2) (T := TX2) (N := 11) hx hb hts iwd_X2_init_X2 tyX2 tyX2_ok nmX2 hown hK hP hD hS h0 (Wd_ob kg_78 sg_78 (by decide)) rfl 0 (by decide) (hts _ md_X2_init_15) (fun _ h9 => h9) rfl hin rfl (by decide +kernel) rfl rfl (by rw [fl_len]; decide) dX2_init_70 (fun H_82 locs hP2 hD2 hS2 => ?_)
  rw [Wd_sq1 sg_78 (by decide) rfl] at hP2 hD2
  obtain ⟨z_83, ez_83⟩ : ∃ w, w = sq z_80 h0 0 (some x0) := ⟨_, rfl⟩
  rw [← ez_83] at hP2 hD2
  replace hf := lt_at ez_83 hf
  replace hk : lk z_83 n := by rw [ez_83]; exact lk_sq1 hk (okN_at g_81)
  clear ez_83
  replace hP := hP2
  replace hD := hD2
  replace hS := hS2
  clear hP2 hD2 hS2
  refine lv_aload_n hx hb dX2_init_73 rfl (lv_at hl 0 rfl) ?_
  refine lv_aload_n hx hb dX2_init_74 rfl (lv_at hl 2 rfl) ?_
  obtain ⟨g_84, hf⟩ := grd_some hf
  refine va_putF (D := (dC, dI)) (ci := 2) (v := .ref (a x1)) (ty := .object "ResourceLedger$Heap") (C := RX2) (T := TX2) (N := 11) hx hb hts iwd_X2_init_X2 tyX2 tyX2_ok nmX2 hown hK hP hD hS h0 (Wd_ob kg_78 sg_78 (by decide)) rfl 1 (by decide) (hts _ md_X2_init_16) (fun _ h9 => h9) rfl hin rfl (by decide +kernel) rfl rfl (by rw [fl_len]; decide) dX2_init_75 (fun H_85 locs hP2 hD2 hS2 => ?_)
  rw [Wd_sq1 sg_78 (by decide) rfl] at hP2 hD2
  obtain ⟨z_86, ez_86⟩ : ∃ w, w = sq z_83 h0 1 (some x1) := ⟨_, rfl⟩
  rw [← ez_86] at hP2 hD2
  replace hf := lt_at ez_86 hf
  replace hk : lk z_86 n := by rw [ez_86]; exact lk_sq1 hk (okN_at g_84)
  clear ez_86
  replace hP := hP2
  replace hD := hD2
  replace hS := hS2
  clear hP2 hD2 hS2
  obtain ⟨h5, h6, h8, h9⟩ := rta_some hf
  rw [h5, h6, h8]
  exact W.vret hx hb hr (fun t ht hW => ⟨⟨a, rfl, ⟨hag, hk⟩, by rw [ht]; exact hP, va_K.moved hW.alike hK, hD⟩, hS.F ht⟩) hS.2.2 dX2_init_78

theorem md_X14_init_1 : (.methodLink RX14 1 objectInit : Cond) ∈ wsX14_init := List.mem_of_getElem? (i := 1) rfl
theorem md_X14_init_2 : (.instanceMethod objectInit : Cond) ∈ wsX14_init := List.mem_of_getElem? (i := 2) rfl
theorem md_X14_init_3 : (.code objectInit ⟨#[0xb1]⟩ 1 none : Cond) ∈ wsX14_init := List.mem_of_getElem? (i := 3) rfl
theorem md_X14_init_4 : (.arrayClass .long : Cond) ∈ wsX14_init := List.mem_of_getElem? (i := 4) rfl
theorem md_X14_init_5 : (.fieldLink RX14 7 "ResourceLedgerModel$Roots" "keys" "[J" : Cond) ∈ wsX14_init := List.mem_of_getElem? (i := 5) rfl
theorem iwd_X14_init_X14 : ∀ w ∈ wsX140, w ∈ wsX14_init := fun _ h => List.mem_cons_of_mem _ (List.mem_append_right _ h)
theorem md_X14_init_6 : (.fieldLink RX14 13 "ResourceLedgerModel$Roots" "values" "[J" : Cond) ∈ wsX14_init := List.mem_of_getElem? (i := 6) rfl
theorem md_X14_init_7 : (.arrayClass .int : Cond) ∈ wsX14_init := List.mem_of_getElem? (i := 7) rfl
theorem md_X14_init_8 : (.fieldLink RX14 16 "ResourceLedgerModel$Roots" "sorts" "[I" : Cond) ∈ wsX14_init := List.mem_of_getElem? (i := 8) rfl
theorem md_X14_init_9 : (.fieldLink RX14 20 "ResourceLedgerModel$Roots" "addresses" "[J" : Cond) ∈ wsX14_init := List.mem_of_getElem? (i := 9) rfl
theorem md_X14_init_10 : (.fieldLink RX14 23 "ResourceLedgerModel$Roots" "kinds" "[I" : Cond) ∈ wsX14_init := List.mem_of_getElem? (i := 10) rfl
theorem md_X14_init_11 : (.fieldLink RX14 26 "ResourceLedgerModel$Roots" "hashes" "[J" : Cond) ∈ wsX14_init := List.mem_of_getElem? (i := 11) rfl
theorem md_X14_init_12 : (.fieldLink RX14 29 "ResourceLedgerModel$Roots" "begins" "[I" : Cond) ∈ wsX14_init := List.mem_of_getElem? (i := 12) rfl
theorem md_X14_init_13 : (.fieldLink RX14 32 "ResourceLedgerModel$Roots" "sizes" "[I" : Cond) ∈ wsX14_init := List.mem_of_getElem? (i := 13) rfl
theorem md_X14_init_14 : (.fieldLink RX14 35 "ResourceLedgerModel$Roots" "digester" "LResourceLedgerModel$Digester;" : Cond) ∈ wsX14_init := List.mem_of_getElem? (i := 14) rfl
set_option maxHeartbeats 4000000 in
set_option maxRecDepth 100000 in
theorem da_X14_init (l : Launch) (dC : Nat → ClassId) (dI : Nat → Nat → Nat) (cy : Nat → ClassId) (a0 : Nat → Nat) (sh0 : Nat → Nat × Nat) (n0 sz : Nat) (F : Nat) (z0 : St) (h0 : Nat) (x0 : Nat) (hk0 : lk z0 n0) {sh8 : Nat → Nat × Nat} {n8 : Nat} {z8 : St} {r8 : Unit} (hf : fa_X14_init F sh0 n0 z0 h0 x0 = some (sh8, n8, z8, r8)) : Met l yX14_init wsX14_init ({ frames := 1, cells := 8, slots := 4352, locals := 12 }) (va_Pc [.ref (a0 h0), .ref (a0 x0)] (fun U => U.heap.size = sz ∧ va_P (dC, dI) vwCl (Wd cy a0 sh0 n0 z0) U.heap ∧ va_K (dC, dI) vwCl (TYS cy) U ∧ va_D (fun _ => True) (Wd cy a0 sh0 n0 z0) ∧ NK U)) (va_Qv (fun u : Nat → Nat => ((∀ k, k < n0 ∨ k = CBK → u k = a0 k) ∧ n0 ≤ n8) ∧ lk z8 n8) (fun u t => va_P (dC, dI) vwCl (Wd cy u sh8 n8 z8) t.heap ∧ va_K (dC, dI) vwCl (TYS cy) t ∧ va_D (va_A (Wd cy a0 sh0 n0 z0) sz) (Wd cy u sh8 n8 z8)) (va_A (Wd cy a0 sh0 n0 z0) sz)) 8 4352 (va_A (Wd cy a0 sh0 n0 z0) sz) := by
  refine Met.ofW (cc := cX14_init) (maxL := 2) (ret := none) (by decide) rfl ?_
  intro p e s m args below meth c s₁ B hml hv
  obtain ⟨rfl, hsz, hP, hK, hD0, hN⟩ := hv
  have hx := B.exec
  have hb := B.bytes
  have hr := B.returns
  have hts := atoms_spec (ws := wsX14_init) B.pre
  have hown : s.vm.findClass RX14 = some m.cls := findClass_of_methodNamed B.named
  have hlocks := B.notSynchronized
  have hin : meth.name = "<init>" := (name_of_methodNamed B.named B.method).1
  subst hsz
  have hD := hD0.self (sz := s.heap.size)
  clear hD0
  generalize hAe : va_A (Wd cy a0 sh0 n0 z0) s.heap.size = A at hD ⊢
  have hA : ∀ q : Nat, s.heap.size ≤ q → A q := fun q h => by rw [← hAe]; exact Or.inr h
  clear hAe
  have hS : va_S A s.heap s.heap [] := va_S.rf
  have hl := lv_entry ([.ref (a0 h0), .ref (a0 x0)]) (n := 2) (Nat.le_of_ble_eq_true rfl)
  rw [lg_entry_eq]
  generalize (lg_sl ([.ref (a0 h0), .ref (a0 x0)]) ++ List.replicate (2 - (lg_sl ([.ref (a0 h0), .ref (a0 x0)])).length) Slot.unset).toArray = ls at hl ⊢
  replace hl : lv_has ls 2 [(0, .ref (a0 h0)), (1, .ref (a0 x0))] := hl
  unfold fa_X14_init at hf
  refine da_start (fn := fun sh n z => fa_X14_init F sh n z h0 x0) (av := fun a => [(0, .ref (a h0)), (1, .ref (a x0))]) (sk := fun q => True) hf hk0 hS hD hP hl trivial (fun a sh n z H locs hf hag hk hS hD hP hl hSK => ?_)
  unfold fa_X14_init at hf
  try dsimp only at hf hl hSK
  refine lv_aload_n hx hb dX14_init_0 rfl (lv_at hl 0 rfl) ?_
  refine W.objInit hx hb hown (hts _ md_X14_init_1) (hts _ md_X14_init_2) (hts _ md_X14_init_3) rfl (by rw [hml]; exact hl.1) rfl dX14_init_1 (Nat.le_of_ble_eq_true rfl) (Nat.le_of_ble_eq_true rfl) ?_
  refine W.eq (g2 := F0 m 4 ls []) rfl ?_
  refine lv_aload_n hx hb dX14_init_4 rfl (lv_at hl 0 rfl) ?_
  refine lv_sipush (v := 1024) hx hb dX14_init_5 (by decide) ?_
  obtain ⟨g_1, hf⟩ := grd_some hf
  obtain ⟨g_2, hf⟩ := grd_some hf
  refine de_newa (atype := .long) (ty := .long) (t := 2) (N := 1024) (a0 := (1024, .inr (.inl (fun _ => 0)))) hf hk hx hb (hts _ md_X14_init_4) rfl hK hP hD hS hA rfl rfl (fun _ => rfl) (by decide) (by decide) (Nat.le_of_ble_eq_true rfl) (Nat.le_of_ble_eq_true rfl) (Nat.le_of_ble_eq_true rfl) dX14_init_8 (fun a sh n z_3 k_4 H_5 hf hax hk hnn hP hD hS => ?_)
  refine W.eq (g2 := F0 m 10 ls [.ref (a k_4), .ref (a h0)]) (by rw [hax h0 (okN_at g_1)]) ?_
  replace hl : lv_has ls 2 [(0, .ref (a h0)), (1, .ref (a x0))] := by rw [hax h0 (okN_at g_1), hax x0 (okN_at g_2)]; exact hl
  replace hag := hag_new hag hax hnn
  clear hax hnn
  refine W.widen (k := 1) (n := 1024) (Nat.le_of_ble_eq_true rfl) (Nat.le_of_ble_eq_true rfl) ?_
  obtain ⟨g_6, hf⟩ := grd_some hf
  obtain ⟨g_7, hf⟩ := grd_some hf
  obtain ⟨kg_7, sg_7⟩ := okO_at g_7
  refine va_putF (D := (dC, dI)) (ci := 14) (v := .ref (a k_4)) (ty := .array .long) (C := RX14) (T := TX14) (N := 11) hx hb hts iwd_X14_init_X14 tyX14 tyX14_ok nmX14 hown hK hP hD hS h0 (Wd_ob kg_7 sg_7 (by decide)) rfl 0 (by decide) (hts _ md_X14_init_5) (fun _ h9 => h9) rfl hin rfl (by decide +kernel) rfl rfl (by rw [fl_len]; decide) dX14_init_10 (fun H_8 locs hP2 hD2 hS2 => ?_)
  rw [Wd_sq1 sg_7 (by decide) rfl] at hP2 hD2
  obtain ⟨z_9, ez_9⟩ : ∃ w, w = sq z_3 h0 0 (some k_4) := ⟨_, rfl⟩
  rw [← ez_9] at hP2 hD2
  replace hf := lt_at ez_9 hf
  replace hk : lk z_9 n := by rw [ez_9]; exact lk_sq1 hk (okN_at g_6)
  clear ez_9
  replace hP := hP2
  replace hD := hD2
  replace hS := hS2
  clear hP2 hD2 hS2
  refine lv_aload_n hx hb dX14_init_13 rfl (lv_at hl 0 rfl) ?_
  refine lv_sipush (v := 1024) hx hb dX14_init_14 (by decide) ?_
  obtain ⟨g_10, hf⟩ := grd_some hf
  obtain ⟨g_11, hf⟩ := grd_some hf
  refine de_newa (atype := .long) (ty := .long) (t := 2) (N := 1024) (a0 := (1024, .inr (.inl (fun _ => 0)))) hf hk hx hb (hts _ md_X14_init_4) rfl hK hP hD hS hA rfl rfl (fun _ => rfl) (by decide) (by decide) (Nat.le_of_ble_eq_true rfl) (Nat.le_of_ble_eq_true rfl) (Nat.le_of_ble_eq_true rfl) dX14_init_17 (fun a sh n z_12 k_13 H_14 hf hax hk hnn hP hD hS => ?_)
  refine W.eq (g2 := F0 m 19 ls [.ref (a k_13), .ref (a h0)]) (by rw [hax h0 (okN_at g_10)]) ?_
  replace hl : lv_has ls 2 [(0, .ref (a h0)), (1, .ref (a x0))] := by rw [hax h0 (okN_at g_10), hax x0 (okN_at g_11)]; exact hl
  replace hag := hag_new hag hax hnn
  clear hax hnn
  refine W.widen (k := 2) (n := 2048) (Nat.le_of_ble_eq_true rfl) (Nat.le_of_ble_eq_true rfl) ?_
  obtain ⟨g_15, hf⟩ := grd_some hf
  obtain ⟨g_16, hf⟩ := grd_some hf
  obtain ⟨kg_16, sg_16⟩ := okO_at g_16
  refine va_putF (D := (dC, dI)) (ci := 14) (v := .ref (a k_13)) (ty := .array .long) (C := RX14) (T := TX14) (N := 11) hx hb hts iwd_X14_init_X14 tyX14 tyX14_ok nmX14 hown hK hP hD hS h0 (Wd_ob kg_16 sg_16 (by decide)) rfl 1 (by decide) (hts _ md_X14_init_6) (fun _ h9 => h9) rfl hin rfl (by decide +kernel) rfl rfl (by rw [fl_len]; decide) dX14_init_19 (fun H_17 locs hP2 hD2 hS2 => ?_)
  rw [Wd_sq1 sg_16 (by decide) rfl] at hP2 hD2
  obtain ⟨z_18, ez_18⟩ : ∃ w, w = sq z_12 h0 1 (some k_13) := ⟨_, rfl⟩
  rw [← ez_18] at hP2 hD2
  replace hf := lt_at ez_18 hf
  replace hk : lk z_18 n := by rw [ez_18]; exact lk_sq1 hk (okN_at g_15)
  clear ez_18
  replace hP := hP2
  replace hD := hD2
  replace hS := hS2
  clear hP2 hD2 hS2
  refine lv_aload_n hx hb dX14_init_22 rfl (lv_at hl 0 rfl) ?_
  refine lv_sipush (v := 256) hx hb dX14_init_23 (by decide) ?_
  obtain ⟨g_19, hf⟩ := grd_some hf
  obtain ⟨g_20, hf⟩ := grd_some hf
  refine de_newa (atype := .int) (ty := .int) (t := 1) (N := 256) (a0 := (256, .inl (fun _ => 0))) hf hk hx hb (hts _ md_X14_init_7) rfl hK hP hD hS hA rfl rfl (fun _ => rfl) (by decide) (by decide) (Nat.le_of_ble_eq_true rfl) (Nat.le_of_ble_eq_true rfl) (Nat.le_of_ble_eq_true rfl) dX14_init_26 (fun a sh n z_21 k_22 H_23 hf hax hk hnn hP hD hS => ?_)
  refine W.eq (g2 := F0 m 28 ls [.ref (a k_22), .ref (a h0)]) (by rw [hax h0 (okN_at g_19)]) ?_
  replace hl : lv_has ls 2 [(0, .ref (a h0)), (1, .ref (a x0))] := by rw [hax h0 (okN_at g_19), hax x0 (okN_at g_20)]; exact hl
  replace hag := hag_new hag hax hnn
  clear hax hnn
  refine W.widen (k := 3) (n := 2304) (Nat.le_of_ble_eq_true rfl) (Nat.le_of_ble_eq_true rfl) ?_
  obtain ⟨g_24, hf⟩ := grd_some hf
  obtain ⟨g_25, hf⟩ := grd_some hf
  obtain ⟨kg_25, sg_25⟩ := okO_at g_25
  refine va_putF (D := (dC, dI)) (ci := 14) (v := .ref (a k_22)) (ty := .array .int) (C := RX14) (T := TX14) (N := 11) hx hb hts iwd_X14_init_X14 tyX14 tyX14_ok nmX14 hown hK hP hD hS h0 (Wd_ob kg_25 sg_25 (by decide)) rfl 2 (by decide) (hts _ md_X14_init_8) (fun _ h9 => h9) rfl hin rfl (by decide +kernel) rfl rfl (by rw [fl_len]; decide) dX14_init_28 (fun H_26 locs hP2 hD2 hS2 => ?_)
  rw [Wd_sq1 sg_25 (by decide) rfl] at hP2 hD2
  obtain ⟨z_27, ez_27⟩ : ∃ w, w = sq z_21 h0 2 (some k_22) := ⟨_, rfl⟩
  rw [← ez_27] at hP2 hD2
  replace hf := lt_at ez_27 hf
  replace hk : lk z_27 n := by rw [ez_27]; exact lk_sq1 hk (okN_at g_24)
  clear ez_27
  replace hP := hP2
  replace hD := hD2
  replace hS := hS2
  clear hP2 hD2 hS2
  refine lv_aload_n hx hb dX14_init_31 rfl (lv_at hl 0 rfl) ?_
  refine lv_sipush (v := 256) hx hb dX14_init_32 (by decide) ?_
  obtain ⟨g_28, hf⟩ := grd_some hf
  obtain ⟨g_29, hf⟩ := grd_some hf
  refine de_newa (atype := .long) (ty := .long) (t := 2) (N := 256) (a0 := (256, .inr (.inl (fun _ => 0)))) hf hk hx hb (hts _ md_X14_init_4) rfl hK hP hD hS hA rfl rfl (fun _ => rfl) (by decide) (by decide) (Nat.le_of_ble_eq_true rfl) (Nat.le_of_ble_eq_true rfl) (Nat.le_of_ble_eq_true rfl) dX14_init_35 (fun a sh n z_30 k_31 H_32 hf hax hk hnn hP hD hS => ?_)
  refine W.eq (g2 := F0 m 37 ls [.ref (a k_31), .ref (a h0)]) (by rw [hax h0 (okN_at g_28)]) ?_
  replace hl : lv_has ls 2 [(0, .ref (a h0)), (1, .ref (a x0))] := by rw [hax h0 (okN_at g_28), hax x0 (okN_at g_29)]; exact hl
  replace hag := hag_new hag hax hnn
  clear hax hnn
  refine W.widen (k := 4) (n := 2560) (Nat.le_of_ble_eq_true rfl) (Nat.le_of_ble_eq_true rfl) ?_
  obtain ⟨g_33, hf⟩ := grd_some hf
  obtain ⟨g_34, hf⟩ := grd_some hf
  obtain ⟨kg_34, sg_34⟩ := okO_at g_34
  refine va_putF (D := (dC, dI)) (ci := 14) (v := .ref (a k_31)) (ty := .array .long) (C := RX14) (T := TX14) (N := 11) hx hb hts iwd_X14_init_X14 tyX14 tyX14_ok nmX14 hown hK hP hD hS h0 (Wd_ob kg_34 sg_34 (by decide)) rfl 3 (by decide) (hts _ md_X14_init_9) (fun _ h9 => h9) rfl hin rfl (by decide +kernel) rfl rfl (by rw [fl_len]; decide) dX14_init_37 (fun H_35 locs hP2 hD2 hS2 => ?_)
  rw [Wd_sq1 sg_34 (by decide) rfl] at hP2 hD2
  obtain ⟨z_36, ez_36⟩ : ∃ w, w = sq z_30 h0 3 (some k_31) := ⟨_, rfl⟩
  rw [← ez_36] at hP2 hD2
  replace hf := lt_at ez_36 hf
  replace hk : lk z_36 n := by rw [ez_36]; exact lk_sq1 hk (okN_at g_33)
  clear ez_36
  replace hP := hP2
  replace hD := hD2
  replace hS := hS2
  clear hP2 hD2 hS2
  refine lv_aload_n hx hb dX14_init_40 rfl (lv_at hl 0 rfl) ?_
  refine lv_sipush (v := 256) hx hb dX14_init_41 (by decide) ?_
  obtain ⟨g_37, hf⟩ := grd_some hf
  obtain ⟨g_38, hf⟩ := grd_some hf
  refine de_newa (atype := .int) (ty := .int) (t := 1) (N := 256) (a0 := (256, .inl (fun _ => 0))) hf hk hx hb (hts _ md_X14_init_7) rfl hK hP hD hS hA rfl rfl (fun _ => rfl) (by decide) (by decide) (Nat.le_of_ble_eq_true rfl) (Nat.le_of_ble_eq_true rfl) (Nat.le_of_ble_eq_true rfl) dX14_init_44 (fun a sh n z_39 k_40 H_41 hf hax hk hnn hP hD hS => ?_)
  refine W.eq (g2 := F0 m 46 ls [.ref (a k_40), .ref (a h0)]) (by rw [hax h0 (okN_at g_37)]) ?_
  replace hl : lv_has ls 2 [(0, .ref (a h0)), (1, .ref (a x0))] := by rw [hax h0 (okN_at g_37), hax x0 (okN_at g_38)]; exact hl
  replace hag := hag_new hag hax hnn
  clear hax hnn
  refine W.widen (k := 5) (n := 2816) (Nat.le_of_ble_eq_true rfl) (Nat.le_of_ble_eq_true rfl) ?_
  obtain ⟨g_42, hf⟩ := grd_some hf
  obtain ⟨g_43, hf⟩ := grd_some hf
  obtain ⟨kg_43, sg_43⟩ := okO_at g_43
  refine va_putF (D := (dC, dI)) (ci := 14) (v := .ref (a k_40)) (ty := .array .int) (C := RX14) (T := TX14) (N := 11) hx hb hts iwd_X14_init_X14 tyX14 tyX14_ok nmX14 hown hK hP hD hS h0 (Wd_ob kg_43 sg_43 (by decide)) rfl 4 (by decide) (hts _ md_X14_init_10) (fun _ h9 => h9) rfl hin rfl (by decide +kernel) rfl rfl (by rw [fl_len]; decide) dX14_init_46 (fun H_44 locs hP2 hD2 hS2 => ?_)
  rw [Wd_sq1 sg_43 (by decide) rfl] at hP2 hD2
  obtain ⟨z_45, ez_45⟩ : ∃ w, w = sq z_39 h0 4 (some k_40) := ⟨_, rfl⟩
  rw [← ez_45] at hP2 hD2
  replace hf := lt_at ez_45 hf
  replace hk : lk z_45 n := by rw [ez_45]; exact lk_sq1 hk (okN_at g_42)
  clear ez_45
  replace hP := hP2
  replace hD := hD2
  replace hS := hS2
  clear hP2 hD2 hS2
  refine lv_aload_n hx hb dX14_init_49 rfl (lv_at hl 0 rfl) ?_
  refine lv_sipush (v := 1024) hx hb dX14_init_50 (by decide) ?_
  obtain ⟨g_46, hf⟩ := grd_some hf
  obtain ⟨g_47, hf⟩ := grd_some hf
  refine de_newa (atype := .long) (ty := .long) (t := 2) (N := 1024) (a0 := (1024, .inr (.inl (fun _ => 0)))) hf hk hx hb (hts _ md_X14_init_4) rfl hK hP hD hS hA rfl rfl (fun _ => rfl) (by decide) (by decide) (Nat.le_of_ble_eq_true rfl) (Nat.le_of_ble_eq_true rfl) (Nat.le_of_ble_eq_true rfl) dX14_init_53 (fun a sh n z_48 k_49 H_50 hf hax hk hnn hP hD hS => ?_)
  refine W.eq (g2 := F0 m 55 ls [.ref (a k_49), .ref (a h0)]) (by rw [hax h0 (okN_at g_46)]) ?_
  replace hl : lv_has ls 2 [(0, .ref (a h0)), (1, .ref (a x0))] := by rw [hax h0 (okN_at g_46), hax x0 (okN_at g_47)]; exact hl
  replace hag := hag_new hag hax hnn
  clear hax hnn
  refine W.widen (k := 6) (n := 3840) (Nat.le_of_ble_eq_true rfl) (Nat.le_of_ble_eq_true rfl) ?_
  obtain ⟨g_51, hf⟩ := grd_some hf
  obtain ⟨g_52, hf⟩ := grd_some hf
  obtain ⟨kg_52, sg_52⟩ := okO_at g_52
  refine va_putF (D := (dC, dI)) (ci := 14) (v := .ref (a k_49)) (ty := .array .long) (C := RX14) (T := TX14) (N := 11) hx hb hts iwd_X14_init_X14 tyX14 tyX14_ok nmX14 hown hK hP hD hS h0 (Wd_ob kg_52 sg_52 (by decide)) rfl 6 (by decide) (hts _ md_X14_init_11) (fun _ h9 => h9) rfl hin rfl (by decide +kernel) rfl rfl (by rw [fl_len]; decide) dX14_init_55 (fun H_53 locs hP2 hD2 hS2 => ?_)
  rw [Wd_sq1 sg_52 (by decide) rfl] at hP2 hD2
  obtain ⟨z_54, ez_54⟩ : ∃ w, w = sq z_48 h0 6 (some k_49) := ⟨_, rfl⟩
  rw [← ez_54] at hP2 hD2
  replace hf := lt_at ez_54 hf
  replace hk : lk z_54 n := by rw [ez_54]; exact lk_sq1 hk (okN_at g_51)
  clear ez_54
  replace hP := hP2
  replace hD := hD2
  replace hS := hS2
  clear hP2 hD2 hS2
  refine lv_aload_n hx hb dX14_init_58 rfl (lv_at hl 0 rfl) ?_
  refine lv_sipush (v := 256) hx hb dX14_init_59 (by decide) ?_
  obtain ⟨g_55, hf⟩ := grd_some hf
  obtain ⟨g_56, hf⟩ := grd_some hf
  refine de_newa (atype := .int) (ty := .int) (t := 1) (N := 256) (a0 := (256, .inl (fun _ => 0))) hf hk hx hb (hts _ md_X14_init_7) rfl hK hP hD hS hA rfl rfl (fun _ => rfl) (by decide) (by decide) (Nat.le_of_ble_eq_true rfl) (Nat.le_of_ble_eq_true rfl) (Nat.le_of_ble_eq_true rfl) dX14_init_62 (fun a sh n z_57 k_58 H_59 hf hax hk hnn hP hD hS => ?_)
  refine W.eq (g2 := F0 m 64 ls [.ref (a k_58), .ref (a h0)]) (by rw [hax h0 (okN_at g_55)]) ?_
  replace hl : lv_has ls 2 [(0, .ref (a h0)), (1, .ref (a x0))] := by rw [hax h0 (okN_at g_55), hax x0 (okN_at g_56)]; exact hl
  replace hag := hag_new hag hax hnn
  clear hax hnn
  refine W.widen (k := 7) (n := 4096) (Nat.le_of_ble_eq_true rfl) (Nat.le_of_ble_eq_true rfl) ?_
  obtain ⟨g_60, hf⟩ := grd_some hf
  obtain ⟨g_61, hf⟩ := grd_some hf
  obtain ⟨kg_61, sg_61⟩ := okO_at g_61
  refine va_putF (D := (dC, dI)) (ci := 14) (v := .ref (a k_58)) (ty := .array .int) (C := RX14) (T := TX14) (N := 11) hx hb hts iwd_X14_init_X14 tyX14 tyX14_ok nmX14 hown hK hP hD hS h0 (Wd_ob kg_61 sg_61 (by decide)) rfl 7 (by decide) (hts _ md_X14_init_12) (fun _ h9 => h9) rfl hin rfl (by decide +kernel) rfl rfl (by rw [fl_len]; decide) dX14_init_64 (fun H_62 locs hP2 hD2 hS2 => ?_)
  rw [Wd_sq1 sg_61 (by decide) rfl] at hP2 hD2
  obtain ⟨z_63, ez_63⟩ : ∃ w, w = sq z_57 h0 7 (some k_58) := ⟨_, rfl⟩
  rw [← ez_63] at hP2 hD2
  replace hf := lt_at ez_63 hf
  replace hk : lk z_63 n := by rw [ez_63]; exact lk_sq1 hk (okN_at g_60)
  clear ez_63
  replace hP := hP2
  replace hD := hD2
  replace hS := hS2
  clear hP2 hD2 hS2
  refine lv_aload_n hx hb dX14_init_67 rfl (lv_at hl 0 rfl) ?_
  refine lv_sipush (v := 256) hx hb dX14_init_68 (by decide) ?_
  obtain ⟨g_64, hf⟩ := grd_some hf
  obtain ⟨g_65, hf⟩ := grd_some hf
  refine de_newa (atype := .int) (ty := .int) (t := 1) (N := 256) (a0 := (256, .inl (fun _ => 0))) hf hk hx hb (hts _ md_X14_init_7) rfl hK hP hD hS hA rfl rfl (fun _ => rfl) (by decide) (by decide) (Nat.le_of_ble_eq_true rfl) (Nat.le_of_ble_eq_true rfl) (Nat.le_of_ble_eq_true rfl) dX14_init_71 (fun a sh n z_66 k_67 H_68 hf hax hk hnn hP hD hS => ?_)
  refine W.eq (g2 := F0 m 73 ls [.ref (a k_67), .ref (a h0)]) (by rw [hax h0 (okN_at g_64)]) ?_
  replace hl : lv_has ls 2 [(0, .ref (a h0)), (1, .ref (a x0))] := by rw [hax h0 (okN_at g_64), hax x0 (okN_at g_65)]; exact hl
  replace hag := hag_new hag hax hnn
  clear hax hnn
  refine W.widen (k := 8) (n := 4352) (Nat.le_of_ble_eq_true rfl) (Nat.le_of_ble_eq_true rfl) ?_
  obtain ⟨g_69, hf⟩ := grd_some hf
  obtain ⟨g_70, hf⟩ := grd_some hf
  obtain ⟨kg_70, sg_70⟩ := okO_at g_70
  refine va_putF (D := (dC, dI)) (ci := 14) (v := .ref (a k_67)) (ty := .array .int) (C := RX14) (T := TX14) (N := 11) hx hb hts iwd_X14_init_X14 tyX14 tyX14_ok nmX14 hown hK hP hD hS h0 (Wd_ob kg_70 sg_70 (by decide)) rfl 8 (by decide) (hts _ md_X14_init_13) (fun _ h9 => h9) rfl hin rfl (by decide +kernel) rfl rfl (by rw [fl_len]; decide) dX14_init_73 (fun H_71 locs hP2 hD2 hS2 => ?_)
  rw [Wd_sq1 sg_70 (by decide) rfl] at hP2 hD2
  obtain ⟨z_72, ez_72⟩ : ∃ w, w = sq z_66 h0 8 (some k_67) := ⟨_, rfl⟩
  rw [← ez_72] at hP2 hD2
  replace hf := lt_at ez_72 hf
  replace hk : lk z_72 n := by rw [ez_72]; exact lk_sq1 hk (okN_at g_69)
  clear ez_72
  replace hP := hP2
  replace hD := hD2
  replace hS := hS2
  clear hP2 hD2 hS2
  refine lv_aload_n hx hb dX14_init_76 rfl (lv_at hl 0 rfl) ?_
  refine lv_aload_n hx hb dX14_init_77 rfl (lv_at hl 1 rfl) ?_
  obtain ⟨g_73, hf⟩ := grd_some hf
  refine va_putF (D := (dC, dI)) (ci := 14) (v := .ref (a x0)) (ty := .object "ResourceLedgerModel$Digester") (C := RX14) (T := TX14) (N := 11) hx hb hts iwd_X14_init_X14 tyX14 tyX14_ok nmX14 hown hK hP hD hS h0 (Wd_ob kg_70 sg_70 (by decide)) rfl 10 (by decide) (hts _ md_X14_init_14) (fun _ h9 => h9) rfl hin rfl (by decide +kernel) rfl rfl (by rw [fl_len]; decide) dX14_init_78 (fun H_74 locs hP2 hD2 hS2 => ?_)
  rw [Wd_sq1 sg_70 (by decide) rfl] at hP2 hD2
  obtain ⟨z_75, ez_75⟩ : ∃ w, w = sq z_72 h0 10 (some x0) := ⟨_, rfl⟩
  rw [← ez_75] at hP2 hD2
  replace hf := lt_at ez_75 hf
  replace hk : lk z_75 n := by rw [ez_75]; exact lk_sq1 hk (okN_at g_73)
  clear ez_75
  replace hP := hP2
  replace hD := hD2
  replace hS := hS2
  clear hP2 hD2 hS2
  obtain ⟨h5, h6, h8, h9⟩ := rta_some hf
  rw [h5, h6, h8]
  exact W.vret hx hb hr (fun t ht hW => ⟨⟨a, rfl, ⟨hag, hk⟩, by rw [ht]; exact hP, va_K.moved hW.alike hK, hD⟩, hS.F ht⟩) hS.2.2 dX14_init_81

theorem md_X9_init_1 : (.methodLink RX9 3 objectInit : Cond) ∈ wsX9_init := List.mem_of_getElem? (i := 1) rfl
theorem md_X9_init_2 : (.instanceMethod objectInit : Cond) ∈ wsX9_init := List.mem_of_getElem? (i := 2) rfl
theorem md_X9_init_3 : (.code objectInit ⟨#[0xb1]⟩ 1 none : Cond) ∈ wsX9_init := List.mem_of_getElem? (i := 3) rfl
theorem md_X9_init_4 : (.arrayClass .long : Cond) ∈ wsX9_init := List.mem_of_getElem? (i := 4) rfl
theorem md_X9_init_5 : (.fieldLink RX9 9 "ResourceLedger$Tree" "top" "[J" : Cond) ∈ wsX9_init := List.mem_of_getElem? (i := 5) rfl
theorem iwd_X9_init_X9 : ∀ w ∈ wsX90, w ∈ wsX9_init := fun _ h => List.mem_cons_of_mem _ (List.mem_append_left _ (List.mem_append_right _ h))
theorem iwd_X9_init_X0 : ∀ w ∈ wsX00, w ∈ wsX9_init := fun _ h => List.mem_cons_of_mem _ (List.mem_append_right _ h)
theorem md_X9_init_6 : (.classLink RX9 15 RX0 : Cond) ∈ wsX9_init := List.mem_of_getElem? (i := 6) rfl
theorem md_X9_init_7 : (.instantiable RX0 4 : Cond) ∈ wsX9_init := List.mem_of_getElem? (i := 7) rfl
theorem md_X9_init_8 : (.initialized RX0 : Cond) ∈ wsX9_init := List.mem_of_getElem? (i := 8) rfl
theorem md_X9_init_20 : (.instanceMethod yX0_init : Cond) ∈ wsX9_init := List.mem_of_getElem? (i := 20) rfl
theorem md_X9_init_9 : (.fieldLink RX9 18 "ResourceLedger$Tree" "digest" "LResourceLedger$Digest;" : Cond) ∈ wsX9_init := List.mem_of_getElem? (i := 9) rfl
theorem md_X9_init_10 : (.fieldLink RX9 22 "ResourceLedger$Tree" "rows" "[J" : Cond) ∈ wsX9_init := List.mem_of_getElem? (i := 10) rfl
theorem md_X9_init_11 : (.fieldLink RX9 25 "ResourceLedger$Tree" "leaves" "[J" : Cond) ∈ wsX9_init := List.mem_of_getElem? (i := 11) rfl
theorem md_X9_init_12 : (.fieldLink RX9 28 "ResourceLedger$Tree" "value" "[J" : Cond) ∈ wsX9_init := List.mem_of_getElem? (i := 12) rfl
theorem md_X9_init_13 : (.arrayClass .int : Cond) ∈ wsX9_init := List.mem_of_getElem? (i := 13) rfl
theorem md_X9_init_14 : (.fieldLink RX9 31 "ResourceLedger$Tree" "order" "[I" : Cond) ∈ wsX9_init := List.mem_of_getElem? (i := 14) rfl
theorem md_X9_init_15 : (.arrayClass .byte : Cond) ∈ wsX9_init := List.mem_of_getElem? (i := 15) rfl
theorem md_X9_init_16 : (.fieldLink RX9 35 "ResourceLedger$Tree" "bytes" "[B" : Cond) ∈ wsX9_init := List.mem_of_getElem? (i := 16) rfl
theorem md_X9_init_17 : (.fieldLink RX9 39 "ResourceLedger$Tree" "now" "[J" : Cond) ∈ wsX9_init := List.mem_of_getElem? (i := 17) rfl
theorem md_X9_init_18 : (.fieldLink RX9 42 "ResourceLedger$Tree" "waiting" "[J" : Cond) ∈ wsX9_init := List.mem_of_getElem? (i := 18) rfl
theorem md_X9_init_19 : (.fieldLink RX9 45 "ResourceLedger$Tree" "waitingLevel" "[I" : Cond) ∈ wsX9_init := List.mem_of_getElem? (i := 19) rfl
set_option maxHeartbeats 4000000 in
set_option maxRecDepth 100000 in
theorem da_X9_init (l : Launch) (dC : Nat → ClassId) (dI : Nat → Nat → Nat) (cy : Nat → ClassId) (a0 : Nat → Nat) (sh0 : Nat → Nat × Nat) (n0 sz : Nat) (F : Nat) (z0 : St) (h0 : Nat) (hk0 : lk z0 n0) {sh8 : Nat → Nat × Nat} {n8 : Nat} {z8 : St} {r8 : Unit} (hf : fa_X9_init F sh0 n0 z0 h0 = some (sh8, n8, z8, r8)) : Met l yX9_init wsX9_init ({ frames := 2, cells := 12, slots := 5469, locals := 32 }) (va_Pc [.ref (a0 h0)] (fun U => U.heap.size = sz ∧ va_P (dC, dI) vwCl (Wd cy a0 sh0 n0 z0) U.heap ∧ va_K (dC, dI) vwCl (TYS cy) U ∧ va_D (fun _ => True) (Wd cy a0 sh0 n0 z0) ∧ NK U)) (va_Qv (fun u : Nat → Nat => ((∀ k, k < n0 ∨ k = CBK → u k = a0 k) ∧ n0 ≤ n8) ∧ lk z8 n8) (fun u t => va_P (dC, dI) vwCl (Wd cy u sh8 n8 z8) t.heap ∧ va_K (dC, dI) vwCl (TYS cy) t ∧ va_D (va_A (Wd cy a0 sh0 n0 z0) sz) (Wd cy u sh8 n8 z8)) (va_A (Wd cy a0 sh0 n0 z0) sz)) 12 5469 (va_A (Wd cy a0 sh0 n0 z0) sz) := by
  refine Met.ofW (cc := cX9_init) (maxL := 1) (ret := none) (by decide) rfl ?_
  intro p e s m args below meth c s₁ B hml hv
  obtain ⟨rfl, hsz, hP, hK, hD0, hN⟩ := hv
  have hx := B.exec
  have hb := B.bytes
  have hr := B.returns
  have hts := atoms_spec (ws := wsX9_init) B.pre
  have hown : s.vm.findClass RX9 = some m.cls := findClass_of_methodNamed B.named
  have hlocks := B.notSynchronized
  have hin : meth.name = "<init>" := (name_of_methodNamed B.named B.method).1
  subst hsz
  have hD := hD0.self (sz := s.heap.size)
  clear hD0
  generalize hAe : va_A (Wd cy a0 sh0 n0 z0) s.heap.size = A at hD ⊢
  have hA : ∀ q : Nat, s.heap.size ≤ q → A q := fun q h => by rw [← hAe]; exact Or.inr h
  clear hAe
  have hS : va_S A s.heap s.heap [] := va_S.rf
  have hl := lv_entry ([.ref (a0 h0)]) (n := 1) (Nat.le_of_ble_eq_true rfl)
  rw [lg_entry_eq]
  generalize (lg_sl ([.ref (a0 h0)]) ++ List.replicate (1 - (lg_sl ([.ref (a0 h0)])).length) Slot.unset).toArray = ls at hl ⊢
  replace hl : lv_has ls 1 [(0, .ref (a0 h0))] := hl
  unfold fa_X9_init at hf
  refine da_start (fn := fun sh n z => fa_X9_init F sh n z h0) (av := fun a => [(0, .ref (a h0))]) (sk := fun q => True) hf hk0 hS hD hP hl trivial (fun a sh n z H locs hf hag hk hS hD hP hl hSK => ?_)
  unfold fa_X9_init at hf
  try dsimp only at hf hl hSK
  refine lv_aload_n hx hb dX9_init_0 rfl (lv_at hl 0 rfl) ?_
  refine W.objInit hx hb hown (hts _ md_X9_init_1) (hts _ md_X9_init_2) (hts _ md_X9_init_3) rfl (by rw [hml]; exact hl.1) rfl dX9_init_1 (Nat.le_of_ble_eq_true rfl) (Nat.le_of_ble_eq_true rfl) ?_
  refine W.eq (g2 := F0 m 4 ls []) rfl ?_
  refine lv_aload_n hx hb dX9_init_4 rfl (lv_at hl 0 rfl) ?_
  refine lv_iconst (v := 4) hx hb dX9_init_5 (by decide) ?_
  obtain ⟨g_1, hf⟩ := grd_some hf
  refine de_newa (atype := .long) (ty := .long) (t := 2) (N := 4) (a0 := (4, .inr (.inl (fun _ => 0)))) hf hk hx hb (hts _ md_X9_init_4) rfl hK hP hD hS hA rfl rfl (fun _ => rfl) (by decide) (by decide) (Nat.le_of_ble_eq_true rfl) (Nat.le_of_ble_eq_true rfl) (Nat.le_of_ble_eq_true rfl) dX9_init_6 (fun a sh n z_2 k_3 H_4 hf hax hk hnn hP hD hS => ?_)
  refine W.eq (g2 := F0 m 8 ls [.ref (a k_3), .ref (a h0)]) (by rw [hax h0 (okN_at g_1)]) ?_
  replace hl : lv_has ls 1 [(0, .ref (a h0))] := by rw [hax h0 (okN_at g_1)]; exact hl
  replace hag := hag_new hag hax hnn
  clear hax hnn
  refine W.widen (k := 1) (n := 4) (Nat.le_of_ble_eq_true rfl) (Nat.le_of_ble_eq_true rfl) ?_
  obtain ⟨g_5, hf⟩ := grd_some hf
  obtain ⟨g_6, hf⟩ := grd_some hf
  obtain ⟨kg_6, sg_6⟩ := okO_at g_6
  refine va_putF (D := (dC, dI)) (ci := 9) (v := .ref (a k_3)) (ty := .array .long) (C := RX9) (T := TX9) (N := 13) hx hb hts iwd_X9_init_X9 tyX9 tyX9_ok nmX9 hown hK hP hD hS h0 (Wd_ob kg_6 sg_6 (by decide)) rfl 0 (by decide) (hts _ md_X9_init_5) (fun _ h9 => h9) rfl hin rfl (by decide +kernel) rfl rfl (by rw [fl_len]; decide) dX9_init_8 (fun H_7 locs hP2 hD2 hS2 => ?_)
  rw [Wd_sq1 sg_6 (by decide) rfl] at hP2 hD2
  obtain ⟨z_8, ez_8⟩ : ∃ w, w = sq z_2 h0 0 (some k_3) := ⟨_, rfl⟩
  rw [← ez_8] at hP2 hD2
  replace hf := lt_at ez_8 hf
  replace hk : lk z_8 n := by rw [ez_8]; exact lk_sq1 hk (okN_at g_5)
  clear ez_8
  replace hP := hP2
  replace hD := hD2
  replace hS := hS2
  clear hP2 hD2 hS2
  refine lv_aload_n hx hb dX9_init_11 rfl (lv_at hl 0 rfl) ?_
  obtain ⟨g_9, hf⟩ := grd_some hf
  refine de_new (ci := 0) (fs := [.null, .null, .int 0, .long 0]) (C := RX0) (T := TX0) (N := 4) hf hk hx hb hts iwd_X9_init_X0 tyX0 tyX0_ok hown (hts _ md_X9_init_6) (hts _ md_X9_init_7) (hts _ md_X9_init_8) hK hP hD hS hA rfl rfl df_X0 (Nat.le_of_ble_eq_true rfl) (Nat.le_of_ble_eq_true rfl) dX9_init_12 (fun a sh n z_10 k_11 H_12 hf hax hk hnn hP hD hS => ?_)
  refine W.eq (g2 := F0 m 15 ls [.ref (a k_11), .ref (a h0)]) (by rw [hax h0 (okN_at g_9)]) ?_
  replace hl : lv_has ls 1 [(0, .ref (a h0))] := by rw [hax h0 (okN_at g_9)]; exact hl
  replace hag := hag_new hag hax hnn
  clear hax hnn
  refine W.widen (k := 2) (n := 8) (Nat.le_of_ble_eq_true rfl) (Nat.le_of_ble_eq_true rfl) ?_
  refine lv_dup hx hb dX9_init_15 rfl ?_
  obtain ⟨g_13, hf⟩ := grd_some hf
  obtain ⟨g_14, hf⟩ := grd_some hf
  obtain ⟨shq, nq, z_15, _u, hfc, hf⟩ := cala_some hf
  have hFc := de_free hD hS hA
  refine va_callv (va_runIN (As := []) (rest := [.ref (a k_11), .ref (a h0)]) ⟨hx, hb, hml, hown, hts⟩ (da_X0_init l dC dI cy a sh n H_12.size F z_10 k_11 hk hfc) ⟨va_cnB 0 hts ggX9_init_X0_init rfl rfl rfl (NK_m_X9_17 hN) (hts _ md_X9_init_8) ⟨by decide, by decide, by decide +kernel⟩ ⟨Nat.le_of_ble_eq_true rfl, Nat.le_of_ble_eq_true rfl⟩, rfl, (hts _ md_X9_init_20)⟩ ⟨fun a U g mk q => by obtain ⟨q0, q1, qP, qK, qD, qN⟩ := q; exact ⟨q0, q1, qP, va_K.moved (u := U) (U := U.calling g mk a) (Vm.Alike.refl U.vm) qK, qD, qN.same rfl⟩, fun U hU hW => ⟨rfl, by rw [hU], by rw [hU]; exact hP, va_K.moved hW.alike hK, hD.weaken (fun _ _ _ _ => trivial), hN.warm hW⟩⟩ rfl rfl hl.1 rfl (lv_room (Nat.le_of_ble_eq_true rfl)) dX9_init_16 ⟨Nat.le_of_ble_eq_true rfl, Nat.le_of_ble_eq_true rfl⟩) hS (fun q _ h => hFc q h) hFc (fun a t H_16 locs ht hvm hw hB hz1 hk1 hS2 => ?_)
  obtain ⟨⟨hax, hnn⟩, hk⟩ := hw
  obtain ⟨hP1, -, hD1⟩ := hB
  rw [ht] at hP1
  replace hD := hD1.weaken (fun _ _ _ h => hFc _ h)
  replace hP := hP1
  replace hS := hS2
  obtain ⟨sh, esh⟩ : ∃ w, w = shq := ⟨_, rfl⟩
  subst esh
  replace hl : lv_has ls 1 [(0, .ref (a h0))] := by rw [hax h0 (okN_at g_13)]; exact hl
  replace hag := hag_new hag hax hnn
  obtain ⟨n, enq⟩ : ∃ w, w = nq := ⟨_, rfl⟩
  subst enq
  refine W.eq (g2 := F0 m 19 ls [.ref (a k_11), .ref (a h0)]) (by rw [hax h0 (okN_at g_13), hax k_11 (okN_at g_14)]) ?_
  clear hax hnn hP1 hD1 hS2 hFc hfc hz1 hk1 hvm ht
  refine W.widen (k := 4) (n := 80) (Nat.le_of_ble_eq_true rfl) (Nat.le_of_ble_eq_true rfl) ?_
  obtain ⟨g_17, hf⟩ := grd_some hf
  obtain ⟨g_18, hf⟩ := grd_some hf
  obtain ⟨kg_18, sg_18⟩ := okO_at g_18
  refine va_putF (D := (dC, dI)) (ci := 9) (v := .ref (a k_11)) (ty := .object "ResourceLedger$Digest") (C := RX9) (T := TX9) (N := 13) hx hb hts iwd_X9_init_X9 tyX9 tyX9_ok nmX9 hown hK hP hD hS h0 (Wd_ob kg_18 sg_18 (by decide)) rfl 2 (by decide) (hts _ md_X9_init_9) (fun _ h9 => h9) rfl hin rfl (by decide +kernel) rfl rfl (by rw [fl_len]; decide) dX9_init_19 (fun H_19 locs hP2 hD2 hS2 => ?_)
  rw [Wd_sq1 sg_18 (by decide) rfl] at hP2 hD2
  obtain ⟨z_20, ez_20⟩ : ∃ w, w = sq z_15 h0 2 (some k_11) := ⟨_, rfl⟩
  rw [← ez_20] at hP2 hD2
  replace hf := lt_at ez_20 hf
  replace hk : lk z_20 n := by rw [ez_20]; exact lk_sq1 hk (okN_at g_17)
  clear ez_20
  replace hP := hP2
  replace hD := hD2
  replace hS := hS2
  clear hP2 hD2 hS2
  refine lv_aload_n hx hb dX9_init_22 rfl (lv_at hl 0 rfl) ?_
  refine lv_sipush (v := 1792) hx hb dX9_init_23 (by decide) ?_
  obtain ⟨g_21, hf⟩ := grd_some hf
  refine de_newa (atype := .long) (ty := .long) (t := 2) (N := 1792) (a0 := (1792, .inr (.inl (fun _ => 0)))) hf hk hx hb (hts _ md_X9_init_4) rfl hK hP hD hS hA rfl rfl (fun _ => rfl) (by decide) (by decide) (Nat.le_of_ble_eq_true rfl) (Nat.le_of_ble_eq_true rfl) (Nat.le_of_ble_eq_true rfl) dX9_init_26 (fun a sh n z_22 k_23 H_24 hf hax hk hnn hP hD hS => ?_)
  refine W.eq (g2 := F0 m 28 ls [.ref (a k_23), .ref (a h0)]) (by rw [hax h0 (okN_at g_21)]) ?_
  replace hl : lv_has ls 1 [(0, .ref (a h0))] := by rw [hax h0 (okN_at g_21)]; exact hl
  replace hag := hag_new hag hax hnn
  clear hax hnn
  refine W.widen (k := 5) (n := 1872) (Nat.le_of_ble_eq_true rfl) (Nat.le_of_ble_eq_true rfl) ?_
  obtain ⟨g_25, hf⟩ := grd_some hf
  obtain ⟨g_26, hf⟩ := grd_some hf
  obtain ⟨kg_26, sg_26⟩ := okO_at g_26
  refine va_putF (D := (dC, dI)) (ci := 9) (v := .ref (a k_23)) (ty := .array .long) (C := RX9) (T := TX9) (N := 13) hx hb hts iwd_X9_init_X9 tyX9 tyX9_ok nmX9 hown hK hP hD hS h0 (Wd_ob kg_26 sg_26 (by decide)) rfl 3 (by decide) (hts _ md_X9_init_10) (fun _ h9 => h9) rfl hin rfl (by decide +kernel) rfl rfl (by rw [fl_len]; decide) dX9_init_28 (fun H_27 locs hP2 hD2 hS2 => ?_)
  rw [Wd_sq1 sg_26 (by decide) rfl] at hP2 hD2
  obtain ⟨z_28, ez_28⟩ : ∃ w, w = sq z_22 h0 3 (some k_23) := ⟨_, rfl⟩
  rw [← ez_28] at hP2 hD2
  replace hf := lt_at ez_28 hf
  replace hk : lk z_28 n := by rw [ez_28]; exact lk_sq1 hk (okN_at g_25)
  clear ez_28
  replace hP := hP2
  replace hD := hD2
  replace hS := hS2
  clear hP2 hD2 hS2
  refine lv_aload_n hx hb dX9_init_31 rfl (lv_at hl 0 rfl) ?_
  refine lv_sipush (v := 1024) hx hb dX9_init_32 (by decide) ?_
  obtain ⟨g_29, hf⟩ := grd_some hf
  refine de_newa (atype := .long) (ty := .long) (t := 2) (N := 1024) (a0 := (1024, .inr (.inl (fun _ => 0)))) hf hk hx hb (hts _ md_X9_init_4) rfl hK hP hD hS hA rfl rfl (fun _ => rfl) (by decide) (by decide) (Nat.le_of_ble_eq_true rfl) (Nat.le_of_ble_eq_true rfl) (Nat.le_of_ble_eq_true rfl) dX9_init_35 (fun a sh n z_30 k_31 H_32 hf hax hk hnn hP hD hS => ?_)
  refine W.eq (g2 := F0 m 37 ls [.ref (a k_31), .ref (a h0)]) (by rw [hax h0 (okN_at g_29)]) ?_
  replace hl : lv_has ls 1 [(0, .ref (a h0))] := by rw [hax h0 (okN_at g_29)]; exact hl
  replace hag := hag_new hag hax hnn
  clear hax hnn
  refine W.widen (k := 6) (n := 2896) (Nat.le_of_ble_eq_true rfl) (Nat.le_of_ble_eq_true rfl) ?_
  obtain ⟨g_33, hf⟩ := grd_some hf
  obtain ⟨g_34, hf⟩ := grd_some hf
  obtain ⟨kg_34, sg_34⟩ := okO_at g_34
  refine va_putF (D := (dC, dI)) (ci := 9) (v := .ref (a k_31)) (ty := .array .long) (C := RX9) (T := TX9) (N := 13) hx hb hts iwd_X9_init_X9 tyX9 tyX9_ok nmX9 hown hK hP hD hS h0 (Wd_ob kg_34 sg_34 (by decide)) rfl 4 (by decide) (hts _ md_X9_init_11) (fun _ h9 => h9) rfl hin rfl (by decide +kernel) rfl rfl (by rw [fl_len]; decide) dX9_init_37 (fun H_35 locs hP2 hD2 hS2 => ?_)
  rw [Wd_sq1 sg_34 (by decide) rfl] at hP2 hD2
  obtain ⟨z_36, ez_36⟩ : ∃ w, w = sq z_30 h0 4 (some k_31) := ⟨_, rfl⟩
  rw [← ez_36] at hP2 hD2
  replace hf := lt_at ez_36 hf
  replace hk : lk z_36 n := by rw [ez_36]; exact lk_sq1 hk (okN_at g_33)
  clear ez_36
  replace hP := hP2
  replace hD := hD2
  replace hS := hS2
  clear hP2 hD2 hS2
  refine lv_aload_n hx hb dX9_init_40 rfl (lv_at hl 0 rfl) ?_
  refine lv_iconst (v := 4) hx hb dX9_init_41 (by decide) ?_
  obtain ⟨g_37, hf⟩ := grd_some hf
  refine de_newa (atype := .long) (ty := .long) (t := 2) (N := 4) (a0 := (4, .inr (.inl (fun _ => 0)))) hf hk hx hb (hts _ md_X9_init_4) rfl hK hP hD hS hA rfl rfl (fun _ => rfl) (by decide) (by decide) (Nat.le_of_ble_eq_true rfl) (Nat.le_of_ble_eq_true rfl) (Nat.le_of_ble_eq_true rfl) dX9_init_42 (fun a sh n z_38 k_39 H_40 hf hax hk hnn hP hD hS => ?_)
  refine W.eq (g2 := F0 m 44 ls [.ref (a k_39), .ref (a h0)]) (by rw [hax h0 (okN_at g_37)]) ?_
  replace hl : lv_has ls 1 [(0, .ref (a h0))] := by rw [hax h0 (okN_at g_37)]; exact hl
  replace hag := hag_new hag hax hnn
  clear hax hnn
  refine W.widen (k := 7) (n := 2900) (Nat.le_of_ble_eq_true rfl) (Nat.le_of_ble_eq_true rfl) ?_
  obtain ⟨g_41, hf⟩ := grd_some hf
  obtain ⟨g_42, hf⟩ := grd_some hf
  obtain ⟨kg_42, sg_42⟩ := okO_at g_42
  refine va_putF (D := (dC, dI)) (ci := 9) (v := .ref (a k_39)) (ty := .array .long) (C := RX9) (T := TX9) (N := 13) hx hb hts iwd_X9_init_X9 tyX9 tyX9_ok nmX9 hown hK hP hD hS h0 (Wd_ob kg_42 sg_42 (by decide)) rfl 5 (by decide) (hts _ md_X9_init_12) (fun _ h9 => h9) rfl hin rfl (by decide +kernel) rfl rfl (by rw [fl_len]; decide) dX9_init_44 (fun H_43 locs hP2 hD2 hS2 => ?_)
  rw [Wd_sq1 sg_42 (by decide) rfl] at hP2 hD2
  obtain ⟨z_44, ez_44⟩ : ∃ w, w = sq z_38 h0 5 (some k_39) := ⟨_, rfl⟩
  rw [← ez_44] at hP2 hD2
  replace hf := lt_at ez_44 hf
  replace hk : lk z_44 n := by rw [ez_44]; exact lk_sq1 hk (okN_at g_41)
  clear ez_44
  replace hP := hP2
  replace hD := hD2
  replace hS := hS2
  clear hP2 hD2 hS2
  refine lv_aload_n hx hb dX9_init_47 rfl (lv_at hl 0 rfl) ?_
  refine lv_sipush (v := 256) hx hb dX9_init_48 (by decide) ?_
  obtain ⟨g_45, hf⟩ := grd_some hf
  refine de_newa (atype := .int) (ty := .int) (t := 1) (N := 256) (a0 := (256, .inl (fun _ => 0))) hf hk hx hb (hts _ md_X9_init_13) rfl hK hP hD hS hA rfl rfl (fun _ => rfl) (by decide) (by decide) (Nat.le_of_ble_eq_true rfl) (Nat.le_of_ble_eq_true rfl) (Nat.le_of_ble_eq_true rfl) dX9_init_51 (fun a sh n z_46 k_47 H_48 hf hax hk hnn hP hD hS => ?_)
  refine W.eq (g2 := F0 m 53 ls [.ref (a k_47), .ref (a h0)]) (by rw [hax h0 (okN_at g_45)]) ?_
  replace hl : lv_has ls 1 [(0, .ref (a h0))] := by rw [hax h0 (okN_at g_45)]; exact hl
  replace hag := hag_new hag hax hnn
  clear hax hnn
  refine W.widen (k := 8) (n := 3156) (Nat.le_of_ble_eq_true rfl) (Nat.le_of_ble_eq_true rfl) ?_
  obtain ⟨g_49, hf⟩ := grd_some hf
  obtain ⟨g_50, hf⟩ := grd_some hf
  obtain ⟨kg_50, sg_50⟩ := okO_at g_50
  refine va_putF (D := (dC, dI)) (ci := 9) (v := .ref (a k_47)) (ty := .array .int) (C := RX9) (T := TX9) (N := 13) hx hb hts iwd_X9_init_X9 tyX9 tyX9_ok nmX9 hown hK hP hD hS h0 (Wd_ob kg_50 sg_50 (by decide)) rfl 6 (by decide) (hts _ md_X9_init_14) (fun _ h9 => h9) rfl hin rfl (by decide +kernel) rfl rfl (by rw [fl_len]; decide) dX9_init_53 (fun H_51 locs hP2 hD2 hS2 => ?_)
  rw [Wd_sq1 sg_50 (by decide) rfl] at hP2 hD2
  obtain ⟨z_52, ez_52⟩ : ∃ w, w = sq z_46 h0 6 (some k_47) := ⟨_, rfl⟩
  rw [← ez_52] at hP2 hD2
  replace hf := lt_at ez_52 hf
  replace hk : lk z_52 n := by rw [ez_52]; exact lk_sq1 hk (okN_at g_49)
  clear ez_52
  replace hP := hP2
  replace hD := hD2
  replace hS := hS2
  clear hP2 hD2 hS2
  refine lv_aload_n hx hb dX9_init_56 rfl (lv_at hl 0 rfl) ?_
  refine lv_sipush (v := 1024) hx hb dX9_init_57 (by decide) ?_
  obtain ⟨g_53, hf⟩ := grd_some hf
  refine de_newa (atype := .byte) (ty := .byte) (t := 0) (N := 1024) (a0 := (1024, .inl (fun _ => 0))) hf hk hx hb (hts _ md_X9_init_15) rfl hK hP hD hS hA rfl rfl (fun _ => rfl) (by decide) (by decide) (Nat.le_of_ble_eq_true rfl) (Nat.le_of_ble_eq_true rfl) (Nat.le_of_ble_eq_true rfl) dX9_init_60 (fun a sh n z_54 k_55 H_56 hf hax hk hnn hP hD hS => ?_)
  refine W.eq (g2 := F0 m 62 ls [.ref (a k_55), .ref (a h0)]) (by rw [hax h0 (okN_at g_53)]) ?_
  replace hl : lv_has ls 1 [(0, .ref (a h0))] := by rw [hax h0 (okN_at g_53)]; exact hl
  replace hag := hag_new hag hax hnn
  clear hax hnn
  refine W.widen (k := 9) (n := 4180) (Nat.le_of_ble_eq_true rfl) (Nat.le_of_ble_eq_true rfl) ?_
  obtain ⟨g_57, hf⟩ := grd_some hf
  obtain ⟨g_58, hf⟩ := grd_some hf
  obtain ⟨kg_58, sg_58⟩ := okO_at g_58
  refine va_putF (D := (dC, dI)) (ci := 9) (v := .ref (a k_55)) (ty := .array .byte) (C := RX9) (T := TX9) (N := 13) hx hb hts iwd_X9_init_X9 tyX9 tyX9_ok nmX9 hown hK hP hD hS h0 (Wd_ob kg_58 sg_58 (by decide)) rfl 8 (by decide) (hts _ md_X9_init_16) (fun _ h9 => h9) rfl hin rfl (by decide +kernel) rfl rfl (by rw [fl_len]; decide) dX9_init_62 (fun H_59 locs hP2 hD2 hS2 => ?_)
  rw [Wd_sq1 sg_58 (by decide) rfl] at hP2 hD2
  obtain ⟨z_60, ez_60⟩ : ∃ w, w = sq z_54 h0 8 (some k_55) := ⟨_, rfl⟩
  rw [← ez_60] at hP2 hD2
  replace hf := lt_at ez_60 hf
  replace hk : lk z_60 n := by rw [ez_60]; exact lk_sq1 hk (okN_at g_57)
  clear ez_60
  replace hP := hP2
  replace hD := hD2
  replace hS := hS2
  clear hP2 hD2 hS2
  refine lv_aload_n hx hb dX9_init_65 rfl (lv_at hl 0 rfl) ?_
  refine lv_iconst (v := 4) hx hb dX9_init_66 (by decide) ?_
  obtain ⟨g_61, hf⟩ := grd_some hf
  refine de_newa (atype := .long) (ty := .long) (t := 2) (N := 4) (a0 := (4, .inr (.inl (fun _ => 0)))) hf hk hx hb (hts _ md_X9_init_4) rfl hK hP hD hS hA rfl rfl (fun _ => rfl) (by decide) (by decide) (Nat.le_of_ble_eq_true rfl) (Nat.le_of_ble_eq_true rfl) (Nat.le_of_ble_eq_true rfl) dX9_init_67 (fun a sh n z_62 k_63 H_64 hf hax hk hnn hP hD hS => ?_)
  refine W.eq (g2 := F0 m 69 ls [.ref (a k_63), .ref (a h0)]) (by rw [hax h0 (okN_at g_61)]) ?_
  replace hl : lv_has ls 1 [(0, .ref (a h0))] := by rw [hax h0 (okN_at g_61)]; exact hl
  replace hag := hag_new hag hax hnn
  clear hax hnn
  refine W.widen (k := 10) (n := 4184) (Nat.le_of_ble_eq_true rfl) (Nat.le_of_ble_eq_true rfl) ?_
  obtain ⟨g_65, hf⟩ := grd_some hf
  obtain ⟨g_66, hf⟩ := grd_some hf
  obtain ⟨kg_66, sg_66⟩ := okO_at g_66
  refine va_putF (D := (dC, dI)) (ci := 9) (v := .ref (a k_63)) (ty := .array .long) (C := RX9) (T := TX9) (N := 13) hx hb hts iwd_X9_init_X9 tyX9 tyX9_ok nmX9 hown hK hP hD hS h0 (Wd_ob kg_66 sg_66 (by decide)) rfl 9 (by decide) (hts _ md_X9_init_17) (fun _ h9 => h9) rfl hin rfl (by decide +kernel) rfl rfl (by rw [fl_len]; decide) dX9_init_69 (fun H_67 locs hP2 hD2 hS2 => ?_)
  rw [Wd_sq1 sg_66 (by decide) rfl] at hP2 hD2
  obtain ⟨z_68, ez_68⟩ : ∃ w, w = sq z_62 h0 9 (some k_63) := ⟨_, rfl⟩
  rw [← ez_68] at hP2 hD2
  replace hf := lt_at ez_68 hf
  replace hk : lk z_68 n := by rw [ez_68]; exact lk_sq1 hk (okN_at g_65)
  clear ez_68
  replace hP := hP2
  replace hD := hD2
  replace hS := hS2
  clear hP2 hD2 hS2
  refine lv_aload_n hx hb dX9_init_72 rfl (lv_at hl 0 rfl) ?_
  refine lv_sipush (v := 1028) hx hb dX9_init_73 (by decide) ?_
  obtain ⟨g_69, hf⟩ := grd_some hf
  refine de_newa (atype := .long) (ty := .long) (t := 2) (N := 1028) (a0 := (1028, .inr (.inl (fun _ => 0)))) hf hk hx hb (hts _ md_X9_init_4) rfl hK hP hD hS hA rfl rfl (fun _ => rfl) (by decide) (by decide) (Nat.le_of_ble_eq_true rfl) (Nat.le_of_ble_eq_true rfl) (Nat.le_of_ble_eq_true rfl) dX9_init_76 (fun a sh n z_70 k_71 H_72 hf hax hk hnn hP hD hS => ?_)
  refine W.eq (g2 := F0 m 78 ls [.ref (a k_71), .ref (a h0)]) (by rw [hax h0 (okN_at g_69)]) ?_
  replace hl : lv_has ls 1 [(0, .ref (a h0))] := by rw [hax h0 (okN_at g_69)]; exact hl
  replace hag := hag_new hag hax hnn
  clear hax hnn
  refine W.widen (k := 11) (n := 5212) (Nat.le_of_ble_eq_true rfl) (Nat.le_of_ble_eq_true rfl) ?_
  obtain ⟨g_73, hf⟩ := grd_some hf
  obtain ⟨g_74, hf⟩ := grd_some hf
  obtain ⟨kg_74, sg_74⟩ := okO_at g_74
  refine va_putF (D := (dC, dI)) (ci := 9) (v := .ref (a k_71)) (ty := .array .long) (C := RX9) (T := TX9) (N := 13) hx hb hts iwd_X9_init_X9 tyX9 tyX9_ok nmX9 hown hK hP hD hS h0 (Wd_ob kg_74 sg_74 (by decide)) rfl 10 (by decide) (hts _ md_X9_init_18) (fun _ h9 => h9) rfl hin rfl (by decide +kernel) rfl rfl (by rw [fl_len]; decide) dX9_init_78 (fun H_75 locs hP2 hD2 hS2 => ?_)
  rw [Wd_sq1 sg_74 (by decide) rfl] at hP2 hD2
  obtain ⟨z_76, ez_76⟩ : ∃ w, w = sq z_70 h0 10 (some k_71) := ⟨_, rfl⟩
  rw [← ez_76] at hP2 hD2
  replace hf := lt_at ez_76 hf
  replace hk : lk z_76 n := by rw [ez_76]; exact lk_sq1 hk (okN_at g_73)
  clear ez_76
  replace hP := hP2
  replace hD := hD2
  replace hS := hS2
  clear hP2 hD2 hS2
  refine lv_aload_n hx hb dX9_init_81 rfl (lv_at hl 0 rfl) ?_
  refine lv_sipush (v := 257) hx hb dX9_init_82 (by decide) ?_
  obtain ⟨g_77, hf⟩ := grd_some hf
  refine de_newa (atype := .int) (ty := .int) (t := 1) (N := 257) (a0 := (257, .inl (fun _ => 0))) hf hk hx hb (hts _ md_X9_init_13) rfl hK hP hD hS hA rfl rfl (fun _ => rfl) (by decide) (by decide) (Nat.le_of_ble_eq_true rfl) (Nat.le_of_ble_eq_true rfl) (Nat.le_of_ble_eq_true rfl) dX9_init_85 (fun a sh n z_78 k_79 H_80 hf hax hk hnn hP hD hS => ?_)
  refine W.eq (g2 := F0 m 87 ls [.ref (a k_79), .ref (a h0)]) (by rw [hax h0 (okN_at g_77)]) ?_
  replace hl : lv_has ls 1 [(0, .ref (a h0))] := by rw [hax h0 (okN_at g_77)]; exact hl
  replace hag := hag_new hag hax hnn
  clear hax hnn
  refine W.widen (k := 12) (n := 5469) (Nat.le_of_ble_eq_true rfl) (Nat.le_of_ble_eq_true rfl) ?_
  obtain ⟨g_81, hf⟩ := grd_some hf
  obtain ⟨g_82, hf⟩ := grd_some hf
  obtain ⟨kg_82, sg_82⟩ := okO_at g_82
  refine va_putF (D := (dC, dI)) (ci := 9) (v := .ref (a k_79)) (ty := .array .int) (C := RX9) (T := TX9) (N := 13) hx hb hts iwd_X9_init_X9 tyX9 tyX9_ok nmX9 hown hK hP hD hS h0 (Wd_ob kg_82 sg_82 (by decide)) rfl 11 (by decide) (hts _ md_X9_init_19) (fun _ h9 => h9) rfl hin rfl (by decide +kernel) rfl rfl (by rw [fl_len]; decide) dX9_init_87 (fun H_83 locs hP2 hD2 hS2 => ?_)
  rw [Wd_sq1 sg_82 (by decide) rfl] at hP2 hD2
  obtain ⟨z_84, ez_84⟩ : ∃ w, w = sq z_78 h0 11 (some k_79) := ⟨_, rfl⟩
  rw [← ez_84] at hP2 hD2
  replace hf := lt_at ez_84 hf
  replace hk : lk z_84 n := by rw [ez_84]; exact lk_sq1 hk (okN_at g_81)
  clear ez_84
  replace hP := hP2
  replace hD := hD2
  replace hS := hS2
  clear hP2 hD2 hS2
  obtain ⟨h5, h6, h8, h9⟩ := rta_some hf
  rw [h5, h6, h8]
  exact W.vret hx hb hr (fun t ht hW => ⟨⟨a, rfl, ⟨hag, hk⟩, by rw [ht]; exact hP, va_K.moved hW.alike hK, hD⟩, hS.F ht⟩) hS.2.2 dX9_init_90

theorem md_X7_init_1 : (.methodLink RX7 3 objectInit : Cond) ∈ wsX7_init := List.mem_of_getElem? (i := 1) rfl
theorem md_X7_init_2 : (.instanceMethod objectInit : Cond) ∈ wsX7_init := List.mem_of_getElem? (i := 2) rfl
theorem md_X7_init_3 : (.code objectInit ⟨#[0xb1]⟩ 1 none : Cond) ∈ wsX7_init := List.mem_of_getElem? (i := 3) rfl
theorem md_X7_init_4 : (.arrayClass .long : Cond) ∈ wsX7_init := List.mem_of_getElem? (i := 4) rfl
theorem md_X7_init_5 : (.fieldLink RX7 9 "ResourceLedger$State" "accountAddress" "[J" : Cond) ∈ wsX7_init := List.mem_of_getElem? (i := 5) rfl
theorem iwd_X7_init_X7 : ∀ w ∈ wsX70, w ∈ wsX7_init := fun _ h => List.mem_cons_of_mem _ (List.mem_append_left _ (List.mem_append_right _ h))
theorem md_X7_init_6 : (.fieldLink RX7 15 "ResourceLedger$State" "balance" "[J" : Cond) ∈ wsX7_init := List.mem_of_getElem? (i := 6) rfl
theorem md_X7_init_7 : (.fieldLink RX7 18 "ResourceLedger$State" "sequence" "[J" : Cond) ∈ wsX7_init := List.mem_of_getElem? (i := 7) rfl
theorem md_X7_init_8 : (.classLink RX7 21 RX5 : Cond) ∈ wsX7_init := List.mem_of_getElem? (i := 8) rfl
theorem md_X7_init_9 : (.fieldLink RX7 23 "ResourceLedger$State" "programs" "[LResourceLedger$Program;" : Cond) ∈ wsX7_init := List.mem_of_getElem? (i := 9) rfl
theorem md_X7_init_10 : (.fieldLink RX7 27 "ResourceLedger$State" "resourceAddress" "[J" : Cond) ∈ wsX7_init := List.mem_of_getElem? (i := 10) rfl
theorem md_X7_init_11 : (.arrayClass .int : Cond) ∈ wsX7_init := List.mem_of_getElem? (i := 11) rfl
theorem md_X7_init_12 : (.fieldLink RX7 30 "ResourceLedger$State" "resourceModule" "[I" : Cond) ∈ wsX7_init := List.mem_of_getElem? (i := 12) rfl
theorem md_X7_init_13 : (.fieldLink RX7 34 "ResourceLedger$State" "resourceStructure" "[I" : Cond) ∈ wsX7_init := List.mem_of_getElem? (i := 13) rfl
theorem md_X7_init_14 : (.fieldLink RX7 37 "ResourceLedger$State" "nodeCount" "[I" : Cond) ∈ wsX7_init := List.mem_of_getElem? (i := 14) rfl
theorem md_X7_init_15 : (.arrayClass .byte : Cond) ∈ wsX7_init := List.mem_of_getElem? (i := 15) rfl
theorem md_X7_init_16 : (.fieldLink RX7 40 "ResourceLedger$State" "nodeKind" "[B" : Cond) ∈ wsX7_init := List.mem_of_getElem? (i := 16) rfl
theorem md_X7_init_17 : (.fieldLink RX7 44 "ResourceLedger$State" "nodeHigh" "[J" : Cond) ∈ wsX7_init := List.mem_of_getElem? (i := 17) rfl
theorem md_X7_init_18 : (.fieldLink RX7 47 "ResourceLedger$State" "nodeLow" "[J" : Cond) ∈ wsX7_init := List.mem_of_getElem? (i := 18) rfl
theorem iwd_X7_init_X5 : ∀ w ∈ wsX50, w ∈ wsX7_init := fun _ h => List.mem_cons_of_mem _ (List.mem_append_right _ h)
theorem md_X7_init_19 : (.instantiable RX5 15 : Cond) ∈ wsX7_init := List.mem_of_getElem? (i := 19) rfl
theorem md_X7_init_20 : (.initialized RX5 : Cond) ∈ wsX7_init := List.mem_of_getElem? (i := 20) rfl
theorem md_X7_init_21 : (.instanceMethod yX5_init : Cond) ∈ wsX7_init := List.mem_of_getElem? (i := 21) rfl
set_option maxHeartbeats 4000000 in
set_option maxRecDepth 100000 in
theorem da_X7_init (l : Launch) (dC : Nat → ClassId) (dI : Nat → Nat → Nat) (cy : Nat → ClassId) (a0 : Nat → Nat) (sh0 : Nat → Nat × Nat) (n0 sz : Nat) (F : Nat) (z0 : St) (h0 : Nat) (hk0 : lk z0 n0) {sh8 : Nat → Nat × Nat} {n8 : Nat} {z8 : St} {r8 : Unit} (hf : fa_X7_init F sh0 n0 z0 h0 = some (sh8, n8, z8, r8)) : Met l yX7_init wsX7_init ({ frames := 2, cells := 56, slots := 99760, locals := 32 }) (va_Pc [.ref (a0 h0)] (fun U => U.heap.size = sz ∧ va_P (dC, dI) vwCl (Wd cy a0 sh0 n0 z0) U.heap ∧ va_K (dC, dI) vwCl (TYS cy) U ∧ va_D (fun _ => True) (Wd cy a0 sh0 n0 z0) ∧ NK U)) (va_Qv (fun u : Nat → Nat => ((∀ k, k < n0 ∨ k = CBK → u k = a0 k) ∧ n0 ≤ n8) ∧ lk z8 n8) (fun u t => va_P (dC, dI) vwCl (Wd cy u sh8 n8 z8) t.heap ∧ va_K (dC, dI) vwCl (TYS cy) t ∧ va_D (va_A (Wd cy a0 sh0 n0 z0) sz) (Wd cy u sh8 n8 z8)) (va_A (Wd cy a0 sh0 n0 z0) sz)) 56 99760 (va_A (Wd cy a0 sh0 n0 z0) sz) := by
  refine Met.ofW (cc := cX7_init) (maxL := 2) (ret := none) (by decide) rfl ?_
  intro p e s m args below meth c s₁ B hml hv
  obtain ⟨rfl, hsz, hP, hK, hD0, hN⟩ := hv
  have hx := B.exec
  have hb := B.bytes
  have hr := B.returns
  have hts := atoms_spec (ws := wsX7_init) B.pre
  have hown : s.vm.findClass RX7 = some m.cls := findClass_of_methodNamed B.named
  have hlocks := B.notSynchronized
  have hin : meth.name = "<init>" := (name_of_methodNamed B.named B.method).1
  subst hsz
  have hD := hD0.self (sz := s.heap.size)
  clear hD0
  generalize hAe : va_A (Wd cy a0 sh0 n0 z0) s.heap.size = A at hD ⊢
  have hA : ∀ q : Nat, s.heap.size ≤ q → A q := fun q h => by rw [← hAe]; exact Or.inr h
  clear hAe
  have hS : va_S A s.heap s.heap [] := va_S.rf
  have hl := lv_entry ([.ref (a0 h0)]) (n := 2) (Nat.le_of_ble_eq_true rfl)
  rw [lg_entry_eq]
  generalize (lg_sl ([.ref (a0 h0)]) ++ List.replicate (2 - (lg_sl ([.ref (a0 h0)])).length) Slot.unset).toArray = ls at hl ⊢
  replace hl : lv_has ls 2 [(0, .ref (a0 h0))] := hl
  unfold fa_X7_init at hf
  refine da_start (fn := fun sh n z => fa_X7_init F sh n z h0) (av := fun a => [(0, .ref (a h0))]) (sk := fun q => True) hf hk0 hS hD hP hl trivial (fun a sh n z H locs hf hag hk hS hD hP hl hSK => ?_)
  unfold fa_X7_init at hf
  try dsimp only at hf hl hSK
  refine lv_aload_n hx hb dX7_init_0 rfl (lv_at hl 0 rfl) ?_
  refine W.objInit hx hb hown (hts _ md_X7_init_1) (hts _ md_X7_init_2) (hts _ md_X7_init_3) rfl (by rw [hml]; exact hl.1) rfl dX7_init_1 (Nat.le_of_ble_eq_true rfl) (Nat.le_of_ble_eq_true rfl) ?_
  refine W.eq (g2 := F0 m 4 ls []) rfl ?_
  refine lv_aload_n hx hb dX7_init_4 rfl (lv_at hl 0 rfl) ?_
  refine lv_sipush (v := 256) hx hb dX7_init_5 (by decide) ?_
  obtain ⟨g_1, hf⟩ := grd_some hf
  refine de_newa (atype := .long) (ty := .long) (t := 2) (N := 256) (a0 := (256, .inr (.inl (fun _ => 0)))) hf hk hx hb (hts _ md_X7_init_4) rfl hK hP hD hS hA rfl rfl (fun _ => rfl) (by decide) (by decide) (Nat.le_of_ble_eq_true rfl) (Nat.le_of_ble_eq_true rfl) (Nat.le_of_ble_eq_true rfl) dX7_init_8 (fun a sh n z_2 k_3 H_4 hf hax hk hnn hP hD hS => ?_)
  refine W.eq (g2 := F0 m 10 ls [.ref (a k_3), .ref (a h0)]) (by rw [hax h0 (okN_at g_1)]) ?_
  replace hl : lv_has ls 2 [(0, .ref (a h0))] := by rw [hax h0 (okN_at g_1)]; exact hl
  replace hag := hag_new hag hax hnn
  clear hax hnn
  refine W.widen (k := 1) (n := 256) (Nat.le_of_ble_eq_true rfl) (Nat.le_of_ble_eq_true rfl) ?_
  obtain ⟨g_5, hf⟩ := grd_some hf
  obtain ⟨g_6, hf⟩ := grd_some hf
  obtain ⟨kg_6, sg_6⟩ := okO_at g_6
  refine va_putF (D := (dC, dI)) (ci := 7) (v := .ref (a k_3)) (ty := .array .long) (C := RX7) (T := TX7) (N := 16) hx hb hts iwd_X7_init_X7 tyX7 tyX7_ok nmX7 hown hK hP hD hS h0 (Wd_ob kg_6 sg_6 (by decide)) rfl 0 (by decide) (hts _ md_X7_init_5) (fun _ h9 => h9) rfl hin rfl (by decide +kernel) rfl rfl (by rw [fl_len]; decide) dX7_init_10 (fun H_7 locs hP2 hD2 hS2 => ?_)
  rw [Wd_sq1 sg_6 (by decide) rfl] at hP2 hD2
  obtain ⟨z_8, ez_8⟩ : ∃ w, w = sq z_2 h0 0 (some k_3) := ⟨_, rfl⟩
  rw [← ez_8] at hP2 hD2
  replace hf := lt_at ez_8 hf
  replace hk : lk z_8 n := by rw [ez_8]; exact lk_sq1 hk (okN_at g_5)
  clear ez_8
  replace hP := hP2
  replace hD := hD2
  replace hS := hS2
  clear hP2 hD2 hS2
  refine lv_aload_n hx hb dX7_init_13 rfl (lv_at hl 0 rfl) ?_
  refine lv_sipush (v := 256) hx hb dX7_init_14 (by decide) ?_
  obtain ⟨g_9, hf⟩ := grd_some hf
  refine de_newa (atype := .long) (ty := .long) (t := 2) (N := 256) (a0 := (256, .inr (.inl (fun _ => 0)))) hf hk hx hb (hts _ md_X7_init_4) rfl hK hP hD hS hA rfl rfl (fun _ => rfl) (by decide) (by decide) (Nat.le_of_ble_eq_true rfl) (Nat.le_of_ble_eq_true rfl) (Nat.le_of_ble_eq_true rfl) dX7_init_17 (fun a sh n z_10 k_11 H_12 hf hax hk hnn hP hD hS => ?_)
  refine W.eq (g2 := F0 m 19 ls [.ref (a k_11), .ref (a h0)]) (by rw [hax h0 (okN_at g_9)]) ?_
  replace hl : lv_has ls 2 [(0, .ref (a h0))] := by rw [hax h0 (okN_at g_9)]; exact hl
  replace hag := hag_new hag hax hnn
  clear hax hnn
  refine W.widen (k := 2) (n := 512) (Nat.le_of_ble_eq_true rfl) (Nat.le_of_ble_eq_true rfl) ?_
  obtain ⟨g_13, hf⟩ := grd_some hf
  obtain ⟨g_14, hf⟩ := grd_some hf
  obtain ⟨kg_14, sg_14⟩ := okO_at g_14
  refine va_putF (D := (dC, dI)) (ci := 7) (v := .ref (a k_11)) (ty := .array .long) (C := RX7) (T := TX7) (N := 16) hx hb hts iwd_X7_init_X7 tyX7 tyX7_ok nmX7 hown hK hP hD hS h0 (Wd_ob kg_14 sg_14 (by decide)) rfl 1 (by decide) (hts _ md_X7_init_6) (fun _ h9 => h9) rfl hin rfl (by decide +kernel) rfl rfl (by rw [fl_len]; decide) dX7_init_19 (fun H_15 locs hP2 hD2 hS2 => ?_)
  rw [Wd_sq1 sg_14 (by decide) rfl] at hP2 hD2
  obtain ⟨z_16, ez_16⟩ : ∃ w, w = sq z_10 h0 1 (some k_11) := ⟨_, rfl⟩
  rw [← ez_16] at hP2 hD2
  replace hf := lt_at ez_16 hf
  replace hk : lk z_16 n := by rw [ez_16]; exact lk_sq1 hk (okN_at g_13)
  clear ez_16
  replace hP := hP2
  replace hD := hD2
  replace hS := hS2
  clear hP2 hD2 hS2
  refine lv_aload_n hx hb dX7_init_22 rfl (lv_at hl 0 rfl) ?_
  refine lv_sipush (v := 256) hx hb dX7_init_23 (by decide) ?_
  obtain ⟨g_17, hf⟩ := grd_some hf
  refine de_newa (atype := .long) (ty := .long) (t := 2) (N := 256) (a0 := (256, .inr (.inl (fun _ => 0)))) hf hk hx hb (hts _ md_X7_init_4) rfl hK hP hD hS hA rfl rfl (fun _ => rfl) (by decide) (by decide) (Nat.le_of_ble_eq_true rfl) (Nat.le_of_ble_eq_true rfl) (Nat.le_of_ble_eq_true rfl) dX7_init_26 (fun a sh n z_18 k_19 H_20 hf hax hk hnn hP hD hS => ?_)
  refine W.eq (g2 := F0 m 28 ls [.ref (a k_19), .ref (a h0)]) (by rw [hax h0 (okN_at g_17)]) ?_
  replace hl : lv_has ls 2 [(0, .ref (a h0))] := by rw [hax h0 (okN_at g_17)]; exact hl
  replace hag := hag_new hag hax hnn
  clear hax hnn
  refine W.widen (k := 3) (n := 768) (Nat.le_of_ble_eq_true rfl) (Nat.le_of_ble_eq_true rfl) ?_
  obtain ⟨g_21, hf⟩ := grd_some hf
  obtain ⟨g_22, hf⟩ := grd_some hf
  obtain ⟨kg_22, sg_22⟩ := okO_at g_22
  refine va_putF (D := (dC, dI)) (ci := 7) (v := .ref (a k_19)) (ty := .array .long) (C := RX7) (T := TX7) (N := 16) hx hb hts iwd_X7_init_X7 tyX7 tyX7_ok nmX7 hown hK hP hD hS h0 (Wd_ob kg_22 sg_22 (by decide)) rfl 2 (by decide) (hts _ md_X7_init_7) (fun _ h9 => h9) rfl hin rfl (by decide +kernel) rfl rfl (by rw [fl_len]; decide) dX7_init_28 (fun H_23 locs hP2 hD2 hS2 => ?_)
  rw [Wd_sq1 sg_22 (by decide) rfl] at hP2 hD2
  obtain ⟨z_24, ez_24⟩ : ∃ w, w = sq z_18 h0 2 (some k_19) := ⟨_, rfl⟩
  rw [← ez_24] at hP2 hD2
  replace hf := lt_at ez_24 hf
  replace hk : lk z_24 n := by rw [ez_24]; exact lk_sq1 hk (okN_at g_21)
  clear ez_24
  replace hP := hP2
  replace hD := hD2
  replace hS := hS2
  clear hP2 hD2 hS2
  refine lv_aload_n hx hb dX7_init_31 rfl (lv_at hl 0 rfl) ?_
  refine lv_bipush (v := 9) hx hb dX7_init_32 (by decide) ?_
  obtain ⟨g_25, hf⟩ := grd_some hf
  refine de_newq (t := 4) (N := 9) hf hk hx hb hown (hts _ md_X7_init_8) hN.2.2.1 hK hP hD hS hA rfl rfl (by decide) (by decide) (Nat.le_of_ble_eq_true rfl) (Nat.le_of_ble_eq_true rfl) (Nat.le_of_ble_eq_true rfl) dX7_init_34 (fun a sh n z_26 k_27 H_28 hf hax hk hnn hP hD hS => ?_)
  refine W.eq (g2 := F0 m 37 ls [.ref (a k_27), .ref (a h0)]) (by rw [hax h0 (okN_at g_25)]) ?_
  replace hl : lv_has ls 2 [(0, .ref (a h0))] := by rw [hax h0 (okN_at g_25)]; exact hl
  replace hag := hag_new hag hax hnn
  clear hax hnn
  refine W.widen (k := 4) (n := 777) (Nat.le_of_ble_eq_true rfl) (Nat.le_of_ble_eq_true rfl) ?_
  obtain ⟨g_29, hf⟩ := grd_some hf
  obtain ⟨g_30, hf⟩ := grd_some hf
  obtain ⟨kg_30, sg_30⟩ := okO_at g_30
  refine va_putF (D := (dC, dI)) (ci := 7) (v := .ref (a k_27)) (ty := .array (.object "ResourceLedger$Program")) (C := RX7) (T := TX7) (N := 16) hx hb hts iwd_X7_init_X7 tyX7 tyX7_ok nmX7 hown hK hP hD hS h0 (Wd_ob kg_30 sg_30 (by decide)) rfl 4 (by decide) (hts _ md_X7_init_9) (fun _ h9 => h9) rfl hin rfl (by decide +kernel) rfl rfl (by rw [fl_len]; decide) dX7_init_37 (fun H_31 locs hP2 hD2 hS2 => ?_)
  rw [Wd_sq1 sg_30 (by decide) rfl] at hP2 hD2
  obtain ⟨z_32, ez_32⟩ : ∃ w, w = sq z_26 h0 4 (some k_27) := ⟨_, rfl⟩
  rw [← ez_32] at hP2 hD2
  replace hf := lt_at ez_32 hf
  replace hk : lk z_32 n := by rw [ez_32]; exact lk_sq1 hk (okN_at g_29)
  clear ez_32
  replace hP := hP2
  replace hD := hD2
  replace hS := hS2
  clear hP2 hD2 hS2
  refine lv_aload_n hx hb dX7_init_40 rfl (lv_at hl 0 rfl) ?_
  refine lv_sipush (v := 256) hx hb dX7_init_41 (by decide) ?_
  obtain ⟨g_33, hf⟩ := grd_some hf
  refine de_newa (atype := .long) (ty := .long) (t := 2) (N := 256) (a0 := (256, .inr (.inl (fun _ => 0)))) hf hk hx hb (hts _ md_X7_init_4) rfl hK hP hD hS hA rfl rfl (fun _ => rfl) (by decide) (by decide) (Nat.le_of_ble_eq_true rfl) (Nat.le_of_ble_eq_true rfl) (Nat.le_of_ble_eq_true rfl) dX7_init_44 (fun a sh n z_34 k_35 H_36 hf hax hk hnn hP hD hS => ?_)
  refine W.eq (g2 := F0 m 46 ls [.ref (a k_35), .ref (a h0)]) (by rw [hax h0 (okN_at g_33)]) ?_
  replace hl : lv_has ls 2 [(0, .ref (a h0))] := by rw [hax h0 (okN_at g_33)]; exact hl
  replace hag := hag_new hag hax hnn
  clear hax hnn
  refine W.widen (k := 5) (n := 1033) (Nat.le_of_ble_eq_true rfl) (Nat.le_of_ble_eq_true rfl) ?_
  obtain ⟨g_37, hf⟩ := grd_some hf
  obtain ⟨g_38, hf⟩ := grd_some hf
  obtain ⟨kg_38, sg_38⟩ := okO_at g_38
  refine va_putF (D := (dC, dI)) (ci := 7) (v := .ref (a k_35)) (ty := .array .long) (C := RX7) (T := TX7) (N := 16) hx hb hts iwd_X7_init_X7 tyX7 tyX7_ok nmX7 hown hK hP hD hS h0 (Wd_ob kg_38 sg_38 (by decide)) rfl 6 (by decide) (hts _ md_X7_init_10) (fun _ h9 => h9) rfl hin rfl (by decide +kernel) rfl rfl (by rw [fl_len]; decide) dX7_init_46 (fun H_39 locs hP2 hD2 hS2 => ?_)
  rw [Wd_sq1 sg_38 (by decide) rfl] at hP2 hD2
  obtain ⟨z_40, ez_40⟩ : ∃ w, w = sq z_34 h0 6 (some k_35) := ⟨_, rfl⟩
  rw [← ez_40] at hP2 hD2
  replace hf := lt_at ez_40 hf
  replace hk : lk z_40 n := by rw [ez_40]; exact lk_sq1 hk (okN_at g_37)
  clear ez_40
  replace hP := hP2
  replace hD := hD2
  replace hS := hS2
  clear hP2 hD2 hS2
  refine lv_aload_n hx hb dX7_init_49 rfl (lv_at hl 0 rfl) ?_
  refine lv_sipush (v := 256) hx hb dX7_init_50 (by decide) ?_
  obtain ⟨g_41, hf⟩ := grd_some hf
  refine de_newa (atype := .int) (ty := .int) (t := 1) (N := 256) (a0 := (256, .inl (fun _ => 0))) hf hk hx hb (hts _ md_X7_init_11) rfl hK hP hD hS hA rfl rfl (fun _ => rfl) (by decide) (by decide) (Nat.le_of_ble_eq_true rfl) (Nat.le_of_ble_eq_true rfl) (Nat.le_of_ble_eq_true rfl) dX7_init_53 (fun a sh n z_42 k_43 H_44 hf hax hk hnn hP hD hS => ?_)
  refine W.eq (g2 := F0 m 55 ls [.ref (a k_43), .ref (a h0)]) (by rw [hax h0 (okN_at g_41)]) ?_
  replace hl : lv_has ls 2 [(0, .ref (a h0))] := by rw [hax h0 (okN_at g_41)]; exact hl
  replace hag := hag_new hag hax hnn
  clear hax hnn
  refine W.widen (k := 6) (n := 1289) (Nat.le_of_ble_eq_true rfl) (Nat.le_of_ble_eq_true rfl) ?_
  obtain ⟨g_45, hf⟩ := grd_some hf
  obtain ⟨g_46, hf⟩ := grd_some hf
  obtain ⟨kg_46, sg_46⟩ := okO_at g_46
  refine va_putF (D := (dC, dI)) (ci := 7) (v := .ref (a k_43)) (ty := .array .int) (C := RX7) (T := TX7) (N := 16) hx hb hts iwd_X7_init_X7 tyX7 tyX7_ok nmX7 hown hK hP hD hS h0 (Wd_ob kg_46 sg_46 (by decide)) rfl 7 (by decide) (hts _ md_X7_init_12) (fun _ h9 => h9) rfl hin rfl (by decide +kernel) rfl rfl (by rw [fl_len]; decide) dX7_init_55 (fun H_47 locs hP2 hD2 hS2 => ?_)
  rw [Wd_sq1 sg_46 (by decide) rfl] at hP2 hD2
  obtain ⟨z_48, ez_48⟩ : ∃ w, w = sq z_42 h0 7 (some k_43) := ⟨_, rfl⟩
  rw [← ez_48] at hP2 hD2
  replace hf := lt_at ez_48 hf
  replace hk : lk z_48 n := by rw [ez_48]; exact lk_sq1 hk (okN_at g_45)
  clear ez_48
  replace hP := hP2
  replace hD := hD2
  replace hS := hS2
  clear hP2 hD2 hS2
  refine lv_aload_n hx hb dX7_init_58 rfl (lv_at hl 0 rfl) ?_
  refine lv_sipush (v := 256) hx hb dX7_init_59 (by decide) ?_
  obtain ⟨g_49, hf⟩ := grd_some hf
  refine de_newa (atype := .int) (ty := .int) (t := 1) (N := 256) (a0 := (256, .inl (fun _ => 0))) hf hk hx hb (hts _ md_X7_init_11) rfl hK hP hD hS hA rfl rfl (fun _ => rfl) (by decide) (by decide) (Nat.le_of_ble_eq_true rfl) (Nat.le_of_ble_eq_true rfl) (Nat.le_of_ble_eq_true rfl) dX7_init_62 (fun a sh n z_50 k_51 H_52 hf hax hk hnn hP hD hS => ?_)
  refine W.eq (g2 := F0 m 64 ls [.ref (a k_51), .ref (a h0)]) (by rw [hax h0 (okN_at g_49)]) ?_
  replace hl : lv_has ls 2 [(0, .ref (a h0))] := by rw [hax h0 (okN_at g_49)]; exact hl
  replace hag := hag_new hag hax hnn
  clear hax hnn
  refine W.widen (k := 7) (n := 1545) (Nat.le_of_ble_eq_true rfl) (Nat.le_of_ble_eq_true rfl) ?_
  obtain ⟨g_53, hf⟩ := grd_some hf
  obtain ⟨g_54, hf⟩ := grd_some hf
  obtain ⟨kg_54, sg_54⟩ := okO_at g_54
  refine va_putF (D := (dC, dI)) (ci := 7) (v := .ref (a k_51)) (ty := .array .int) (C := RX7) (T := TX7) (N := 16) hx hb hts iwd_X7_init_X7 tyX7 tyX7_ok nmX7 hown hK hP hD hS h0 (Wd_ob kg_54 sg_54 (by decide)) rfl 8 (by decide) (hts _ md_X7_init_13) (fun _ h9 => h9) rfl hin rfl (by decide +kernel) rfl rfl (by rw [fl_len]; decide) dX7_init_64 (fun H_55 locs hP2 hD2 hS2 => ?_)
  rw [Wd_sq1 sg_54 (by decide) rfl] at hP2 hD2
  obtain ⟨z_56, ez_56⟩ : ∃ w, w = sq z_50 h0 8 (some k_51) := ⟨_, rfl⟩
  rw [← ez_56] at hP2 hD2
  replace hf := lt_at ez_56 hf
  replace hk : lk z_56 n := by rw [ez_56]; exact lk_sq1 hk (okN_at g_53)
  clear ez_56
  replace hP := hP2
  replace hD := hD2
  replace hS := hS2
  clear hP2 hD2 hS2
  refine lv_aload_n hx hb dX7_init_67 rfl (lv_at hl 0 rfl) ?_
  refine lv_sipush (v := 256) hx hb dX7_init_68 (by decide) ?_
  obtain ⟨g_57, hf⟩ := grd_some hf
  refine de_newa (atype := .int) (ty := .int) (t := 1) (N := 256) (a0 := (256, .inl (fun _ => 0))) hf hk hx hb (hts _ md_X7_init_11) rfl hK hP hD hS hA rfl rfl (fun _ => rfl) (by decide) (by decide) (Nat.le_of_ble_eq_true rfl) (Nat.le_of_ble_eq_true rfl) (Nat.le_of_ble_eq_true rfl) dX7_init_71 (fun a sh n z_58 k_59 H_60 hf hax hk hnn hP hD hS => ?_)
  refine W.eq (g2 := F0 m 73 ls [.ref (a k_59), .ref (a h0)]) (by rw [hax h0 (okN_at g_57)]) ?_
  replace hl : lv_has ls 2 [(0, .ref (a h0))] := by rw [hax h0 (okN_at g_57)]; exact hl
  replace hag := hag_new hag hax hnn
  clear hax hnn
  refine W.widen (k := 8) (n := 1801) (Nat.le_of_ble_eq_true rfl) (Nat.le_of_ble_eq_true rfl) ?_
  obtain ⟨g_61, hf⟩ := grd_some hf
  obtain ⟨g_62, hf⟩ := grd_some hf
  obtain ⟨kg_62, sg_62⟩ := okO_at g_62
  refine va_putF (D := (dC, dI)) (ci := 7) (v := .ref (a k_59)) (ty := .array .int) (C := RX7) (T := TX7) (N := 16) hx hb hts iwd_X7_init_X7 tyX7 tyX7_ok nmX7 hown hK hP hD hS h0 (Wd_ob kg_62 sg_62 (by decide)) rfl 9 (by decide) (hts _ md_X7_init_14) (fun _ h9 => h9) rfl hin rfl (by decide +kernel) rfl rfl (by rw [fl_len]; decide) dX7_init_73 (fun H_63 locs hP2 hD2 hS2 => ?_)
  rw [Wd_sq1 sg_62 (by decide) rfl] at hP2 hD2
  obtain ⟨z_64, ez_64⟩ : ∃ w, w = sq z_58 h0 9 (some k_59) := ⟨_, rfl⟩
  rw [← ez_64] at hP2 hD2
  replace hf := lt_at ez_64 hf
  replace hk : lk z_64 n := by rw [ez_64]; exact lk_sq1 hk (okN_at g_61)
  clear ez_64
  replace hP := hP2
  replace hD := hD2
  replace hS := hS2
  clear hP2 hD2 hS2
  refine lv_aload_n hx hb dX7_init_76 rfl (lv_at hl 0 rfl) ?_
  refine lv_sipush (v := 16384) hx hb dX7_init_77 (by decide) ?_
  obtain ⟨g_65, hf⟩ := grd_some hf
  refine de_newa (atype := .byte) (ty := .byte) (t := 0) (N := 16384) (a0 := (16384, .inl (fun _ => 0))) hf hk hx hb (hts _ md_X7_init_15) rfl hK hP hD hS hA rfl rfl (fun _ => rfl) (by decide) (by decide) (Nat.le_of_ble_eq_true rfl) (Nat.le_of_ble_eq_true rfl) (Nat.le_of_ble_eq_true rfl) dX7_init_80 (fun a sh n z_66 k_67 H_68 hf hax hk hnn hP hD hS => ?_)
  refine W.eq (g2 := F0 m 82 ls [.ref (a k_67), .ref (a h0)]) (by rw [hax h0 (okN_at g_65)]) ?_
  replace hl : lv_has ls 2 [(0, .ref (a h0))] := by rw [hax h0 (okN_at g_65)]; exact hl
  replace hag := hag_new hag hax hnn
  clear hax hnn
  refine W.widen (k := 9) (n := 18185) (Nat.le_of_ble_eq_true rfl) (Nat.le_of_ble_eq_true rfl) ?_
  obtain ⟨g_69, hf⟩ := grd_some hf
  obtain ⟨g_70, hf⟩ := grd_some hf
  obtain ⟨kg_70, sg_70⟩ := okO_at g_70
  refine va_putF (D := (dC, dI)) (ci := 7) (v := .ref (a k_67)) (ty := .array .byte) (C := RX7) (T := TX7) (N := 16) hx hb hts iwd_X7_init_X7 tyX7 tyX7_ok nmX7 hown hK hP hD hS h0 (Wd_ob kg_70 sg_70 (by decide)) rfl 11 (by decide) (hts _ md_X7_init_16) (fun _ h9 => h9) rfl hin rfl (by decide +kernel) rfl rfl (by rw [fl_len]; decide) dX7_init_82 (fun H_71 locs hP2 hD2 hS2 => ?_)
  rw [Wd_sq1 sg_70 (by decide) rfl] at hP2 hD2
  obtain ⟨z_72, ez_72⟩ : ∃ w, w = sq z_66 h0 11 (some k_67) := ⟨_, rfl⟩
  rw [← ez_72] at hP2 hD2
  replace hf := lt_at ez_72 hf
  replace hk : lk z_72 n := by rw [ez_72]; exact lk_sq1 hk (okN_at g_69)
  clear ez_72
  replace hP := hP2
  replace hD := hD2
  replace hS := hS2
  clear hP2 hD2 hS2
  refine lv_aload_n hx hb dX7_init_85 rfl (lv_at hl 0 rfl) ?_
  refine lv_sipush (v := 16384) hx hb dX7_init_86 (by decide) ?_
  obtain ⟨g_73, hf⟩ := grd_some hf
  refine de_newa (atype := .long) (ty := .long) (t := 2) (N := 16384) (a0 := (16384, .inr (.inl (fun _ => 0)))) hf hk hx hb (hts _ md_X7_init_4) rfl hK hP hD hS hA rfl rfl (fun _ => rfl) (by decide) (by decide) (Nat.le_of_ble_eq_true rfl) (Nat.le_of_ble_eq_true rfl) (Nat.le_of_ble_eq_true rfl) dX7_init_89 (fun a sh n z_74 k_75 H_76 hf hax hk hnn hP hD hS => ?_)
  refine W.eq (g2 := F0 m 91 ls [.ref (a k_75), .ref (a h0)]) (by rw [hax h0 (okN_at g_73)]) ?_
  replace hl : lv_has ls 2 [(0, .ref (a h0))] := by rw [hax h0 (okN_at g_73)]; exact hl
  replace hag := hag_new hag hax hnn
  clear hax hnn
  refine W.widen (k := 10) (n := 34569) (Nat.le_of_ble_eq_true rfl) (Nat.le_of_ble_eq_true rfl) ?_
  obtain ⟨g_77, hf⟩ := grd_some hf
  obtain ⟨g_78, hf⟩ := grd_some hf
  obtain ⟨kg_78, sg_78⟩ := okO_at g_78
  refine va_putF (D := (dC, dI)) (ci := 7) (v := .ref (a k_75)) (ty := .array .long) (C := RX7) (T := TX7) (N := 16) hx hb hts iwd_X7_init_X7 tyX7 tyX7_ok nmX7 hown hK hP hD hS h0 (Wd_ob kg_78 sg_78 (by decide)) rfl 12 (by decide) (hts _ md_X7_init_17) (fun _ h9 => h9) rfl hin rfl (by decide +kernel) rfl rfl (by rw [fl_len]; decide) dX7_init_91 (fun H_79 locs hP2 hD2 hS2 => ?_)
  rw [Wd_sq1 sg_78 (by decide) rfl] at hP2 hD2
  obtain ⟨z_80, ez_80⟩ : ∃ w, w = sq z_74 h0 12 (some k_75) := ⟨_, rfl⟩
  rw [← ez_80] at hP2 hD2
  replace hf := lt_at ez_80 hf
  replace hk : lk z_80 n := by rw [ez_80]; exact lk_sq1 hk (okN_at g_77)
  clear ez_80
  replace hP := hP2
  replace hD := hD2
  replace hS := hS2
  clear hP2 hD2 hS2
  refine lv_aload_n hx hb dX7_init_94 rfl (lv_at hl 0 rfl) ?_
  refine lv_sipush (v := 16384) hx hb dX7_init_95 (by decide) ?_
  obtain ⟨g_81, hf⟩ := grd_some hf
  refine de_newa (atype := .long) (ty := .long) (t := 2) (N := 16384) (a0 := (16384, .inr (.inl (fun _ => 0)))) hf hk hx hb (hts _ md_X7_init_4) rfl hK hP hD hS hA rfl rfl (fun _ => rfl) (by decide) (by decide) (Nat.le_of_ble_eq_true rfl) (Nat.le_of_ble_eq_true rfl) (Nat.le_of_ble_eq_true rfl) dX7_init_98 (fun a sh n z_82 k_83 H_84 hf hax hk hnn hP hD hS => ?_)
  refine W.eq (g2 := F0 m 100 ls [.ref (a k_83), .ref (a h0)]) (by rw [hax h0 (okN_at g_81)]) ?_
  replace hl : lv_has ls 2 [(0, .ref (a h0))] := by rw [hax h0 (okN_at g_81)]; exact hl
  replace hag := hag_new hag hax hnn
  clear hax hnn
  refine W.widen (k := 11) (n := 50953) (Nat.le_of_ble_eq_true rfl) (Nat.le_of_ble_eq_true rfl) ?_
  obtain ⟨g_85, hf⟩ := grd_some hf
  obtain ⟨g_86, hf⟩ := grd_some hf
  obtain ⟨kg_86, sg_86⟩ := okO_at g_86
  refine va_putF (D := (dC, dI)) (ci := 7) (v := .ref (a k_83)) (ty := .array .long) (C := RX7) (T := TX7) (N := 16) hx hb hts iwd_X7_init_X7 tyX7 tyX7_ok nmX7 hown hK hP hD hS h0 (Wd_ob kg_86 sg_86 (by decide)) rfl 13 (by decide) (hts _ md_X7_init_18) (fun _ h9 => h9) rfl hin rfl (by decide +kernel) rfl rfl (by rw [fl_len]; decide) dX7_init_100 (fun H_87 locs hP2 hD2 hS2 => ?_)
  rw [Wd_sq1 sg_86 (by decide) rfl] at hP2 hD2
  obtain ⟨z_88, ez_88⟩ : ∃ w, w = sq z_82 h0 13 (some k_83) := ⟨_, rfl⟩
  rw [← ez_88] at hP2 hD2
  replace hf := lt_at ez_88 hf
  replace hk : lk z_88 n := by rw [ez_88]; exact lk_sq1 hk (okN_at g_85)
  clear ez_88
  replace hP := hP2
  replace hD := hD2
  replace hS := hS2
  clear hP2 hD2 hS2
  refine lv_iconst (v := 0) hx hb dX7_init_103 (by decide) ?_
  refine lv_istore_n (lv' := [(1, .int 0), (0, .ref (a h0))]) hx hb dX7_init_104 rfl hl (by decide) rfl (fun ls hl2 => ?_)
  replace hl := hl2
  clear hl2
  refine lv_iload_n hx hb dX7_init_105 rfl (lv_at hl 0 rfl) ?_
  refine lv_bipush (v := 8) hx hb dX7_init_106 (by decide) ?_
  refine lv_icmp_gt (tgt := 130) hx hb dX7_init_108 (by decide) (fun h => absurd h (by decide)) (fun _ => ?_)
  refine lv_aload_n hx hb dX7_init_111 rfl (lv_at hl 1 rfl) ?_
  obtain ⟨k_89, ek_89, hf⟩ := lnk_some hf
  refine va_get (D := (dC, dI)) (ci := 7) (v := .ref (a k_89)) (C := RX7) (T := TX7) (N := 16) hx hb hts iwd_X7_init_X7 hown hK hP h0 (Wd_ob kg_86 sg_86 (by decide)) rfl 4 (by decide) (hts _ md_X7_init_9) (fun _ h9 => h9) (fl_q rfl ek_89) dX7_init_112 ?_
  refine lv_iload_n hx hb dX7_init_115 rfl (lv_at hl 0 rfl) ?_
  obtain ⟨g_90, hf⟩ := grd_some hf
  obtain ⟨g_91, hf⟩ := grd_some hf
  refine de_new (ci := 5) (fs := [.null, .int 0, .int 0, .null, .int 0, .null, .int 0, .null, .int 0, .int 0, .null, .int 0, .int 0, .int 0, .int 0]) (C := RX5) (T := TX5) (N := 15) hf hk hx hb hts iwd_X7_init_X5 tyX5 tyX5_ok hown (hts _ md_X7_init_8) (hts _ md_X7_init_19) (hts _ md_X7_init_20) hK hP hD hS hA rfl rfl df_X5 (Nat.le_of_ble_eq_true rfl) (Nat.le_of_ble_eq_true rfl) dX7_init_116 (fun a sh n z_92 k_93 H_94 hf hax hk hnn hP hD hS => ?_)
  refine W.eq (g2 := F0 m 119 ls [.ref (a k_93), .int 0, .ref (a k_89)]) (by rw [hax k_89 (okN_at g_91)]) ?_
  replace hl : lv_has ls 2 [(1, .int 0), (0, .ref (a h0))] := by rw [hax h0 (okN_at g_90)]; exact hl
  replace hag := hag_new hag hax hnn
  clear hax hnn
  refine W.widen (k := 12) (n := 50968) (Nat.le_of_ble_eq_true rfl) (Nat.le_of_ble_eq_true rfl) ?_
  refine lv_dup hx hb dX7_init_119 rfl ?_
  obtain ⟨g_95, hf⟩ := grd_some hf
  obtain ⟨g_96, hf⟩ := grd_some hf
  obtain ⟨g_97, hf⟩ := grd_some hf
  obtain ⟨shq, nq, z_98, _u, hfc, hf⟩ := cala_some hf
  have hFc := de_free hD hS hA
  refine va_callv (va_runIN (As := []) (rest := [.ref (a k_93), .int 0, .ref (a k_89)]) ⟨hx, hb, hml, hown, hts⟩ (da_X5_init l dC dI cy a sh n H_94.size F z_92 k_93 hk hfc) ⟨va_cnB 0 hts ggX7_init_X5_init rfl rfl rfl (NK_m_X7_50 hN) (hts _ md_X7_init_20) ⟨by decide, by decide, by decide +kernel⟩ ⟨Nat.le_of_ble_eq_true rfl, Nat.le_of_ble_eq_true rfl⟩, rfl, (hts _ md_X7_init_21)⟩ ⟨fun a U g mk q => by obtain ⟨q0, q1, qP, qK, qD, qN⟩ := q; exact ⟨q0, q1, qP, va_K.moved (u := U) (U := U.calling g mk a) (Vm.Alike.refl U.vm) qK, qD, qN.same rfl⟩, fun U hU hW => ⟨rfl, by rw [hU], by rw [hU]; exact hP, va_K.moved hW.alike hK, hD.weaken (fun _ _ _ _ => trivial), hN.warm hW⟩⟩ rfl rfl hl.1 rfl (lv_room (Nat.le_of_ble_eq_true rfl)) dX7_init_120 ⟨Nat.le_of_ble_eq_true rfl, Nat.le_of_ble_eq_true rfl⟩) hS (fun q _ h => hFc q h) hFc (fun a t H_99 locs ht hvm hw hB hz1 hk1 hS2 => ?_)
  obtain ⟨⟨hax, hnn⟩, hk⟩ := hw
  obtain ⟨hP1, -, hD1⟩ := hB
  rw [ht] at hP1
  replace hD := hD1.weaken (fun _ _ _ h => hFc _ h)
  replace hP := hP1
  replace hS := hS2
  obtain ⟨sh, esh⟩ : ∃ w, w = shq := ⟨_, rfl⟩
  subst esh
  replace hl : lv_has ls 2 [(1, .int 0), (0, .ref (a h0))] := by rw [hax h0 (okN_at g_95)]; exact hl
  replace hag := hag_new hag hax hnn
  obtain ⟨n, enq⟩ : ∃ w, w = nq := ⟨_, rfl⟩
  subst enq
  refine W.eq (g2 := F0 m 123 ls [.ref (a k_93), .int 0, .ref (a k_89)]) (by rw [hax k_93 (okN_at g_96), hax k_89 (okN_at g_97)]) ?_
  clear hax hnn hP1 hD1 hS2 hFc hfc hz1 hk1 hvm ht
  refine W.widen (k := 16) (n := 56376) (Nat.le_of_ble_eq_true rfl) (Nat.le_of_ble_eq_true rfl) ?_
  obtain ⟨g_100, hf⟩ := grd_some hf
  obtain ⟨kg_100, sg_100, ig_100⟩ := okA_at g_100
  obtain ⟨g_101, hf⟩ := grd_some hf
  obtain ⟨kg_101, sg_101⟩ := okO_at g_101
  refine va_astq hx hb hK hP hD hS k_89 4 k_93 5 (Wd_aq kg_100 sg_100 (by decide)) rfl (Wd_ob kg_101 sg_101 (by decide)) rfl ig_100 dX7_init_123 (fun H_102 locs hP2 hD2 hS2 => ?_)
  rw [Wd_tq sg_100 (by decide)] at hP2 hD2
  obtain ⟨z_103, ez_103⟩ : ∃ w, w = sq z_98 k_89 (0 : Int32).toNatClampNeg (some k_93) := ⟨_, rfl⟩
  rw [← ez_103] at hP2 hD2
  replace hf := lt_at ez_103 hf
  replace hk : lk z_103 n := by rw [ez_103]; exact lk_sq1 hk (Or.inl kg_101)
  clear ez_103
  replace hP := hP2
  replace hD := hD2
  replace hS := hS2
  clear hP2 hD2 hS2
  refine lv_iinc (v := 1) (lv' := [(1, .int 1), (0, .ref (a h0))]) hx hb dX7_init_124 hl (k := 0) rfl rfl (by decide) rfl (fun ls hl2 => ?_)
  replace hl := hl2
  clear hl2
  refine lv_goto (tgt := 105) hx hb dX7_init_127 (by decide) ?_
  refine lv_iload_n hx hb dX7_init_105 rfl (lv_at hl 0 rfl) ?_
  refine lv_bipush (v := 8) hx hb dX7_init_106 (by decide) ?_
  refine lv_icmp_gt (tgt := 130) hx hb dX7_init_108 (by decide) (fun h => absurd h (by decide)) (fun _ => ?_)
  refine lv_aload_n hx hb dX7_init_111 rfl (lv_at hl 1 rfl) ?_
  obtain ⟨g_104, hf⟩ := grd_some hf
  obtain ⟨kg_104, sg_104⟩ := okO_at g_104
  obtain ⟨k_105, ek_105, hf⟩ := lnk_some hf
  refine va_get (D := (dC, dI)) (ci := 7) (v := .ref (a k_105)) (C := RX7) (T := TX7) (N := 16) hx hb hts iwd_X7_init_X7 hown hK hP h0 (Wd_ob kg_104 sg_104 (by decide)) rfl 4 (by decide) (hts _ md_X7_init_9) (fun _ h9 => h9) (fl_q rfl ek_105) dX7_init_112 ?_
  refine lv_iload_n hx hb dX7_init_115 rfl (lv_at hl 0 rfl) ?_
  obtain ⟨g_106, hf⟩ := grd_some hf
  obtain ⟨g_107, hf⟩ := grd_some hf
  refine de_new (ci := 5) (fs := [.null, .int 0, .int 0, .null, .int 0, .null, .int 0, .null, .int 0, .int 0, .null, .int 0, .int 0, .int 0, .int 0]) (C := RX5) (T := TX5) (N := 15) hf hk hx hb hts iwd_X7_init_X5 tyX5 tyX5_ok hown (hts _ md_X7_init_8) (hts _ md_X7_init_19) (hts _ md_X7_init_20) hK hP hD hS hA rfl rfl df_X5 (Nat.le_of_ble_eq_true rfl) (Nat.le_of_ble_eq_true rfl) dX7_init_116 (fun a sh n z_108 k_109 H_110 hf hax hk hnn hP hD hS => ?_)
  refine W.eq (g2 := F0 m 119 ls [.ref (a k_109), .int 1, .ref (a k_105)]) (by rw [hax k_105 (okN_at g_107)]) ?_
  replace hl : lv_has ls 2 [(1, .int 1), (0, .ref (a h0))] := by rw [hax h0 (okN_at g_106)]; exact hl
  replace hag := hag_new hag hax hnn
  clear hax hnn
  refine W.widen (k := 17) (n := 56391) (Nat.le_of_ble_eq_true rfl) (Nat.le_of_ble_eq_true rfl) ?_
  refine lv_dup hx hb dX7_init_119 rfl ?_
  obtain ⟨g_111, hf⟩ := grd_some hf
  obtain ⟨g_112, hf⟩ := grd_some hf
  obtain ⟨g_113, hf⟩ := grd_some hf
  obtain ⟨shq, nq, z_114, _u, hfc, hf⟩ := cala_some hf
  have hFc := de_free hD hS hA
  refine va_callv (va_runIN (As := []) (rest := [.ref (a k_109), .int 1, .ref (a k_105)]) ⟨hx, hb, hml, hown, hts⟩ (da_X5_init l dC dI cy a sh n H_110.size F z_108 k_109 hk hfc) ⟨va_cnB 0 hts ggX7_init_X5_init rfl rfl rfl (NK_m_X7_50 hN) (hts _ md_X7_init_20) ⟨by decide, by decide, by decide +kernel⟩ ⟨Nat.le_of_ble_eq_true rfl, Nat.le_of_ble_eq_true rfl⟩, rfl, (hts _ md_X7_init_21)⟩ ⟨fun a U g mk q => by obtain ⟨q0, q1, qP, qK, qD, qN⟩ := q; exact ⟨q0, q1, qP, va_K.moved (u := U) (U := U.calling g mk a) (Vm.Alike.refl U.vm) qK, qD, qN.same rfl⟩, fun U hU hW => ⟨rfl, by rw [hU], by rw [hU]; exact hP, va_K.moved hW.alike hK, hD.weaken (fun _ _ _ _ => trivial), hN.warm hW⟩⟩ rfl rfl hl.1 rfl (lv_room (Nat.le_of_ble_eq_true rfl)) dX7_init_120 ⟨Nat.le_of_ble_eq_true rfl, Nat.le_of_ble_eq_true rfl⟩) hS (fun q _ h => hFc q h) hFc (fun a t H_115 locs ht hvm hw hB hz1 hk1 hS2 => ?_)
  obtain ⟨⟨hax, hnn⟩, hk⟩ := hw
  obtain ⟨hP1, -, hD1⟩ := hB
  rw [ht] at hP1
  replace hD := hD1.weaken (fun _ _ _ h => hFc _ h)
  replace hP := hP1
  replace hS := hS2
  obtain ⟨sh, esh⟩ : ∃ w, w = shq := ⟨_, rfl⟩
  subst esh
  replace hl : lv_has ls 2 [(1, .int 1), (0, .ref (a h0))] := by rw [hax h0 (okN_at g_111)]; exact hl
  replace hag := hag_new hag hax hnn
  obtain ⟨n, enq⟩ : ∃ w, w = nq := ⟨_, rfl⟩
  subst enq
  refine W.eq (g2 := F0 m 123 ls [.ref (a k_109), .int 1, .ref (a k_105)]) (by rw [hax k_109 (okN_at g_112), hax k_105 (okN_at g_113)]) ?_
  clear hax hnn hP1 hD1 hS2 hFc hfc hz1 hk1 hvm ht
  refine W.widen (k := 21) (n := 61799) (Nat.le_of_ble_eq_true rfl) (Nat.le_of_ble_eq_true rfl) ?_
  obtain ⟨g_116, hf⟩ := grd_some hf
  obtain ⟨kg_116, sg_116, ig_116⟩ := okA_at g_116
  obtain ⟨g_117, hf⟩ := grd_some hf
  obtain ⟨kg_117, sg_117⟩ := okO_at g_117
  refine va_astq hx hb hK hP hD hS k_105 4 k_109 5 (Wd_aq kg_116 sg_116 (by decide)) rfl (Wd_ob kg_117 sg_117 (by decide)) rfl ig_116 dX7_init_123 (fun H_118 locs hP2 hD2 hS2 => ?_)
  rw [Wd_tq sg_116 (by decide)] at hP2 hD2
  obtain ⟨z_119, ez_119⟩ : ∃ w, w = sq z_114 k_105 (1 : Int32).toNatClampNeg (some k_109) := ⟨_, rfl⟩
  rw [← ez_119] at hP2 hD2
  replace hf := lt_at ez_119 hf
  replace hk : lk z_119 n := by rw [ez_119]; exact lk_sq1 hk (Or.inl kg_117)
  clear ez_119
  replace hP := hP2
  replace hD := hD2
  replace hS := hS2
  clear hP2 hD2 hS2
  refine lv_iinc (v := 2) (lv' := [(1, .int 2), (0, .ref (a h0))]) hx hb dX7_init_124 hl (k := 0) rfl rfl (by decide) rfl (fun ls hl2 => ?_)
  replace hl := hl2
  clear hl2
  refine lv_goto (tgt := 105) hx hb dX7_init_127 (by decide) ?_
  refine lv_iload_n hx hb dX7_init_105 rfl (lv_at hl 0 rfl) ?_
  refine lv_bipush (v := 8) hx hb dX7_init_106 (by decide) ?_
  refine lv_icmp_gt (tgt := 130) hx hb dX7_init_108 (by decide) (fun h => absurd h (by decide)) (fun _ => ?_)
  refine lv_aload_n hx hb dX7_init_111 rfl (lv_at hl 1 rfl) ?_
  obtain ⟨g_120, hf⟩ := grd_some hf
  obtain ⟨kg_120, sg_120⟩ := okO_at g_120
  obtain ⟨k_121, ek_121, hf⟩ := lnk_some hf
  refine va_get (D := (dC, dI)) (ci := 7) (v := .ref (a k_121)) (C := RX7) (T := TX7) (N := 16) hx hb hts iwd_X7_init_X7 hown hK hP h0 (Wd_ob kg_120 sg_120 (by decide)) rfl 4 (by decide) (hts _ md_X7_init_9) (fun _ h9 => h9) (fl_q rfl ek_121) dX7_init_112 ?_
  refine lv_iload_n hx hb dX7_init_115 rfl (lv_at hl 0 rfl) ?_
  obtain ⟨g_122, hf⟩ := grd_some hf
  obtain ⟨g_123, hf⟩ := grd_some hf
  refine de_new (ci := 5) (fs := [.null, .int 0, .int 0, .null, .int 0, .null, .int 0, .null, .int 0, .int 0, .null, .int 0, .int 0, .int 0, .int 0]) (C := RX5) (T := TX5) (N := 15) hf hk hx hb hts iwd_X7_init_X5 tyX5 tyX5_ok hown (hts _ md_X7_init_8) (hts _ md_X7_init_19) (hts _ md_X7_init_20) hK hP hD hS hA rfl rfl df_X5 (Nat.le_of_ble_eq_true rfl) (Nat.le_of_ble_eq_true rfl) dX7_init_116 (fun a sh n z_124 k_125 H_126 hf hax hk hnn hP hD hS => ?_)
  refine W.eq (g2 := F0 m 119 ls [.ref (a k_125), .int 2, .ref (a k_121)]) (by rw [hax k_121 (okN_at g_123)]) ?_
  replace hl : lv_has ls 2 [(1, .int 2), (0, .ref (a h0))] := by rw [hax h0 (okN_at g_122)]; exact hl
  replace hag := hag_new hag hax hnn
  clear hax hnn
  refine W.widen (k := 22) (n := 61814) (Nat.le_of_ble_eq_true rfl) (Nat.le_of_ble_eq_true rfl) ?_
  refine lv_dup hx hb dX7_init_119 rfl ?_
  obtain ⟨g_127, hf⟩ := grd_some hf
  obtain ⟨g_128, hf⟩ := grd_some hf
  obtain ⟨g_129, hf⟩ := grd_some hf
  obtain ⟨shq, nq, z_130, _u, hfc, hf⟩ := cala_some hf
  have hFc := de_free hD hS hA
  refine va_callv (va_runIN (As := []) (rest := [.ref (a k_125), .int 2, .ref (a k_121)]) ⟨hx, hb, hml, hown, hts⟩ (da_X5_init l dC dI cy a sh n H_126.size F z_124 k_125 hk hfc) ⟨va_cnB 0 hts ggX7_init_X5_init rfl rfl rfl (NK_m_X7_50 hN) (hts _ md_X7_init_20) ⟨by decide, by decide, by decide +kernel⟩ ⟨Nat.le_of_ble_eq_true rfl, Nat.le_of_ble_eq_true rfl⟩, rfl, (hts _ md_X7_init_21)⟩ ⟨fun a U g mk q => by obtain ⟨q0, q1, qP, qK, qD, qN⟩ := q; exact ⟨q0, q1, qP, va_K.moved (u := U) (U := U.calling g mk a) (Vm.Alike.refl U.vm) qK, qD, qN.same rfl⟩, fun U hU hW => ⟨rfl, by rw [hU], by rw [hU]; exact hP, va_K.moved hW.alike hK, hD.weaken (fun _ _ _ _ => trivial), hN.warm hW⟩⟩ rfl rfl hl.1 rfl (lv_room (Nat.le_of_ble_eq_true rfl)) dX7_init_120 ⟨Nat.le_of_ble_eq_true rfl, Nat.le_of_ble_eq_true rfl⟩) hS (fun q _ h => hFc q h) hFc (fun a t H_131 locs ht hvm hw hB hz1 hk1 hS2 => ?_)
  obtain ⟨⟨hax, hnn⟩, hk⟩ := hw
  obtain ⟨hP1, -, hD1⟩ := hB
  rw [ht] at hP1
  replace hD := hD1.weaken (fun _ _ _ h => hFc _ h)
  replace hP := hP1
  replace hS := hS2
  obtain ⟨sh, esh⟩ : ∃ w, w = shq := ⟨_, rfl⟩
  subst esh
  replace hl : lv_has ls 2 [(1, .int 2), (0, .ref (a h0))] := by rw [hax h0 (okN_at g_127)]; exact hl
  replace hag := hag_new hag hax hnn
  obtain ⟨n, enq⟩ : ∃ w, w = nq := ⟨_, rfl⟩
  subst enq
  refine W.eq (g2 := F0 m 123 ls [.ref (a k_125), .int 2, .ref (a k_121)]) (by rw [hax k_125 (okN_at g_128), hax k_121 (okN_at g_129)]) ?_
  clear hax hnn hP1 hD1 hS2 hFc hfc hz1 hk1 hvm ht
  refine W.widen (k := 26) (n := 67222) (Nat.le_of_ble_eq_true rfl) (Nat.le_of_ble_eq_true rfl) ?_
  obtain ⟨g_132, hf⟩ := grd_some hf
  obtain ⟨kg_132, sg_132, ig_132⟩ := okA_at g_132
  obtain ⟨g_133, hf⟩ := grd_some hf
  obtain ⟨kg_133, sg_133⟩ := okO_at g_133
  refine va_astq hx hb hK hP hD hS k_121 4 k_125 5 (Wd_aq kg_132 sg_132 (by decide)) rfl (Wd_ob kg_133 sg_133 (by decide)) rfl ig_132 dX7_init_123 (fun H_134 locs hP2 hD2 hS2 => ?_)
  rw [Wd_tq sg_132 (by decide)] at hP2 hD2
  obtain ⟨z_135, ez_135⟩ : ∃ w, w = sq z_130 k_121 (2 : Int32).toNatClampNeg (some k_125) := ⟨_, rfl⟩
  rw [← ez_135] at hP2 hD2
  replace hf := lt_at ez_135 hf
  replace hk : lk z_135 n := by rw [ez_135]; exact lk_sq1 hk (Or.inl kg_133)
  clear ez_135
  replace hP := hP2
  replace hD := hD2
  replace hS := hS2
  clear hP2 hD2 hS2
  refine lv_iinc (v := 3) (lv' := [(1, .int 3), (0, .ref (a h0))]) hx hb dX7_init_124 hl (k := 0) rfl rfl (by decide) rfl (fun ls hl2 => ?_)
  replace hl := hl2
  clear hl2
  refine lv_goto (tgt := 105) hx hb dX7_init_127 (by decide) ?_
  refine lv_iload_n hx hb dX7_init_105 rfl (lv_at hl 0 rfl) ?_
  refine lv_bipush (v := 8) hx hb dX7_init_106 (by decide) ?_
  refine lv_icmp_gt (tgt := 130) hx hb dX7_init_108 (by decide) (fun h => absurd h (by decide)) (fun _ => ?_)
  refine lv_aload_n hx hb dX7_init_111 rfl (lv_at hl 1 rfl) ?_
  obtain ⟨g_136, hf⟩ := grd_some hf
  obtain ⟨kg_136, sg_136⟩ := okO_at g_136
  obtain ⟨k_137, ek_137, hf⟩ := lnk_some hf
  refine va_get (D := (dC, dI)) (ci := 7) (v := .ref (a k_137)) (C := RX7) (T := TX7) (N := 16) hx hb hts iwd_X7_init_X7 hown hK hP h0 (Wd_ob kg_136 sg_136 (by decide)) rfl 4 (by decide) (hts _ md_X7_init_9) (fun _ h9 => h9) (fl_q rfl ek_137) dX7_init_112 ?_
  refine lv_iload_n hx hb dX7_init_115 rfl (lv_at hl 0 rfl) ?_
  obtain ⟨g_138, hf⟩ := grd_some hf
  obtain ⟨g_139, hf⟩ := grd_some hf
  refine de_new (ci := 5) (fs := [.null, .int 0, .int 0, .null, .int 0, .null, .int 0, .null, .int 0, .int 0, .null, .int 0, .int 0, .int 0, .int 0]) (C := RX5) (T := TX5) (N := 15) hf hk hx hb hts iwd_X7_init_X5 tyX5 tyX5_ok hown (hts _ md_X7_init_8) (hts _ md_X7_init_19) (hts _ md_X7_init_20) hK hP hD hS hA rfl rfl df_X5 (Nat.le_of_ble_eq_true rfl) (Nat.le_of_ble_eq_true rfl) dX7_init_116 (fun a sh n z_140 k_141 H_142 hf hax hk hnn hP hD hS => ?_)
  refine W.eq (g2 := F0 m 119 ls [.ref (a k_141), .int 3, .ref (a k_137)]) (by rw [hax k_137 (okN_at g_139)]) ?_
  replace hl : lv_has ls 2 [(1, .int 3), (0, .ref (a h0))] := by rw [hax h0 (okN_at g_138)]; exact hl
  replace hag := hag_new hag hax hnn
  clear hax hnn
  refine W.widen (k := 27) (n := 67237) (Nat.le_of_ble_eq_true rfl) (Nat.le_of_ble_eq_true rfl) ?_
  refine lv_dup hx hb dX7_init_119 rfl ?_
  obtain ⟨g_143, hf⟩ := grd_some hf
  obtain ⟨g_144, hf⟩ := grd_some hf
  obtain ⟨g_145, hf⟩ := grd_some hf
  obtain ⟨shq, nq, z_146, _u, hfc, hf⟩ := cala_some hf
  have hFc := de_free hD hS hA
  refine va_callv (va_runIN (As := []) (rest := [.ref (a k_141), .int 3, .ref (a k_137)]) ⟨hx, hb, hml, hown, hts⟩ (da_X5_init l dC dI cy a sh n H_142.size F z_140 k_141 hk hfc) ⟨va_cnB 0 hts ggX7_init_X5_init rfl rfl rfl (NK_m_X7_50 hN) (hts _ md_X7_init_20) ⟨by decide, by decide, by decide +kernel⟩ ⟨Nat.le_of_ble_eq_true rfl, Nat.le_of_ble_eq_true rfl⟩, rfl, (hts _ md_X7_init_21)⟩ ⟨fun a U g mk q => by obtain ⟨q0, q1, qP, qK, qD, qN⟩ := q; exact ⟨q0, q1, qP, va_K.moved (u := U) (U := U.calling g mk a) (Vm.Alike.refl U.vm) qK, qD, qN.same rfl⟩, fun U hU hW => ⟨rfl, by rw [hU], by rw [hU]; exact hP, va_K.moved hW.alike hK, hD.weaken (fun _ _ _ _ => trivial), hN.warm hW⟩⟩ rfl rfl hl.1 rfl (lv_room (Nat.le_of_ble_eq_true rfl)) dX7_init_120 ⟨Nat.le_of_ble_eq_true rfl, Nat.le_of_ble_eq_true rfl⟩) hS (fun q _ h => hFc q h) hFc (fun a t H_147 locs ht hvm hw hB hz1 hk1 hS2 => ?_)
  obtain ⟨⟨hax, hnn⟩, hk⟩ := hw
  obtain ⟨hP1, -, hD1⟩ := hB
  rw [ht] at hP1
  replace hD := hD1.weaken (fun _ _ _ h => hFc _ h)
  replace hP := hP1
  replace hS := hS2
  obtain ⟨sh, esh⟩ : ∃ w, w = shq := ⟨_, rfl⟩
  subst esh
  replace hl : lv_has ls 2 [(1, .int 3), (0, .ref (a h0))] := by rw [hax h0 (okN_at g_143)]; exact hl
  replace hag := hag_new hag hax hnn
  obtain ⟨n, enq⟩ : ∃ w, w = nq := ⟨_, rfl⟩
  subst enq
  refine W.eq (g2 := F0 m 123 ls [.ref (a k_141), .int 3, .ref (a k_137)]) (by rw [hax k_141 (okN_at g_144), hax k_137 (okN_at g_145)]) ?_
  clear hax hnn hP1 hD1 hS2 hFc hfc hz1 hk1 hvm ht
  refine W.widen (k := 31) (n := 72645) (Nat.le_of_ble_eq_true rfl) (Nat.le_of_ble_eq_true rfl) ?_
  obtain ⟨g_148, hf⟩ := grd_some hf
  obtain ⟨kg_148, sg_148, ig_148⟩ := okA_at g_148
  obtain ⟨g_149, hf⟩ := grd_some hf
  obtain ⟨kg_149, sg_149⟩ := okO_at g_149
  refine va_astq hx hb hK hP hD hS k_137 4 k_141 5 (Wd_aq kg_148 sg_148 (by decide)) rfl (Wd_ob kg_149 sg_149 (by decide)) rfl ig_148 dX7_init_123 (fun H_150 locs hP2 hD2 hS2 => ?_)
  rw [Wd_tq sg_148 (by decide)] at hP2 hD2
  obtain ⟨z_151, ez_151⟩ : ∃ w, w = sq z_146 k_137 (3 : Int32).toNatClampNeg (some k_141) := ⟨_, rfl⟩
  rw [← ez_151] at hP2 hD2
  replace hf := lt_at ez_151 hf
  replace hk : lk z_151 n := by rw [ez_151]; exact lk_sq1 hk (Or.inl kg_149)
  clear ez_151
  replace hP := hP2
  replace hD := hD2
  replace hS := hS2
  clear hP2 hD2 hS2
  refine lv_iinc (v := 4) (lv' := [(1, .int 4), (0, .ref (a h0))]) hx hb dX7_init_124 hl (k := 0) rfl rfl (by decide) rfl (fun ls hl2 => ?_)
  replace hl := hl2
  clear hl2
  refine lv_goto (tgt := 105) hx hb dX7_init_127 (by decide) ?_
  refine lv_iload_n hx hb dX7_init_105 rfl (lv_at hl 0 rfl) ?_
  refine lv_bipush (v := 8) hx hb dX7_init_106 (by decide) ?_
  refine lv_icmp_gt (tgt := 130) hx hb dX7_init_108 (by decide) (fun h => absurd h (by decide)) (fun _ => ?_)
  refine lv_aload_n hx hb dX7_init_111 rfl (lv_at hl 1 rfl) ?_
  obtain ⟨g_152, hf⟩ := grd_some hf
  obtain ⟨kg_152, sg_152⟩ := okO_at g_152
  obtain ⟨k_153, ek_153, hf⟩ := lnk_some hf
  refine va_get (D := (dC, dI)) (ci := 7) (v := .ref (a k_153)) (C := RX7) (T := TX7) (N := 16) hx hb hts iwd_X7_init_X7 hown hK hP h0 (Wd_ob kg_152 sg_152 (by decide)) rfl 4 (by decide) (hts _ md_X7_init_9) (fun _ h9 => h9) (fl_q rfl ek_153) dX7_init_112 ?_
  refine lv_iload_n hx hb dX7_init_115 rfl (lv_at hl 0 rfl) ?_
  obtain ⟨g_154, hf⟩ := grd_some hf
  obtain ⟨g_155, hf⟩ := grd_some hf
  refine de_new (ci := 5) (fs := [.null, .int 0, .int 0, .null, .int 0, .null, .int 0, .null, .int 0, .int 0, .null, .int 0, .int 0, .int 0, .int 0]) (C := RX5) (T := TX5) (N := 15) hf hk hx hb hts iwd_X7_init_X5 tyX5 tyX5_ok hown (hts _ md_X7_init_8) (hts _ md_X7_init_19) (hts _ md_X7_init_20) hK hP hD hS hA rfl rfl df_X5 (Nat.le_of_ble_eq_true rfl) (Nat.le_of_ble_eq_true rfl) dX7_init_116 (fun a sh n z_156 k_157 H_158 hf hax hk hnn hP hD hS => ?_)
  refine W.eq (g2 := F0 m 119 ls [.ref (a k_157), .int 4, .ref (a k_153)]) (by rw [hax k_153 (okN_at g_155)]) ?_
  replace hl : lv_has ls 2 [(1, .int 4), (0, .ref (a h0))] := by rw [hax h0 (okN_at g_154)]; exact hl
  replace hag := hag_new hag hax hnn
  clear hax hnn
  refine W.widen (k := 32) (n := 72660) (Nat.le_of_ble_eq_true rfl) (Nat.le_of_ble_eq_true rfl) ?_
  refine lv_dup hx hb dX7_init_119 rfl ?_
  obtain ⟨g_159, hf⟩ := grd_some hf
  obtain ⟨g_160, hf⟩ := grd_some hf
  obtain ⟨g_161, hf⟩ := grd_some hf
  obtain ⟨shq, nq, z_162, _u, hfc, hf⟩ := cala_some hf
  have hFc := de_free hD hS hA
  refine va_callv (va_runIN (As := []) (rest := [.ref (a k_157), .int 4, .ref (a k_153)]) ⟨hx, hb, hml, hown, hts⟩ (da_X5_init l dC dI cy a sh n H_158.size F z_156 k_157 hk hfc) ⟨va_cnB 0 hts ggX7_init_X5_init rfl rfl rfl (NK_m_X7_50 hN) (hts _ md_X7_init_20) ⟨by decide, by decide, by decide +kernel⟩ ⟨Nat.le_of_ble_eq_true rfl, Nat.le_of_ble_eq_true rfl⟩, rfl, (hts _ md_X7_init_21)⟩ ⟨fun a U g mk q => by obtain ⟨q0, q1, qP, qK, qD, qN⟩ := q; exact ⟨q0, q1, qP, va_K.moved (u := U) (U := U.calling g mk a) (Vm.Alike.refl U.vm) qK, qD, qN.same rfl⟩, fun U hU hW => ⟨rfl, by rw [hU], by rw [hU]; exact hP, va_K.moved hW.alike hK, hD.weaken (fun _ _ _ _ => trivial), hN.warm hW⟩⟩ rfl rfl hl.1 rfl (lv_room (Nat.le_of_ble_eq_true rfl)) dX7_init_120 ⟨Nat.le_of_ble_eq_true rfl, Nat.le_of_ble_eq_true rfl⟩) hS (fun q _ h => hFc q h) hFc (fun a t H_163 locs ht hvm hw hB hz1 hk1 hS2 => ?_)
  obtain ⟨⟨hax, hnn⟩, hk⟩ := hw
  obtain ⟨hP1, -, hD1⟩ := hB
  rw [ht] at hP1
  replace hD := hD1.weaken (fun _ _ _ h => hFc _ h)
  replace hP := hP1
  replace hS := hS2
  obtain ⟨sh, esh⟩ : ∃ w, w = shq := ⟨_, rfl⟩
  subst esh
  replace hl : lv_has ls 2 [(1, .int 4), (0, .ref (a h0))] := by rw [hax h0 (okN_at g_159)]; exact hl
  replace hag := hag_new hag hax hnn
  obtain ⟨n, enq⟩ : ∃ w, w = nq := ⟨_, rfl⟩
  subst enq
  refine W.eq (g2 := F0 m 123 ls [.ref (a k_157), .int 4, .ref (a k_153)]) (by rw [hax k_157 (okN_at g_160), hax k_153 (okN_at g_161)]) ?_
  clear hax hnn hP1 hD1 hS2 hFc hfc hz1 hk1 hvm ht
  refine W.widen (k := 36) (n := 78068) (Nat.le_of_ble_eq_true rfl) (Nat.le_of_ble_eq_true rfl) ?_
  obtain ⟨g_164, hf⟩ := grd_some hf
  obtain ⟨kg_164, sg_164, ig_164⟩ := okA_at g_164
  obtain ⟨g_165, hf⟩ := grd_some hf
  obtain ⟨kg_165, sg_165⟩ := okO_at g_165
  refine va_astq hx hb hK hP hD hS k_153 4 k_157 5 (Wd_aq kg_164 sg_164 (by decide)) rfl (Wd_ob kg_165 sg_165 (by decide)) rfl ig_164 dX7_init_123 (fun H_166 locs hP2 hD2 hS2 => ?_)
  rw [Wd_tq sg_164 (by decide)] at hP2 hD2
  obtain ⟨z_167, ez_167⟩ : ∃ w, w = sq z_162 k_153 (4 : Int32).toNatClampNeg (some k_157) := ⟨_, rfl⟩
  rw [← ez_167] at hP2 hD2
  replace hf := lt_at ez_167 hf
  replace hk : lk z_167 n := by rw [ez_167]; exact lk_sq1 hk (Or.inl kg_165)
  clear ez_167
  replace hP := hP2
  replace hD := hD2
  replace hS := hS2
  clear hP2 hD2 hS2
  refine lv_iinc (v := 5) (lv' := [(1, .int 5), (0, .ref (a h0))]) hx hb dX7_init_124 hl (k := 0) rfl rfl (by decide) rfl (fun ls hl2 => ?_)
  replace hl := hl2
  clear hl2
  refine lv_goto (tgt := 105) hx hb dX7_init_127 (by decide) ?_
  refine lv_iload_n hx hb dX7_init_105 rfl (lv_at hl 0 rfl) ?_
  refine lv_bipush (v := 8) hx hb dX7_init_106 (by decide) ?_
  refine lv_icmp_gt (tgt := 130) hx hb dX7_init_108 (by decide) (fun h => absurd h (by decide)) (fun _ => ?_)
  refine lv_aload_n hx hb dX7_init_111 rfl (lv_at hl 1 rfl) ?_
  obtain ⟨g_168, hf⟩ := grd_some hf
  obtain ⟨kg_168, sg_168⟩ := okO_at g_168
  obtain ⟨k_169, ek_169, hf⟩ := lnk_some hf
  refine va_get (D := (dC, dI)) (ci := 7) (v := .ref (a k_169)) (C := RX7) (T := TX7) (N := 16) hx hb hts iwd_X7_init_X7 hown hK hP h0 (Wd_ob kg_168 sg_168 (by decide)) rfl 4 (by decide) (hts _ md_X7_init_9) (fun _ h9 => h9) (fl_q rfl ek_169) dX7_init_112 ?_
  refine lv_iload_n hx hb dX7_init_115 rfl (lv_at hl 0 rfl) ?_
  obtain ⟨g_170, hf⟩ := grd_some hf
  obtain ⟨g_171, hf⟩ := grd_some hf
  refine de_new (ci := 5) (fs := [.null, .int 0, .int 0, .null, .int 0, .null, .int 0, .null, .int 0, .int 0, .null, .int 0, .int 0, .int 0, .int 0]) (C := RX5) (T := TX5) (N := 15) hf hk hx hb hts iwd_X7_init_X5 tyX5 tyX5_ok hown (hts _ md_X7_init_8) (hts _ md_X7_init_19) (hts _ md_X7_init_20) hK hP hD hS hA rfl rfl df_X5 (Nat.le_of_ble_eq_true rfl) (Nat.le_of_ble_eq_true rfl) dX7_init_116 (fun a sh n z_172 k_173 H_174 hf hax hk hnn hP hD hS => ?_)
  refine W.eq (g2 := F0 m 119 ls [.ref (a k_173), .int 5, .ref (a k_169)]) (by rw [hax k_169 (okN_at g_171)]) ?_
  replace hl : lv_has ls 2 [(1, .int 5), (0, .ref (a h0))] := by rw [hax h0 (okN_at g_170)]; exact hl
  replace hag := hag_new hag hax hnn
  clear hax hnn
  refine W.widen (k := 37) (n := 78083) (Nat.le_of_ble_eq_true rfl) (Nat.le_of_ble_eq_true rfl) ?_
  refine lv_dup hx hb dX7_init_119 rfl ?_
  obtain ⟨g_175, hf⟩ := grd_some hf
  obtain ⟨g_176, hf⟩ := grd_some hf
  obtain ⟨g_177, hf⟩ := grd_some hf
  obtain ⟨shq, nq, z_178, _u, hfc, hf⟩ := cala_some hf
  have hFc := de_free hD hS hA
  refine va_callv (va_runIN (As := []) (rest := [.ref (a k_173), .int 5, .ref (a k_169)]) ⟨hx, hb, hml, hown, hts⟩ (da_X5_init l dC dI cy a sh n H_174.size F z_172 k_173 hk hfc) ⟨va_cnB 0 hts ggX7_init_X5_init rfl rfl rfl (NK_m_X7_50 hN) (hts _ md_X7_init_20) ⟨by decide, by decide, by decide +kernel⟩ ⟨Nat.le_of_ble_eq_true rfl, Nat.le_of_ble_eq_true rfl⟩, rfl, (hts _ md_X7_init_21)⟩ ⟨fun a U g mk q => by obtain ⟨q0, q1, qP, qK, qD, qN⟩ := q; exact ⟨q0, q1, qP, va_K.moved (u := U) (U := U.calling g mk a) (Vm.Alike.refl U.vm) qK, qD, qN.same rfl⟩, fun U hU hW => ⟨rfl, by rw [hU], by rw [hU]; exact hP, va_K.moved hW.alike hK, hD.weaken (fun _ _ _ _ => trivial), hN.warm hW⟩⟩ rfl rfl hl.1 rfl (lv_room (Nat.le_of_ble_eq_true rfl)) dX7_init_120 ⟨Nat.le_of_ble_eq_true rfl, Nat.le_of_ble_eq_true rfl⟩) hS (fun q _ h => hFc q h) hFc (fun a t H_179 locs ht hvm hw hB hz1 hk1 hS2 => ?_)
  obtain ⟨⟨hax, hnn⟩, hk⟩ := hw
  obtain ⟨hP1, -, hD1⟩ := hB
  rw [ht] at hP1
  replace hD := hD1.weaken (fun _ _ _ h => hFc _ h)
  replace hP := hP1
  replace hS := hS2
  obtain ⟨sh, esh⟩ : ∃ w, w = shq := ⟨_, rfl⟩
  subst esh
  replace hl : lv_has ls 2 [(1, .int 5), (0, .ref (a h0))] := by rw [hax h0 (okN_at g_175)]; exact hl
  replace hag := hag_new hag hax hnn
  obtain ⟨n, enq⟩ : ∃ w, w = nq := ⟨_, rfl⟩
  subst enq
  refine W.eq (g2 := F0 m 123 ls [.ref (a k_173), .int 5, .ref (a k_169)]) (by rw [hax k_173 (okN_at g_176), hax k_169 (okN_at g_177)]) ?_
  clear hax hnn hP1 hD1 hS2 hFc hfc hz1 hk1 hvm ht
  refine W.widen (k := 41) (n := 83491) (Nat.le_of_ble_eq_true rfl) (Nat.le_of_ble_eq_true rfl) ?_
  obtain ⟨g_180, hf⟩ := grd_some hf
  obtain ⟨kg_180, sg_180, ig_180⟩ := okA_at g_180
  obtain ⟨g_181, hf⟩ := grd_some hf
  obtain ⟨kg_181, sg_181⟩ := okO_at g_181
  refine va_astq hx hb hK hP hD hS k_169 4 k_173 5 (Wd_aq kg_180 sg_180 (by decide)) rfl (Wd_ob kg_181 sg_181 (by decide)) rfl ig_180 dX7_init_123 (fun H_182 locs hP2 hD2 hS2 => ?_)
  rw [Wd_tq sg_180 (by decide)] at hP2 hD2
  obtain ⟨z_183, ez_183⟩ : ∃ w, w = sq z_178 k_169 (5 : Int32).toNatClampNeg (some k_173) := ⟨_, rfl⟩
  rw [← ez_183] at hP2 hD2
  replace hf := lt_at ez_183 hf
  replace hk : lk z_183 n := by rw [ez_183]; exact lk_sq1 hk (Or.inl kg_181)
  clear ez_183
  replace hP := hP2
  replace hD := hD2
  replace hS := hS2
  clear hP2 hD2 hS2
  refine lv_iinc (v := 6) (lv' := [(1, .int 6), (0, .ref (a h0))]) hx hb dX7_init_124 hl (k := 0) rfl rfl (by decide) rfl (fun ls hl2 => ?_)
  replace hl := hl2
  clear hl2
  refine lv_goto (tgt := 105) hx hb dX7_init_127 (by decide) ?_
  refine lv_iload_n hx hb dX7_init_105 rfl (lv_at hl 0 rfl) ?_
  refine lv_bipush (v := 8) hx hb dX7_init_106 (by decide) ?_
  refine lv_icmp_gt (tgt := 130) hx hb dX7_init_108 (by decide) (fun h => absurd h (by decide)) (fun _ => ?_)
  refine lv_aload_n hx hb dX7_init_111 rfl (lv_at hl 1 rfl) ?_
  obtain ⟨g_184, hf⟩ := grd_some hf
  obtain ⟨kg_184, sg_184⟩ := okO_at g_184
  obtain ⟨k_185, ek_185, hf⟩ := lnk_some hf
  refine va_get (D := (dC, dI)) (ci := 7) (v := .ref (a k_185)) (C := RX7) (T := TX7) (N := 16) hx hb hts iwd_X7_init_X7 hown hK hP h0 (Wd_ob kg_184 sg_184 (by decide)) rfl 4 (by decide) (hts _ md_X7_init_9) (fun _ h9 => h9) (fl_q rfl ek_185) dX7_init_112 ?_
  refine lv_iload_n hx hb dX7_init_115 rfl (lv_at hl 0 rfl) ?_
  obtain ⟨g_186, hf⟩ := grd_some hf
  obtain ⟨g_187, hf⟩ := grd_some hf
  refine de_new (ci := 5) (fs := [.null, .int 0, .int 0, .null, .int 0, .null, .int 0, .null, .int 0, .int 0, .null, .int 0, .int 0, .int 0, .int 0]) (C := RX5) (T := TX5) (N := 15) hf hk hx hb hts iwd_X7_init_X5 tyX5 tyX5_ok hown (hts _ md_X7_init_8) (hts _ md_X7_init_19) (hts _ md_X7_init_20) hK hP hD hS hA rfl rfl df_X5 (Nat.le_of_ble_eq_true rfl) (Nat.le_of_ble_eq_true rfl) dX7_init_116 (fun a sh n z_188 k_189 H_190 hf hax hk hnn hP hD hS => ?_)
  refine W.eq (g2 := F0 m 119 ls [.ref (a k_189), .int 6, .ref (a k_185)]) (by rw [hax k_185 (okN_at g_187)]) ?_
  replace hl : lv_has ls 2 [(1, .int 6), (0, .ref (a h0))] := by rw [hax h0 (okN_at g_186)]; exact hl
  replace hag := hag_new hag hax hnn
  clear hax hnn
  refine W.widen (k := 42) (n := 83506) (Nat.le_of_ble_eq_true rfl) (Nat.le_of_ble_eq_true rfl) ?_
  refine lv_dup hx hb dX7_init_119 rfl ?_
  obtain ⟨g_191, hf⟩ := grd_some hf
  obtain ⟨g_192, hf⟩ := grd_some hf
  obtain ⟨g_193, hf⟩ := grd_some hf
  obtain ⟨shq, nq, z_194, _u, hfc, hf⟩ := cala_some hf
  have hFc := de_free hD hS hA
  refine va_callv (va_runIN (As := []) (rest := [.ref (a k_189), .int 6, .ref (a k_185)]) ⟨hx, hb, hml, hown, hts⟩ (da_X5_init l dC dI cy a sh n H_190.size F z_188 k_189 hk hfc) ⟨va_cnB 0 hts ggX7_init_X5_init rfl rfl rfl (NK_m_X7_50 hN) (hts _ md_X7_init_20) ⟨by decide, by decide, by decide +kernel⟩ ⟨Nat.le_of_ble_eq_true rfl, Nat.le_of_ble_eq_true rfl⟩, rfl, (hts _ md_X7_init_21)⟩ ⟨fun a U g mk q => by obtain ⟨q0, q1, qP, qK, qD, qN⟩ := q; exact ⟨q0, q1, qP, va_K.moved (u := U) (U := U.calling g mk a) (Vm.Alike.refl U.vm) qK, qD, qN.same rfl⟩, fun U hU hW => ⟨rfl, by rw [hU], by rw [hU]; exact hP, va_K.moved hW.alike hK, hD.weaken (fun _ _ _ _ => trivial), hN.warm hW⟩⟩ rfl rfl hl.1 rfl (lv_room (Nat.le_of_ble_eq_true rfl)) dX7_init_120 ⟨Nat.le_of_ble_eq_true rfl, Nat.le_of_ble_eq_true rfl⟩) hS (fun q _ h => hFc q h) hFc (fun a t H_195 locs ht hvm hw hB hz1 hk1 hS2 => ?_)
  obtain ⟨⟨hax, hnn⟩, hk⟩ := hw
  obtain ⟨hP1, -, hD1⟩ := hB
  rw [ht] at hP1
  replace hD := hD1.weaken (fun _ _ _ h => hFc _ h)
  replace hP := hP1
  replace hS := hS2
  obtain ⟨sh, esh⟩ : ∃ w, w = shq := ⟨_, rfl⟩
  subst esh
  replace hl : lv_has ls 2 [(1, .int 6), (0, .ref (a h0))] := by rw [hax h0 (okN_at g_191)]; exact hl
  replace hag := hag_new hag hax hnn
  obtain ⟨n, enq⟩ : ∃ w, w = nq := ⟨_, rfl⟩
  subst enq
  refine W.eq (g2 := F0 m 123 ls [.ref (a k_189), .int 6, .ref (a k_185)]) (by rw [hax k_189 (okN_at g_192), hax k_185 (okN_at g_193)]) ?_
  clear hax hnn hP1 hD1 hS2 hFc hfc hz1 hk1 hvm ht
  refine W.widen (k := 46) (n := 88914) (Nat.le_of_ble_eq_true rfl) (Nat.le_of_ble_eq_true rfl) ?_
  obtain ⟨g_196, hf⟩ := grd_some hf
  obtain ⟨kg_196, sg_196, ig_196⟩ := okA_at g_196
  obtain ⟨g_197, hf⟩ := grd_some hf
  obtain ⟨kg_197, sg_197⟩ := okO_at g_197
  refine va_astq hx hb hK hP hD hS k_185 4 k_189 5 (Wd_aq kg_196 sg_196 (by decide)) rfl (Wd_ob kg_197 sg_197 (by decide)) rfl ig_196 dX7_init_123 (fun H_198 locs hP2 hD2 hS2 => ?_)
  rw [Wd_tq sg_196 (by decide)] at hP2 hD2
  obtain ⟨z_199, ez_199⟩ : ∃ w, w = sq z_194 k_185 (6 : Int32).toNatClampNeg (some k_189) := ⟨_, rfl⟩
  rw [← ez_199] at hP2 hD2
  replace hf := lt_at ez_199 hf
  replace hk : lk z_199 n := by rw [ez_199]; exact lk_sq1 hk (Or.inl kg_197)
  clear ez_199
  replace hP := hP2
  replace hD := hD2
  replace hS := hS2
  clear hP2 hD2 hS2
  refine lv_iinc (v := 7) (lv' := [(1, .int 7), (0, .ref (a h0))]) hx hb dX7_init_124 hl (k := 0) rfl rfl (by decide) rfl (fun ls hl2 => ?_)
  replace hl := hl2
  clear hl2
  refine lv_goto (tgt := 105) hx hb dX7_init_127 (by decide) ?_
  refine lv_iload_n hx hb dX7_init_105 rfl (lv_at hl 0 rfl) ?_
  refine lv_bipush (v := 8) hx hb dX7_init_106 (by decide) ?_
  refine lv_icmp_gt (tgt := 130) hx hb dX7_init_108 (by decide) (fun h => absurd h (by decide)) (fun _ => ?_)
  refine lv_aload_n hx hb dX7_init_111 rfl (lv_at hl 1 rfl) ?_
  obtain ⟨g_200, hf⟩ := grd_some hf
  obtain ⟨kg_200, sg_200⟩ := okO_at g_200
  obtain ⟨k_201, ek_201, hf⟩ := lnk_some hf
  refine va_get (D := (dC, dI)) (ci := 7) (v := .ref (a k_201)) (C := RX7) (T := TX7) (N := 16) hx hb hts iwd_X7_init_X7 hown hK hP h0 (Wd_ob kg_200 sg_200 (by decide)) rfl 4 (by decide) (hts _ md_X7_init_9) (fun _ h9 => h9) (fl_q rfl ek_201) dX7_init_112 ?_
  refine lv_iload_n hx hb dX7_init_115 rfl (lv_at hl 0 rfl) ?_
  obtain ⟨g_202, hf⟩ := grd_some hf
  obtain ⟨g_203, hf⟩ := grd_some hf
  refine de_new (ci := 5) (fs := [.null, .int 0, .int 0, .null, .int 0, .null, .int 0, .null, .int 0, .int 0, .null, .int 0, .int 0, .int 0, .int 0]) (C := RX5) (T := TX5) (N := 15) hf hk hx hb hts iwd_X7_init_X5 tyX5 tyX5_ok hown (hts _ md_X7_init_8) (hts _ md_X7_init_19) (hts _ md_X7_init_20) hK hP hD hS hA rfl rfl df_X5 (Nat.le_of_ble_eq_true rfl) (Nat.le_of_ble_eq_true rfl) dX7_init_116 (fun a sh n z_204 k_205 H_206 hf hax hk hnn hP hD hS => ?_)
  refine W.eq (g2 := F0 m 119 ls [.ref (a k_205), .int 7, .ref (a k_201)]) (by rw [hax k_201 (okN_at g_203)]) ?_
  replace hl : lv_has ls 2 [(1, .int 7), (0, .ref (a h0))] := by rw [hax h0 (okN_at g_202)]; exact hl
  replace hag := hag_new hag hax hnn
  clear hax hnn
  refine W.widen (k := 47) (n := 88929) (Nat.le_of_ble_eq_true rfl) (Nat.le_of_ble_eq_true rfl) ?_
  refine lv_dup hx hb dX7_init_119 rfl ?_
  obtain ⟨g_207, hf⟩ := grd_some hf
  obtain ⟨g_208, hf⟩ := grd_some hf
  obtain ⟨g_209, hf⟩ := grd_some hf
  obtain ⟨shq, nq, z_210, _u, hfc, hf⟩ := cala_some hf
  have hFc := de_free hD hS hA
  refine va_callv (va_runIN (As := []) (rest := [.ref (a k_205), .int 7, .ref (a k_201)]) ⟨hx, hb, hml, hown, hts⟩ (da_X5_init l dC dI cy a sh n H_206.size F z_204 k_205 hk hfc) ⟨va_cnB 0 hts ggX7_init_X5_init rfl rfl rfl (NK_m_X7_50 hN) (hts _ md_X7_init_20) ⟨by decide, by decide, by decide +kernel⟩ ⟨Nat.le_of_ble_eq_true rfl, Nat.le_of_ble_eq_true rfl⟩, rfl, (hts _ md_X7_init_21)⟩ ⟨fun a U g mk q => by obtain ⟨q0, q1, qP, qK, qD, qN⟩ := q; exact ⟨q0, q1, qP, va_K.moved (u := U) (U := U.calling g mk a) (Vm.Alike.refl U.vm) qK, qD, qN.same rfl⟩, fun U hU hW => ⟨rfl, by rw [hU], by rw [hU]; exact hP, va_K.moved hW.alike hK, hD.weaken (fun _ _ _ _ => trivial), hN.warm hW⟩⟩ rfl rfl hl.1 rfl (lv_room (Nat.le_of_ble_eq_true rfl)) dX7_init_120 ⟨Nat.le_of_ble_eq_true rfl, Nat.le_of_ble_eq_true rfl⟩) hS (fun q _ h => hFc q h) hFc (fun a t H_211 locs ht hvm hw hB hz1 hk1 hS2 => ?_)
  obtain ⟨⟨hax, hnn⟩, hk⟩ := hw
  obtain ⟨hP1, -, hD1⟩ := hB
  rw [ht] at hP1
  replace hD := hD1.weaken (fun _ _ _ h => hFc _ h)
  replace hP := hP1
  replace hS := hS2
  obtain ⟨sh, esh⟩ : ∃ w, w = shq := ⟨_, rfl⟩
  subst esh
  replace hl : lv_has ls 2 [(1, .int 7), (0, .ref (a h0))] := by rw [hax h0 (okN_at g_207)]; exact hl
  replace hag := hag_new hag hax hnn
  obtain ⟨n, enq⟩ : ∃ w, w = nq := ⟨_, rfl⟩
  subst enq
  refine W.eq (g2 := F0 m 123 ls [.ref (a k_205), .int 7, .ref (a k_201)]) (by rw [hax k_205 (okN_at g_208), hax k_201 (okN_at g_209)]) ?_
  clear hax hnn hP1 hD1 hS2 hFc hfc hz1 hk1 hvm ht
  refine W.widen (k := 51) (n := 94337) (Nat.le_of_ble_eq_true rfl) (Nat.le_of_ble_eq_true rfl) ?_
  obtain ⟨g_212, hf⟩ := grd_some hf
  obtain ⟨kg_212, sg_212, ig_212⟩ := okA_at g_212
  obtain ⟨g_213, hf⟩ := grd_some hf
  obtain ⟨kg_213, sg_213⟩ := okO_at g_213
  refine va_astq hx hb hK hP hD hS k_201 4 k_205 5 (Wd_aq kg_212 sg_212 (by decide)) rfl (Wd_ob kg_213 sg_213 (by decide)) rfl ig_212 dX7_init_123 (fun H_214 locs hP2 hD2 hS2 => ?_)
  rw [Wd_tq sg_212 (by decide)] at hP2 hD2
  obtain ⟨z_215, ez_215⟩ : ∃ w, w = sq z_210 k_201 (7 : Int32).toNatClampNeg (some k_205) := ⟨_, rfl⟩
  rw [← ez_215] at hP2 hD2
  replace hf := lt_at ez_215 hf
  replace hk : lk z_215 n := by rw [ez_215]; exact lk_sq1 hk (Or.inl kg_213)
  clear ez_215
  replace hP := hP2
  replace hD := hD2
  replace hS := hS2
  clear hP2 hD2 hS2
  refine lv_iinc (v := 8) (lv' := [(1, .int 8), (0, .ref (a h0))]) hx hb dX7_init_124 hl (k := 0) rfl rfl (by decide) rfl (fun ls hl2 => ?_)
  replace hl := hl2
  clear hl2
  refine lv_goto (tgt := 105) hx hb dX7_init_127 (by decide) ?_
  refine lv_iload_n hx hb dX7_init_105 rfl (lv_at hl 0 rfl) ?_
  refine lv_bipush (v := 8) hx hb dX7_init_106 (by decide) ?_
  refine lv_icmp_gt (tgt := 130) hx hb dX7_init_108 (by decide) (fun h => absurd h (by decide)) (fun _ => ?_)
  refine lv_aload_n hx hb dX7_init_111 rfl (lv_at hl 1 rfl) ?_
  obtain ⟨g_216, hf⟩ := grd_some hf
  obtain ⟨kg_216, sg_216⟩ := okO_at g_216
  obtain ⟨k_217, ek_217, hf⟩ := lnk_some hf
  refine va_get (D := (dC, dI)) (ci := 7) (v := .ref (a k_217)) (C := RX7) (T := TX7) (N := 16) hx hb hts iwd_X7_init_X7 hown hK hP h0 (Wd_ob kg_216 sg_216 (by decide)) rfl 4 (by decide) (hts _ md_X7_init_9) (fun _ h9 => h9) (fl_q rfl ek_217) dX7_init_112 ?_
  refine lv_iload_n hx hb dX7_init_115 rfl (lv_at hl 0 rfl) ?_
  obtain ⟨g_218, hf⟩ := grd_some hf
  obtain ⟨g_219, hf⟩ := grd_some hf
  refine de_new (ci := 5) (fs := [.null, .int 0, .int 0, .null, .int 0, .null, .int 0, .null, .int 0, .int 0, .null, .int 0, .int 0, .int 0, .int 0]) (C := RX5) (T := TX5) (N := 15) hf hk hx hb hts iwd_X7_init_X5 tyX5 tyX5_ok hown (hts _ md_X7_init_8) (hts _ md_X7_init_19) (hts _ md_X7_init_20) hK hP hD hS hA rfl rfl df_X5 (Nat.le_of_ble_eq_true rfl) (Nat.le_of_ble_eq_true rfl) dX7_init_116 (fun a sh n z_220 k_221 H_222 hf hax hk hnn hP hD hS => ?_)
  refine W.eq (g2 := F0 m 119 ls [.ref (a k_221), .int 8, .ref (a k_217)]) (by rw [hax k_217 (okN_at g_219)]) ?_
  replace hl : lv_has ls 2 [(1, .int 8), (0, .ref (a h0))] := by rw [hax h0 (okN_at g_218)]; exact hl
  replace hag := hag_new hag hax hnn
  clear hax hnn
  refine W.widen (k := 52) (n := 94352) (Nat.le_of_ble_eq_true rfl) (Nat.le_of_ble_eq_true rfl) ?_
  refine lv_dup hx hb dX7_init_119 rfl ?_
  obtain ⟨g_223, hf⟩ := grd_some hf
  obtain ⟨g_224, hf⟩ := grd_some hf
  obtain ⟨g_225, hf⟩ := grd_some hf
  obtain ⟨shq, nq, z_226, _u, hfc, hf⟩ := cala_some hf
  have hFc := de_free hD hS hA
  refine va_callv (va_runIN (As := []) (rest := [.ref (a k_221), .int 8, .ref (a k_217)]) ⟨hx, hb, hml, hown, hts⟩ (da_X5_init l dC dI cy a sh n H_222.size F z_220 k_221 hk hfc) ⟨va_cnB 0 hts ggX7_init_X5_init rfl rfl rfl (NK_m_X7_50 hN) (hts _ md_X7_init_20) ⟨by decide, by decide, by decide +kernel⟩ ⟨Nat.le_of_ble_eq_true rfl, Nat.le_of_ble_eq_true rfl⟩, rfl, (hts _ md_X7_init_21)⟩ ⟨fun a U g mk q => by obtain ⟨q0, q1, qP, qK, qD, qN⟩ := q; exact ⟨q0, q1, qP, va_K.moved (u := U) (U := U.calling g mk a) (Vm.Alike.refl U.vm) qK, qD, qN.same rfl⟩, fun U hU hW => ⟨rfl, by rw [hU], by rw [hU]; exact hP, va_K.moved hW.alike hK, hD.weaken (fun _ _ _ _ => trivial), hN.warm hW⟩⟩ rfl rfl hl.1 rfl (lv_room (Nat.le_of_ble_eq_true rfl)) dX7_init_120 ⟨Nat.le_of_ble_eq_true rfl, Nat.le_of_ble_eq_true rfl⟩) hS (fun q _ h => hFc q h) hFc (fun a t H_227 locs ht hvm hw hB hz1 hk1 hS2 => ?_)
  obtain ⟨⟨hax, hnn⟩, hk⟩ := hw
  obtain ⟨hP1, -, hD1⟩ := hB
  rw [ht] at hP1
  replace hD := hD1.weaken (fun _ _ _ h => hFc _ h)
  replace hP := hP1
  replace hS := hS2
  obtain ⟨sh, esh⟩ : ∃ w, w = shq := ⟨_, rfl⟩
  subst esh
  replace hl : lv_has ls 2 [(1, .int 8), (0, .ref (a h0))] := by rw [hax h0 (okN_at g_223)]; exact hl
  replace hag := hag_new hag hax hnn
  obtain ⟨n, enq⟩ : ∃ w, w = nq := ⟨_, rfl⟩
  subst enq
  refine W.eq (g2 := F0 m 123 ls [.ref (a k_221), .int 8, .ref (a k_217)]) (by rw [hax k_221 (okN_at g_224), hax k_217 (okN_at g_225)]) ?_
  clear hax hnn hP1 hD1 hS2 hFc hfc hz1 hk1 hvm ht
  refine W.widen (k := 56) (n := 99760) (Nat.le_of_ble_eq_true rfl) (Nat.le_of_ble_eq_true rfl) ?_
  obtain ⟨g_228, hf⟩ := grd_some hf
  obtain ⟨kg_228, sg_228, ig_228⟩ := okA_at g_228
  obtain ⟨g_229, hf⟩ := grd_some hf
  obtain ⟨kg_229, sg_229⟩ := okO_at g_229
  refine va_astq hx hb hK hP hD hS k_217 4 k_221 5 (Wd_aq kg_228 sg_228 (by decide)) rfl (Wd_ob kg_229 sg_229 (by decide)) rfl ig_228 dX7_init_123 (fun H_230 locs hP2 hD2 hS2 => ?_)
  rw [Wd_tq sg_228 (by decide)] at hP2 hD2
  obtain ⟨z_231, ez_231⟩ : ∃ w, w = sq z_226 k_217 (8 : Int32).toNatClampNeg (some k_221) := ⟨_, rfl⟩
  rw [← ez_231] at hP2 hD2
  replace hf := lt_at ez_231 hf
  replace hk : lk z_231 n := by rw [ez_231]; exact lk_sq1 hk (Or.inl kg_229)
  clear ez_231
  replace hP := hP2
  replace hD := hD2
  replace hS := hS2
  clear hP2 hD2 hS2
  refine lv_iinc (v := 9) (lv' := [(1, .int 9), (0, .ref (a h0))]) hx hb dX7_init_124 hl (k := 0) rfl rfl (by decide) rfl (fun ls hl2 => ?_)
  replace hl := hl2
  clear hl2
  refine lv_goto (tgt := 105) hx hb dX7_init_127 (by decide) ?_
  refine lv_iload_n hx hb dX7_init_105 rfl (lv_at hl 0 rfl) ?_
  refine lv_bipush (v := 8) hx hb dX7_init_106 (by decide) ?_
  refine lv_icmp_gt (tgt := 130) hx hb dX7_init_108 (by decide) (fun _ => ?_) (fun h => absurd (by decide) h)
  obtain ⟨h5, h6, h8, h9⟩ := rta_some hf
  rw [h5, h6, h8]
  exact W.vret hx hb hr (fun t ht hW => ⟨⟨a, rfl, ⟨hag, hk⟩, by rw [ht]; exact hP, va_K.moved hW.alike hK, hD⟩, hS.F ht⟩) hS.2.2 dX7_init_130

theorem md_X4_init_1 : (.methodLink RX4 3 objectInit : Cond) ∈ wsX4_init := List.mem_of_getElem? (i := 1) rfl
theorem md_X4_init_2 : (.instanceMethod objectInit : Cond) ∈ wsX4_init := List.mem_of_getElem? (i := 2) rfl
theorem md_X4_init_3 : (.code objectInit ⟨#[0xb1]⟩ 1 none : Cond) ∈ wsX4_init := List.mem_of_getElem? (i := 3) rfl
theorem iwd_X4_init_X1 : ∀ w ∈ wsX10, w ∈ wsX4_init := fun _ h => List.mem_cons_of_mem _ (List.mem_append_left _ (List.mem_append_left _ (List.mem_append_left _ (List.mem_append_left _ (List.mem_append_right _ h)))))
theorem md_X4_init_4 : (.classLink RX4 9 RX1 : Cond) ∈ wsX4_init := List.mem_of_getElem? (i := 4) rfl
theorem md_X4_init_5 : (.instantiable RX1 7 : Cond) ∈ wsX4_init := List.mem_of_getElem? (i := 5) rfl
theorem md_X4_init_6 : (.initialized RX1 : Cond) ∈ wsX4_init := List.mem_of_getElem? (i := 6) rfl
theorem md_X4_init_31 : (.instanceMethod yX1_init : Cond) ∈ wsX4_init := List.mem_of_getElem? (i := 31) rfl
theorem md_X4_init_7 : (.fieldLink RX4 12 "ResourceLedger$Machine" "heap" "LResourceLedger$Heap;" : Cond) ∈ wsX4_init := List.mem_of_getElem? (i := 7) rfl
theorem iwd_X4_init_X4 : ∀ w ∈ wsX40, w ∈ wsX4_init := fun _ h => List.mem_cons_of_mem _ (List.mem_append_left _ (List.mem_append_left _ (List.mem_append_left _ (List.mem_append_right _ h))))
theorem iwd_X4_init_X10 : ∀ w ∈ wsX100, w ∈ wsX4_init := fun _ h => List.mem_cons_of_mem _ (List.mem_append_left _ (List.mem_append_left _ (List.mem_append_right _ h)))
theorem md_X4_init_8 : (.classLink RX4 18 RX10 : Cond) ∈ wsX4_init := List.mem_of_getElem? (i := 8) rfl
theorem md_X4_init_9 : (.instantiable RX10 5 : Cond) ∈ wsX4_init := List.mem_of_getElem? (i := 9) rfl
theorem md_X4_init_10 : (.initialized RX10 : Cond) ∈ wsX4_init := List.mem_of_getElem? (i := 10) rfl
theorem md_X4_init_39 : (.instanceMethod yX10_init : Cond) ∈ wsX4_init := List.mem_of_getElem? (i := 39) rfl
theorem md_X4_init_11 : (.fieldLink RX4 21 "ResourceLedger$Machine" "wide" "LResourceLedger$Wide;" : Cond) ∈ wsX4_init := List.mem_of_getElem? (i := 11) rfl
theorem iwd_X4_init_X0 : ∀ w ∈ wsX00, w ∈ wsX4_init := fun _ h => List.mem_cons_of_mem _ (List.mem_append_left _ (List.mem_append_right _ h))
theorem md_X4_init_12 : (.classLink RX4 25 RX0 : Cond) ∈ wsX4_init := List.mem_of_getElem? (i := 12) rfl
theorem md_X4_init_13 : (.instantiable RX0 4 : Cond) ∈ wsX4_init := List.mem_of_getElem? (i := 13) rfl
theorem md_X4_init_14 : (.initialized RX0 : Cond) ∈ wsX4_init := List.mem_of_getElem? (i := 14) rfl
theorem md_X4_init_42 : (.instanceMethod yX0_init : Cond) ∈ wsX4_init := List.mem_of_getElem? (i := 42) rfl
theorem md_X4_init_15 : (.fieldLink RX4 28 "ResourceLedger$Machine" "digest" "LResourceLedger$Digest;" : Cond) ∈ wsX4_init := List.mem_of_getElem? (i := 15) rfl
theorem md_X4_init_16 : (.arrayClass .byte : Cond) ∈ wsX4_init := List.mem_of_getElem? (i := 16) rfl
theorem md_X4_init_17 : (.fieldLink RX4 32 "ResourceLedger$Machine" "row" "[B" : Cond) ∈ wsX4_init := List.mem_of_getElem? (i := 17) rfl
theorem md_X4_init_18 : (.classLink RX4 36 RX5 : Cond) ∈ wsX4_init := List.mem_of_getElem? (i := 18) rfl
theorem md_X4_init_19 : (.fieldLink RX4 38 "ResourceLedger$Machine" "programs" "[LResourceLedger$Program;" : Cond) ∈ wsX4_init := List.mem_of_getElem? (i := 19) rfl
theorem md_X4_init_20 : (.arrayClass .int : Cond) ∈ wsX4_init := List.mem_of_getElem? (i := 20) rfl
theorem md_X4_init_21 : (.fieldLink RX4 42 "ResourceLedger$Machine" "functions" "[I" : Cond) ∈ wsX4_init := List.mem_of_getElem? (i := 21) rfl
theorem md_X4_init_22 : (.fieldLink RX4 46 "ResourceLedger$Machine" "nexts" "[I" : Cond) ∈ wsX4_init := List.mem_of_getElem? (i := 22) rfl
theorem md_X4_init_23 : (.fieldLink RX4 49 "ResourceLedger$Machine" "depths" "[I" : Cond) ∈ wsX4_init := List.mem_of_getElem? (i := 23) rfl
theorem md_X4_init_24 : (.fieldLink RX4 52 "ResourceLedger$Machine" "locals" "[I" : Cond) ∈ wsX4_init := List.mem_of_getElem? (i := 24) rfl
theorem md_X4_init_25 : (.fieldLink RX4 55 "ResourceLedger$Machine" "stack" "[I" : Cond) ∈ wsX4_init := List.mem_of_getElem? (i := 25) rfl
theorem md_X4_init_26 : (.fieldLink RX4 58 "ResourceLedger$Machine" "state" "LResourceLedger$State;" : Cond) ∈ wsX4_init := List.mem_of_getElem? (i := 26) rfl
theorem iwd_X4_init_X2 : ∀ w ∈ wsX20, w ∈ wsX4_init := fun _ h => List.mem_cons_of_mem _ (List.mem_append_right _ h)
theorem md_X4_init_27 : (.classLink RX4 62 RX2 : Cond) ∈ wsX4_init := List.mem_of_getElem? (i := 27) rfl
theorem md_X4_init_28 : (.instantiable RX2 11 : Cond) ∈ wsX4_init := List.mem_of_getElem? (i := 28) rfl
theorem md_X4_init_29 : (.initialized RX2 : Cond) ∈ wsX4_init := List.mem_of_getElem? (i := 29) rfl
theorem md_X4_init_47 : (.methodLink RX4 64 yX2_init : Cond) ∈ wsX4_init := List.mem_of_getElem? (i := 47) rfl
theorem md_X4_init_48 : (.instanceMethod yX2_init : Cond) ∈ wsX4_init := List.mem_of_getElem? (i := 48) rfl
theorem md_X4_init_30 : (.fieldLink RX4 67 "ResourceLedger$Machine" "journal" "LResourceLedger$Journal;" : Cond) ∈ wsX4_init := List.mem_of_getElem? (i := 30) rfl
set_option maxHeartbeats 4000000 in
set_option maxRecDepth 100000 in
theorem da_X4_init (l : Launch) (dC : Nat → ClassId) (dI : Nat → Nat → Nat) (cy : Nat → ClassId) (a0 : Nat → Nat) (sh0 : Nat → Nat × Nat) (n0 sz : Nat) (F : Nat) (z0 : St) (h0 : Nat) (x0 : Nat) (hk0 : lk z0 n0) {sh8 : Nat → Nat × Nat} {n8 : Nat} {z8 : St} {r8 : Unit} (hf : fa_X4_init F sh0 n0 z0 h0 x0 = some (sh8, n8, z8, r8)) : Met l yX4_init wsX4_init ({ frames := 2, cells := 25, slots := 90403, locals := 34 }) (va_Pc [.ref (a0 h0), .ref (a0 x0)] (fun U => U.heap.size = sz ∧ va_P (dC, dI) vwCl (Wd cy a0 sh0 n0 z0) U.heap ∧ va_K (dC, dI) vwCl (TYS cy) U ∧ va_D (fun _ => True) (Wd cy a0 sh0 n0 z0) ∧ NK U)) (va_Qv (fun u : Nat → Nat => ((∀ k, k < n0 ∨ k = CBK → u k = a0 k) ∧ n0 ≤ n8) ∧ lk z8 n8) (fun u t => va_P (dC, dI) vwCl (Wd cy u sh8 n8 z8) t.heap ∧ va_K (dC, dI) vwCl (TYS cy) t ∧ va_D (va_A (Wd cy a0 sh0 n0 z0) sz) (Wd cy u sh8 n8 z8)) (va_A (Wd cy a0 sh0 n0 z0) sz)) 25 90403 (va_A (Wd cy a0 sh0 n0 z0) sz) := by
  refine Met.ofW (cc := cX4_init) (maxL := 2) (ret := none) (by decide) rfl ?_
  intro p e s m args below meth c s₁ B hml hv
  obtain ⟨rfl, hsz, hP, hK, hD0, hN⟩ := hv
  have hx := B.exec
  have hb := B.bytes
  have hr := B.returns
  have hts := atoms_spec (ws := wsX4_init) B.pre
  have hown : s.vm.findClass RX4 = some m.cls := findClass_of_methodNamed B.named
  have hlocks := B.notSynchronized
  have hin : meth.name = "<init>" := (name_of_methodNamed B.named B.method).1
  subst hsz
  have hD := hD0.self (sz := s.heap.size)
  clear hD0
  generalize hAe : va_A (Wd cy a0 sh0 n0 z0) s.heap.size = A at hD ⊢
  have hA : ∀ q : Nat, s.heap.size ≤ q → A q := fun q h => by rw [← hAe]; exact Or.inr h
  clear hAe
  have hS : va_S A s.heap s.heap [] := va_S.rf
  have hl := lv_entry ([.ref (a0 h0), .ref (a0 x0)]) (n := 2) (Nat.le_of_ble_eq_true rfl)
  rw [lg_entry_eq]
  generalize (lg_sl ([.ref (a0 h0), .ref (a0 x0)]) ++ List.replicate (2 - (lg_sl ([.ref (a0 h0), .ref (a0 x0)])).length) Slot.unset).toArray = ls at hl ⊢
  replace hl : lv_has ls 2 [(0, .ref (a0 h0)), (1, .ref (a0 x0))] := hl
  unfold fa_X4_init at hf
  refine da_start (fn := fun sh n z => fa_X4_init F sh n z h0 x0) (av := fun a => [(0, .ref (a h0)), (1, .ref (a x0))]) (sk := fun q => True) hf hk0 hS hD hP hl trivial (fun a sh n z H locs hf hag hk hS hD hP hl hSK => ?_)
  unfold fa_X4_init at hf
  try dsimp only at hf hl hSK
  refine lv_aload_n hx hb dX4_init_0 rfl (lv_at hl 0 rfl) ?_
  refine W.objInit hx hb hown (hts _ md_X4_init_1) (hts _ md_X4_init_2) (hts _ md_X4_init_3) rfl (by rw [hml]; exact hl.1) rfl dX4_init_1 (Nat.le_of_ble_eq_true rfl) (Nat.le_of_ble_eq_true rfl) ?_
  refine W.eq (g2 := F0 m 4 ls []) rfl ?_
  refine lv_aload_n hx hb dX4_init_4 rfl (lv_at hl 0 rfl) ?_
  obtain ⟨g_1, hf⟩ := grd_some hf
  obtain ⟨g_2, hf⟩ := grd_some hf
  refine de_new (ci := 1) (fs := [.null, .null, .null, .null, .int 0, .int 0, .int 0]) (C := RX1) (T := TX1) (N := 7) hf hk hx hb hts iwd_X4_init_X1 tyX1 tyX1_ok hown (hts _ md_X4_init_4) (hts _ md_X4_init_5) (hts _ md_X4_init_6) hK hP hD hS hA rfl rfl df_X1 (Nat.le_of_ble_eq_true rfl) (Nat.le_of_ble_eq_true rfl) dX4_init_5 (fun a sh n z_3 k_4 H_5 hf hax hk hnn hP hD hS => ?_)
  refine W.eq (g2 := F0 m 8 ls [.ref (a k_4), .ref (a h0)]) (by rw [hax h0 (okN_at g_1)]) ?_
  replace hl : lv_has ls 2 [(0, .ref (a h0)), (1, .ref (a x0))] := by rw [hax h0 (okN_at g_1), hax x0 (okN_at g_2)]; exact hl
  replace hag := hag_new hag hax hnn
  clear hax hnn
  refine W.widen (k := 1) (n := 7) (Nat.le_of_ble_eq_true rfl) (Nat.le_of_ble_eq_true rfl) ?_
  refine lv_dup hx hb dX4_init_8 rfl ?_
  obtain ⟨g_6, hf⟩ := grd_some hf
  obtain ⟨g_7, hf⟩ := grd_some hf
  obtain ⟨g_8, hf⟩ := grd_some hf
  obtain ⟨shq, nq, z_9, _u, hfc, hf⟩ := cala_some hf
  have hFc := de_free hD hS hA
  refine va_callv (va_runIN (As := []) (rest := [.ref (a k_4), .ref (a h0)]) ⟨hx, hb, hml, hown, hts⟩ (da_X1_init l dC dI cy a sh n H_5.size F z_3 k_4 hk hfc) ⟨va_cnB 0 hts ggX4_init_X1_init rfl rfl rfl (NK_m_X4_11 hN) (hts _ md_X4_init_6) ⟨by decide, by decide, by decide +kernel⟩ ⟨Nat.le_of_ble_eq_true rfl, Nat.le_of_ble_eq_true rfl⟩, rfl, (hts _ md_X4_init_31)⟩ ⟨fun a U g mk q => by obtain ⟨q0, q1, qP, qK, qD, qN⟩ := q; exact ⟨q0, q1, qP, va_K.moved (u := U) (U := U.calling g mk a) (Vm.Alike.refl U.vm) qK, qD, qN.same rfl⟩, fun U hU hW => ⟨rfl, by rw [hU], by rw [hU]; exact hP, va_K.moved hW.alike hK, hD.weaken (fun _ _ _ _ => trivial), hN.warm hW⟩⟩ rfl rfl hl.1 rfl (lv_room (Nat.le_of_ble_eq_true rfl)) dX4_init_9 ⟨Nat.le_of_ble_eq_true rfl, Nat.le_of_ble_eq_true rfl⟩) hS (fun q _ h => hFc q h) hFc (fun a t H_10 locs ht hvm hw hB hz1 hk1 hS2 => ?_)
  obtain ⟨⟨hax, hnn⟩, hk⟩ := hw
  obtain ⟨hP1, -, hD1⟩ := hB
  rw [ht] at hP1
  replace hD := hD1.weaken (fun _ _ _ h => hFc _ h)
  replace hP := hP1
  replace hS := hS2
  obtain ⟨sh, esh⟩ : ∃ w, w = shq := ⟨_, rfl⟩
  subst esh
  replace hl : lv_has ls 2 [(0, .ref (a h0)), (1, .ref (a x0))] := by rw [hax h0 (okN_at g_6), hax x0 (okN_at g_7)]; exact hl
  replace hag := hag_new hag hax hnn
  obtain ⟨n, enq⟩ : ∃ w, w = nq := ⟨_, rfl⟩
  subst enq
  refine W.eq (g2 := F0 m 12 ls [.ref (a k_4), .ref (a h0)]) (by rw [hax h0 (okN_at g_6), hax k_4 (okN_at g_8)]) ?_
  clear hax hnn hP1 hD1 hS2 hFc hfc hz1 hk1 hvm ht
  refine W.widen (k := 5) (n := 86407) (Nat.le_of_ble_eq_true rfl) (Nat.le_of_ble_eq_true rfl) ?_
  obtain ⟨g_11, hf⟩ := grd_some hf
  obtain ⟨g_12, hf⟩ := grd_some hf
  obtain ⟨kg_12, sg_12⟩ := okO_at g_12
  refine va_putF (D := (dC, dI)) (ci := 4) (v := .ref (a k_4)) (ty := .object "ResourceLedger$Heap") (C := RX4) (T := TX4) (N := 18) hx hb hts iwd_X4_init_X4 tyX4 tyX4_ok nmX4 hown hK hP hD hS h0 (Wd_ob kg_12 sg_12 (by decide)) rfl 1 (by decide) (hts _ md_X4_init_7) (fun _ h9 => h9) rfl hin rfl (by decide +kernel) rfl rfl (by rw [fl_len]; decide) dX4_init_12 (fun H_13 locs hP2 hD2 hS2 => ?_)
  rw [Wd_sq1 sg_12 (by decide) rfl] at hP2 hD2
  obtain ⟨z_14, ez_14⟩ : ∃ w, w = sq z_9 h0 1 (some k_4) := ⟨_, rfl⟩
  rw [← ez_14] at hP2 hD2
  replace hf := lt_at ez_14 hf
  replace hk : lk z_14 n := by rw [ez_14]; exact lk_sq1 hk (okN_at g_11)
  clear ez_14
  replace hP := hP2
  replace hD := hD2
  replace hS := hS2
  clear hP2 hD2 hS2
  refine lv_aload_n hx hb dX4_init_15 rfl (lv_at hl 0 rfl) ?_
  obtain ⟨g_15, hf⟩ := grd_some hf
  obtain ⟨g_16, hf⟩ := grd_some hf
  refine de_new (ci := 10) (fs := [.long 0, .long 0, .int 0, .long 0, .long 0]) (C := RX10) (T := TX10) (N := 5) hf hk hx hb hts iwd_X4_init_X10 tyX10 tyX10_ok hown (hts _ md_X4_init_8) (hts _ md_X4_init_9) (hts _ md_X4_init_10) hK hP hD hS hA rfl rfl df_X10 (Nat.le_of_ble_eq_true rfl) (Nat.le_of_ble_eq_true rfl) dX4_init_16 (fun a sh n z_17 k_18 H_19 hf hax hk hnn hP hD hS => ?_)
  refine W.eq (g2 := F0 m 19 ls [.ref (a k_18), .ref (a h0)]) (by rw [hax h0 (okN_at g_15)]) ?_
  replace hl : lv_has ls 2 [(0, .ref (a h0)), (1, .ref (a x0))] := by rw [hax h0 (okN_at g_15), hax x0 (okN_at g_16)]; exact hl
  replace hag := hag_new hag hax hnn
  clear hax hnn
  refine W.widen (k := 6) (n := 86412) (Nat.le_of_ble_eq_true rfl) (Nat.le_of_ble_eq_true rfl) ?_
  refine lv_dup hx hb dX4_init_19 rfl ?_
  obtain ⟨g_20, hf⟩ := grd_some hf
  obtain ⟨g_21, hf⟩ := grd_some hf
  obtain ⟨g_22, hf⟩ := grd_some hf
  obtain ⟨shq, nq, z_23, _u, hfc, hf⟩ := cala_some hf
  have hFc := de_free hD hS hA
  refine va_callv (va_runIN (As := []) (rest := [.ref (a k_18), .ref (a h0)]) ⟨hx, hb, hml, hown, hts⟩ (da_X10_init l dC dI cy a sh n H_19.size F z_17 k_18 hk hfc) ⟨va_cnB 0 hts ggX4_init_X10_init rfl rfl rfl (NK_m_X4_20 hN) (hts _ md_X4_init_10) ⟨by decide, by decide, by decide +kernel⟩ ⟨Nat.le_of_ble_eq_true rfl, Nat.le_of_ble_eq_true rfl⟩, rfl, (hts _ md_X4_init_39)⟩ ⟨fun a U g mk q => by obtain ⟨q0, q1, qP, qK, qD, qN⟩ := q; exact ⟨q0, q1, qP, va_K.moved (u := U) (U := U.calling g mk a) (Vm.Alike.refl U.vm) qK, qD, qN.same rfl⟩, fun U hU hW => ⟨rfl, by rw [hU], by rw [hU]; exact hP, va_K.moved hW.alike hK, hD.weaken (fun _ _ _ _ => trivial), hN.warm hW⟩⟩ rfl rfl hl.1 rfl (lv_room (Nat.le_of_ble_eq_true rfl)) dX4_init_20 ⟨Nat.le_of_ble_eq_true rfl, Nat.le_of_ble_eq_true rfl⟩) hS (fun q _ h => hFc q h) hFc (fun a t H_24 locs ht hvm hw hB hz1 hk1 hS2 => ?_)
  obtain ⟨⟨hax, hnn⟩, hk⟩ := hw
  obtain ⟨hP1, -, hD1⟩ := hB
  rw [ht] at hP1
  replace hD := hD1.weaken (fun _ _ _ h => hFc _ h)
  replace hP := hP1
  replace hS := hS2
  obtain ⟨sh, esh⟩ : ∃ w, w = shq := ⟨_, rfl⟩
  subst esh
  replace hl : lv_has ls 2 [(0, .ref (a h0)), (1, .ref (a x0))] := by rw [hax h0 (okN_at g_20), hax x0 (okN_at g_21)]; exact hl
  replace hag := hag_new hag hax hnn
  obtain ⟨n, enq⟩ : ∃ w, w = nq := ⟨_, rfl⟩
  subst enq
  refine W.eq (g2 := F0 m 23 ls [.ref (a k_18), .ref (a h0)]) (by rw [hax h0 (okN_at g_20), hax k_18 (okN_at g_22)]) ?_
  clear hax hnn hP1 hD1 hS2 hFc hfc hz1 hk1 hvm ht
  refine W.widen (k := 6) (n := 86412) (Nat.le_of_ble_eq_true rfl) (Nat.le_of_ble_eq_true rfl) ?_
  obtain ⟨g_25, hf⟩ := grd_some hf
  obtain ⟨g_26, hf⟩ := grd_some hf
  obtain ⟨kg_26, sg_26⟩ := okO_at g_26
  refine va_putF (D := (dC, dI)) (ci := 4) (v := .ref (a k_18)) (ty := .object "ResourceLedger$Wide") (C := RX4) (T := TX4) (N := 18) hx hb hts iwd_X4_init_X4 tyX4 tyX4_ok nmX4 hown hK hP hD hS h0 (Wd_ob kg_26 sg_26 (by decide)) rfl 3 (by decide) (hts _ md_X4_init_11) (fun _ h9 => h9) rfl hin rfl (by decide +kernel) rfl rfl (by rw [fl_len]; decide) dX4_init_23 (fun H_27 locs hP2 hD2 hS2 => ?_)
  rw [Wd_sq1 sg_26 (by decide) rfl] at hP2 hD2
  obtain ⟨z_28, ez_28⟩ : ∃ w, w = sq z_23 h0 3 (some k_18) := ⟨_, rfl⟩
  rw [← ez_28] at hP2 hD2
  replace hf := lt_at ez_28 hf
  replace hk : lk z_28 n := by rw [ez_28]; exact lk_sq1 hk (okN_at g_25)
  clear ez_28
  replace hP := hP2
  replace hD := hD2
  replace hS := hS2
  clear hP2 hD2 hS2
  refine lv_aload_n hx hb dX4_init_26 rfl (lv_at hl 0 rfl) ?_
  obtain ⟨g_29, hf⟩ := grd_some hf
  obtain ⟨g_30, hf⟩ := grd_some hf
  refine de_new (ci := 0) (fs := [.null, .null, .int 0, .long 0]) (C := RX0) (T := TX0) (N := 4) hf hk hx hb hts iwd_X4_init_X0 tyX0 tyX0_ok hown (hts _ md_X4_init_12) (hts _ md_X4_init_13) (hts _ md_X4_init_14) hK hP hD hS hA rfl rfl df_X0 (Nat.le_of_ble_eq_true rfl) (Nat.le_of_ble_eq_true rfl) dX4_init_27 (fun a sh n z_31 k_32 H_33 hf hax hk hnn hP hD hS => ?_)
  refine W.eq (g2 := F0 m 30 ls [.ref (a k_32), .ref (a h0)]) (by rw [hax h0 (okN_at g_29)]) ?_
  replace hl : lv_has ls 2 [(0, .ref (a h0)), (1, .ref (a x0))] := by rw [hax h0 (okN_at g_29), hax x0 (okN_at g_30)]; exact hl
  replace hag := hag_new hag hax hnn
  clear hax hnn
  refine W.widen (k := 7) (n := 86416) (Nat.le_of_ble_eq_true rfl) (Nat.le_of_ble_eq_true rfl) ?_
  refine lv_dup hx hb dX4_init_30 rfl ?_
  obtain ⟨g_34, hf⟩ := grd_some hf
  obtain ⟨g_35, hf⟩ := grd_some hf
  obtain ⟨g_36, hf⟩ := grd_some hf
  obtain ⟨shq, nq, z_37, _u, hfc, hf⟩ := cala_some hf
  have hFc := de_free hD hS hA
  refine va_callv (va_runIN (As := []) (rest := [.ref (a k_32), .ref (a h0)]) ⟨hx, hb, hml, hown, hts⟩ (da_X0_init l dC dI cy a sh n H_33.size F z_31 k_32 hk hfc) ⟨va_cnB 0 hts ggX4_init_X0_init rfl rfl rfl (NK_m_X4_27 hN) (hts _ md_X4_init_14) ⟨by decide, by decide, by decide +kernel⟩ ⟨Nat.le_of_ble_eq_true rfl, Nat.le_of_ble_eq_true rfl⟩, rfl, (hts _ md_X4_init_42)⟩ ⟨fun a U g mk q => by obtain ⟨q0, q1, qP, qK, qD, qN⟩ := q; exact ⟨q0, q1, qP, va_K.moved (u := U) (U := U.calling g mk a) (Vm.Alike.refl U.vm) qK, qD, qN.same rfl⟩, fun U hU hW => ⟨rfl, by rw [hU], by rw [hU]; exact hP, va_K.moved hW.alike hK, hD.weaken (fun _ _ _ _ => trivial), hN.warm hW⟩⟩ rfl rfl hl.1 rfl (lv_room (Nat.le_of_ble_eq_true rfl)) dX4_init_31 ⟨Nat.le_of_ble_eq_true rfl, Nat.le_of_ble_eq_true rfl⟩) hS (fun q _ h => hFc q h) hFc (fun a t H_38 locs ht hvm hw hB hz1 hk1 hS2 => ?_)
  obtain ⟨⟨hax, hnn⟩, hk⟩ := hw
  obtain ⟨hP1, -, hD1⟩ := hB
  rw [ht] at hP1
  replace hD := hD1.weaken (fun _ _ _ h => hFc _ h)
  replace hP := hP1
  replace hS := hS2
  obtain ⟨sh, esh⟩ : ∃ w, w = shq := ⟨_, rfl⟩
  subst esh
  replace hl : lv_has ls 2 [(0, .ref (a h0)), (1, .ref (a x0))] := by rw [hax h0 (okN_at g_34), hax x0 (okN_at g_35)]; exact hl
  replace hag := hag_new hag hax hnn
  obtain ⟨n, enq⟩ : ∃ w, w = nq := ⟨_, rfl⟩
  subst enq
  refine W.eq (g2 := F0 m 34 ls [.ref (a k_32), .ref (a h0)]) (by rw [hax h0 (okN_at g_34), hax k_32 (okN_at g_36)]) ?_
  clear hax hnn hP1 hD1 hS2 hFc hfc hz1 hk1 hvm ht
  refine W.widen (k := 9) (n := 86488) (Nat.le_of_ble_eq_true rfl) (Nat.le_of_ble_eq_true rfl) ?_
  obtain ⟨g_39, hf⟩ := grd_some hf
  obtain ⟨g_40, hf⟩ := grd_some hf
  obtain ⟨kg_40, sg_40⟩ := okO_at g_40
  refine va_putF (D := (dC, dI)) (ci := 4) (v := .ref (a k_32)) (ty := .object "ResourceLedger$Digest") (C := RX4) (T := TX4) (N := 18) hx hb hts iwd_X4_init_X4 tyX4 tyX4_ok nmX4 hown hK hP hD hS h0 (Wd_ob kg_40 sg_40 (by decide)) rfl 4 (by decide) (hts _ md_X4_init_15) (fun _ h9 => h9) rfl hin rfl (by decide +kernel) rfl rfl (by rw [fl_len]; decide) dX4_init_34 (fun H_41 locs hP2 hD2 hS2 => ?_)
  rw [Wd_sq1 sg_40 (by decide) rfl] at hP2 hD2
  obtain ⟨z_42, ez_42⟩ : ∃ w, w = sq z_37 h0 4 (some k_32) := ⟨_, rfl⟩
  rw [← ez_42] at hP2 hD2
  replace hf := lt_at ez_42 hf
  replace hk : lk z_42 n := by rw [ez_42]; exact lk_sq1 hk (okN_at g_39)
  clear ez_42
  replace hP := hP2
  replace hD := hD2
  replace hS := hS2
  clear hP2 hD2 hS2
  refine lv_aload_n hx hb dX4_init_37 rfl (lv_at hl 0 rfl) ?_
  refine lv_sipush (v := 256) hx hb dX4_init_38 (by decide) ?_
  obtain ⟨g_43, hf⟩ := grd_some hf
  obtain ⟨g_44, hf⟩ := grd_some hf
  refine de_newa (atype := .byte) (ty := .byte) (t := 0) (N := 256) (a0 := (256, .inl (fun _ => 0))) hf hk hx hb (hts _ md_X4_init_16) rfl hK hP hD hS hA rfl rfl (fun _ => rfl) (by decide) (by decide) (Nat.le_of_ble_eq_true rfl) (Nat.le_of_ble_eq_true rfl) (Nat.le_of_ble_eq_true rfl) dX4_init_41 (fun a sh n z_45 k_46 H_47 hf hax hk hnn hP hD hS => ?_)
  refine W.eq (g2 := F0 m 43 ls [.ref (a k_46), .ref (a h0)]) (by rw [hax h0 (okN_at g_43)]) ?_
  replace hl : lv_has ls 2 [(0, .ref (a h0)), (1, .ref (a x0))] := by rw [hax h0 (okN_at g_43), hax x0 (okN_at g_44)]; exact hl
  replace hag := hag_new hag hax hnn
  clear hax hnn
  refine W.widen (k := 10) (n := 86744) (Nat.le_of_ble_eq_true rfl) (Nat.le_of_ble_eq_true rfl) ?_
  obtain ⟨g_48, hf⟩ := grd_some hf
  obtain ⟨g_49, hf⟩ := grd_some hf
  obtain ⟨kg_49, sg_49⟩ := okO_at g_49
  refine va_putF (D := (dC, dI)) (ci := 4) (v := .ref (a k_46)) (ty := .array .byte) (C := RX4) (T := TX4) (N := 18) hx hb hts iwd_X4_init_X4 tyX4 tyX4_ok nmX4 hown hK hP hD hS h0 (Wd_ob kg_49 sg_49 (by decide)) rfl 5 (by decide) (hts _ md_X4_init_17) (fun _ h9 => h9) rfl hin rfl (by decide +kernel) rfl rfl (by rw [fl_len]; decide) dX4_init_43 (fun H_50 locs hP2 hD2 hS2 => ?_)
  rw [Wd_sq1 sg_49 (by decide) rfl] at hP2 hD2
  obtain ⟨z_51, ez_51⟩ : ∃ w, w = sq z_45 h0 5 (some k_46) := ⟨_, rfl⟩
  rw [← ez_51] at hP2 hD2
  replace hf := lt_at ez_51 hf
  replace hk : lk z_51 n := by rw [ez_51]; exact lk_sq1 hk (okN_at g_48)
  clear ez_51
  replace hP := hP2
  replace hD := hD2
  replace hS := hS2
  clear hP2 hD2 hS2
  refine lv_aload_n hx hb dX4_init_46 rfl (lv_at hl 0 rfl) ?_
  refine lv_bipush (v := 32) hx hb dX4_init_47 (by decide) ?_
  obtain ⟨g_52, hf⟩ := grd_some hf
  obtain ⟨g_53, hf⟩ := grd_some hf
  refine de_newq (t := 4) (N := 32) hf hk hx hb hown (hts _ md_X4_init_18) hN.2.2.1 hK hP hD hS hA rfl rfl (by decide) (by decide) (Nat.le_of_ble_eq_true rfl) (Nat.le_of_ble_eq_true rfl) (Nat.le_of_ble_eq_true rfl) dX4_init_49 (fun a sh n z_54 k_55 H_56 hf hax hk hnn hP hD hS => ?_)
  refine W.eq (g2 := F0 m 52 ls [.ref (a k_55), .ref (a h0)]) (by rw [hax h0 (okN_at g_52)]) ?_
  replace hl : lv_has ls 2 [(0, .ref (a h0)), (1, .ref (a x0))] := by rw [hax h0 (okN_at g_52), hax x0 (okN_at g_53)]; exact hl
  replace hag := hag_new hag hax hnn
  clear hax hnn
  refine W.widen (k := 11) (n := 86776) (Nat.le_of_ble_eq_true rfl) (Nat.le_of_ble_eq_true rfl) ?_
  obtain ⟨g_57, hf⟩ := grd_some hf
  obtain ⟨g_58, hf⟩ := grd_some hf
  obtain ⟨kg_58, sg_58⟩ := okO_at g_58
  refine va_putF (D := (dC, dI)) (ci := 4) (v := .ref (a k_55)) (ty := .array (.object "ResourceLedger$Program")) (C := RX4) (T := TX4) (N := 18) hx hb hts iwd_X4_init_X4 tyX4 tyX4_ok nmX4 hown hK hP hD hS h0 (Wd_ob kg_58 sg_58 (by decide)) rfl 6 (by decide) (hts _ md_X4_init_19) (fun _ h9 => h9) rfl hin rfl (by decide +kernel) rfl rfl (by rw [fl_len]; decide) dX4_init_52 (fun H_59 locs hP2 hD2 hS2 => ?_)
  rw [Wd_sq1 sg_58 (by decide) rfl] at hP2 hD2
  obtain ⟨z_60, ez_60⟩ : ∃ w, w = sq z_54 h0 6 (some k_55) := ⟨_, rfl⟩
  rw [← ez_60] at hP2 hD2
  replace hf := lt_at ez_60 hf
  replace hk : lk z_60 n := by rw [ez_60]; exact lk_sq1 hk (okN_at g_57)
  clear ez_60
  replace hP := hP2
  replace hD := hD2
  replace hS := hS2
  clear hP2 hD2 hS2
  refine lv_aload_n hx hb dX4_init_55 rfl (lv_at hl 0 rfl) ?_
  refine lv_bipush (v := 32) hx hb dX4_init_56 (by decide) ?_
  obtain ⟨g_61, hf⟩ := grd_some hf
  obtain ⟨g_62, hf⟩ := grd_some hf
  refine de_newa (atype := .int) (ty := .int) (t := 1) (N := 32) (a0 := (32, .inl (fun _ => 0))) hf hk hx hb (hts _ md_X4_init_20) rfl hK hP hD hS hA rfl rfl (fun _ => rfl) (by decide) (by decide) (Nat.le_of_ble_eq_true rfl) (Nat.le_of_ble_eq_true rfl) (Nat.le_of_ble_eq_true rfl) dX4_init_58 (fun a sh n z_63 k_64 H_65 hf hax hk hnn hP hD hS => ?_)
  refine W.eq (g2 := F0 m 60 ls [.ref (a k_64), .ref (a h0)]) (by rw [hax h0 (okN_at g_61)]) ?_
  replace hl : lv_has ls 2 [(0, .ref (a h0)), (1, .ref (a x0))] := by rw [hax h0 (okN_at g_61), hax x0 (okN_at g_62)]; exact hl
  replace hag := hag_new hag hax hnn
  clear hax hnn
  refine W.widen (k := 12) (n := 86808) (Nat.le_of_ble_eq_true rfl) (Nat.le_of_ble_eq_true rfl) ?_
  obtain ⟨g_66, hf⟩ := grd_some hf
  obtain ⟨g_67, hf⟩ := grd_some hf
  obtain ⟨kg_67, sg_67⟩ := okO_at g_67
  refine va_putF (D := (dC, dI)) (ci := 4) (v := .ref (a k_64)) (ty := .array .int) (C := RX4) (T := TX4) (N := 18) hx hb hts iwd_X4_init_X4 tyX4 tyX4_ok nmX4 hown hK hP hD hS h0 (Wd_ob kg_67 sg_67 (by decide)) rfl 7 (by decide) (hts _ md_X4_init_21) (fun _ h9 => h9) rfl hin rfl (by decide +kernel) rfl rfl (by rw [fl_len]; decide) dX4_init_60 (fun H_68 locs hP2 hD2 hS2 => ?_)
  rw [Wd_sq1 sg_67 (by decide) rfl] at hP2 hD2
  obtain ⟨z_69, ez_69⟩ : ∃ w, w = sq z_63 h0 7 (some k_64) := ⟨_, rfl⟩
  rw [← ez_69] at hP2 hD2
  replace hf := lt_at ez_69 hf
  replace hk : lk z_69 n := by rw [ez_69]; exact lk_sq1 hk (okN_at g_66)
  clear ez_69
  replace hP := hP2
  replace hD := hD2
  replace hS := hS2
  clear hP2 hD2 hS2
  refine lv_aload_n hx hb dX4_init_63 rfl (lv_at hl 0 rfl) ?_
  refine lv_bipush (v := 32) hx hb dX4_init_64 (by decide) ?_
  obtain ⟨g_70, hf⟩ := grd_some hf
  obtain ⟨g_71, hf⟩ := grd_some hf
  refine de_newa (atype := .int) (ty := .int) (t := 1) (N := 32) (a0 := (32, .inl (fun _ => 0))) hf hk hx hb (hts _ md_X4_init_20) rfl hK hP hD hS hA rfl rfl (fun _ => rfl) (by decide) (by decide) (Nat.le_of_ble_eq_true rfl) (Nat.le_of_ble_eq_true rfl) (Nat.le_of_ble_eq_true rfl) dX4_init_66 (fun a sh n z_72 k_73 H_74 hf hax hk hnn hP hD hS => ?_)
  refine W.eq (g2 := F0 m 68 ls [.ref (a k_73), .ref (a h0)]) (by rw [hax h0 (okN_at g_70)]) ?_
  replace hl : lv_has ls 2 [(0, .ref (a h0)), (1, .ref (a x0))] := by rw [hax h0 (okN_at g_70), hax x0 (okN_at g_71)]; exact hl
  replace hag := hag_new hag hax hnn
  clear hax hnn
  refine W.widen (k := 13) (n := 86840) (Nat.le_of_ble_eq_true rfl) (Nat.le_of_ble_eq_true rfl) ?_
  obtain ⟨g_75, hf⟩ := grd_some hf
  obtain ⟨g_76, hf⟩ := grd_some hf
  obtain ⟨kg_76, sg_76⟩ := okO_at g_76
  refine va_putF (D := (dC, dI)) (ci := 4) (v := .ref (a k_73)) (ty := .array .int) (C := RX4) (T := TX4) (N := 18) hx hb hts iwd_X4_init_X4 tyX4 tyX4_ok nmX4 hown hK hP hD hS h0 (Wd_ob kg_76 sg_76 (by decide)) rfl 8 (by decide) (hts _ md_X4_init_22) (fun _ h9 => h9) rfl hin rfl (by decide +kernel) rfl rfl (by rw [fl_len]; decide) dX4_init_68 (fun H_77 locs hP2 hD2 hS2 => ?_)
  rw [Wd_sq1 sg_76 (by decide) rfl] at hP2 hD2
  obtain ⟨z_78, ez_78⟩ : ∃ w, w = sq z_72 h0 8 (some k_73) := ⟨_, rfl⟩
  rw [← ez_78] at hP2 hD2
  replace hf := lt_at ez_78 hf
  replace hk : lk z_78 n := by rw [ez_78]; exact lk_sq1 hk (okN_at g_75)
  clear ez_78
  replace hP := hP2
  replace hD := hD2
  replace hS := hS2
  clear hP2 hD2 hS2
  refine lv_aload_n hx hb dX4_init_71 rfl (lv_at hl 0 rfl) ?_
  refine lv_bipush (v := 32) hx hb dX4_init_72 (by decide) ?_
  obtain ⟨g_79, hf⟩ := grd_some hf
  obtain ⟨g_80, hf⟩ := grd_some hf
  refine de_newa (atype := .int) (ty := .int) (t := 1) (N := 32) (a0 := (32, .inl (fun _ => 0))) hf hk hx hb (hts _ md_X4_init_20) rfl hK hP hD hS hA rfl rfl (fun _ => rfl) (by decide) (by decide) (Nat.le_of_ble_eq_true rfl) (Nat.le_of_ble_eq_true rfl) (Nat.le_of_ble_eq_true rfl) dX4_init_74 (fun a sh n z_81 k_82 H_83 hf hax hk hnn hP hD hS => ?_)
  refine W.eq (g2 := F0 m 76 ls [.ref (a k_82), .ref (a h0)]) (by rw [hax h0 (okN_at g_79)]) ?_
  replace hl : lv_has ls 2 [(0, .ref (a h0)), (1, .ref (a x0))] := by rw [hax h0 (okN_at g_79), hax x0 (okN_at g_80)]; exact hl
  replace hag := hag_new hag hax hnn
  clear hax hnn
  refine W.widen (k := 14) (n := 86872) (Nat.le_of_ble_eq_true rfl) (Nat.le_of_ble_eq_true rfl) ?_
  obtain ⟨g_84, hf⟩ := grd_some hf
  obtain ⟨g_85, hf⟩ := grd_some hf
  obtain ⟨kg_85, sg_85⟩ := okO_at g_85
  refine va_putF (D := (dC, dI)) (ci := 4) (v := .ref (a k_82)) (ty := .array .int) (C := RX4) (T := TX4) (N := 18) hx hb hts iwd_X4_init_X4 tyX4 tyX4_ok nmX4 hown hK hP hD hS h0 (Wd_ob kg_85 sg_85 (by decide)) rfl 9 (by decide) (hts _ md_X4_init_23) (fun _ h9 => h9) rfl hin rfl (by decide +kernel) rfl rfl (by rw [fl_len]; decide) dX4_init_76 (fun H_86 locs hP2 hD2 hS2 => ?_)
  rw [Wd_sq1 sg_85 (by decide) rfl] at hP2 hD2
  obtain ⟨z_87, ez_87⟩ : ∃ w, w = sq z_81 h0 9 (some k_82) := ⟨_, rfl⟩
  rw [← ez_87] at hP2 hD2
  replace hf := lt_at ez_87 hf
  replace hk : lk z_87 n := by rw [ez_87]; exact lk_sq1 hk (okN_at g_84)
  clear ez_87
  replace hP := hP2
  replace hD := hD2
  replace hS := hS2
  clear hP2 hD2 hS2
  refine lv_aload_n hx hb dX4_init_79 rfl (lv_at hl 0 rfl) ?_
  refine lv_sipush (v := 1280) hx hb dX4_init_80 (by decide) ?_
  obtain ⟨g_88, hf⟩ := grd_some hf
  obtain ⟨g_89, hf⟩ := grd_some hf
  refine de_newa (atype := .int) (ty := .int) (t := 1) (N := 1280) (a0 := (1280, .inl (fun _ => 0))) hf hk hx hb (hts _ md_X4_init_20) rfl hK hP hD hS hA rfl rfl (fun _ => rfl) (by decide) (by decide) (Nat.le_of_ble_eq_true rfl) (Nat.le_of_ble_eq_true rfl) (Nat.le_of_ble_eq_true rfl) dX4_init_83 (fun a sh n z_90 k_91 H_92 hf hax hk hnn hP hD hS => ?_)
  refine W.eq (g2 := F0 m 85 ls [.ref (a k_91), .ref (a h0)]) (by rw [hax h0 (okN_at g_88)]) ?_
  replace hl : lv_has ls 2 [(0, .ref (a h0)), (1, .ref (a x0))] := by rw [hax h0 (okN_at g_88), hax x0 (okN_at g_89)]; exact hl
  replace hag := hag_new hag hax hnn
  clear hax hnn
  refine W.widen (k := 15) (n := 88152) (Nat.le_of_ble_eq_true rfl) (Nat.le_of_ble_eq_true rfl) ?_
  obtain ⟨g_93, hf⟩ := grd_some hf
  obtain ⟨g_94, hf⟩ := grd_some hf
  obtain ⟨kg_94, sg_94⟩ := okO_at g_94
  refine va_putF (D := (dC, dI)) (ci := 4) (v := .ref (a k_91)) (ty := .array .int) (C := RX4) (T := TX4) (N := 18) hx hb hts iwd_X4_init_X4 tyX4 tyX4_ok nmX4 hown hK hP hD hS h0 (Wd_ob kg_94 sg_94 (by decide)) rfl 10 (by decide) (hts _ md_X4_init_24) (fun _ h9 => h9) rfl hin rfl (by decide +kernel) rfl rfl (by rw [fl_len]; decide) dX4_init_85 (fun H_95 locs hP2 hD2 hS2 => ?_)
  rw [Wd_sq1 sg_94 (by decide) rfl] at hP2 hD2
  obtain ⟨z_96, ez_96⟩ : ∃ w, w = sq z_90 h0 10 (some k_91) := ⟨_, rfl⟩
  rw [← ez_96] at hP2 hD2
  replace hf := lt_at ez_96 hf
  replace hk : lk z_96 n := by rw [ez_96]; exact lk_sq1 hk (okN_at g_93)
  clear ez_96
  replace hP := hP2
  replace hD := hD2
  replace hS := hS2
  clear hP2 hD2 hS2
  refine lv_aload_n hx hb dX4_init_88 rfl (lv_at hl 0 rfl) ?_
  refine lv_sipush (v := 2048) hx hb dX4_init_89 (by decide) ?_
  obtain ⟨g_97, hf⟩ := grd_some hf
  obtain ⟨g_98, hf⟩ := grd_some hf
  refine de_newa (atype := .int) (ty := .int) (t := 1) (N := 2048) (a0 := (2048, .inl (fun _ => 0))) hf hk hx hb (hts _ md_X4_init_20) rfl hK hP hD hS hA rfl rfl (fun _ => rfl) (by decide) (by decide) (Nat.le_of_ble_eq_true rfl) (Nat.le_of_ble_eq_true rfl) (Nat.le_of_ble_eq_true rfl) dX4_init_92 (fun a sh n z_99 k_100 H_101 hf hax hk hnn hP hD hS => ?_)
  refine W.eq (g2 := F0 m 94 ls [.ref (a k_100), .ref (a h0)]) (by rw [hax h0 (okN_at g_97)]) ?_
  replace hl : lv_has ls 2 [(0, .ref (a h0)), (1, .ref (a x0))] := by rw [hax h0 (okN_at g_97), hax x0 (okN_at g_98)]; exact hl
  replace hag := hag_new hag hax hnn
  clear hax hnn
  refine W.widen (k := 16) (n := 90200) (Nat.le_of_ble_eq_true rfl) (Nat.le_of_ble_eq_true rfl) ?_
  obtain ⟨g_102, hf⟩ := grd_some hf
  obtain ⟨g_103, hf⟩ := grd_some hf
  obtain ⟨kg_103, sg_103⟩ := okO_at g_103
  refine va_putF (D := (dC, dI)) (ci := 4) (v := .ref (a k_100)) (ty := .array .int) (C := RX4) (T := TX4) (N := 18) hx hb hts iwd_X4_init_X4 tyX4 tyX4_ok nmX4 hown hK hP hD hS h0 (Wd_ob kg_103 sg_103 (by decide)) rfl 11 (by decide) (hts _ md_X4_init_25) (fun _ h9 => h9) rfl hin rfl (by decide +kernel) rfl rfl (by rw [fl_len]; decide) dX4_init_94 (fun H_104 locs hP2 hD2 hS2 => ?_)
  rw [Wd_sq1 sg_103 (by decide) rfl] at hP2 hD2
  obtain ⟨z_105, ez_105⟩ : ∃ w, w = sq z_99 h0 11 (some k_100) := ⟨_, rfl⟩
  rw [← ez_105] at hP2 hD2
  replace hf := lt_at ez_105 hf
  replace hk : lk z_105 n := by rw [ez_105]; exact lk_sq1 hk (okN_at g_102)
  clear ez_105
  replace hP := hP2
  replace hD := hD2
  replace hS := hS2
  clear hP2 hD2 hS2
  refine lv_aload_n hx hb dX4_init_97 rfl (lv_at hl 0 rfl) ?_
  refine lv_aload_n hx hb dX4_init_98 rfl (lv_at hl 1 rfl) ?_
  obtain ⟨g_106, hf⟩ := grd_some hf
  refine va_putF (D := (dC, dI)) (ci := 4) (v := .ref (a x0)) (ty := .object "ResourceLedger$State") (C := RX4) (T := TX4) (N := 18) hx hb hts iwd_X4_init_X4 tyX4 tyX4_ok nmX4 hown hK hP hD hS h0 (Wd_ob kg_103 sg_103 (by decide)) rfl 0 (by decide) (hts _ md_X4_init_26) (fun _ h9 => h9) rfl hin rfl (by decide +kernel) rfl rfl (by rw [fl_len]; decide) dX4_init_99 (fun H_107 locs hP2 hD2 hS2 => ?_)
  rw [Wd_sq1 sg_103 (by decide) rfl] at hP2 hD2
  obtain ⟨z_108, ez_108⟩ : ∃ w, w = sq z_105 h0 0 (some x0) := ⟨_, rfl⟩
  rw [← ez_108] at hP2 hD2
  replace hf := lt_at ez_108 hf
  replace hk : lk z_108 n := by rw [ez_108]; exact lk_sq1 hk (okN_at g_106)
  clear ez_108
  replace hP := hP2
  replace hD := hD2
  replace hS := hS2
  clear hP2 hD2 hS2
  refine lv_aload_n hx hb dX4_init_102 rfl (lv_at hl 0 rfl) ?_
  obtain ⟨g_109, hf⟩ := grd_some hf
  obtain ⟨g_110, hf⟩ := grd_some hf
  refine de_new (ci := 2) (fs := [.null, .null, .null, .null, .null, .null, .null, .int 0, .null, .null, .null]) (C := RX2) (T := TX2) (N := 11) hf hk hx hb hts iwd_X4_init_X2 tyX2 tyX2_ok hown (hts _ md_X4_init_27) (hts _ md_X4_init_28) (hts _ md_X4_init_29) hK hP hD hS hA rfl rfl df_X2 (Nat.le_of_ble_eq_true rfl) (Nat.le_of_ble_eq_true rfl) dX4_init_103 (fun a sh n z_111 k_112 H_113 hf hax hk hnn hP hD hS => ?_)
  refine W.eq (g2 := F0 m 106 ls [.ref (a k_112), .ref (a h0)]) (by rw [hax h0 (okN_at g_109)]) ?_
  replace hl : lv_has ls 2 [(0, .ref (a h0)), (1, .ref (a x0))] := by rw [hax h0 (okN_at g_109), hax x0 (okN_at g_110)]; exact hl
  replace hag := hag_new hag hax hnn
  clear hax hnn
  refine W.widen (k := 17) (n := 90211) (Nat.le_of_ble_eq_true rfl) (Nat.le_of_ble_eq_true rfl) ?_
  refine lv_dup hx hb dX4_init_106 rfl ?_
  refine lv_aload_n hx hb dX4_init_107 rfl (lv_at hl 1 rfl) ?_
  refine lv_aload_n hx hb dX4_init_108 rfl (lv_at hl 0 rfl) ?_
  obtain ⟨g_114, hf⟩ := grd_some hf
  obtain ⟨kg_114, sg_114⟩ := okO_at g_114
  obtain ⟨k_115, ek_115, hf⟩ := lnk_some hf
  refine va_get (D := (dC, dI)) (ci := 4) (v := .ref (a k_115)) (C := RX4) (T := TX4) (N := 18) hx hb hts iwd_X4_init_X4 hown hK hP h0 (Wd_ob kg_114 sg_114 (by decide)) rfl 1 (by decide) (hts _ md_X4_init_7) (fun _ h9 => h9) (fl_q rfl ek_115) dX4_init_109 ?_
  obtain ⟨g_116, hf⟩ := grd_some hf
  obtain ⟨g_117, hf⟩ := grd_some hf
  obtain ⟨g_118, hf⟩ := grd_some hf
  obtain ⟨shq, nq, z_119, _u, hfc, hf⟩ := cala_some hf
  have hFc := de_free hD hS hA
  refine va_callv (va_runI (As := [.ref (a x0), .ref (a k_115)]) (rest := [.ref (a k_112), .ref (a h0)]) ⟨hx, hb, hml, hown, hts⟩ (da_X2_init l dC dI cy a sh n H_113.size F z_111 k_112 x0 k_115 hk hfc) (cwI 2 hts ggX4_init_X2_init rfl rfl rfl (hts _ md_X4_init_29) (hts _ md_X4_init_47) (hts _ md_X4_init_48) rfl (by decide +kernel) ⟨Nat.le_of_ble_eq_true rfl, Nat.le_of_ble_eq_true rfl⟩) ⟨fun a U g mk q => by obtain ⟨q0, q1, qP, qK, qD, qN⟩ := q; exact ⟨q0, q1, qP, va_K.moved (u := U) (U := U.calling g mk a) (Vm.Alike.refl U.vm) qK, qD, qN.same rfl⟩, fun U hU hW => ⟨rfl, by rw [hU], by rw [hU]; exact hP, va_K.moved hW.alike hK, hD.weaken (fun _ _ _ _ => trivial), hN.warm hW⟩⟩ rfl rfl hl.1 rfl (lv_room (Nat.le_of_ble_eq_true rfl)) dX4_init_112 ⟨Nat.le_of_ble_eq_true rfl, Nat.le_of_ble_eq_true rfl⟩) hS (fun q _ h => hFc q h) hFc (fun a t H_120 locs ht hvm hw hB hz1 hk1 hS2 => ?_)
  obtain ⟨⟨hax, hnn⟩, hk⟩ := hw
  obtain ⟨hP1, -, hD1⟩ := hB
  rw [ht] at hP1
  replace hD := hD1.weaken (fun _ _ _ h => hFc _ h)
  replace hP := hP1
  replace hS := hS2
  obtain ⟨sh, esh⟩ : ∃ w, w = shq := ⟨_, rfl⟩
  subst esh
  replace hl : lv_has ls 2 [(0, .ref (a h0)), (1, .ref (a x0))] := by rw [hax h0 (okN_at g_116), hax x0 (okN_at g_117)]; exact hl
  replace hag := hag_new hag hax hnn
  obtain ⟨n, enq⟩ : ∃ w, w = nq := ⟨_, rfl⟩
  subst enq
  refine W.eq (g2 := F0 m 115 ls [.ref (a k_112), .ref (a h0)]) (by rw [hax h0 (okN_at g_116), hax k_112 (okN_at g_118)]) ?_
  clear hax hnn hP1 hD1 hS2 hFc hfc hz1 hk1 hvm ht
  refine W.widen (k := 25) (n := 90403) (Nat.le_of_ble_eq_true rfl) (Nat.le_of_ble_eq_true rfl) ?_
  obtain ⟨g_121, hf⟩ := grd_some hf
  obtain ⟨g_122, hf⟩ := grd_some hf
  obtain ⟨kg_122, sg_122⟩ := okO_at g_122
  refine va_putF (D := (dC, dI)) (ci := 4) (v := .ref (a k_112)) (ty := .object "ResourceLedger$Journal") (C := RX4) (T := TX4) (N := 18) hx hb hts iwd_X4_init_X4 tyX4 tyX4_ok nmX4 hown hK hP hD hS h0 (Wd_ob kg_122 sg_122 (by decide)) rfl 2 (by decide) (hts _ md_X4_init_30) (fun _ h9 => h9) rfl hin rfl (by decide +kernel) rfl rfl (by rw [fl_len]; decide) dX4_init_115 (fun H_123 locs hP2 hD2 hS2 => ?_)
  rw [Wd_sq1 sg_122 (by decide) rfl] at hP2 hD2
  obtain ⟨z_124, ez_124⟩ : ∃ w, w = sq z_119 h0 2 (some k_112) := ⟨_, rfl⟩
  rw [← ez_124] at hP2 hD2
  replace hf := lt_at ez_124 hf
  replace hk : lk z_124 n := by rw [ez_124]; exact lk_sq1 hk (okN_at g_121)
  clear ez_124
  replace hP := hP2
  replace hD := hD2
  replace hS := hS2
  clear hP2 hD2 hS2
  obtain ⟨h5, h6, h8, h9⟩ := rta_some hf
  rw [h5, h6, h8]
  exact W.vret hx hb hr (fun t ht hW => ⟨⟨a, rfl, ⟨hag, hk⟩, by rw [ht]; exact hP, va_K.moved hW.alike hK, hD⟩, hS.F ht⟩) hS.2.2 dX4_init_118

theorem md_X18_init_1 : (.methodLink RX18 514 objectInit : Cond) ∈ wsX18_init := List.mem_of_getElem? (i := 1) rfl
theorem md_X18_init_2 : (.instanceMethod objectInit : Cond) ∈ wsX18_init := List.mem_of_getElem? (i := 2) rfl
theorem md_X18_init_3 : (.code objectInit ⟨#[0xb1]⟩ 1 none : Cond) ∈ wsX18_init := List.mem_of_getElem? (i := 3) rfl
theorem md_X18_init_4 : (.arrayClass .long : Cond) ∈ wsX18_init := List.mem_of_getElem? (i := 4) rfl
theorem md_X18_init_5 : (.fieldLink RX18 13 "ResourceLedgerModel" "addresses" "[J" : Cond) ∈ wsX18_init := List.mem_of_getElem? (i := 5) rfl
theorem iwd_X18_init_X18 : ∀ w ∈ wsX180, w ∈ wsX18_init := fun _ h => List.mem_cons_of_mem _ (List.mem_append_left _ (List.mem_append_left _ (List.mem_append_left _ (List.mem_append_left _ (List.mem_append_left _ (List.mem_append_left _ (List.mem_append_right _ h)))))))
theorem md_X18_init_6 : (.fieldLink RX18 303 "ResourceLedgerModel" "balances" "[J" : Cond) ∈ wsX18_init := List.mem_of_getElem? (i := 6) rfl
theorem md_X18_init_7 : (.fieldLink RX18 519 "ResourceLedgerModel" "sequences" "[J" : Cond) ∈ wsX18_init := List.mem_of_getElem? (i := 7) rfl
theorem md_X18_init_8 : (.classLink RX18 22 RX16 : Cond) ∈ wsX18_init := List.mem_of_getElem? (i := 8) rfl
theorem md_X18_init_9 : (.fieldLink RX18 17 "ResourceLedgerModel" "units" "[LResourceLedgerModel$Unit;" : Cond) ∈ wsX18_init := List.mem_of_getElem? (i := 9) rfl
theorem md_X18_init_10 : (.arrayClass .int : Cond) ∈ wsX18_init := List.mem_of_getElem? (i := 10) rfl
theorem md_X18_init_11 : (.fieldLink RX18 189 "ResourceLedgerModel" "depths" "[I" : Cond) ∈ wsX18_init := List.mem_of_getElem? (i := 11) rfl
theorem md_X18_init_12 : (.fieldLink RX18 27 "ResourceLedgerModel" "owners" "[J" : Cond) ∈ wsX18_init := List.mem_of_getElem? (i := 12) rfl
theorem md_X18_init_13 : (.fieldLink RX18 30 "ResourceLedgerModel" "kindsOf" "[I" : Cond) ∈ wsX18_init := List.mem_of_getElem? (i := 13) rfl
theorem md_X18_init_14 : (.arrayClass .byte : Cond) ∈ wsX18_init := List.mem_of_getElem? (i := 14) rfl
theorem md_X18_init_15 : (.fieldLink RX18 44 "ResourceLedgerModel" "rowKinds" "[B" : Cond) ∈ wsX18_init := List.mem_of_getElem? (i := 15) rfl
theorem md_X18_init_16 : (.fieldLink RX18 48 "ResourceLedgerModel" "rowHighs" "[J" : Cond) ∈ wsX18_init := List.mem_of_getElem? (i := 16) rfl
theorem md_X18_init_17 : (.fieldLink RX18 51 "ResourceLedgerModel" "rowLows" "[J" : Cond) ∈ wsX18_init := List.mem_of_getElem? (i := 17) rfl
theorem md_X18_init_18 : (.fieldLink RX18 60 "ResourceLedgerModel" "rowParts" "[I" : Cond) ∈ wsX18_init := List.mem_of_getElem? (i := 18) rfl
theorem iwd_X18_init_X15 : ∀ w ∈ wsX150, w ∈ wsX18_init := fun _ h => List.mem_cons_of_mem _ (List.mem_append_left _ (List.mem_append_left _ (List.mem_append_left _ (List.mem_append_left _ (List.mem_append_left _ (List.mem_append_right _ h))))))
theorem md_X18_init_19 : (.classLink RX18 55 RX15 : Cond) ∈ wsX18_init := List.mem_of_getElem? (i := 19) rfl
theorem md_X18_init_20 : (.instantiable RX15 6 : Cond) ∈ wsX18_init := List.mem_of_getElem? (i := 20) rfl
theorem md_X18_init_21 : (.initialized RX15 : Cond) ∈ wsX18_init := List.mem_of_getElem? (i := 21) rfl
theorem md_X18_init_81 : (.instanceMethod yX15_init : Cond) ∈ wsX18_init := List.mem_of_getElem? (i := 81) rfl
theorem md_X18_init_22 : (.fieldLink RX18 40 "ResourceLedgerModel" "trees" "LResourceLedgerModel$Trees;" : Cond) ∈ wsX18_init := List.mem_of_getElem? (i := 22) rfl
theorem iwd_X18_init_X13 : ∀ w ∈ wsX130, w ∈ wsX18_init := fun _ h => List.mem_cons_of_mem _ (List.mem_append_left _ (List.mem_append_left _ (List.mem_append_left _ (List.mem_append_left _ (List.mem_append_right _ h)))))
theorem md_X18_init_23 : (.classLink RX18 236 RX13 : Cond) ∈ wsX18_init := List.mem_of_getElem? (i := 23) rfl
theorem md_X18_init_24 : (.instantiable RX13 22 : Cond) ∈ wsX18_init := List.mem_of_getElem? (i := 24) rfl
theorem md_X18_init_25 : (.initialized RX13 : Cond) ∈ wsX18_init := List.mem_of_getElem? (i := 25) rfl
theorem md_X18_init_89 : (.instanceMethod yX13_init : Cond) ∈ wsX18_init := List.mem_of_getElem? (i := 89) rfl
theorem md_X18_init_26 : (.fieldLink RX18 231 "ResourceLedgerModel" "looker" "LResourceLedgerModel$Looker;" : Cond) ∈ wsX18_init := List.mem_of_getElem? (i := 26) rfl
theorem iwd_X18_init_X17 : ∀ w ∈ wsX170, w ∈ wsX18_init := fun _ h => List.mem_cons_of_mem _ (List.mem_append_left _ (List.mem_append_left _ (List.mem_append_left _ (List.mem_append_right _ h))))
theorem md_X18_init_27 : (.classLink RX18 381 RX17 : Cond) ∈ wsX18_init := List.mem_of_getElem? (i := 27) rfl
theorem md_X18_init_28 : (.instantiable RX17 5 : Cond) ∈ wsX18_init := List.mem_of_getElem? (i := 28) rfl
theorem md_X18_init_29 : (.initialized RX17 : Cond) ∈ wsX18_init := List.mem_of_getElem? (i := 29) rfl
theorem md_X18_init_105 : (.instanceMethod yX17_init : Cond) ∈ wsX18_init := List.mem_of_getElem? (i := 105) rfl
theorem md_X18_init_30 : (.fieldLink RX18 373 "ResourceLedgerModel" "wide" "LResourceLedgerModel$Wide;" : Cond) ∈ wsX18_init := List.mem_of_getElem? (i := 30) rfl
theorem iwd_X18_init_X12 : ∀ w ∈ wsX120, w ∈ wsX18_init := fun _ h => List.mem_cons_of_mem _ (List.mem_append_left _ (List.mem_append_left _ (List.mem_append_right _ h)))
theorem md_X18_init_31 : (.classLink RX18 99 RX12 : Cond) ∈ wsX18_init := List.mem_of_getElem? (i := 31) rfl
theorem md_X18_init_32 : (.instantiable RX12 4 : Cond) ∈ wsX18_init := List.mem_of_getElem? (i := 32) rfl
theorem md_X18_init_33 : (.initialized RX12 : Cond) ∈ wsX18_init := List.mem_of_getElem? (i := 33) rfl
theorem md_X18_init_111 : (.instanceMethod yX12_init : Cond) ∈ wsX18_init := List.mem_of_getElem? (i := 111) rfl
theorem md_X18_init_34 : (.fieldLink RX18 94 "ResourceLedgerModel" "digester" "LResourceLedgerModel$Digester;" : Cond) ∈ wsX18_init := List.mem_of_getElem? (i := 34) rfl
theorem iwd_X18_init_X14 : ∀ w ∈ wsX140, w ∈ wsX18_init := fun _ h => List.mem_cons_of_mem _ (List.mem_append_left _ (List.mem_append_right _ h))
theorem md_X18_init_35 : (.classLink RX18 526 RX14 : Cond) ∈ wsX18_init := List.mem_of_getElem? (i := 35) rfl
theorem md_X18_init_36 : (.instantiable RX14 11 : Cond) ∈ wsX18_init := List.mem_of_getElem? (i := 36) rfl
theorem md_X18_init_37 : (.initialized RX14 : Cond) ∈ wsX18_init := List.mem_of_getElem? (i := 37) rfl
theorem md_X18_init_117 : (.methodLink RX18 528 yX14_init : Cond) ∈ wsX18_init := List.mem_of_getElem? (i := 117) rfl
theorem md_X18_init_118 : (.instanceMethod yX14_init : Cond) ∈ wsX18_init := List.mem_of_getElem? (i := 118) rfl
theorem md_X18_init_38 : (.fieldLink RX18 531 "ResourceLedgerModel" "roots" "LResourceLedgerModel$Roots;" : Cond) ∈ wsX18_init := List.mem_of_getElem? (i := 38) rfl
theorem md_X18_init_39 : (.fieldLink RX18 274 "ResourceLedgerModel" "askedSorts" "[I" : Cond) ∈ wsX18_init := List.mem_of_getElem? (i := 39) rfl
theorem md_X18_init_40 : (.fieldLink RX18 277 "ResourceLedgerModel" "askedAddresses" "[J" : Cond) ∈ wsX18_init := List.mem_of_getElem? (i := 40) rfl
theorem md_X18_init_41 : (.fieldLink RX18 280 "ResourceLedgerModel" "askedKinds" "[I" : Cond) ∈ wsX18_init := List.mem_of_getElem? (i := 41) rfl
theorem md_X18_init_42 : (.fieldLink RX18 300 "ResourceLedgerModel" "askedBalances" "[J" : Cond) ∈ wsX18_init := List.mem_of_getElem? (i := 42) rfl
theorem md_X18_init_43 : (.fieldLink RX18 285 "ResourceLedgerModel" "askedTrees" "[I" : Cond) ∈ wsX18_init := List.mem_of_getElem? (i := 43) rfl
theorem md_X18_init_44 : (.arrayClass .boolean : Cond) ∈ wsX18_init := List.mem_of_getElem? (i := 44) rfl
theorem md_X18_init_45 : (.fieldLink RX18 296 "ResourceLedgerModel" "askedThere" "[Z" : Cond) ∈ wsX18_init := List.mem_of_getElem? (i := 45) rfl
theorem md_X18_init_46 : (.fieldLink RX18 441 "ResourceLedgerModel" "frameUnits" "[I" : Cond) ∈ wsX18_init := List.mem_of_getElem? (i := 46) rfl
theorem md_X18_init_47 : (.fieldLink RX18 444 "ResourceLedgerModel" "frameFunctions" "[I" : Cond) ∈ wsX18_init := List.mem_of_getElem? (i := 47) rfl
theorem md_X18_init_48 : (.fieldLink RX18 447 "ResourceLedgerModel" "nexts" "[I" : Cond) ∈ wsX18_init := List.mem_of_getElem? (i := 48) rfl
theorem md_X18_init_49 : (.fieldLink RX18 325 "ResourceLedgerModel" "bases" "[I" : Cond) ∈ wsX18_init := List.mem_of_getElem? (i := 49) rfl
theorem md_X18_init_50 : (.fieldLink RX18 347 "ResourceLedgerModel" "locals" "[I" : Cond) ∈ wsX18_init := List.mem_of_getElem? (i := 50) rfl
theorem md_X18_init_51 : (.fieldLink RX18 350 "ResourceLedgerModel" "localRefers" "[Z" : Cond) ∈ wsX18_init := List.mem_of_getElem? (i := 51) rfl
theorem md_X18_init_52 : (.fieldLink RX18 309 "ResourceLedgerModel" "stack" "[I" : Cond) ∈ wsX18_init := List.mem_of_getElem? (i := 52) rfl
theorem md_X18_init_53 : (.fieldLink RX18 315 "ResourceLedgerModel" "refers" "[Z" : Cond) ∈ wsX18_init := List.mem_of_getElem? (i := 53) rfl
theorem md_X18_init_54 : (.fieldLink RX18 535 "ResourceLedgerModel" "tape" "[B" : Cond) ∈ wsX18_init := List.mem_of_getElem? (i := 54) rfl
theorem md_X18_init_55 : (.fieldLink RX18 538 "ResourceLedgerModel" "sorts" "[I" : Cond) ∈ wsX18_init := List.mem_of_getElem? (i := 55) rfl
theorem md_X18_init_56 : (.fieldLink RX18 541 "ResourceLedgerModel" "senders" "[J" : Cond) ∈ wsX18_init := List.mem_of_getElem? (i := 56) rfl
theorem md_X18_init_57 : (.fieldLink RX18 544 "ResourceLedgerModel" "turns" "[J" : Cond) ∈ wsX18_init := List.mem_of_getElem? (i := 57) rfl
theorem md_X18_init_58 : (.fieldLink RX18 547 "ResourceLedgerModel" "limits" "[I" : Cond) ∈ wsX18_init := List.mem_of_getElem? (i := 58) rfl
theorem md_X18_init_59 : (.fieldLink RX18 550 "ResourceLedgerModel" "modulesCalled" "[I" : Cond) ∈ wsX18_init := List.mem_of_getElem? (i := 59) rfl
theorem md_X18_init_60 : (.fieldLink RX18 553 "ResourceLedgerModel" "functionsCalled" "[I" : Cond) ∈ wsX18_init := List.mem_of_getElem? (i := 60) rfl
theorem md_X18_init_61 : (.fieldLink RX18 556 "ResourceLedgerModel" "argumentCounts" "[I" : Cond) ∈ wsX18_init := List.mem_of_getElem? (i := 61) rfl
theorem md_X18_init_62 : (.fieldLink RX18 559 "ResourceLedgerModel" "argumentTypes" "[B" : Cond) ∈ wsX18_init := List.mem_of_getElem? (i := 62) rfl
theorem md_X18_init_63 : (.fieldLink RX18 562 "ResourceLedgerModel" "argumentHighs" "[J" : Cond) ∈ wsX18_init := List.mem_of_getElem? (i := 63) rfl
theorem md_X18_init_64 : (.fieldLink RX18 565 "ResourceLedgerModel" "argumentLows" "[J" : Cond) ∈ wsX18_init := List.mem_of_getElem? (i := 64) rfl
theorem md_X18_init_65 : (.constant RX18 568 (65536) : Cond) ∈ wsX18_init := List.mem_of_getElem? (i := 65) rfl
theorem md_X18_init_66 : (.fieldLink RX18 569 "ResourceLedgerModel" "published" "[B" : Cond) ∈ wsX18_init := List.mem_of_getElem? (i := 66) rfl
theorem md_X18_init_67 : (.fieldLink RX18 572 "ResourceLedgerModel" "publishedSizes" "[I" : Cond) ∈ wsX18_init := List.mem_of_getElem? (i := 67) rfl
theorem md_X18_init_68 : (.fieldLink RX18 575 "ResourceLedgerModel" "outcomes" "[I" : Cond) ∈ wsX18_init := List.mem_of_getElem? (i := 68) rfl
theorem md_X18_init_69 : (.fieldLink RX18 578 "ResourceLedgerModel" "gases" "[I" : Cond) ∈ wsX18_init := List.mem_of_getElem? (i := 69) rfl
theorem md_X18_init_70 : (.fieldLink RX18 581 "ResourceLedgerModel" "faultPlaces" "[I" : Cond) ∈ wsX18_init := List.mem_of_getElem? (i := 70) rfl
theorem md_X18_init_71 : (.fieldLink RX18 584 "ResourceLedgerModel" "codes" "[J" : Cond) ∈ wsX18_init := List.mem_of_getElem? (i := 71) rfl
theorem md_X18_init_72 : (.fieldLink RX18 587 "ResourceLedgerModel" "resultCounts" "[I" : Cond) ∈ wsX18_init := List.mem_of_getElem? (i := 72) rfl
theorem md_X18_init_73 : (.fieldLink RX18 590 "ResourceLedgerModel" "resultTypes" "[B" : Cond) ∈ wsX18_init := List.mem_of_getElem? (i := 73) rfl
theorem md_X18_init_74 : (.fieldLink RX18 593 "ResourceLedgerModel" "resultHighs" "[J" : Cond) ∈ wsX18_init := List.mem_of_getElem? (i := 74) rfl
theorem md_X18_init_75 : (.fieldLink RX18 596 "ResourceLedgerModel" "resultLows" "[J" : Cond) ∈ wsX18_init := List.mem_of_getElem? (i := 75) rfl
theorem md_X18_init_76 : (.fieldLink RX18 599 "ResourceLedgerModel" "shown" "[B" : Cond) ∈ wsX18_init := List.mem_of_getElem? (i := 76) rfl
theorem md_X18_init_77 : (.fieldLink RX18 602 "ResourceLedgerModel" "key" "[J" : Cond) ∈ wsX18_init := List.mem_of_getElem? (i := 77) rfl
theorem md_X18_init_78 : (.fieldLink RX18 605 "ResourceLedgerModel" "value" "[J" : Cond) ∈ wsX18_init := List.mem_of_getElem? (i := 78) rfl
theorem iwd_X18_init_X16 : ∀ w ∈ wsX160, w ∈ wsX18_init := fun _ h => List.mem_cons_of_mem _ (List.mem_append_right _ h)
theorem md_X18_init_79 : (.instantiable RX16 18 : Cond) ∈ wsX18_init := List.mem_of_getElem? (i := 79) rfl
theorem md_X18_init_80 : (.initialized RX16 : Cond) ∈ wsX18_init := List.mem_of_getElem? (i := 80) rfl
theorem md_X18_init_130 : (.instanceMethod yX16_init : Cond) ∈ wsX18_init := List.mem_of_getElem? (i := 130) rfl
set_option maxHeartbeats 4000000 in
set_option maxRecDepth 100000 in
theorem da_X18_init (l : Launch) (dC : Nat → ClassId) (dI : Nat → Nat → Nat) (cy : Nat → ClassId) (a0 : Nat → Nat) (sh0 : Nat → Nat × Nat) (n0 sz : Nat) (F : Nat) (z0 : St) (h0 : Nat) (x0 : Int32) (hk0 : lk z0 n0) {sh8 : Nat → Nat × Nat} {n8 : Nat} {z8 : St} {r8 : Unit} (hf : fa_X18_init F sh0 n0 z0 h0 x0 = some (sh8, n8, z8, r8)) : Met l yX18_init wsX18_init ({ frames := 2, cells := 175, slots := 446805, locals := 33 }) (va_Pc [.ref (a0 h0), .int x0] (fun U => U.heap.size = sz ∧ va_P (dC, dI) vwCl (Wd cy a0 sh0 n0 z0) U.heap ∧ va_K (dC, dI) vwCl (TYS cy) U ∧ va_D (fun _ => True) (Wd cy a0 sh0 n0 z0) ∧ NK U)) (va_Qv (fun u : Nat → Nat => ((∀ k, k < n0 ∨ k = CBK → u k = a0 k) ∧ n0 ≤ n8) ∧ lk z8 n8) (fun u t => va_P (dC, dI) vwCl (Wd cy u sh8 n8 z8) t.heap ∧ va_K (dC, dI) vwCl (TYS cy) t ∧ va_D (va_A (Wd cy a0 sh0 n0 z0) sz) (Wd cy u sh8 n8 z8)) (va_A (Wd cy a0 sh0 n0 z0) sz)) 175 446805 (va_A (Wd cy a0 sh0 n0 z0) sz) := by
  refine Met.ofW (cc := cX18_init) (maxL := 3) (ret := none) (by decide) rfl ?_
  intro p e s m args below meth c s₁ B hml hv
  obtain ⟨rfl, hsz, hP, hK, hD0, hN⟩ := hv
  have hx := B.exec
  have hb := B.bytes
  have hr := B.returns
  have hts := atoms_spec (ws := wsX18_init) B.pre
  have hown : s.vm.findClass RX18 = some m.cls := findClass_of_methodNamed B.named
  have hlocks := B.notSynchronized
  have hin : meth.name = "<init>" := (name_of_methodNamed B.named B.method).1
  subst hsz
  have hD := hD0.self (sz := s.heap.size)
  clear hD0
  generalize hAe : va_A (Wd cy a0 sh0 n0 z0) s.heap.size = A at hD ⊢
  have hA : ∀ q : Nat, s.heap.size ≤ q → A q := fun q h => by rw [← hAe]; exact Or.inr h
  clear hAe
  have hS : va_S A s.heap s.heap [] := va_S.rf
  have hl := lv_entry ([.ref (a0 h0), .int x0]) (n := 3) (Nat.le_of_ble_eq_true rfl)
  rw [lg_entry_eq]
  generalize (lg_sl ([.ref (a0 h0), .int x0]) ++ List.replicate (3 - (lg_sl ([.ref (a0 h0), .int x0])).length) Slot.unset).toArray = ls at hl ⊢
  replace hl : lv_has ls 3 [(0, .ref (a0 h0)), (1, .int x0)] := hl
  unfold fa_X18_init at hf
  refine da_start (fn := fun sh n z => fa_X18_init F sh n z h0 x0) (av := fun a => [(0, .ref (a h0)), (1, .int x0)]) (sk := fun q => True) hf hk0 hS hD hP hl trivial (fun a sh n z H locs hf hag hk hS hD hP hl hSK => ?_)
  unfold fa_X18_init at hf
  try dsimp only at hf hl hSK
  refine lv_aload_n hx hb dX18_init_0 rfl (lv_at hl 0 rfl) ?_
  refine W.objInit hx hb hown (hts _ md_X18_init_1) (hts _ md_X18_init_2) (hts _ md_X18_init_3) rfl (by rw [hml]; exact hl.1) rfl dX18_init_1 (Nat.le_of_ble_eq_true rfl) (Nat.le_of_ble_eq_true rfl) ?_
  refine W.eq (g2 := F0 m 4 ls []) rfl ?_
  refine lv_aload_n hx hb dX18_init_4 rfl (lv_at hl 0 rfl) ?_
  refine lv_sipush (v := 256) hx hb dX18_init_5 (by decide) ?_
  obtain ⟨g_1, hf⟩ := grd_some hf
  refine de_newa (atype := .long) (ty := .long) (t := 2) (N := 256) (a0 := (256, .inr (.inl (fun _ => 0)))) hf hk hx hb (hts _ md_X18_init_4) rfl hK hP hD hS hA rfl rfl (fun _ => rfl) (by decide) (by decide) (Nat.le_of_ble_eq_true rfl) (Nat.le_of_ble_eq_true rfl) (Nat.le_of_ble_eq_true rfl) dX18_init_8 (fun a sh n z_2 k_3 H_4 hf hax hk hnn hP hD hS => ?_)
  refine W.eq (g2 := F0 m 10 ls [.ref (a k_3), .ref (a h0)]) (by rw [hax h0 (okN_at g_1)]) ?_
  replace hl : lv_has ls 3 [(0, .ref (a h0)), (1, .int x0)] := by rw [hax h0 (okN_at g_1)]; exact hl
  replace hag := hag_new hag hax hnn
  clear hax hnn
  refine W.widen (k := 1) (n := 256) (Nat.le_of_ble_eq_true rfl) (Nat.le_of_ble_eq_true rfl) ?_
  obtain ⟨g_5, hf⟩ := grd_some hf
  obtain ⟨g_6, hf⟩ := grd_some hf
  obtain ⟨kg_6, sg_6⟩ := okO_at g_6
  refine va_putF (D := (dC, dI)) (ci := 18) (v := .ref (a k_3)) (ty := .array .long) (C := RX18) (T := TX18) (N := 78) hx hb hts iwd_X18_init_X18 tyX18 tyX18_ok nmX18 hown hK hP hD hS h0 (Wd_ob kg_6 sg_6 (by decide)) rfl 0 (by decide) (hts _ md_X18_init_5) (fun _ h9 => h9) rfl hin rfl (by decide +kernel) rfl rfl (by rw [fl_len]; decide) dX18_init_10 (fun H_7 locs hP2 hD2 hS2 => ?_)
  rw [Wd_sq1 sg_6 (by decide) rfl] at hP2 hD2
  obtain ⟨z_8, ez_8⟩ : ∃ w, w = sq z_2 h0 0 (some k_3) := ⟨_, rfl⟩
  rw [← ez_8] at hP2 hD2
  replace hf := lt_at ez_8 hf
  replace hk : lk z_8 n := by rw [ez_8]; exact lk_sq1 hk (okN_at g_5)
  clear ez_8
  replace hP := hP2
  replace hD := hD2
  replace hS := hS2
  clear hP2 hD2 hS2
  refine lv_aload_n hx hb dX18_init_13 rfl (lv_at hl 0 rfl) ?_
  refine lv_sipush (v := 256) hx hb dX18_init_14 (by decide) ?_
  obtain ⟨g_9, hf⟩ := grd_some hf
  refine de_newa (atype := .long) (ty := .long) (t := 2) (N := 256) (a0 := (256, .inr (.inl (fun _ => 0)))) hf hk hx hb (hts _ md_X18_init_4) rfl hK hP hD hS hA rfl rfl (fun _ => rfl) (by decide) (by decide) (Nat.le_of_ble_eq_true rfl) (Nat.le_of_ble_eq_true rfl) (Nat.le_of_ble_eq_true rfl) dX18_init_17 (fun a sh n z_10 k_11 H_12 hf hax hk hnn hP hD hS => ?_)
  refine W.eq (g2 := F0 m 19 ls [.ref (a k_11), .ref (a h0)]) (by rw [hax h0 (okN_at g_9)]) ?_
  replace hl : lv_has ls 3 [(0, .ref (a h0)), (1, .int x0)] := by rw [hax h0 (okN_at g_9)]; exact hl
  replace hag := hag_new hag hax hnn
  clear hax hnn
  refine W.widen (k := 2) (n := 512) (Nat.le_of_ble_eq_true rfl) (Nat.le_of_ble_eq_true rfl) ?_
  obtain ⟨g_13, hf⟩ := grd_some hf
  obtain ⟨g_14, hf⟩ := grd_some hf
  obtain ⟨kg_14, sg_14⟩ := okO_at g_14
  refine va_putF (D := (dC, dI)) (ci := 18) (v := .ref (a k_11)) (ty := .array .long) (C := RX18) (T := TX18) (N := 78) hx hb hts iwd_X18_init_X18 tyX18 tyX18_ok nmX18 hown hK hP hD hS h0 (Wd_ob kg_14 sg_14 (by decide)) rfl 1 (by decide) (hts _ md_X18_init_6) (fun _ h9 => h9) rfl hin rfl (by decide +kernel) rfl rfl (by rw [fl_len]; decide) dX18_init_19 (fun H_15 locs hP2 hD2 hS2 => ?_)
  rw [Wd_sq1 sg_14 (by decide) rfl] at hP2 hD2
  obtain ⟨z_16, ez_16⟩ : ∃ w, w = sq z_10 h0 1 (some k_11) := ⟨_, rfl⟩
  rw [← ez_16] at hP2 hD2
  replace hf := lt_at ez_16 hf
  replace hk : lk z_16 n := by rw [ez_16]; exact lk_sq1 hk (okN_at g_13)
  clear ez_16
  replace hP := hP2
  replace hD := hD2
  replace hS := hS2
  clear hP2 hD2 hS2
  refine lv_aload_n hx hb dX18_init_22 rfl (lv_at hl 0 rfl) ?_
  refine lv_sipush (v := 256) hx hb dX18_init_23 (by decide) ?_
  obtain ⟨g_17, hf⟩ := grd_some hf
  refine de_newa (atype := .long) (ty := .long) (t := 2) (N := 256) (a0 := (256, .inr (.inl (fun _ => 0)))) hf hk hx hb (hts _ md_X18_init_4) rfl hK hP hD hS hA rfl rfl (fun _ => rfl) (by decide) (by decide) (Nat.le_of_ble_eq_true rfl) (Nat.le_of_ble_eq_true rfl) (Nat.le_of_ble_eq_true rfl) dX18_init_26 (fun a sh n z_18 k_19 H_20 hf hax hk hnn hP hD hS => ?_)
  refine W.eq (g2 := F0 m 28 ls [.ref (a k_19), .ref (a h0)]) (by rw [hax h0 (okN_at g_17)]) ?_
  replace hl : lv_has ls 3 [(0, .ref (a h0)), (1, .int x0)] := by rw [hax h0 (okN_at g_17)]; exact hl
  replace hag := hag_new hag hax hnn
  clear hax hnn
  refine W.widen (k := 3) (n := 768) (Nat.le_of_ble_eq_true rfl) (Nat.le_of_ble_eq_true rfl) ?_
  obtain ⟨g_21, hf⟩ := grd_some hf
  obtain ⟨g_22, hf⟩ := grd_some hf
  obtain ⟨kg_22, sg_22⟩ := okO_at g_22
  refine va_putF (D := (dC, dI)) (ci := 18) (v := .ref (a k_19)) (ty := .array .long) (C := RX18) (T := TX18) (N := 78) hx hb hts iwd_X18_init_X18 tyX18 tyX18_ok nmX18 hown hK hP hD hS h0 (Wd_ob kg_22 sg_22 (by decide)) rfl 2 (by decide) (hts _ md_X18_init_7) (fun _ h9 => h9) rfl hin rfl (by decide +kernel) rfl rfl (by rw [fl_len]; decide) dX18_init_28 (fun H_23 locs hP2 hD2 hS2 => ?_)
  rw [Wd_sq1 sg_22 (by decide) rfl] at hP2 hD2
  obtain ⟨z_24, ez_24⟩ : ∃ w, w = sq z_18 h0 2 (some k_19) := ⟨_, rfl⟩
  rw [← ez_24] at hP2 hD2
  replace hf := lt_at ez_24 hf
  replace hk : lk z_24 n := by rw [ez_24]; exact lk_sq1 hk (okN_at g_21)
  clear ez_24
  replace hP := hP2
  replace hD := hD2
  replace hS := hS2
  clear hP2 hD2 hS2
  refine lv_aload_n hx hb dX18_init_31 rfl (lv_at hl 0 rfl) ?_
  refine lv_bipush (v := 10) hx hb dX18_init_32 (by decide) ?_
  obtain ⟨g_25, hf⟩ := grd_some hf
  refine de_newq (t := 6) (N := 10) hf hk hx hb hown (hts _ md_X18_init_8) hN.2.2.2.2 hK hP hD hS hA rfl rfl (by decide) (by decide) (Nat.le_of_ble_eq_true rfl) (Nat.le_of_ble_eq_true rfl) (Nat.le_of_ble_eq_true rfl) dX18_init_34 (fun a sh n z_26 k_27 H_28 hf hax hk hnn hP hD hS => ?_)
  refine W.eq (g2 := F0 m 37 ls [.ref (a k_27), .ref (a h0)]) (by rw [hax h0 (okN_at g_25)]) ?_
  replace hl : lv_has ls 3 [(0, .ref (a h0)), (1, .int x0)] := by rw [hax h0 (okN_at g_25)]; exact hl
  replace hag := hag_new hag hax hnn
  clear hax hnn
  refine W.widen (k := 4) (n := 778) (Nat.le_of_ble_eq_true rfl) (Nat.le_of_ble_eq_true rfl) ?_
  obtain ⟨g_29, hf⟩ := grd_some hf
  obtain ⟨g_30, hf⟩ := grd_some hf
  obtain ⟨kg_30, sg_30⟩ := okO_at g_30
  refine va_putF (D := (dC, dI)) (ci := 18) (v := .ref (a k_27)) (ty := .array (.object "ResourceLedgerModel$Unit")) (C := RX18) (T := TX18) (N := 78) hx hb hts iwd_X18_init_X18 tyX18 tyX18_ok nmX18 hown hK hP hD hS h0 (Wd_ob kg_30 sg_30 (by decide)) rfl 4 (by decide) (hts _ md_X18_init_9) (fun _ h9 => h9) rfl hin rfl (by decide +kernel) rfl rfl (by rw [fl_len]; decide) dX18_init_37 (fun H_31 locs hP2 hD2 hS2 => ?_)
  rw [Wd_sq1 sg_30 (by decide) rfl] at hP2 hD2
  obtain ⟨z_32, ez_32⟩ : ∃ w, w = sq z_26 h0 4 (some k_27) := ⟨_, rfl⟩
  rw [← ez_32] at hP2 hD2
  replace hf := lt_at ez_32 hf
  replace hk : lk z_32 n := by rw [ez_32]; exact lk_sq1 hk (okN_at g_29)
  clear ez_32
  replace hP := hP2
  replace hD := hD2
  replace hS := hS2
  clear hP2 hD2 hS2
  refine lv_aload_n hx hb dX18_init_40 rfl (lv_at hl 0 rfl) ?_
  refine lv_sipush (v := 640) hx hb dX18_init_41 (by decide) ?_
  obtain ⟨g_33, hf⟩ := grd_some hf
  refine de_newa (atype := .int) (ty := .int) (t := 1) (N := 640) (a0 := (640, .inl (fun _ => 0))) hf hk hx hb (hts _ md_X18_init_10) rfl hK hP hD hS hA rfl rfl (fun _ => rfl) (by decide) (by decide) (Nat.le_of_ble_eq_true rfl) (Nat.le_of_ble_eq_true rfl) (Nat.le_of_ble_eq_true rfl) dX18_init_44 (fun a sh n z_34 k_35 H_36 hf hax hk hnn hP hD hS => ?_)
  refine W.eq (g2 := F0 m 46 ls [.ref (a k_35), .ref (a h0)]) (by rw [hax h0 (okN_at g_33)]) ?_
  replace hl : lv_has ls 3 [(0, .ref (a h0)), (1, .int x0)] := by rw [hax h0 (okN_at g_33)]; exact hl
  replace hag := hag_new hag hax hnn
  clear hax hnn
  refine W.widen (k := 5) (n := 1418) (Nat.le_of_ble_eq_true rfl) (Nat.le_of_ble_eq_true rfl) ?_
  obtain ⟨g_37, hf⟩ := grd_some hf
  obtain ⟨g_38, hf⟩ := grd_some hf
  obtain ⟨kg_38, sg_38⟩ := okO_at g_38
  refine va_putF (D := (dC, dI)) (ci := 18) (v := .ref (a k_35)) (ty := .array .int) (C := RX18) (T := TX18) (N := 78) hx hb hts iwd_X18_init_X18 tyX18 tyX18_ok nmX18 hown hK hP hD hS h0 (Wd_ob kg_38 sg_38 (by decide)) rfl 6 (by decide) (hts _ md_X18_init_11) (fun _ h9 => h9) rfl hin rfl (by decide +kernel) rfl rfl (by rw [fl_len]; decide) dX18_init_46 (fun H_39 locs hP2 hD2 hS2 => ?_)
  rw [Wd_sq1 sg_38 (by decide) rfl] at hP2 hD2
  obtain ⟨z_40, ez_40⟩ : ∃ w, w = sq z_34 h0 6 (some k_35) := ⟨_, rfl⟩
  rw [← ez_40] at hP2 hD2
  replace hf := lt_at ez_40 hf
  replace hk : lk z_40 n := by rw [ez_40]; exact lk_sq1 hk (okN_at g_37)
  clear ez_40
  replace hP := hP2
  replace hD := hD2
  replace hS := hS2
  clear hP2 hD2 hS2
  refine lv_aload_n hx hb dX18_init_49 rfl (lv_at hl 0 rfl) ?_
  refine lv_sipush (v := 256) hx hb dX18_init_50 (by decide) ?_
  obtain ⟨g_41, hf⟩ := grd_some hf
  refine de_newa (atype := .long) (ty := .long) (t := 2) (N := 256) (a0 := (256, .inr (.inl (fun _ => 0)))) hf hk hx hb (hts _ md_X18_init_4) rfl hK hP hD hS hA rfl rfl (fun _ => rfl) (by decide) (by decide) (Nat.le_of_ble_eq_true rfl) (Nat.le_of_ble_eq_true rfl) (Nat.le_of_ble_eq_true rfl) dX18_init_53 (fun a sh n z_42 k_43 H_44 hf hax hk hnn hP hD hS => ?_)
  refine W.eq (g2 := F0 m 55 ls [.ref (a k_43), .ref (a h0)]) (by rw [hax h0 (okN_at g_41)]) ?_
  replace hl : lv_has ls 3 [(0, .ref (a h0)), (1, .int x0)] := by rw [hax h0 (okN_at g_41)]; exact hl
  replace hag := hag_new hag hax hnn
  clear hax hnn
  refine W.widen (k := 6) (n := 1674) (Nat.le_of_ble_eq_true rfl) (Nat.le_of_ble_eq_true rfl) ?_
  obtain ⟨g_45, hf⟩ := grd_some hf
  obtain ⟨g_46, hf⟩ := grd_some hf
  obtain ⟨kg_46, sg_46⟩ := okO_at g_46
  refine va_putF (D := (dC, dI)) (ci := 18) (v := .ref (a k_43)) (ty := .array .long) (C := RX18) (T := TX18) (N := 78) hx hb hts iwd_X18_init_X18 tyX18 tyX18_ok nmX18 hown hK hP hD hS h0 (Wd_ob kg_46 sg_46 (by decide)) rfl 7 (by decide) (hts _ md_X18_init_12) (fun _ h9 => h9) rfl hin rfl (by decide +kernel) rfl rfl (by rw [fl_len]; decide) dX18_init_55 (fun H_47 locs hP2 hD2 hS2 => ?_)
  rw [Wd_sq1 sg_46 (by decide) rfl] at hP2 hD2
  obtain ⟨z_48, ez_48⟩ : ∃ w, w = sq z_42 h0 7 (some k_43) := ⟨_, rfl⟩
  rw [← ez_48] at hP2 hD2
  replace hf := lt_at ez_48 hf
  replace hk : lk z_48 n := by rw [ez_48]; exact lk_sq1 hk (okN_at g_45)
  clear ez_48
  replace hP := hP2
  replace hD := hD2
  replace hS := hS2
  clear hP2 hD2 hS2
  refine lv_aload_n hx hb dX18_init_58 rfl (lv_at hl 0 rfl) ?_
  refine lv_sipush (v := 256) hx hb dX18_init_59 (by decide) ?_
  obtain ⟨g_49, hf⟩ := grd_some hf
  refine de_newa (atype := .int) (ty := .int) (t := 1) (N := 256) (a0 := (256, .inl (fun _ => 0))) hf hk hx hb (hts _ md_X18_init_10) rfl hK hP hD hS hA rfl rfl (fun _ => rfl) (by decide) (by decide) (Nat.le_of_ble_eq_true rfl) (Nat.le_of_ble_eq_true rfl) (Nat.le_of_ble_eq_true rfl) dX18_init_62 (fun a sh n z_50 k_51 H_52 hf hax hk hnn hP hD hS => ?_)
  refine W.eq (g2 := F0 m 64 ls [.ref (a k_51), .ref (a h0)]) (by rw [hax h0 (okN_at g_49)]) ?_
  replace hl : lv_has ls 3 [(0, .ref (a h0)), (1, .int x0)] := by rw [hax h0 (okN_at g_49)]; exact hl
  replace hag := hag_new hag hax hnn
  clear hax hnn
  refine W.widen (k := 7) (n := 1930) (Nat.le_of_ble_eq_true rfl) (Nat.le_of_ble_eq_true rfl) ?_
  obtain ⟨g_53, hf⟩ := grd_some hf
  obtain ⟨g_54, hf⟩ := grd_some hf
  obtain ⟨kg_54, sg_54⟩ := okO_at g_54
  refine va_putF (D := (dC, dI)) (ci := 18) (v := .ref (a k_51)) (ty := .array .int) (C := RX18) (T := TX18) (N := 78) hx hb hts iwd_X18_init_X18 tyX18 tyX18_ok nmX18 hown hK hP hD hS h0 (Wd_ob kg_54 sg_54 (by decide)) rfl 8 (by decide) (hts _ md_X18_init_13) (fun _ h9 => h9) rfl hin rfl (by decide +kernel) rfl rfl (by rw [fl_len]; decide) dX18_init_64 (fun H_55 locs hP2 hD2 hS2 => ?_)
  rw [Wd_sq1 sg_54 (by decide) rfl] at hP2 hD2
  obtain ⟨z_56, ez_56⟩ : ∃ w, w = sq z_50 h0 8 (some k_51) := ⟨_, rfl⟩
  rw [← ez_56] at hP2 hD2
  replace hf := lt_at ez_56 hf
  replace hk : lk z_56 n := by rw [ez_56]; exact lk_sq1 hk (okN_at g_53)
  clear ez_56
  replace hP := hP2
  replace hD := hD2
  replace hS := hS2
  clear hP2 hD2 hS2
  refine lv_aload_n hx hb dX18_init_67 rfl (lv_at hl 0 rfl) ?_
  refine lv_sipush (v := 16384) hx hb dX18_init_68 (by decide) ?_
  obtain ⟨g_57, hf⟩ := grd_some hf
  refine de_newa (atype := .byte) (ty := .byte) (t := 0) (N := 16384) (a0 := (16384, .inl (fun _ => 0))) hf hk hx hb (hts _ md_X18_init_14) rfl hK hP hD hS hA rfl rfl (fun _ => rfl) (by decide) (by decide) (Nat.le_of_ble_eq_true rfl) (Nat.le_of_ble_eq_true rfl) (Nat.le_of_ble_eq_true rfl) dX18_init_71 (fun a sh n z_58 k_59 H_60 hf hax hk hnn hP hD hS => ?_)
  refine W.eq (g2 := F0 m 73 ls [.ref (a k_59), .ref (a h0)]) (by rw [hax h0 (okN_at g_57)]) ?_
  replace hl : lv_has ls 3 [(0, .ref (a h0)), (1, .int x0)] := by rw [hax h0 (okN_at g_57)]; exact hl
  replace hag := hag_new hag hax hnn
  clear hax hnn
  refine W.widen (k := 8) (n := 18314) (Nat.le_of_ble_eq_true rfl) (Nat.le_of_ble_eq_true rfl) ?_
  obtain ⟨g_61, hf⟩ := grd_some hf
  obtain ⟨g_62, hf⟩ := grd_some hf
  obtain ⟨kg_62, sg_62⟩ := okO_at g_62
  refine va_putF (D := (dC, dI)) (ci := 18) (v := .ref (a k_59)) (ty := .array .byte) (C := RX18) (T := TX18) (N := 78) hx hb hts iwd_X18_init_X18 tyX18 tyX18_ok nmX18 hown hK hP hD hS h0 (Wd_ob kg_62 sg_62 (by decide)) rfl 10 (by decide) (hts _ md_X18_init_15) (fun _ h9 => h9) rfl hin rfl (by decide +kernel) rfl rfl (by rw [fl_len]; decide) dX18_init_73 (fun H_63 locs hP2 hD2 hS2 => ?_)
  rw [Wd_sq1 sg_62 (by decide) rfl] at hP2 hD2
  obtain ⟨z_64, ez_64⟩ : ∃ w, w = sq z_58 h0 10 (some k_59) := ⟨_, rfl⟩
  rw [← ez_64] at hP2 hD2
  replace hf := lt_at ez_64 hf
  replace hk : lk z_64 n := by rw [ez_64]; exact lk_sq1 hk (okN_at g_61)
  clear ez_64
  replace hP := hP2
  replace hD := hD2
  replace hS := hS2
  clear hP2 hD2 hS2
  refine lv_aload_n hx hb dX18_init_76 rfl (lv_at hl 0 rfl) ?_
  refine lv_sipush (v := 16384) hx hb dX18_init_77 (by decide) ?_
  obtain ⟨g_65, hf⟩ := grd_some hf
  refine de_newa (atype := .long) (ty := .long) (t := 2) (N := 16384) (a0 := (16384, .inr (.inl (fun _ => 0)))) hf hk hx hb (hts _ md_X18_init_4) rfl hK hP hD hS hA rfl rfl (fun _ => rfl) (by decide) (by decide) (Nat.le_of_ble_eq_true rfl) (Nat.le_of_ble_eq_true rfl) (Nat.le_of_ble_eq_true rfl) dX18_init_80 (fun a sh n z_66 k_67 H_68 hf hax hk hnn hP hD hS => ?_)
  refine W.eq (g2 := F0 m 82 ls [.ref (a k_67), .ref (a h0)]) (by rw [hax h0 (okN_at g_65)]) ?_
  replace hl : lv_has ls 3 [(0, .ref (a h0)), (1, .int x0)] := by rw [hax h0 (okN_at g_65)]; exact hl
  replace hag := hag_new hag hax hnn
  clear hax hnn
  refine W.widen (k := 9) (n := 34698) (Nat.le_of_ble_eq_true rfl) (Nat.le_of_ble_eq_true rfl) ?_
  obtain ⟨g_69, hf⟩ := grd_some hf
  obtain ⟨g_70, hf⟩ := grd_some hf
  obtain ⟨kg_70, sg_70⟩ := okO_at g_70
  refine va_putF (D := (dC, dI)) (ci := 18) (v := .ref (a k_67)) (ty := .array .long) (C := RX18) (T := TX18) (N := 78) hx hb hts iwd_X18_init_X18 tyX18 tyX18_ok nmX18 hown hK hP hD hS h0 (Wd_ob kg_70 sg_70 (by decide)) rfl 11 (by decide) (hts _ md_X18_init_16) (fun _ h9 => h9) rfl hin rfl (by decide +kernel) rfl rfl (by rw [fl_len]; decide) dX18_init_82 (fun H_71 locs hP2 hD2 hS2 => ?_)
  rw [Wd_sq1 sg_70 (by decide) rfl] at hP2 hD2
  obtain ⟨z_72, ez_72⟩ : ∃ w, w = sq z_66 h0 11 (some k_67) := ⟨_, rfl⟩
  rw [← ez_72] at hP2 hD2
  replace hf := lt_at ez_72 hf
  replace hk : lk z_72 n := by rw [ez_72]; exact lk_sq1 hk (okN_at g_69)
  clear ez_72
  replace hP := hP2
  replace hD := hD2
  replace hS := hS2
  clear hP2 hD2 hS2
  refine lv_aload_n hx hb dX18_init_85 rfl (lv_at hl 0 rfl) ?_
  refine lv_sipush (v := 16384) hx hb dX18_init_86 (by decide) ?_
  obtain ⟨g_73, hf⟩ := grd_some hf
  refine de_newa (atype := .long) (ty := .long) (t := 2) (N := 16384) (a0 := (16384, .inr (.inl (fun _ => 0)))) hf hk hx hb (hts _ md_X18_init_4) rfl hK hP hD hS hA rfl rfl (fun _ => rfl) (by decide) (by decide) (Nat.le_of_ble_eq_true rfl) (Nat.le_of_ble_eq_true rfl) (Nat.le_of_ble_eq_true rfl) dX18_init_89 (fun a sh n z_74 k_75 H_76 hf hax hk hnn hP hD hS => ?_)
  refine W.eq (g2 := F0 m 91 ls [.ref (a k_75), .ref (a h0)]) (by rw [hax h0 (okN_at g_73)]) ?_
  replace hl : lv_has ls 3 [(0, .ref (a h0)), (1, .int x0)] := by rw [hax h0 (okN_at g_73)]; exact hl
  replace hag := hag_new hag hax hnn
  clear hax hnn
  refine W.widen (k := 10) (n := 51082) (Nat.le_of_ble_eq_true rfl) (Nat.le_of_ble_eq_true rfl) ?_
  obtain ⟨g_77, hf⟩ := grd_some hf
  obtain ⟨g_78, hf⟩ := grd_some hf
  obtain ⟨kg_78, sg_78⟩ := okO_at g_78
  refine va_putF (D := (dC, dI)) (ci := 18) (v := .ref (a k_75)) (ty := .array .long) (C := RX18) (T := TX18) (N := 78) hx hb hts iwd_X18_init_X18 tyX18 tyX18_ok nmX18 hown hK hP hD hS h0 (Wd_ob kg_78 sg_78 (by decide)) rfl 12 (by decide) (hts _ md_X18_init_17) (fun _ h9 => h9) rfl hin rfl (by decide +kernel) rfl rfl (by rw [fl_len]; decide) dX18_init_91 (fun H_79 locs hP2 hD2 hS2 => ?_)
  rw [Wd_sq1 sg_78 (by decide) rfl] at hP2 hD2
  obtain ⟨z_80, ez_80⟩ : ∃ w, w = sq z_74 h0 12 (some k_75) := ⟨_, rfl⟩
  rw [← ez_80] at hP2 hD2
  replace hf := lt_at ez_80 hf
  replace hk : lk z_80 n := by rw [ez_80]; exact lk_sq1 hk (okN_at g_77)
  clear ez_80
  replace hP := hP2
  replace hD := hD2
  replace hS := hS2
  clear hP2 hD2 hS2
  refine lv_aload_n hx hb dX18_init_94 rfl (lv_at hl 0 rfl) ?_
  refine lv_sipush (v := 16384) hx hb dX18_init_95 (by decide) ?_
  obtain ⟨g_81, hf⟩ := grd_some hf
  refine de_newa (atype := .int) (ty := .int) (t := 1) (N := 16384) (a0 := (16384, .inl (fun _ => 0))) hf hk hx hb (hts _ md_X18_init_10) rfl hK hP hD hS hA rfl rfl (fun _ => rfl) (by decide) (by decide) (Nat.le_of_ble_eq_true rfl) (Nat.le_of_ble_eq_true rfl) (Nat.le_of_ble_eq_true rfl) dX18_init_98 (fun a sh n z_82 k_83 H_84 hf hax hk hnn hP hD hS => ?_)
  refine W.eq (g2 := F0 m 100 ls [.ref (a k_83), .ref (a h0)]) (by rw [hax h0 (okN_at g_81)]) ?_
  replace hl : lv_has ls 3 [(0, .ref (a h0)), (1, .int x0)] := by rw [hax h0 (okN_at g_81)]; exact hl
  replace hag := hag_new hag hax hnn
  clear hax hnn
  refine W.widen (k := 11) (n := 67466) (Nat.le_of_ble_eq_true rfl) (Nat.le_of_ble_eq_true rfl) ?_
  obtain ⟨g_85, hf⟩ := grd_some hf
  obtain ⟨g_86, hf⟩ := grd_some hf
  obtain ⟨kg_86, sg_86⟩ := okO_at g_86
  refine va_putF (D := (dC, dI)) (ci := 18) (v := .ref (a k_83)) (ty := .array .int) (C := RX18) (T := TX18) (N := 78) hx hb hts iwd_X18_init_X18 tyX18 tyX18_ok nmX18 hown hK hP hD hS h0 (Wd_ob kg_86 sg_86 (by decide)) rfl 13 (by decide) (hts _ md_X18_init_18) (fun _ h9 => h9) rfl hin rfl (by decide +kernel) rfl rfl (by rw [fl_len]; decide) dX18_init_100 (fun H_87 locs hP2 hD2 hS2 => ?_)
  rw [Wd_sq1 sg_86 (by decide) rfl] at hP2 hD2
  obtain ⟨z_88, ez_88⟩ : ∃ w, w = sq z_82 h0 13 (some k_83) := ⟨_, rfl⟩
  rw [← ez_88] at hP2 hD2
  replace hf := lt_at ez_88 hf
  replace hk : lk z_88 n := by rw [ez_88]; exact lk_sq1 hk (okN_at g_85)
  clear ez_88
  replace hP := hP2
  replace hD := hD2
  replace hS := hS2
  clear hP2 hD2 hS2
  refine lv_aload_n hx hb dX18_init_103 rfl (lv_at hl 0 rfl) ?_
  obtain ⟨g_89, hf⟩ := grd_some hf
  refine de_new (ci := 15) (fs := [.null, .null, .null, .null, .null, .int 0]) (C := RX15) (T := TX15) (N := 6) hf hk hx hb hts iwd_X18_init_X15 tyX15 tyX15_ok hown (hts _ md_X18_init_19) (hts _ md_X18_init_20) (hts _ md_X18_init_21) hK hP hD hS hA rfl rfl df_X15 (Nat.le_of_ble_eq_true rfl) (Nat.le_of_ble_eq_true rfl) dX18_init_104 (fun a sh n z_90 k_91 H_92 hf hax hk hnn hP hD hS => ?_)
  refine W.eq (g2 := F0 m 107 ls [.ref (a k_91), .ref (a h0)]) (by rw [hax h0 (okN_at g_89)]) ?_
  replace hl : lv_has ls 3 [(0, .ref (a h0)), (1, .int x0)] := by rw [hax h0 (okN_at g_89)]; exact hl
  replace hag := hag_new hag hax hnn
  clear hax hnn
  refine W.widen (k := 12) (n := 67472) (Nat.le_of_ble_eq_true rfl) (Nat.le_of_ble_eq_true rfl) ?_
  refine lv_dup hx hb dX18_init_107 rfl ?_
  obtain ⟨g_93, hf⟩ := grd_some hf
  obtain ⟨g_94, hf⟩ := grd_some hf
  obtain ⟨shq, nq, z_95, _u, hfc, hf⟩ := cala_some hf
  have hFc := de_free hD hS hA
  refine va_callv (va_runIN (As := []) (rest := [.ref (a k_91), .ref (a h0)]) ⟨hx, hb, hml, hown, hts⟩ (da_X15_init l dC dI cy a sh n H_92.size F z_90 k_91 hk hfc) ⟨va_cnB 0 hts ggX18_init_X15_init rfl rfl rfl (NK_m_X18_522 hN) (hts _ md_X18_init_21) ⟨by decide, by decide, by decide +kernel⟩ ⟨Nat.le_of_ble_eq_true rfl, Nat.le_of_ble_eq_true rfl⟩, rfl, (hts _ md_X18_init_81)⟩ ⟨fun a U g mk q => by obtain ⟨q0, q1, qP, qK, qD, qN⟩ := q; exact ⟨q0, q1, qP, va_K.moved (u := U) (U := U.calling g mk a) (Vm.Alike.refl U.vm) qK, qD, qN.same rfl⟩, fun U hU hW => ⟨rfl, by rw [hU], by rw [hU]; exact hP, va_K.moved hW.alike hK, hD.weaken (fun _ _ _ _ => trivial), hN.warm hW⟩⟩ rfl rfl hl.1 rfl (lv_room (Nat.le_of_ble_eq_true rfl)) dX18_init_108 ⟨Nat.le_of_ble_eq_true rfl, Nat.le_of_ble_eq_true rfl⟩) hS (fun q _ h => hFc q h) hFc (fun a t H_96 locs ht hvm hw hB hz1 hk1 hS2 => ?_)
  obtain ⟨⟨hax, hnn⟩, hk⟩ := hw
  obtain ⟨hP1, -, hD1⟩ := hB
  rw [ht] at hP1
  replace hD := hD1.weaken (fun _ _ _ h => hFc _ h)
  replace hP := hP1
  replace hS := hS2
  obtain ⟨sh, esh⟩ : ∃ w, w = shq := ⟨_, rfl⟩
  subst esh
  replace hl : lv_has ls 3 [(0, .ref (a h0)), (1, .int x0)] := by rw [hax h0 (okN_at g_93)]; exact hl
  replace hag := hag_new hag hax hnn
  obtain ⟨n, enq⟩ : ∃ w, w = nq := ⟨_, rfl⟩
  subst enq
  refine W.eq (g2 := F0 m 111 ls [.ref (a k_91), .ref (a h0)]) (by rw [hax h0 (okN_at g_93), hax k_91 (okN_at g_94)]) ?_
  clear hax hnn hP1 hD1 hS2 hFc hfc hz1 hk1 hvm ht
  refine W.widen (k := 17) (n := 190352) (Nat.le_of_ble_eq_true rfl) (Nat.le_of_ble_eq_true rfl) ?_
  obtain ⟨g_97, hf⟩ := grd_some hf
  obtain ⟨g_98, hf⟩ := grd_some hf
  obtain ⟨kg_98, sg_98⟩ := okO_at g_98
  refine va_putF (D := (dC, dI)) (ci := 18) (v := .ref (a k_91)) (ty := .object "ResourceLedgerModel$Trees") (C := RX18) (T := TX18) (N := 78) hx hb hts iwd_X18_init_X18 tyX18 tyX18_ok nmX18 hown hK hP hD hS h0 (Wd_ob kg_98 sg_98 (by decide)) rfl 15 (by decide) (hts _ md_X18_init_22) (fun _ h9 => h9) rfl hin rfl (by decide +kernel) rfl rfl (by rw [fl_len]; decide) dX18_init_111 (fun H_99 locs hP2 hD2 hS2 => ?_)
  rw [Wd_sq1 sg_98 (by decide) rfl] at hP2 hD2
  obtain ⟨z_100, ez_100⟩ : ∃ w, w = sq z_95 h0 15 (some k_91) := ⟨_, rfl⟩
  rw [← ez_100] at hP2 hD2
  replace hf := lt_at ez_100 hf
  replace hk : lk z_100 n := by rw [ez_100]; exact lk_sq1 hk (okN_at g_97)
  clear ez_100
  replace hP := hP2
  replace hD := hD2
  replace hS := hS2
  clear hP2 hD2 hS2
  refine lv_aload_n hx hb dX18_init_114 rfl (lv_at hl 0 rfl) ?_
  obtain ⟨g_101, hf⟩ := grd_some hf
  refine de_new (ci := 13) (fs := [.null, .int 0, .int 0, .null, .int 0, .int 0, .null, .null, .null, .null, .null, .null, .null, .null, .int 0, .null, .null, .null, .int 0, .long 0, .long 0, .int 0]) (C := RX13) (T := TX13) (N := 22) hf hk hx hb hts iwd_X18_init_X13 tyX13 tyX13_ok hown (hts _ md_X18_init_23) (hts _ md_X18_init_24) (hts _ md_X18_init_25) hK hP hD hS hA rfl rfl df_X13 (Nat.le_of_ble_eq_true rfl) (Nat.le_of_ble_eq_true rfl) dX18_init_115 (fun a sh n z_102 k_103 H_104 hf hax hk hnn hP hD hS => ?_)
  refine W.eq (g2 := F0 m 118 ls [.ref (a k_103), .ref (a h0)]) (by rw [hax h0 (okN_at g_101)]) ?_
  replace hl : lv_has ls 3 [(0, .ref (a h0)), (1, .int x0)] := by rw [hax h0 (okN_at g_101)]; exact hl
  replace hag := hag_new hag hax hnn
  clear hax hnn
  refine W.widen (k := 18) (n := 190374) (Nat.le_of_ble_eq_true rfl) (Nat.le_of_ble_eq_true rfl) ?_
  refine lv_dup hx hb dX18_init_118 rfl ?_
  obtain ⟨g_105, hf⟩ := grd_some hf
  obtain ⟨g_106, hf⟩ := grd_some hf
  obtain ⟨shq, nq, z_107, _u, hfc, hf⟩ := cala_some hf
  have hFc := de_free hD hS hA
  refine va_callv (va_runIN (As := []) (rest := [.ref (a k_103), .ref (a h0)]) ⟨hx, hb, hml, hown, hts⟩ (da_X13_init l dC dI cy a sh n H_104.size F z_102 k_103 hk hfc) ⟨va_cnB 0 hts ggX18_init_X13_init rfl rfl rfl (NK_m_X18_523 hN) (hts _ md_X18_init_25) ⟨by decide, by decide, by decide +kernel⟩ ⟨Nat.le_of_ble_eq_true rfl, Nat.le_of_ble_eq_true rfl⟩, rfl, (hts _ md_X18_init_89)⟩ ⟨fun a U g mk q => by obtain ⟨q0, q1, qP, qK, qD, qN⟩ := q; exact ⟨q0, q1, qP, va_K.moved (u := U) (U := U.calling g mk a) (Vm.Alike.refl U.vm) qK, qD, qN.same rfl⟩, fun U hU hW => ⟨rfl, by rw [hU], by rw [hU]; exact hP, va_K.moved hW.alike hK, hD.weaken (fun _ _ _ _ => trivial), hN.warm hW⟩⟩ rfl rfl hl.1 rfl (lv_room (Nat.le_of_ble_eq_true rfl)) dX18_init_119 ⟨Nat.le_of_ble_eq_true rfl, Nat.le_of_ble_eq_true rfl⟩) hS (fun q _ h => hFc q h) hFc (fun a t H_108 locs ht hvm hw hB hz1 hk1 hS2 => ?_)
  obtain ⟨⟨hax, hnn⟩, hk⟩ := hw
  obtain ⟨hP1, -, hD1⟩ := hB
  rw [ht] at hP1
  replace hD := hD1.weaken (fun _ _ _ h => hFc _ h)
  replace hP := hP1
  replace hS := hS2
  obtain ⟨sh, esh⟩ : ∃ w, w = shq := ⟨_, rfl⟩
  subst esh
  replace hl : lv_has ls 3 [(0, .ref (a h0)), (1, .int x0)] := by rw [hax h0 (okN_at g_105)]; exact hl
  replace hag := hag_new hag hax hnn
  obtain ⟨n, enq⟩ : ∃ w, w = nq := ⟨_, rfl⟩
  subst enq
  refine W.eq (g2 := F0 m 122 ls [.ref (a k_103), .ref (a h0)]) (by rw [hax h0 (okN_at g_105), hax k_103 (okN_at g_106)]) ?_
  clear hax hnn hP1 hD1 hS2 hFc hfc hz1 hk1 hvm ht
  refine W.widen (k := 30) (n := 316184) (Nat.le_of_ble_eq_true rfl) (Nat.le_of_ble_eq_true rfl) ?_
  obtain ⟨g_109, hf⟩ := grd_some hf
  obtain ⟨g_110, hf⟩ := grd_some hf
  obtain ⟨kg_110, sg_110⟩ := okO_at g_110
  refine va_putF (D := (dC, dI)) (ci := 18) (v := .ref (a k_103)) (ty := .object "ResourceLedgerModel$Looker") (C := RX18) (T := TX18) (N := 78) hx hb hts iwd_X18_init_X18 tyX18 tyX18_ok nmX18 hown hK hP hD hS h0 (Wd_ob kg_110 sg_110 (by decide)) rfl 16 (by decide) (hts _ md_X18_init_26) (fun _ h9 => h9) rfl hin rfl (by decide +kernel) rfl rfl (by rw [fl_len]; decide) dX18_init_122 (fun H_111 locs hP2 hD2 hS2 => ?_)
  rw [Wd_sq1 sg_110 (by decide) rfl] at hP2 hD2
  obtain ⟨z_112, ez_112⟩ : ∃ w, w = sq z_107 h0 16 (some k_103) := ⟨_, rfl⟩
  rw [← ez_112] at hP2 hD2
  replace hf := lt_at ez_112 hf
  replace hk : lk z_112 n := by rw [ez_112]; exact lk_sq1 hk (okN_at g_109)
  clear ez_112
  replace hP := hP2
  replace hD := hD2
  replace hS := hS2
  clear hP2 hD2 hS2
  refine lv_aload_n hx hb dX18_init_125 rfl (lv_at hl 0 rfl) ?_
  obtain ⟨g_113, hf⟩ := grd_some hf
  refine de_new (ci := 17) (fs := [.null, .null, .null, .long 0, .long 0]) (C := RX17) (T := TX17) (N := 5) hf hk hx hb hts iwd_X18_init_X17 tyX17 tyX17_ok hown (hts _ md_X18_init_27) (hts _ md_X18_init_28) (hts _ md_X18_init_29) hK hP hD hS hA rfl rfl df_X17 (Nat.le_of_ble_eq_true rfl) (Nat.le_of_ble_eq_true rfl) dX18_init_126 (fun a sh n z_114 k_115 H_116 hf hax hk hnn hP hD hS => ?_)
  refine W.eq (g2 := F0 m 129 ls [.ref (a k_115), .ref (a h0)]) (by rw [hax h0 (okN_at g_113)]) ?_
  replace hl : lv_has ls 3 [(0, .ref (a h0)), (1, .int x0)] := by rw [hax h0 (okN_at g_113)]; exact hl
  replace hag := hag_new hag hax hnn
  clear hax hnn
  refine W.widen (k := 31) (n := 316189) (Nat.le_of_ble_eq_true rfl) (Nat.le_of_ble_eq_true rfl) ?_
  refine lv_dup hx hb dX18_init_129 rfl ?_
  obtain ⟨g_117, hf⟩ := grd_some hf
  obtain ⟨g_118, hf⟩ := grd_some hf
  obtain ⟨shq, nq, z_119, _u, hfc, hf⟩ := cala_some hf
  have hFc := de_free hD hS hA
  refine va_callv (va_runIN (As := []) (rest := [.ref (a k_115), .ref (a h0)]) ⟨hx, hb, hml, hown, hts⟩ (da_X17_init l dC dI cy a sh n H_116.size F z_114 k_115 hk hfc) ⟨va_cnB 0 hts ggX18_init_X17_init rfl rfl rfl (NK_m_X18_524 hN) (hts _ md_X18_init_29) ⟨by decide, by decide, by decide +kernel⟩ ⟨Nat.le_of_ble_eq_true rfl, Nat.le_of_ble_eq_true rfl⟩, rfl, (hts _ md_X18_init_105)⟩ ⟨fun a U g mk q => by obtain ⟨q0, q1, qP, qK, qD, qN⟩ := q; exact ⟨q0, q1, qP, va_K.moved (u := U) (U := U.calling g mk a) (Vm.Alike.refl U.vm) qK, qD, qN.same rfl⟩, fun U hU hW => ⟨rfl, by rw [hU], by rw [hU]; exact hP, va_K.moved hW.alike hK, hD.weaken (fun _ _ _ _ => trivial), hN.warm hW⟩⟩ rfl rfl hl.1 rfl (lv_room (Nat.le_of_ble_eq_true rfl)) dX18_init_130 ⟨Nat.le_of_ble_eq_true rfl, Nat.le_of_ble_eq_true rfl⟩) hS (fun q _ h => hFc q h) hFc (fun a t H_120 locs ht hvm hw hB hz1 hk1 hS2 => ?_)
  obtain ⟨⟨hax, hnn⟩, hk⟩ := hw
  obtain ⟨hP1, -, hD1⟩ := hB
  rw [ht] at hP1
  replace hD := hD1.weaken (fun _ _ _ h => hFc _ h)
  replace hP := hP1
  replace hS := hS2
  obtain ⟨sh, esh⟩ : ∃ w, w = shq := ⟨_, rfl⟩
  subst esh
  replace hl : lv_has ls 3 [(0, .ref (a h0)), (1, .int x0)] := by rw [hax h0 (okN_at g_117)]; exact hl
  replace hag := hag_new hag hax hnn
  obtain ⟨n, enq⟩ : ∃ w, w = nq := ⟨_, rfl⟩
  subst enq
  refine W.eq (g2 := F0 m 133 ls [.ref (a k_115), .ref (a h0)]) (by rw [hax h0 (okN_at g_117), hax k_115 (okN_at g_118)]) ?_
  clear hax hnn hP1 hD1 hS2 hFc hfc hz1 hk1 hvm ht
  refine W.widen (k := 34) (n := 316254) (Nat.le_of_ble_eq_true rfl) (Nat.le_of_ble_eq_true rfl) ?_
  obtain ⟨g_121, hf⟩ := grd_some hf
  obtain ⟨g_122, hf⟩ := grd_some hf
  obtain ⟨kg_122, sg_122⟩ := okO_at g_122
  refine va_putF (D := (dC, dI)) (ci := 18) (v := .ref (a k_115)) (ty := .object "ResourceLedgerModel$Wide") (C := RX18) (T := TX18) (N := 78) hx hb hts iwd_X18_init_X18 tyX18 tyX18_ok nmX18 hown hK hP hD hS h0 (Wd_ob kg_122 sg_122 (by decide)) rfl 17 (by decide) (hts _ md_X18_init_30) (fun _ h9 => h9) rfl hin rfl (by decide +kernel) rfl rfl (by rw [fl_len]; decide) dX18_init_133 (fun H_123 locs hP2 hD2 hS2 => ?_)
  rw [Wd_sq1 sg_122 (by decide) rfl] at hP2 hD2
  obtain ⟨z_124, ez_124⟩ : ∃ w, w = sq z_119 h0 17 (some k_115) := ⟨_, rfl⟩
  rw [← ez_124] at hP2 hD2
  replace hf := lt_at ez_124 hf
  replace hk : lk z_124 n := by rw [ez_124]; exact lk_sq1 hk (okN_at g_121)
  clear ez_124
  replace hP := hP2
  replace hD := hD2
  replace hS := hS2
  clear hP2 hD2 hS2
  refine lv_aload_n hx hb dX18_init_136 rfl (lv_at hl 0 rfl) ?_
  obtain ⟨g_125, hf⟩ := grd_some hf
  refine de_new (ci := 12) (fs := [.null, .int 0, .null, .null]) (C := RX12) (T := TX12) (N := 4) hf hk hx hb hts iwd_X18_init_X12 tyX12 tyX12_ok hown (hts _ md_X18_init_31) (hts _ md_X18_init_32) (hts _ md_X18_init_33) hK hP hD hS hA rfl rfl df_X12 (Nat.le_of_ble_eq_true rfl) (Nat.le_of_ble_eq_true rfl) dX18_init_137 (fun a sh n z_126 k_127 H_128 hf hax hk hnn hP hD hS => ?_)
  refine W.eq (g2 := F0 m 140 ls [.ref (a k_127), .ref (a h0)]) (by rw [hax h0 (okN_at g_125)]) ?_
  replace hl : lv_has ls 3 [(0, .ref (a h0)), (1, .int x0)] := by rw [hax h0 (okN_at g_125)]; exact hl
  replace hag := hag_new hag hax hnn
  clear hax hnn
  refine W.widen (k := 35) (n := 316258) (Nat.le_of_ble_eq_true rfl) (Nat.le_of_ble_eq_true rfl) ?_
  refine lv_dup hx hb dX18_init_140 rfl ?_
  obtain ⟨g_129, hf⟩ := grd_some hf
  obtain ⟨g_130, hf⟩ := grd_some hf
  obtain ⟨shq, nq, z_131, _u, hfc, hf⟩ := cala_some hf
  have hFc := de_free hD hS hA
  refine va_callv (va_runIN (As := []) (rest := [.ref (a k_127), .ref (a h0)]) ⟨hx, hb, hml, hown, hts⟩ (da_X12_init l dC dI cy a sh n H_128.size F z_126 k_127 hk hfc) ⟨va_cnB 0 hts ggX18_init_X12_init rfl rfl rfl (NK_m_X18_525 hN) (hts _ md_X18_init_33) ⟨by decide, by decide, by decide +kernel⟩ ⟨Nat.le_of_ble_eq_true rfl, Nat.le_of_ble_eq_true rfl⟩, rfl, (hts _ md_X18_init_111)⟩ ⟨fun a U g mk q => by obtain ⟨q0, q1, qP, qK, qD, qN⟩ := q; exact ⟨q0, q1, qP, va_K.moved (u := U) (U := U.calling g mk a) (Vm.Alike.refl U.vm) qK, qD, qN.same rfl⟩, fun U hU hW => ⟨rfl, by rw [hU], by rw [hU]; exact hP, va_K.moved hW.alike hK, hD.weaken (fun _ _ _ _ => trivial), hN.warm hW⟩⟩ rfl rfl hl.1 rfl (lv_room (Nat.le_of_ble_eq_true rfl)) dX18_init_141 ⟨Nat.le_of_ble_eq_true rfl, Nat.le_of_ble_eq_true rfl⟩) hS (fun q _ h => hFc q h) hFc (fun a t H_132 locs ht hvm hw hB hz1 hk1 hS2 => ?_)
  obtain ⟨⟨hax, hnn⟩, hk⟩ := hw
  obtain ⟨hP1, -, hD1⟩ := hB
  rw [ht] at hP1
  replace hD := hD1.weaken (fun _ _ _ h => hFc _ h)
  replace hP := hP1
  replace hS := hS2
  obtain ⟨sh, esh⟩ : ∃ w, w = shq := ⟨_, rfl⟩
  subst esh
  replace hl : lv_has ls 3 [(0, .ref (a h0)), (1, .int x0)] := by rw [hax h0 (okN_at g_129)]; exact hl
  replace hag := hag_new hag hax hnn
  obtain ⟨n, enq⟩ : ∃ w, w = nq := ⟨_, rfl⟩
  subst enq
  refine W.eq (g2 := F0 m 144 ls [.ref (a k_127), .ref (a h0)]) (by rw [hax h0 (okN_at g_129), hax k_127 (okN_at g_130)]) ?_
  clear hax hnn hP1 hD1 hS2 hFc hfc hz1 hk1 hvm ht
  refine W.widen (k := 38) (n := 320426) (Nat.le_of_ble_eq_true rfl) (Nat.le_of_ble_eq_true rfl) ?_
  obtain ⟨g_133, hf⟩ := grd_some hf
  obtain ⟨g_134, hf⟩ := grd_some hf
  obtain ⟨kg_134, sg_134⟩ := okO_at g_134
  refine va_putF (D := (dC, dI)) (ci := 18) (v := .ref (a k_127)) (ty := .object "ResourceLedgerModel$Digester") (C := RX18) (T := TX18) (N := 78) hx hb hts iwd_X18_init_X18 tyX18 tyX18_ok nmX18 hown hK hP hD hS h0 (Wd_ob kg_134 sg_134 (by decide)) rfl 18 (by decide) (hts _ md_X18_init_34) (fun _ h9 => h9) rfl hin rfl (by decide +kernel) rfl rfl (by rw [fl_len]; decide) dX18_init_144 (fun H_135 locs hP2 hD2 hS2 => ?_)
  rw [Wd_sq1 sg_134 (by decide) rfl] at hP2 hD2
  obtain ⟨z_136, ez_136⟩ : ∃ w, w = sq z_131 h0 18 (some k_127) := ⟨_, rfl⟩
  rw [← ez_136] at hP2 hD2
  replace hf := lt_at ez_136 hf
  replace hk : lk z_136 n := by rw [ez_136]; exact lk_sq1 hk (okN_at g_133)
  clear ez_136
  replace hP := hP2
  replace hD := hD2
  replace hS := hS2
  clear hP2 hD2 hS2
  refine lv_aload_n hx hb dX18_init_147 rfl (lv_at hl 0 rfl) ?_
  obtain ⟨g_137, hf⟩ := grd_some hf
  refine de_new (ci := 14) (fs := [.null, .null, .null, .null, .null, .int 0, .null, .null, .null, .int 0, .null]) (C := RX14) (T := TX14) (N := 11) hf hk hx hb hts iwd_X18_init_X14 tyX14 tyX14_ok hown (hts _ md_X18_init_35) (hts _ md_X18_init_36) (hts _ md_X18_init_37) hK hP hD hS hA rfl rfl df_X14 (Nat.le_of_ble_eq_true rfl) (Nat.le_of_ble_eq_true rfl) dX18_init_148 (fun a sh n z_138 k_139 H_140 hf hax hk hnn hP hD hS => ?_)
  refine W.eq (g2 := F0 m 151 ls [.ref (a k_139), .ref (a h0)]) (by rw [hax h0 (okN_at g_137)]) ?_
  replace hl : lv_has ls 3 [(0, .ref (a h0)), (1, .int x0)] := by rw [hax h0 (okN_at g_137)]; exact hl
  replace hag := hag_new hag hax hnn
  clear hax hnn
  refine W.widen (k := 39) (n := 320437) (Nat.le_of_ble_eq_true rfl) (Nat.le_of_ble_eq_true rfl) ?_
  refine lv_dup hx hb dX18_init_151 rfl ?_
  refine lv_aload_n hx hb dX18_init_152 rfl (lv_at hl 0 rfl) ?_
  obtain ⟨g_141, hf⟩ := grd_some hf
  obtain ⟨kg_141, sg_141⟩ := okO_at g_141
  obtain ⟨k_142, ek_142, hf⟩ := lnk_some hf
  refine va_get (D := (dC, dI)) (ci := 18) (v := .ref (a k_142)) (C := RX18) (T := TX18) (N := 78) hx hb hts iwd_X18_init_X18 hown hK hP h0 (Wd_ob kg_141 sg_141 (by decide)) rfl 18 (by decide) (hts _ md_X18_init_34) (fun _ h9 => h9) (fl_q rfl ek_142) dX18_init_153 ?_
  obtain ⟨g_143, hf⟩ := grd_some hf
  obtain ⟨g_144, hf⟩ := grd_some hf
  obtain ⟨shq, nq, z_145, _u, hfc, hf⟩ := cala_some hf
  have hFc := de_free hD hS hA
  refine va_callv (va_runI (As := [.ref (a k_142)]) (rest := [.ref (a k_139), .ref (a h0)]) ⟨hx, hb, hml, hown, hts⟩ (da_X14_init l dC dI cy a sh n H_140.size F z_138 k_139 k_142 hk hfc) (cwI 1 hts ggX18_init_X14_init rfl rfl rfl (hts _ md_X18_init_37) (hts _ md_X18_init_117) (hts _ md_X18_init_118) rfl (by decide +kernel) ⟨Nat.le_of_ble_eq_true rfl, Nat.le_of_ble_eq_true rfl⟩) ⟨fun a U g mk q => by obtain ⟨q0, q1, qP, qK, qD, qN⟩ := q; exact ⟨q0, q1, qP, va_K.moved (u := U) (U := U.calling g mk a) (Vm.Alike.refl U.vm) qK, qD, qN.same rfl⟩, fun U hU hW => ⟨rfl, by rw [hU], by rw [hU]; exact hP, va_K.moved hW.alike hK, hD.weaken (fun _ _ _ _ => trivial), hN.warm hW⟩⟩ rfl rfl hl.1 rfl (lv_room (Nat.le_of_ble_eq_true rfl)) dX18_init_156 ⟨Nat.le_of_ble_eq_true rfl, Nat.le_of_ble_eq_true rfl⟩) hS (fun q _ h => hFc q h) hFc (fun a t H_146 locs ht hvm hw hB hz1 hk1 hS2 => ?_)
  obtain ⟨⟨hax, hnn⟩, hk⟩ := hw
  obtain ⟨hP1, -, hD1⟩ := hB
  rw [ht] at hP1
  replace hD := hD1.weaken (fun _ _ _ h => hFc _ h)
  replace hP := hP1
  replace hS := hS2
  obtain ⟨sh, esh⟩ : ∃ w, w = shq := ⟨_, rfl⟩
  subst esh
  replace hl : lv_has ls 3 [(0, .ref (a h0)), (1, .int x0)] := by rw [hax h0 (okN_at g_143)]; exact hl
  replace hag := hag_new hag hax hnn
  obtain ⟨n, enq⟩ : ∃ w, w = nq := ⟨_, rfl⟩
  subst enq
  refine W.eq (g2 := F0 m 159 ls [.ref (a k_139), .ref (a h0)]) (by rw [hax h0 (okN_at g_143), hax k_139 (okN_at g_144)]) ?_
  clear hax hnn hP1 hD1 hS2 hFc hfc hz1 hk1 hvm ht
  refine W.widen (k := 47) (n := 324789) (Nat.le_of_ble_eq_true rfl) (Nat.le_of_ble_eq_true rfl) ?_
  obtain ⟨g_147, hf⟩ := grd_some hf
  obtain ⟨g_148, hf⟩ := grd_some hf
  obtain ⟨kg_148, sg_148⟩ := okO_at g_148
  refine va_putF (D := (dC, dI)) (ci := 18) (v := .ref (a k_139)) (ty := .object "ResourceLedgerModel$Roots") (C := RX18) (T := TX18) (N := 78) hx hb hts iwd_X18_init_X18 tyX18 tyX18_ok nmX18 hown hK hP hD hS h0 (Wd_ob kg_148 sg_148 (by decide)) rfl 19 (by decide) (hts _ md_X18_init_38) (fun _ h9 => h9) rfl hin rfl (by decide +kernel) rfl rfl (by rw [fl_len]; decide) dX18_init_159 (fun H_149 locs hP2 hD2 hS2 => ?_)
  rw [Wd_sq1 sg_148 (by decide) rfl] at hP2 hD2
  obtain ⟨z_150, ez_150⟩ : ∃ w, w = sq z_145 h0 19 (some k_139) := ⟨_, rfl⟩
  rw [← ez_150] at hP2 hD2
  replace hf := lt_at ez_150 hf
  replace hk : lk z_150 n := by rw [ez_150]; exact lk_sq1 hk (okN_at g_147)
  clear ez_150
  replace hP := hP2
  replace hD := hD2
  replace hS := hS2
  clear hP2 hD2 hS2
  refine lv_aload_n hx hb dX18_init_162 rfl (lv_at hl 0 rfl) ?_
  refine lv_bipush (v := 24) hx hb dX18_init_163 (by decide) ?_
  obtain ⟨g_151, hf⟩ := grd_some hf
  refine de_newa (atype := .int) (ty := .int) (t := 1) (N := 24) (a0 := (24, .inl (fun _ => 0))) hf hk hx hb (hts _ md_X18_init_10) rfl hK hP hD hS hA rfl rfl (fun _ => rfl) (by decide) (by decide) (Nat.le_of_ble_eq_true rfl) (Nat.le_of_ble_eq_true rfl) (Nat.le_of_ble_eq_true rfl) dX18_init_165 (fun a sh n z_152 k_153 H_154 hf hax hk hnn hP hD hS => ?_)
  refine W.eq (g2 := F0 m 167 ls [.ref (a k_153), .ref (a h0)]) (by rw [hax h0 (okN_at g_151)]) ?_
  replace hl : lv_has ls 3 [(0, .ref (a h0)), (1, .int x0)] := by rw [hax h0 (okN_at g_151)]; exact hl
  replace hag := hag_new hag hax hnn
  clear hax hnn
  refine W.widen (k := 48) (n := 324813) (Nat.le_of_ble_eq_true rfl) (Nat.le_of_ble_eq_true rfl) ?_
  obtain ⟨g_155, hf⟩ := grd_some hf
  obtain ⟨g_156, hf⟩ := grd_some hf
  obtain ⟨kg_156, sg_156⟩ := okO_at g_156
  refine va_putF (D := (dC, dI)) (ci := 18) (v := .ref (a k_153)) (ty := .array .int) (C := RX18) (T := TX18) (N := 78) hx hb hts iwd_X18_init_X18 tyX18 tyX18_ok nmX18 hown hK hP hD hS h0 (Wd_ob kg_156 sg_156 (by decide)) rfl 30 (by decide) (hts _ md_X18_init_39) (fun _ h9 => h9) rfl hin rfl (by decide +kernel) rfl rfl (by rw [fl_len]; decide) dX18_init_167 (fun H_157 locs hP2 hD2 hS2 => ?_)
  rw [Wd_sq1 sg_156 (by decide) rfl] at hP2 hD2
  obtain ⟨z_158, ez_158⟩ : ∃ w, w = sq z_152 h0 30 (some k_153) := ⟨_, rfl⟩
  rw [← ez_158] at hP2 hD2
  replace hf := lt_at ez_158 hf
  replace hk : lk z_158 n := by rw [ez_158]; exact lk_sq1 hk (okN_at g_155)
  clear ez_158
  replace hP := hP2
  replace hD := hD2
  replace hS := hS2
  clear hP2 hD2 hS2
  refine lv_aload_n hx hb dX18_init_170 rfl (lv_at hl 0 rfl) ?_
  refine lv_bipush (v := 24) hx hb dX18_init_171 (by decide) ?_
  obtain ⟨g_159, hf⟩ := grd_some hf
  refine de_newa (atype := .long) (ty := .long) (t := 2) (N := 24) (a0 := (24, .inr (.inl (fun _ => 0)))) hf hk hx hb (hts _ md_X18_init_4) rfl hK hP hD hS hA rfl rfl (fun _ => rfl) (by decide) (by decide) (Nat.le_of_ble_eq_true rfl) (Nat.le_of_ble_eq_true rfl) (Nat.le_of_ble_eq_true rfl) dX18_init_173 (fun a sh n z_160 k_161 H_162 hf hax hk hnn hP hD hS => ?_)
  refine W.eq (g2 := F0 m 175 ls [.ref (a k_161), .ref (a h0)]) (by rw [hax h0 (okN_at g_159)]) ?_
  replace hl : lv_has ls 3 [(0, .ref (a h0)), (1, .int x0)] := by rw [hax h0 (okN_at g_159)]; exact hl
  replace hag := hag_new hag hax hnn
  clear hax hnn
  refine W.widen (k := 49) (n := 324837) (Nat.le_of_ble_eq_true rfl) (Nat.le_of_ble_eq_true rfl) ?_
  obtain ⟨g_163, hf⟩ := grd_some hf
  obtain ⟨g_164, hf⟩ := grd_some hf
  obtain ⟨kg_164, sg_164⟩ := okO_at g_164
  refine va_putF (D := (dC, dI)) (ci := 18) (v := .ref (a k_161)) (ty := .array .long) (C := RX18) (T := TX18) (N := 78) hx hb hts iwd_X18_init_X18 tyX18 tyX18_ok nmX18 hown hK hP hD hS h0 (Wd_ob kg_164 sg_164 (by decide)) rfl 31 (by decide) (hts _ md_X18_init_40) (fun _ h9 => h9) rfl hin rfl (by decide +kernel) rfl rfl (by rw [fl_len]; decide) dX18_init_175 (fun H_165 locs hP2 hD2 hS2 => ?_)
  rw [Wd_sq1 sg_164 (by decide) rfl] at hP2 hD2
  obtain ⟨z_166, ez_166⟩ : ∃ w, w = sq z_160 h0 31 (some k_161) := ⟨_, rfl⟩
  rw [← ez_166] at hP2 hD2
  replace hf := lt_at ez_166 hf
  replace hk : lk z_166 n := by rw [ez_166]; exact lk_sq1 hk (okN_at g_163)
  clear ez_166
  replace hP := hP2
  replace hD := hD2
  replace hS := hS2
  clear hP2 hD2 hS2
  refine lv_aload_n hx hb dX18_init_178 rfl (lv_at hl 0 rfl) ?_
  refine lv_bipush (v := 24) hx hb dX18_init_179 (by decide) ?_
  obtain ⟨g_167, hf⟩ := grd_some hf
  refine de_newa (atype := .int) (ty := .int) (t := 1) (N := 24) (a0 := (24, .inl (fun _ => 0))) hf hk hx hb (hts _ md_X18_init_10) rfl hK hP hD hS hA rfl rfl (fun _ => rfl) (by decide) (by decide) (Nat.le_of_ble_eq_true rfl) (Nat.le_of_ble_eq_true rfl) (Nat.le_of_ble_eq_true rfl) dX18_init_181 (fun a sh n z_168 k_169 H_170 hf hax hk hnn hP hD hS => ?_)
  refine W.eq (g2 := F0 m 183 ls [.ref (a k_169), .ref (a h0)]) (by rw [hax h0 (okN_at g_167)]) ?_
  replace hl : lv_has ls 3 [(0, .ref (a h0)), (1, .int x0)] := by rw [hax h0 (okN_at g_167)]; exact hl
  replace hag := hag_new hag hax hnn
  clear hax hnn
  refine W.widen (k := 50) (n := 324861) (Nat.le_of_ble_eq_true rfl) (Nat.le_of_ble_eq_true rfl) ?_
  obtain ⟨g_171, hf⟩ := grd_some hf
  obtain ⟨g_172, hf⟩ := grd_some hf
  obtain ⟨kg_172, sg_172⟩ := okO_at g_172
  refine va_putF (D := (dC, dI)) (ci := 18) (v := .ref (a k_169)) (ty := .array .int) (C := RX18) (T := TX18) (N := 78) hx hb hts iwd_X18_init_X18 tyX18 tyX18_ok nmX18 hown hK hP hD hS h0 (Wd_ob kg_172 sg_172 (by decide)) rfl 32 (by decide) (hts _ md_X18_init_41) (fun _ h9 => h9) rfl hin rfl (by decide +kernel) rfl rfl (by rw [fl_len]; decide) dX18_init_183 (fun H_173 locs hP2 hD2 hS2 => ?_)
  rw [Wd_sq1 sg_172 (by decide) rfl] at hP2 hD2
  obtain ⟨z_174, ez_174⟩ : ∃ w, w = sq z_168 h0 32 (some k_169) := ⟨_, rfl⟩
  rw [← ez_174] at hP2 hD2
  replace hf := lt_at ez_174 hf
  replace hk : lk z_174 n := by rw [ez_174]; exact lk_sq1 hk (okN_at g_171)
  clear ez_174
  replace hP := hP2
  replace hD := hD2
  replace hS := hS2
  clear hP2 hD2 hS2
  refine lv_aload_n hx hb dX18_init_186 rfl (lv_at hl 0 rfl) ?_
  refine lv_bipush (v := 24) hx hb dX18_init_187 (by decide) ?_
  obtain ⟨g_175, hf⟩ := grd_some hf
  refine de_newa (atype := .long) (ty := .long) (t := 2) (N := 24) (a0 := (24, .inr (.inl (fun _ => 0)))) hf hk hx hb (hts _ md_X18_init_4) rfl hK hP hD hS hA rfl rfl (fun _ => rfl) (by decide) (by decide) (Nat.le_of_ble_eq_true rfl) (Nat.le_of_ble_eq_true rfl) (Nat.le_of_ble_eq_true rfl) dX18_init_189 (fun a sh n z_176 k_177 H_178 hf hax hk hnn hP hD hS => ?_)
  refine W.eq (g2 := F0 m 191 ls [.ref (a k_177), .ref (a h0)]) (by rw [hax h0 (okN_at g_175)]) ?_
  replace hl : lv_has ls 3 [(0, .ref (a h0)), (1, .int x0)] := by rw [hax h0 (okN_at g_175)]; exact hl
  replace hag := hag_new hag hax hnn
  clear hax hnn
  refine W.widen (k := 51) (n := 324885) (Nat.le_of_ble_eq_true rfl) (Nat.le_of_ble_eq_true rfl) ?_
  obtain ⟨g_179, hf⟩ := grd_some hf
  obtain ⟨g_180, hf⟩ := grd_some hf
  obtain ⟨kg_180, sg_180⟩ := okO_at g_180
  refine va_putF (D := (dC, dI)) (ci := 18) (v := .ref (a k_177)) (ty := .array .long) (C := RX18) (T := TX18) (N := 78) hx hb hts iwd_X18_init_X18 tyX18 tyX18_ok nmX18 hown hK hP hD hS h0 (Wd_ob kg_180 sg_180 (by decide)) rfl 33 (by decide) (hts _ md_X18_init_42) (fun _ h9 => h9) rfl hin rfl (by decide +kernel) rfl rfl (by rw [fl_len]; decide) dX18_init_191 (fun H_181 locs hP2 hD2 hS2 => ?_)
  rw [Wd_sq1 sg_180 (by decide) rfl] at hP2 hD2
  obtain ⟨z_182, ez_182⟩ : ∃ w, w = sq z_176 h0 33 (some k_177) := ⟨_, rfl⟩
  rw [← ez_182] at hP2 hD2
  replace hf := lt_at ez_182 hf
  replace hk : lk z_182 n := by rw [ez_182]; exact lk_sq1 hk (okN_at g_179)
  clear ez_182
  replace hP := hP2
  replace hD := hD2
  replace hS := hS2
  clear hP2 hD2 hS2
  refine lv_aload_n hx hb dX18_init_194 rfl (lv_at hl 0 rfl) ?_
  refine lv_bipush (v := 24) hx hb dX18_init_195 (by decide) ?_
  obtain ⟨g_183, hf⟩ := grd_some hf
  refine de_newa (atype := .int) (ty := .int) (t := 1) (N := 24) (a0 := (24, .inl (fun _ => 0))) hf hk hx hb (hts _ md_X18_init_10) rfl hK hP hD hS hA rfl rfl (fun _ => rfl) (by decide) (by decide) (Nat.le_of_ble_eq_true rfl) (Nat.le_of_ble_eq_true rfl) (Nat.le_of_ble_eq_true rfl) dX18_init_197 (fun a sh n z_184 k_185 H_186 hf hax hk hnn hP hD hS => ?_)
  refine W.eq (g2 := F0 m 199 ls [.ref (a k_185), .ref (a h0)]) (by rw [hax h0 (okN_at g_183)]) ?_
  replace hl : lv_has ls 3 [(0, .ref (a h0)), (1, .int x0)] := by rw [hax h0 (okN_at g_183)]; exact hl
  replace hag := hag_new hag hax hnn
  clear hax hnn
  refine W.widen (k := 52) (n := 324909) (Nat.le_of_ble_eq_true rfl) (Nat.le_of_ble_eq_true rfl) ?_
  obtain ⟨g_187, hf⟩ := grd_some hf
  obtain ⟨g_188, hf⟩ := grd_some hf
  obtain ⟨kg_188, sg_188⟩ := okO_at g_188
  refine va_putF (D := (dC, dI)) (ci := 18) (v := .ref (a k_185)) (ty := .array .int) (C := RX18) (T := TX18) (N := 78) hx hb hts iwd_X18_init_X18 tyX18 tyX18_ok nmX18 hown hK hP hD hS h0 (Wd_ob kg_188 sg_188 (by decide)) rfl 34 (by decide) (hts _ md_X18_init_43) (fun _ h9 => h9) rfl hin rfl (by decide +kernel) rfl rfl (by rw [fl_len]; decide) dX18_init_199 (fun H_189 locs hP2 hD2 hS2 => ?_)
  rw [Wd_sq1 sg_188 (by decide) rfl] at hP2 hD2
  obtain ⟨z_190, ez_190⟩ : ∃ w, w = sq z_184 h0 34 (some k_185) := ⟨_, rfl⟩
  rw [← ez_190] at hP2 hD2
  replace hf := lt_at ez_190 hf
  replace hk : lk z_190 n := by rw [ez_190]; exact lk_sq1 hk (okN_at g_187)
  clear ez_190
  replace hP := hP2
  replace hD := hD2
  replace hS := hS2
  clear hP2 hD2 hS2
  refine lv_aload_n hx hb dX18_init_202 rfl (lv_at hl 0 rfl) ?_
  refine lv_bipush (v := 24) hx hb dX18_init_203 (by decide) ?_
  obtain ⟨g_191, hf⟩ := grd_some hf
  refine de_newa (atype := .boolean) (ty := .boolean) (t := 3) (N := 24) (a0 := (24, .inl (fun _ => 0))) hf hk hx hb (hts _ md_X18_init_44) rfl hK hP hD hS hA rfl rfl (fun _ => rfl) (by decide) (by decide) (Nat.le_of_ble_eq_true rfl) (Nat.le_of_ble_eq_true rfl) (Nat.le_of_ble_eq_true rfl) dX18_init_205 (fun a sh n z_192 k_193 H_194 hf hax hk hnn hP hD hS => ?_)
  refine W.eq (g2 := F0 m 207 ls [.ref (a k_193), .ref (a h0)]) (by rw [hax h0 (okN_at g_191)]) ?_
  replace hl : lv_has ls 3 [(0, .ref (a h0)), (1, .int x0)] := by rw [hax h0 (okN_at g_191)]; exact hl
  replace hag := hag_new hag hax hnn
  clear hax hnn
  refine W.widen (k := 53) (n := 324933) (Nat.le_of_ble_eq_true rfl) (Nat.le_of_ble_eq_true rfl) ?_
  obtain ⟨g_195, hf⟩ := grd_some hf
  obtain ⟨g_196, hf⟩ := grd_some hf
  obtain ⟨kg_196, sg_196⟩ := okO_at g_196
  refine va_putF (D := (dC, dI)) (ci := 18) (v := .ref (a k_193)) (ty := .array .boolean) (C := RX18) (T := TX18) (N := 78) hx hb hts iwd_X18_init_X18 tyX18 tyX18_ok nmX18 hown hK hP hD hS h0 (Wd_ob kg_196 sg_196 (by decide)) rfl 35 (by decide) (hts _ md_X18_init_45) (fun _ h9 => h9) rfl hin rfl (by decide +kernel) rfl rfl (by rw [fl_len]; decide) dX18_init_207 (fun H_197 locs hP2 hD2 hS2 => ?_)
  rw [Wd_sq1 sg_196 (by decide) rfl] at hP2 hD2
  obtain ⟨z_198, ez_198⟩ : ∃ w, w = sq z_192 h0 35 (some k_193) := ⟨_, rfl⟩
  rw [← ez_198] at hP2 hD2
  replace hf := lt_at ez_198 hf
  replace hk : lk z_198 n := by rw [ez_198]; exact lk_sq1 hk (okN_at g_195)
  clear ez_198
  replace hP := hP2
  replace hD := hD2
  replace hS := hS2
  clear hP2 hD2 hS2
  refine lv_aload_n hx hb dX18_init_210 rfl (lv_at hl 0 rfl) ?_
  refine lv_bipush (v := 32) hx hb dX18_init_211 (by decide) ?_
  obtain ⟨g_199, hf⟩ := grd_some hf
  refine de_newa (atype := .int) (ty := .int) (t := 1) (N := 32) (a0 := (32, .inl (fun _ => 0))) hf hk hx hb (hts _ md_X18_init_10) rfl hK hP hD hS hA rfl rfl (fun _ => rfl) (by decide) (by decide) (Nat.le_of_ble_eq_true rfl) (Nat.le_of_ble_eq_true rfl) (Nat.le_of_ble_eq_true rfl) dX18_init_213 (fun a sh n z_200 k_201 H_202 hf hax hk hnn hP hD hS => ?_)
  refine W.eq (g2 := F0 m 215 ls [.ref (a k_201), .ref (a h0)]) (by rw [hax h0 (okN_at g_199)]) ?_
  replace hl : lv_has ls 3 [(0, .ref (a h0)), (1, .int x0)] := by rw [hax h0 (okN_at g_199)]; exact hl
  replace hag := hag_new hag hax hnn
  clear hax hnn
  refine W.widen (k := 54) (n := 324965) (Nat.le_of_ble_eq_true rfl) (Nat.le_of_ble_eq_true rfl) ?_
  obtain ⟨g_203, hf⟩ := grd_some hf
  obtain ⟨g_204, hf⟩ := grd_some hf
  obtain ⟨kg_204, sg_204⟩ := okO_at g_204
  refine va_putF (D := (dC, dI)) (ci := 18) (v := .ref (a k_201)) (ty := .array .int) (C := RX18) (T := TX18) (N := 78) hx hb hts iwd_X18_init_X18 tyX18 tyX18_ok nmX18 hown hK hP hD hS h0 (Wd_ob kg_204 sg_204 (by decide)) rfl 37 (by decide) (hts _ md_X18_init_46) (fun _ h9 => h9) rfl hin rfl (by decide +kernel) rfl rfl (by rw [fl_len]; decide) dX18_init_215 (fun H_205 locs hP2 hD2 hS2 => ?_)
  rw [Wd_sq1 sg_204 (by decide) rfl] at hP2 hD2
  obtain ⟨z_206, ez_206⟩ : ∃ w, w = sq z_200 h0 37 (some k_201) := ⟨_, rfl⟩
  rw [← ez_206] at hP2 hD2
  replace hf := lt_at ez_206 hf
  replace hk : lk z_206 n := by rw [ez_206]; exact lk_sq1 hk (okN_at g_203)
  clear ez_206
  replace hP := hP2
  replace hD := hD2
  replace hS := hS2
  clear hP2 hD2 hS2
  refine lv_aload_n hx hb dX18_init_218 rfl (lv_at hl 0 rfl) ?_
  refine lv_bipush (v := 32) hx hb dX18_init_219 (by decide) ?_
  obtain ⟨g_207, hf⟩ := grd_some hf
  refine de_newa (atype := .int) (ty := .int) (t := 1) (N := 32) (a0 := (32, .inl (fun _ => 0))) hf hk hx hb (hts _ md_X18_init_10) rfl hK hP hD hS hA rfl rfl (fun _ => rfl) (by decide) (by decide) (Nat.le_of_ble_eq_true rfl) (Nat.le_of_ble_eq_true rfl) (Nat.le_of_ble_eq_true rfl) dX18_init_221 (fun a sh n z_208 k_209 H_210 hf hax hk hnn hP hD hS => ?_)
  refine W.eq (g2 := F0 m 223 ls [.ref (a k_209), .ref (a h0)]) (by rw [hax h0 (okN_at g_207)]) ?_
  replace hl : lv_has ls 3 [(0, .ref (a h0)), (1, .int x0)] := by rw [hax h0 (okN_at g_207)]; exact hl
  replace hag := hag_new hag hax hnn
  clear hax hnn
  refine W.widen (k := 55) (n := 324997) (Nat.le_of_ble_eq_true rfl) (Nat.le_of_ble_eq_true rfl) ?_
  obtain ⟨g_211, hf⟩ := grd_some hf
  obtain ⟨g_212, hf⟩ := grd_some hf
  obtain ⟨kg_212, sg_212⟩ := okO_at g_212
  refine va_putF (D := (dC, dI)) (ci := 18) (v := .ref (a k_209)) (ty := .array .int) (C := RX18) (T := TX18) (N := 78) hx hb hts iwd_X18_init_X18 tyX18 tyX18_ok nmX18 hown hK hP hD hS h0 (Wd_ob kg_212 sg_212 (by decide)) rfl 38 (by decide) (hts _ md_X18_init_47) (fun _ h9 => h9) rfl hin rfl (by decide +kernel) rfl rfl (by rw [fl_len]; decide) dX18_init_223 (fun H_213 locs hP2 hD2 hS2 => ?_)
  rw [Wd_sq1 sg_212 (by decide) rfl] at hP2 hD2
  obtain ⟨z_214, ez_214⟩ : ∃ w, w = sq z_208 h0 38 (some k_209) := ⟨_, rfl⟩
  rw [← ez_214] at hP2 hD2
  replace hf := lt_at ez_214 hf
  replace hk : lk z_214 n := by rw [ez_214]; exact lk_sq1 hk (okN_at g_211)
  clear ez_214
  replace hP := hP2
  replace hD := hD2
  replace hS := hS2
  clear hP2 hD2 hS2
  refine lv_aload_n hx hb dX18_init_226 rfl (lv_at hl 0 rfl) ?_
  refine lv_bipush (v := 32) hx hb dX18_init_227 (by decide) ?_
  obtain ⟨g_215, hf⟩ := grd_some hf
  refine de_newa (atype := .int) (ty := .int) (t := 1) (N := 32) (a0 := (32, .inl (fun _ => 0))) hf hk hx hb (hts _ md_X18_init_10) rfl hK hP hD hS hA rfl rfl (fun _ => rfl) (by decide) (by decide) (Nat.le_of_ble_eq_true rfl) (Nat.le_of_ble_eq_true rfl) (Nat.le_of_ble_eq_true rfl) dX18_init_229 (fun a sh n z_216 k_217 H_218 hf hax hk hnn hP hD hS => ?_)
  refine W.eq (g2 := F0 m 231 ls [.ref (a k_217), .ref (a h0)]) (by rw [hax h0 (okN_at g_215)]) ?_
  replace hl : lv_has ls 3 [(0, .ref (a h0)), (1, .int x0)] := by rw [hax h0 (okN_at g_215)]; exact hl
  replace hag := hag_new hag hax hnn
  clear hax hnn
  refine W.widen (k := 56) (n := 325029) (Nat.le_of_ble_eq_true rfl) (Nat.le_of_ble_eq_true rfl) ?_
  obtain ⟨g_219, hf⟩ := grd_some hf
  obtain ⟨g_220, hf⟩ := grd_some hf
  obtain ⟨kg_220, sg_220⟩ := okO_at g_220
  refine va_putF (D := (dC, dI)) (ci := 18) (v := .ref (a k_217)) (ty := .array .int) (C := RX18) (T := TX18) (N := 78) hx hb hts iwd_X18_init_X18 tyX18 tyX18_ok nmX18 hown hK hP hD hS h0 (Wd_ob kg_220 sg_220 (by decide)) rfl 39 (by decide) (hts _ md_X18_init_48) (fun _ h9 => h9) rfl hin rfl (by decide +kernel) rfl rfl (by rw [fl_len]; decide) dX18_init_231 (fun H_221 locs hP2 hD2 hS2 => ?_)
  rw [Wd_sq1 sg_220 (by decide) rfl] at hP2 hD2
  obtain ⟨z_222, ez_222⟩ : ∃ w, w = sq z_216 h0 39 (some k_217) := ⟨_, rfl⟩
  rw [← ez_222] at hP2 hD2
  replace hf := lt_at ez_222 hf
  replace hk : lk z_222 n := by rw [ez_222]; exact lk_sq1 hk (okN_at g_219)
  clear ez_222
  replace hP := hP2
  replace hD := hD2
  replace hS := hS2
  clear hP2 hD2 hS2
  refine lv_aload_n hx hb dX18_init_234 rfl (lv_at hl 0 rfl) ?_
  refine lv_bipush (v := 32) hx hb dX18_init_235 (by decide) ?_
  obtain ⟨g_223, hf⟩ := grd_some hf
  refine de_newa (atype := .int) (ty := .int) (t := 1) (N := 32) (a0 := (32, .inl (fun _ => 0))) hf hk hx hb (hts _ md_X18_init_10) rfl hK hP hD hS hA rfl rfl (fun _ => rfl) (by decide) (by decide) (Nat.le_of_ble_eq_true rfl) (Nat.le_of_ble_eq_true rfl) (Nat.le_of_ble_eq_true rfl) dX18_init_237 (fun a sh n z_224 k_225 H_226 hf hax hk hnn hP hD hS => ?_)
  refine W.eq (g2 := F0 m 239 ls [.ref (a k_225), .ref (a h0)]) (by rw [hax h0 (okN_at g_223)]) ?_
  replace hl : lv_has ls 3 [(0, .ref (a h0)), (1, .int x0)] := by rw [hax h0 (okN_at g_223)]; exact hl
  replace hag := hag_new hag hax hnn
  clear hax hnn
  refine W.widen (k := 57) (n := 325061) (Nat.le_of_ble_eq_true rfl) (Nat.le_of_ble_eq_true rfl) ?_
  obtain ⟨g_227, hf⟩ := grd_some hf
  obtain ⟨g_228, hf⟩ := grd_some hf
  obtain ⟨kg_228, sg_228⟩ := okO_at g_228
  refine va_putF (D := (dC, dI)) (ci := 18) (v := .ref (a k_225)) (ty := .array .int) (C := RX18) (T := TX18) (N := 78) hx hb hts iwd_X18_init_X18 tyX18 tyX18_ok nmX18 hown hK hP hD hS h0 (Wd_ob kg_228 sg_228 (by decide)) rfl 40 (by decide) (hts _ md_X18_init_49) (fun _ h9 => h9) rfl hin rfl (by decide +kernel) rfl rfl (by rw [fl_len]; decide) dX18_init_239 (fun H_229 locs hP2 hD2 hS2 => ?_)
  rw [Wd_sq1 sg_228 (by decide) rfl] at hP2 hD2
  obtain ⟨z_230, ez_230⟩ : ∃ w, w = sq z_224 h0 40 (some k_225) := ⟨_, rfl⟩
  rw [← ez_230] at hP2 hD2
  replace hf := lt_at ez_230 hf
  replace hk : lk z_230 n := by rw [ez_230]; exact lk_sq1 hk (okN_at g_227)
  clear ez_230
  replace hP := hP2
  replace hD := hD2
  replace hS := hS2
  clear hP2 hD2 hS2
  refine lv_aload_n hx hb dX18_init_242 rfl (lv_at hl 0 rfl) ?_
  refine lv_sipush (v := 1280) hx hb dX18_init_243 (by decide) ?_
  obtain ⟨g_231, hf⟩ := grd_some hf
  refine de_newa (atype := .int) (ty := .int) (t := 1) (N := 1280) (a0 := (1280, .inl (fun _ => 0))) hf hk hx hb (hts _ md_X18_init_10) rfl hK hP hD hS hA rfl rfl (fun _ => rfl) (by decide) (by decide) (Nat.le_of_ble_eq_true rfl) (Nat.le_of_ble_eq_true rfl) (Nat.le_of_ble_eq_true rfl) dX18_init_246 (fun a sh n z_232 k_233 H_234 hf hax hk hnn hP hD hS => ?_)
  refine W.eq (g2 := F0 m 248 ls [.ref (a k_233), .ref (a h0)]) (by rw [hax h0 (okN_at g_231)]) ?_
  replace hl : lv_has ls 3 [(0, .ref (a h0)), (1, .int x0)] := by rw [hax h0 (okN_at g_231)]; exact hl
  replace hag := hag_new hag hax hnn
  clear hax hnn
  refine W.widen (k := 58) (n := 326341) (Nat.le_of_ble_eq_true rfl) (Nat.le_of_ble_eq_true rfl) ?_
  obtain ⟨g_235, hf⟩ := grd_some hf
  obtain ⟨g_236, hf⟩ := grd_some hf
  obtain ⟨kg_236, sg_236⟩ := okO_at g_236
  refine va_putF (D := (dC, dI)) (ci := 18) (v := .ref (a k_233)) (ty := .array .int) (C := RX18) (T := TX18) (N := 78) hx hb hts iwd_X18_init_X18 tyX18 tyX18_ok nmX18 hown hK hP hD hS h0 (Wd_ob kg_236 sg_236 (by decide)) rfl 41 (by decide) (hts _ md_X18_init_50) (fun _ h9 => h9) rfl hin rfl (by decide +kernel) rfl rfl (by rw [fl_len]; decide) dX18_init_248 (fun H_237 locs hP2 hD2 hS2 => ?_)
  rw [Wd_sq1 sg_236 (by decide) rfl] at hP2 hD2
  obtain ⟨z_238, ez_238⟩ : ∃ w, w = sq z_232 h0 41 (some k_233) := ⟨_, rfl⟩
  rw [← ez_238] at hP2 hD2
  replace hf := lt_at ez_238 hf
  replace hk : lk z_238 n := by rw [ez_238]; exact lk_sq1 hk (okN_at g_235)
  clear ez_238
  replace hP := hP2
  replace hD := hD2
  replace hS := hS2
  clear hP2 hD2 hS2
  refine lv_aload_n hx hb dX18_init_251 rfl (lv_at hl 0 rfl) ?_
  refine lv_sipush (v := 1280) hx hb dX18_init_252 (by decide) ?_
  obtain ⟨g_239, hf⟩ := grd_some hf
  refine de_newa (atype := .boolean) (ty := .boolean) (t := 3) (N := 1280) (a0 := (1280, .inl (fun _ => 0))) hf hk hx hb (hts _ md_X18_init_44) rfl hK hP hD hS hA rfl rfl (fun _ => rfl) (by decide) (by decide) (Nat.le_of_ble_eq_true rfl) (Nat.le_of_ble_eq_true rfl) (Nat.le_of_ble_eq_true rfl) dX18_init_255 (fun a sh n z_240 k_241 H_242 hf hax hk hnn hP hD hS => ?_)
  refine W.eq (g2 := F0 m 257 ls [.ref (a k_241), .ref (a h0)]) (by rw [hax h0 (okN_at g_239)]) ?_
  replace hl : lv_has ls 3 [(0, .ref (a h0)), (1, .int x0)] := by rw [hax h0 (okN_at g_239)]; exact hl
  replace hag := hag_new hag hax hnn
  clear hax hnn
  refine W.widen (k := 59) (n := 327621) (Nat.le_of_ble_eq_true rfl) (Nat.le_of_ble_eq_true rfl) ?_
  obtain ⟨g_243, hf⟩ := grd_some hf
  obtain ⟨g_244, hf⟩ := grd_some hf
  obtain ⟨kg_244, sg_244⟩ := okO_at g_244
  refine va_putF (D := (dC, dI)) (ci := 18) (v := .ref (a k_241)) (ty := .array .boolean) (C := RX18) (T := TX18) (N := 78) hx hb hts iwd_X18_init_X18 tyX18 tyX18_ok nmX18 hown hK hP hD hS h0 (Wd_ob kg_244 sg_244 (by decide)) rfl 42 (by decide) (hts _ md_X18_init_51) (fun _ h9 => h9) rfl hin rfl (by decide +kernel) rfl rfl (by rw [fl_len]; decide) dX18_init_257 (fun H_245 locs hP2 hD2 hS2 => ?_)
  rw [Wd_sq1 sg_244 (by decide) rfl] at hP2 hD2
  obtain ⟨z_246, ez_246⟩ : ∃ w, w = sq z_240 h0 42 (some k_241) := ⟨_, rfl⟩
  rw [← ez_246] at hP2 hD2
  replace hf := lt_at ez_246 hf
  replace hk : lk z_246 n := by rw [ez_246]; exact lk_sq1 hk (okN_at g_243)
  clear ez_246
  replace hP := hP2
  replace hD := hD2
  replace hS := hS2
  clear hP2 hD2 hS2
  refine lv_aload_n hx hb dX18_init_260 rfl (lv_at hl 0 rfl) ?_
  refine lv_sipush (v := 2200) hx hb dX18_init_261 (by decide) ?_
  obtain ⟨g_247, hf⟩ := grd_some hf
  refine de_newa (atype := .int) (ty := .int) (t := 1) (N := 2200) (a0 := (2200, .inl (fun _ => 0))) hf hk hx hb (hts _ md_X18_init_10) rfl hK hP hD hS hA rfl rfl (fun _ => rfl) (by decide) (by decide) (Nat.le_of_ble_eq_true rfl) (Nat.le_of_ble_eq_true rfl) (Nat.le_of_ble_eq_true rfl) dX18_init_264 (fun a sh n z_248 k_249 H_250 hf hax hk hnn hP hD hS => ?_)
  refine W.eq (g2 := F0 m 266 ls [.ref (a k_249), .ref (a h0)]) (by rw [hax h0 (okN_at g_247)]) ?_
  replace hl : lv_has ls 3 [(0, .ref (a h0)), (1, .int x0)] := by rw [hax h0 (okN_at g_247)]; exact hl
  replace hag := hag_new hag hax hnn
  clear hax hnn
  refine W.widen (k := 60) (n := 329821) (Nat.le_of_ble_eq_true rfl) (Nat.le_of_ble_eq_true rfl) ?_
  obtain ⟨g_251, hf⟩ := grd_some hf
  obtain ⟨g_252, hf⟩ := grd_some hf
  obtain ⟨kg_252, sg_252⟩ := okO_at g_252
  refine va_putF (D := (dC, dI)) (ci := 18) (v := .ref (a k_249)) (ty := .array .int) (C := RX18) (T := TX18) (N := 78) hx hb hts iwd_X18_init_X18 tyX18 tyX18_ok nmX18 hown hK hP hD hS h0 (Wd_ob kg_252 sg_252 (by decide)) rfl 43 (by decide) (hts _ md_X18_init_52) (fun _ h9 => h9) rfl hin rfl (by decide +kernel) rfl rfl (by rw [fl_len]; decide) dX18_init_266 (fun H_253 locs hP2 hD2 hS2 => ?_)
  rw [Wd_sq1 sg_252 (by decide) rfl] at hP2 hD2
  obtain ⟨z_254, ez_254⟩ : ∃ w, w = sq z_248 h0 43 (some k_249) := ⟨_, rfl⟩
  rw [← ez_254] at hP2 hD2
  replace hf := lt_at ez_254 hf
  replace hk : lk z_254 n := by rw [ez_254]; exact lk_sq1 hk (okN_at g_251)
  clear ez_254
  replace hP := hP2
  replace hD := hD2
  replace hS := hS2
  clear hP2 hD2 hS2
  refine lv_aload_n hx hb dX18_init_269 rfl (lv_at hl 0 rfl) ?_
  refine lv_sipush (v := 2200) hx hb dX18_init_270 (by decide) ?_
  obtain ⟨g_255, hf⟩ := grd_some hf
  refine de_newa (atype := .boolean) (ty := .boolean) (t := 3) (N := 2200) (a0 := (2200, .inl (fun _ => 0))) hf hk hx hb (hts _ md_X18_init_44) rfl hK hP hD hS hA rfl rfl (fun _ => rfl) (by decide) (by decide) (Nat.le_of_ble_eq_true rfl) (Nat.le_of_ble_eq_true rfl) (Nat.le_of_ble_eq_true rfl) dX18_init_273 (fun a sh n z_256 k_257 H_258 hf hax hk hnn hP hD hS => ?_)
  refine W.eq (g2 := F0 m 275 ls [.ref (a k_257), .ref (a h0)]) (by rw [hax h0 (okN_at g_255)]) ?_
  replace hl : lv_has ls 3 [(0, .ref (a h0)), (1, .int x0)] := by rw [hax h0 (okN_at g_255)]; exact hl
  replace hag := hag_new hag hax hnn
  clear hax hnn
  refine W.widen (k := 61) (n := 332021) (Nat.le_of_ble_eq_true rfl) (Nat.le_of_ble_eq_true rfl) ?_
  obtain ⟨g_259, hf⟩ := grd_some hf
  obtain ⟨g_260, hf⟩ := grd_some hf
  obtain ⟨kg_260, sg_260⟩ := okO_at g_260
  refine va_putF (D := (dC, dI)) (ci := 18) (v := .ref (a k_257)) (ty := .array .boolean) (C := RX18) (T := TX18) (N := 78) hx hb hts iwd_X18_init_X18 tyX18 tyX18_ok nmX18 hown hK hP hD hS h0 (Wd_ob kg_260 sg_260 (by decide)) rfl 44 (by decide) (hts _ md_X18_init_53) (fun _ h9 => h9) rfl hin rfl (by decide +kernel) rfl rfl (by rw [fl_len]; decide) dX18_init_275 (fun H_261 locs hP2 hD2 hS2 => ?_)
  rw [Wd_sq1 sg_260 (by decide) rfl] at hP2 hD2
  obtain ⟨z_262, ez_262⟩ : ∃ w, w = sq z_256 h0 44 (some k_257) := ⟨_, rfl⟩
  rw [← ez_262] at hP2 hD2
  replace hf := lt_at ez_262 hf
  replace hk : lk z_262 n := by rw [ez_262]; exact lk_sq1 hk (okN_at g_259)
  clear ez_262
  replace hP := hP2
  replace hD := hD2
  replace hS := hS2
  clear hP2 hD2 hS2
  refine lv_aload_n hx hb dX18_init_278 rfl (lv_at hl 0 rfl) ?_
  refine lv_sipush (v := 2048) hx hb dX18_init_279 (by decide) ?_
  obtain ⟨g_263, hf⟩ := grd_some hf
  refine de_newa (atype := .byte) (ty := .byte) (t := 0) (N := 2048) (a0 := (2048, .inl (fun _ => 0))) hf hk hx hb (hts _ md_X18_init_14) rfl hK hP hD hS hA rfl rfl (fun _ => rfl) (by decide) (by decide) (Nat.le_of_ble_eq_true rfl) (Nat.le_of_ble_eq_true rfl) (Nat.le_of_ble_eq_true rfl) dX18_init_282 (fun a sh n z_264 k_265 H_266 hf hax hk hnn hP hD hS => ?_)
  refine W.eq (g2 := F0 m 284 ls [.ref (a k_265), .ref (a h0)]) (by rw [hax h0 (okN_at g_263)]) ?_
  replace hl : lv_has ls 3 [(0, .ref (a h0)), (1, .int x0)] := by rw [hax h0 (okN_at g_263)]; exact hl
  replace hag := hag_new hag hax hnn
  clear hax hnn
  refine W.widen (k := 62) (n := 334069) (Nat.le_of_ble_eq_true rfl) (Nat.le_of_ble_eq_true rfl) ?_
  obtain ⟨g_267, hf⟩ := grd_some hf
  obtain ⟨g_268, hf⟩ := grd_some hf
  obtain ⟨kg_268, sg_268⟩ := okO_at g_268
  refine va_putF (D := (dC, dI)) (ci := 18) (v := .ref (a k_265)) (ty := .array .byte) (C := RX18) (T := TX18) (N := 78) hx hb hts iwd_X18_init_X18 tyX18 tyX18_ok nmX18 hown hK hP hD hS h0 (Wd_ob kg_268 sg_268 (by decide)) rfl 49 (by decide) (hts _ md_X18_init_54) (fun _ h9 => h9) rfl hin rfl (by decide +kernel) rfl rfl (by rw [fl_len]; decide) dX18_init_284 (fun H_269 locs hP2 hD2 hS2 => ?_)
  rw [Wd_sq1 sg_268 (by decide) rfl] at hP2 hD2
  obtain ⟨z_270, ez_270⟩ : ∃ w, w = sq z_264 h0 49 (some k_265) := ⟨_, rfl⟩
  rw [← ez_270] at hP2 hD2
  replace hf := lt_at ez_270 hf
  replace hk : lk z_270 n := by rw [ez_270]; exact lk_sq1 hk (okN_at g_267)
  clear ez_270
  replace hP := hP2
  replace hD := hD2
  replace hS := hS2
  clear hP2 hD2 hS2
  refine lv_aload_n hx hb dX18_init_287 rfl (lv_at hl 0 rfl) ?_
  refine lv_bipush (v := 32) hx hb dX18_init_288 (by decide) ?_
  obtain ⟨g_271, hf⟩ := grd_some hf
  refine de_newa (atype := .int) (ty := .int) (t := 1) (N := 32) (a0 := (32, .inl (fun _ => 0))) hf hk hx hb (hts _ md_X18_init_10) rfl hK hP hD hS hA rfl rfl (fun _ => rfl) (by decide) (by decide) (Nat.le_of_ble_eq_true rfl) (Nat.le_of_ble_eq_true rfl) (Nat.le_of_ble_eq_true rfl) dX18_init_290 (fun a sh n z_272 k_273 H_274 hf hax hk hnn hP hD hS => ?_)
  refine W.eq (g2 := F0 m 292 ls [.ref (a k_273), .ref (a h0)]) (by rw [hax h0 (okN_at g_271)]) ?_
  replace hl : lv_has ls 3 [(0, .ref (a h0)), (1, .int x0)] := by rw [hax h0 (okN_at g_271)]; exact hl
  replace hag := hag_new hag hax hnn
  clear hax hnn
  refine W.widen (k := 63) (n := 334101) (Nat.le_of_ble_eq_true rfl) (Nat.le_of_ble_eq_true rfl) ?_
  obtain ⟨g_275, hf⟩ := grd_some hf
  obtain ⟨g_276, hf⟩ := grd_some hf
  obtain ⟨kg_276, sg_276⟩ := okO_at g_276
  refine va_putF (D := (dC, dI)) (ci := 18) (v := .ref (a k_273)) (ty := .array .int) (C := RX18) (T := TX18) (N := 78) hx hb hts iwd_X18_init_X18 tyX18 tyX18_ok nmX18 hown hK hP hD hS h0 (Wd_ob kg_276 sg_276 (by decide)) rfl 54 (by decide) (hts _ md_X18_init_55) (fun _ h9 => h9) rfl hin rfl (by decide +kernel) rfl rfl (by rw [fl_len]; decide) dX18_init_292 (fun H_277 locs hP2 hD2 hS2 => ?_)
  rw [Wd_sq1 sg_276 (by decide) rfl] at hP2 hD2
  obtain ⟨z_278, ez_278⟩ : ∃ w, w = sq z_272 h0 54 (some k_273) := ⟨_, rfl⟩
  rw [← ez_278] at hP2 hD2
  replace hf := lt_at ez_278 hf
  replace hk : lk z_278 n := by rw [ez_278]; exact lk_sq1 hk (okN_at g_275)
  clear ez_278
  replace hP := hP2
  replace hD := hD2
  replace hS := hS2
  clear hP2 hD2 hS2
  refine lv_aload_n hx hb dX18_init_295 rfl (lv_at hl 0 rfl) ?_
  refine lv_bipush (v := 32) hx hb dX18_init_296 (by decide) ?_
  obtain ⟨g_279, hf⟩ := grd_some hf
  refine de_newa (atype := .long) (ty := .long) (t := 2) (N := 32) (a0 := (32, .inr (.inl (fun _ => 0)))) hf hk hx hb (hts _ md_X18_init_4) rfl hK hP hD hS hA rfl rfl (fun _ => rfl) (by decide) (by decide) (Nat.le_of_ble_eq_true rfl) (Nat.le_of_ble_eq_true rfl) (Nat.le_of_ble_eq_true rfl) dX18_init_298 (fun a sh n z_280 k_281 H_282 hf hax hk hnn hP hD hS => ?_)
  refine W.eq (g2 := F0 m 300 ls [.ref (a k_281), .ref (a h0)]) (by rw [hax h0 (okN_at g_279)]) ?_
  replace hl : lv_has ls 3 [(0, .ref (a h0)), (1, .int x0)] := by rw [hax h0 (okN_at g_279)]; exact hl
  replace hag := hag_new hag hax hnn
  clear hax hnn
  refine W.widen (k := 64) (n := 334133) (Nat.le_of_ble_eq_true rfl) (Nat.le_of_ble_eq_true rfl) ?_
  obtain ⟨g_283, hf⟩ := grd_some hf
  obtain ⟨g_284, hf⟩ := grd_some hf
  obtain ⟨kg_284, sg_284⟩ := okO_at g_284
  refine va_putF (D := (dC, dI)) (ci := 18) (v := .ref (a k_281)) (ty := .array .long) (C := RX18) (T := TX18) (N := 78) hx hb hts iwd_X18_init_X18 tyX18 tyX18_ok nmX18 hown hK hP hD hS h0 (Wd_ob kg_284 sg_284 (by decide)) rfl 55 (by decide) (hts _ md_X18_init_56) (fun _ h9 => h9) rfl hin rfl (by decide +kernel) rfl rfl (by rw [fl_len]; decide) dX18_init_300 (fun H_285 locs hP2 hD2 hS2 => ?_)
  rw [Wd_sq1 sg_284 (by decide) rfl] at hP2 hD2
  obtain ⟨z_286, ez_286⟩ : ∃ w, w = sq z_280 h0 55 (some k_281) := ⟨_, rfl⟩
  rw [← ez_286] at hP2 hD2
  replace hf := lt_at ez_286 hf
  replace hk : lk z_286 n := by rw [ez_286]; exact lk_sq1 hk (okN_at g_283)
  clear ez_286
  replace hP := hP2
  replace hD := hD2
  replace hS := hS2
  clear hP2 hD2 hS2
  refine lv_aload_n hx hb dX18_init_303 rfl (lv_at hl 0 rfl) ?_
  refine lv_bipush (v := 32) hx hb dX18_init_304 (by decide) ?_
  obtain ⟨g_287, hf⟩ := grd_some hf
  refine de_newa (atype := .long) (ty := .long) (t := 2) (N := 32) (a0 := (32, .inr (.inl (fun _ => 0)))) hf hk hx hb (hts _ md_X18_init_4) rfl hK hP hD hS hA rfl rfl (fun _ => rfl) (by decide) (by decide) (Nat.le_of_ble_eq_true rfl) (Nat.le_of_ble_eq_true rfl) (Nat.le_of_ble_eq_true rfl) dX18_init_306 (fun a sh n z_288 k_289 H_290 hf hax hk hnn hP hD hS => ?_)
  refine W.eq (g2 := F0 m 308 ls [.ref (a k_289), .ref (a h0)]) (by rw [hax h0 (okN_at g_287)]) ?_
  replace hl : lv_has ls 3 [(0, .ref (a h0)), (1, .int x0)] := by rw [hax h0 (okN_at g_287)]; exact hl
  replace hag := hag_new hag hax hnn
  clear hax hnn
  refine W.widen (k := 65) (n := 334165) (Nat.le_of_ble_eq_true rfl) (Nat.le_of_ble_eq_true rfl) ?_
  obtain ⟨g_291, hf⟩ := grd_some hf
  obtain ⟨g_292, hf⟩ := grd_some hf
  obtain ⟨kg_292, sg_292⟩ := okO_at g_292
  refine va_putF (D := (dC, dI)) (ci := 18) (v := .ref (a k_289)) (ty := .array .long) (C := RX18) (T := TX18) (N := 78) hx hb hts iwd_X18_init_X18 tyX18 tyX18_ok nmX18 hown hK hP hD hS h0 (Wd_ob kg_292 sg_292 (by decide)) rfl 56 (by decide) (hts _ md_X18_init_57) (fun _ h9 => h9) rfl hin rfl (by decide +kernel) rfl rfl (by rw [fl_len]; decide) dX18_init_308 (fun H_293 locs hP2 hD2 hS2 => ?_)
  rw [Wd_sq1 sg_292 (by decide) rfl] at hP2 hD2
  obtain ⟨z_294, ez_294⟩ : ∃ w, w = sq z_288 h0 56 (some k_289) := ⟨_, rfl⟩
  rw [← ez_294] at hP2 hD2
  replace hf := lt_at ez_294 hf
  replace hk : lk z_294 n := by rw [ez_294]; exact lk_sq1 hk (okN_at g_291)
  clear ez_294
  replace hP := hP2
  replace hD := hD2
  replace hS := hS2
  clear hP2 hD2 hS2
  refine lv_aload_n hx hb dX18_init_311 rfl (lv_at hl 0 rfl) ?_
  refine lv_bipush (v := 32) hx hb dX18_init_312 (by decide) ?_
  obtain ⟨g_295, hf⟩ := grd_some hf
  refine de_newa (atype := .int) (ty := .int) (t := 1) (N := 32) (a0 := (32, .inl (fun _ => 0))) hf hk hx hb (hts _ md_X18_init_10) rfl hK hP hD hS hA rfl rfl (fun _ => rfl) (by decide) (by decide) (Nat.le_of_ble_eq_true rfl) (Nat.le_of_ble_eq_true rfl) (Nat.le_of_ble_eq_true rfl) dX18_init_314 (fun a sh n z_296 k_297 H_298 hf hax hk hnn hP hD hS => ?_)
  refine W.eq (g2 := F0 m 316 ls [.ref (a k_297), .ref (a h0)]) (by rw [hax h0 (okN_at g_295)]) ?_
  replace hl : lv_has ls 3 [(0, .ref (a h0)), (1, .int x0)] := by rw [hax h0 (okN_at g_295)]; exact hl
  replace hag := hag_new hag hax hnn
  clear hax hnn
  refine W.widen (k := 66) (n := 334197) (Nat.le_of_ble_eq_true rfl) (Nat.le_of_ble_eq_true rfl) ?_
  obtain ⟨g_299, hf⟩ := grd_some hf
  obtain ⟨g_300, hf⟩ := grd_some hf
  obtain ⟨kg_300, sg_300⟩ := okO_at g_300
  refine va_putF (D := (dC, dI)) (ci := 18) (v := .ref (a k_297)) (ty := .array .int) (C := RX18) (T := TX18) (N := 78) hx hb hts iwd_X18_init_X18 tyX18 tyX18_ok nmX18 hown hK hP hD hS h0 (Wd_ob kg_300 sg_300 (by decide)) rfl 57 (by decide) (hts _ md_X18_init_58) (fun _ h9 => h9) rfl hin rfl (by decide +kernel) rfl rfl (by rw [fl_len]; decide) dX18_init_316 (fun H_301 locs hP2 hD2 hS2 => ?_)
  rw [Wd_sq1 sg_300 (by decide) rfl] at hP2 hD2
  obtain ⟨z_302, ez_302⟩ : ∃ w, w = sq z_296 h0 57 (some k_297) := ⟨_, rfl⟩
  rw [← ez_302] at hP2 hD2
  replace hf := lt_at ez_302 hf
  replace hk : lk z_302 n := by rw [ez_302]; exact lk_sq1 hk (okN_at g_299)
  clear ez_302
  replace hP := hP2
  replace hD := hD2
  replace hS := hS2
  clear hP2 hD2 hS2
  refine lv_aload_n hx hb dX18_init_319 rfl (lv_at hl 0 rfl) ?_
  refine lv_bipush (v := 32) hx hb dX18_init_320 (by decide) ?_
  obtain ⟨g_303, hf⟩ := grd_some hf
  refine de_newa (atype := .int) (ty := .int) (t := 1) (N := 32) (a0 := (32, .inl (fun _ => 0))) hf hk hx hb (hts _ md_X18_init_10) rfl hK hP hD hS hA rfl rfl (fun _ => rfl) (by decide) (by decide) (Nat.le_of_ble_eq_true rfl) (Nat.le_of_ble_eq_true rfl) (Nat.le_of_ble_eq_true rfl) dX18_init_322 (fun a sh n z_304 k_305 H_306 hf hax hk hnn hP hD hS => ?_)
  refine W.eq (g2 := F0 m 324 ls [.ref (a k_305), .ref (a h0)]) (by rw [hax h0 (okN_at g_303)]) ?_
  replace hl : lv_has ls 3 [(0, .ref (a h0)), (1, .int x0)] := by rw [hax h0 (okN_at g_303)]; exact hl
  replace hag := hag_new hag hax hnn
  clear hax hnn
  refine W.widen (k := 67) (n := 334229) (Nat.le_of_ble_eq_true rfl) (Nat.le_of_ble_eq_true rfl) ?_
  obtain ⟨g_307, hf⟩ := grd_some hf
  obtain ⟨g_308, hf⟩ := grd_some hf
  obtain ⟨kg_308, sg_308⟩ := okO_at g_308
  refine va_putF (D := (dC, dI)) (ci := 18) (v := .ref (a k_305)) (ty := .array .int) (C := RX18) (T := TX18) (N := 78) hx hb hts iwd_X18_init_X18 tyX18 tyX18_ok nmX18 hown hK hP hD hS h0 (Wd_ob kg_308 sg_308 (by decide)) rfl 58 (by decide) (hts _ md_X18_init_59) (fun _ h9 => h9) rfl hin rfl (by decide +kernel) rfl rfl (by rw [fl_len]; decide) dX18_init_324 (fun H_309 locs hP2 hD2 hS2 => ?_)
  rw [Wd_sq1 sg_308 (by decide) rfl] at hP2 hD2
  obtain ⟨z_310, ez_310⟩ : ∃ w, w = sq z_304 h0 58 (some k_305) := ⟨_, rfl⟩
  rw [← ez_310] at hP2 hD2
  replace hf := lt_at ez_310 hf
  replace hk : lk z_310 n := by rw [ez_310]; exact lk_sq1 hk (okN_at g_307)
  clear ez_310
  replace hP := hP2
  replace hD := hD2
  replace hS := hS2
  clear hP2 hD2 hS2
  refine lv_aload_n hx hb dX18_init_327 rfl (lv_at hl 0 rfl) ?_
  refine lv_bipush (v := 32) hx hb dX18_init_328 (by decide) ?_
  obtain ⟨g_311, hf⟩ := grd_some hf
  refine de_newa (atype := .int) (ty := .int) (t := 1) (N := 32) (a0 := (32, .inl (fun _ => 0))) hf hk hx hb (hts _ md_X18_init_10) rfl hK hP hD hS hA rfl rfl (fun _ => rfl) (by decide) (by decide) (Nat.le_of_ble_eq_true rfl) (Nat.le_of_ble_eq_true rfl) (Nat.le_of_ble_eq_true rfl) dX18_init_330 (fun a sh n z_312 k_313 H_314 hf hax hk hnn hP hD hS => ?_)
  refine W.eq (g2 := F0 m 332 ls [.ref (a k_313), .ref (a h0)]) (by rw [hax h0 (okN_at g_311)]) ?_
  replace hl : lv_has ls 3 [(0, .ref (a h0)), (1, .int x0)] := by rw [hax h0 (okN_at g_311)]; exact hl
  replace hag := hag_new hag hax hnn
  clear hax hnn
  refine W.widen (k := 68) (n := 334261) (Nat.le_of_ble_eq_true rfl) (Nat.le_of_ble_eq_true rfl) ?_
  obtain ⟨g_315, hf⟩ := grd_some hf
  obtain ⟨g_316, hf⟩ := grd_some hf
  obtain ⟨kg_316, sg_316⟩ := okO_at g_316
  refine va_putF (D := (dC, dI)) (ci := 18) (v := .ref (a k_313)) (ty := .array .int) (C := RX18) (T := TX18) (N := 78) hx hb hts iwd_X18_init_X18 tyX18 tyX18_ok nmX18 hown hK hP hD hS h0 (Wd_ob kg_316 sg_316 (by decide)) rfl 59 (by decide) (hts _ md_X18_init_60) (fun _ h9 => h9) rfl hin rfl (by decide +kernel) rfl rfl (by rw [fl_len]; decide) dX18_init_332 (fun H_317 locs hP2 hD2 hS2 => ?_)
  rw [Wd_sq1 sg_316 (by decide) rfl] at hP2 hD2
  obtain ⟨z_318, ez_318⟩ : ∃ w, w = sq z_312 h0 59 (some k_313) := ⟨_, rfl⟩
  rw [← ez_318] at hP2 hD2
  replace hf := lt_at ez_318 hf
  replace hk : lk z_318 n := by rw [ez_318]; exact lk_sq1 hk (okN_at g_315)
  clear ez_318
  replace hP := hP2
  replace hD := hD2
  replace hS := hS2
  clear hP2 hD2 hS2
  refine lv_aload_n hx hb dX18_init_335 rfl (lv_at hl 0 rfl) ?_
  refine lv_bipush (v := 32) hx hb dX18_init_336 (by decide) ?_
  obtain ⟨g_319, hf⟩ := grd_some hf
  refine de_newa (atype := .int) (ty := .int) (t := 1) (N := 32) (a0 := (32, .inl (fun _ => 0))) hf hk hx hb (hts _ md_X18_init_10) rfl hK hP hD hS hA rfl rfl (fun _ => rfl) (by decide) (by decide) (Nat.le_of_ble_eq_true rfl) (Nat.le_of_ble_eq_true rfl) (Nat.le_of_ble_eq_true rfl) dX18_init_338 (fun a sh n z_320 k_321 H_322 hf hax hk hnn hP hD hS => ?_)
  refine W.eq (g2 := F0 m 340 ls [.ref (a k_321), .ref (a h0)]) (by rw [hax h0 (okN_at g_319)]) ?_
  replace hl : lv_has ls 3 [(0, .ref (a h0)), (1, .int x0)] := by rw [hax h0 (okN_at g_319)]; exact hl
  replace hag := hag_new hag hax hnn
  clear hax hnn
  refine W.widen (k := 69) (n := 334293) (Nat.le_of_ble_eq_true rfl) (Nat.le_of_ble_eq_true rfl) ?_
  obtain ⟨g_323, hf⟩ := grd_some hf
  obtain ⟨g_324, hf⟩ := grd_some hf
  obtain ⟨kg_324, sg_324⟩ := okO_at g_324
  refine va_putF (D := (dC, dI)) (ci := 18) (v := .ref (a k_321)) (ty := .array .int) (C := RX18) (T := TX18) (N := 78) hx hb hts iwd_X18_init_X18 tyX18 tyX18_ok nmX18 hown hK hP hD hS h0 (Wd_ob kg_324 sg_324 (by decide)) rfl 60 (by decide) (hts _ md_X18_init_61) (fun _ h9 => h9) rfl hin rfl (by decide +kernel) rfl rfl (by rw [fl_len]; decide) dX18_init_340 (fun H_325 locs hP2 hD2 hS2 => ?_)
  rw [Wd_sq1 sg_324 (by decide) rfl] at hP2 hD2
  obtain ⟨z_326, ez_326⟩ : ∃ w, w = sq z_320 h0 60 (some k_321) := ⟨_, rfl⟩
  rw [← ez_326] at hP2 hD2
  replace hf := lt_at ez_326 hf
  replace hk : lk z_326 n := by rw [ez_326]; exact lk_sq1 hk (okN_at g_323)
  clear ez_326
  replace hP := hP2
  replace hD := hD2
  replace hS := hS2
  clear hP2 hD2 hS2
  refine lv_aload_n hx hb dX18_init_343 rfl (lv_at hl 0 rfl) ?_
  refine lv_sipush (v := 256) hx hb dX18_init_344 (by decide) ?_
  obtain ⟨g_327, hf⟩ := grd_some hf
  refine de_newa (atype := .byte) (ty := .byte) (t := 0) (N := 256) (a0 := (256, .inl (fun _ => 0))) hf hk hx hb (hts _ md_X18_init_14) rfl hK hP hD hS hA rfl rfl (fun _ => rfl) (by decide) (by decide) (Nat.le_of_ble_eq_true rfl) (Nat.le_of_ble_eq_true rfl) (Nat.le_of_ble_eq_true rfl) dX18_init_347 (fun a sh n z_328 k_329 H_330 hf hax hk hnn hP hD hS => ?_)
  refine W.eq (g2 := F0 m 349 ls [.ref (a k_329), .ref (a h0)]) (by rw [hax h0 (okN_at g_327)]) ?_
  replace hl : lv_has ls 3 [(0, .ref (a h0)), (1, .int x0)] := by rw [hax h0 (okN_at g_327)]; exact hl
  replace hag := hag_new hag hax hnn
  clear hax hnn
  refine W.widen (k := 70) (n := 334549) (Nat.le_of_ble_eq_true rfl) (Nat.le_of_ble_eq_true rfl) ?_
  obtain ⟨g_331, hf⟩ := grd_some hf
  obtain ⟨g_332, hf⟩ := grd_some hf
  obtain ⟨kg_332, sg_332⟩ := okO_at g_332
  refine va_putF (D := (dC, dI)) (ci := 18) (v := .ref (a k_329)) (ty := .array .byte) (C := RX18) (T := TX18) (N := 78) hx hb hts iwd_X18_init_X18 tyX18 tyX18_ok nmX18 hown hK hP hD hS h0 (Wd_ob kg_332 sg_332 (by decide)) rfl 61 (by decide) (hts _ md_X18_init_62) (fun _ h9 => h9) rfl hin rfl (by decide +kernel) rfl rfl (by rw [fl_len]; decide) dX18_init_349 (fun H_333 locs hP2 hD2 hS2 => ?_)
  rw [Wd_sq1 sg_332 (by decide) rfl] at hP2 hD2
  obtain ⟨z_334, ez_334⟩ : ∃ w, w = sq z_328 h0 61 (some k_329) := ⟨_, rfl⟩
  rw [← ez_334] at hP2 hD2
  replace hf := lt_at ez_334 hf
  replace hk : lk z_334 n := by rw [ez_334]; exact lk_sq1 hk (okN_at g_331)
  clear ez_334
  replace hP := hP2
  replace hD := hD2
  replace hS := hS2
  clear hP2 hD2 hS2
  refine lv_aload_n hx hb dX18_init_352 rfl (lv_at hl 0 rfl) ?_
  refine lv_sipush (v := 256) hx hb dX18_init_353 (by decide) ?_
  obtain ⟨g_335, hf⟩ := grd_some hf
  refine de_newa (atype := .long) (ty := .long) (t := 2) (N := 256) (a0 := (256, .inr (.inl (fun _ => 0)))) hf hk hx hb (hts _ md_X18_init_4) rfl hK hP hD hS hA rfl rfl (fun _ => rfl) (by decide) (by decide) (Nat.le_of_ble_eq_true rfl) (Nat.le_of_ble_eq_true rfl) (Nat.le_of_ble_eq_true rfl) dX18_init_356 (fun a sh n z_336 k_337 H_338 hf hax hk hnn hP hD hS => ?_)
  refine W.eq (g2 := F0 m 358 ls [.ref (a k_337), .ref (a h0)]) (by rw [hax h0 (okN_at g_335)]) ?_
  replace hl : lv_has ls 3 [(0, .ref (a h0)), (1, .int x0)] := by rw [hax h0 (okN_at g_335)]; exact hl
  replace hag := hag_new hag hax hnn
  clear hax hnn
  refine W.widen (k := 71) (n := 334805) (Nat.le_of_ble_eq_true rfl) (Nat.le_of_ble_eq_true rfl) ?_
  obtain ⟨g_339, hf⟩ := grd_some hf
  obtain ⟨g_340, hf⟩ := grd_some hf
  obtain ⟨kg_340, sg_340⟩ := okO_at g_340
  refine va_putF (D := (dC, dI)) (ci := 18) (v := .ref (a k_337)) (ty := .array .long) (C := RX18) (T := TX18) (N := 78) hx hb hts iwd_X18_init_X18 tyX18 tyX18_ok nmX18 hown hK hP hD hS h0 (Wd_ob kg_340 sg_340 (by decide)) rfl 62 (by decide) (hts _ md_X18_init_63) (fun _ h9 => h9) rfl hin rfl (by decide +kernel) rfl rfl (by rw [fl_len]; decide) dX18_init_358 (fun H_341 locs hP2 hD2 hS2 => ?_)
  rw [Wd_sq1 sg_340 (by decide) rfl] at hP2 hD2
  obtain ⟨z_342, ez_342⟩ : ∃ w, w = sq z_336 h0 62 (some k_337) := ⟨_, rfl⟩
  rw [← ez_342] at hP2 hD2
  replace hf := lt_at ez_342 hf
  replace hk : lk z_342 n := by rw [ez_342]; exact lk_sq1 hk (okN_at g_339)
  clear ez_342
  replace hP := hP2
  replace hD := hD2
  replace hS := hS2
  clear hP2 hD2 hS2
  refine lv_aload_n hx hb dX18_init_361 rfl (lv_at hl 0 rfl) ?_
  refine lv_sipush (v := 256) hx hb dX18_init_362 (by decide) ?_
  obtain ⟨g_343, hf⟩ := grd_some hf
  refine de_newa (atype := .long) (ty := .long) (t := 2) (N := 256) (a0 := (256, .inr (.inl (fun _ => 0)))) hf hk hx hb (hts _ md_X18_init_4) rfl hK hP hD hS hA rfl rfl (fun _ => rfl) (by decide) (by decide) (Nat.le_of_ble_eq_true rfl) (Nat.le_of_ble_eq_true rfl) (Nat.le_of_ble_eq_true rfl) dX18_init_365 (fun a sh n z_344 k_345 H_346 hf hax hk hnn hP hD hS => ?_)
  refine W.eq (g2 := F0 m 367 ls [.ref (a k_345), .ref (a h0)]) (by rw [hax h0 (okN_at g_343)]) ?_
  replace hl : lv_has ls 3 [(0, .ref (a h0)), (1, .int x0)] := by rw [hax h0 (okN_at g_343)]; exact hl
  replace hag := hag_new hag hax hnn
  clear hax hnn
  refine W.widen (k := 72) (n := 335061) (Nat.le_of_ble_eq_true rfl) (Nat.le_of_ble_eq_true rfl) ?_
  obtain ⟨g_347, hf⟩ := grd_some hf
  obtain ⟨g_348, hf⟩ := grd_some hf
  obtain ⟨kg_348, sg_348⟩ := okO_at g_348
  refine va_putF (D := (dC, dI)) (ci := 18) (v := .ref (a k_345)) (ty := .array .long) (C := RX18) (T := TX18) (N := 78) hx hb hts iwd_X18_init_X18 tyX18 tyX18_ok nmX18 hown hK hP hD hS h0 (Wd_ob kg_348 sg_348 (by decide)) rfl 63 (by decide) (hts _ md_X18_init_64) (fun _ h9 => h9) rfl hin rfl (by decide +kernel) rfl rfl (by rw [fl_len]; decide) dX18_init_367 (fun H_349 locs hP2 hD2 hS2 => ?_)
  rw [Wd_sq1 sg_348 (by decide) rfl] at hP2 hD2
  obtain ⟨z_350, ez_350⟩ : ∃ w, w = sq z_344 h0 63 (some k_345) := ⟨_, rfl⟩
  rw [← ez_350] at hP2 hD2
  replace hf := lt_at ez_350 hf
  replace hk : lk z_350 n := by rw [ez_350]; exact lk_sq1 hk (okN_at g_347)
  clear ez_350
  replace hP := hP2
  replace hD := hD2
  replace hS := hS2
  clear hP2 hD2 hS2
  refine lv_aload_n hx hb dX18_init_370 rfl (lv_at hl 0 rfl) ?_
  refine lv_ldcw hx hb hown (hts _ md_X18_init_65) dX18_init_371 ?_
  obtain ⟨g_351, hf⟩ := grd_some hf
  refine de_newa (atype := .byte) (ty := .byte) (t := 0) (N := 65536) (a0 := (65536, .inl (fun _ => 0))) hf hk hx hb (hts _ md_X18_init_14) rfl hK hP hD hS hA rfl rfl (fun _ => rfl) (by decide) (by decide) (Nat.le_of_ble_eq_true rfl) (Nat.le_of_ble_eq_true rfl) (Nat.le_of_ble_eq_true rfl) dX18_init_374 (fun a sh n z_352 k_353 H_354 hf hax hk hnn hP hD hS => ?_)
  refine W.eq (g2 := F0 m 376 ls [.ref (a k_353), .ref (a h0)]) (by rw [hax h0 (okN_at g_351)]) ?_
  replace hl : lv_has ls 3 [(0, .ref (a h0)), (1, .int x0)] := by rw [hax h0 (okN_at g_351)]; exact hl
  replace hag := hag_new hag hax hnn
  clear hax hnn
  refine W.widen (k := 73) (n := 400597) (Nat.le_of_ble_eq_true rfl) (Nat.le_of_ble_eq_true rfl) ?_
  obtain ⟨g_355, hf⟩ := grd_some hf
  obtain ⟨g_356, hf⟩ := grd_some hf
  obtain ⟨kg_356, sg_356⟩ := okO_at g_356
  refine va_putF (D := (dC, dI)) (ci := 18) (v := .ref (a k_353)) (ty := .array .byte) (C := RX18) (T := TX18) (N := 78) hx hb hts iwd_X18_init_X18 tyX18 tyX18_ok nmX18 hown hK hP hD hS h0 (Wd_ob kg_356 sg_356 (by decide)) rfl 64 (by decide) (hts _ md_X18_init_66) (fun _ h9 => h9) rfl hin rfl (by decide +kernel) rfl rfl (by rw [fl_len]; decide) dX18_init_376 (fun H_357 locs hP2 hD2 hS2 => ?_)
  rw [Wd_sq1 sg_356 (by decide) rfl] at hP2 hD2
  obtain ⟨z_358, ez_358⟩ : ∃ w, w = sq z_352 h0 64 (some k_353) := ⟨_, rfl⟩
  rw [← ez_358] at hP2 hD2
  replace hf := lt_at ez_358 hf
  replace hk : lk z_358 n := by rw [ez_358]; exact lk_sq1 hk (okN_at g_355)
  clear ez_358
  replace hP := hP2
  replace hD := hD2
  replace hS := hS2
  clear hP2 hD2 hS2
  refine lv_aload_n hx hb dX18_init_379 rfl (lv_at hl 0 rfl) ?_
  refine lv_bipush (v := 32) hx hb dX18_init_380 (by decide) ?_
  obtain ⟨g_359, hf⟩ := grd_some hf
  refine de_newa (atype := .int) (ty := .int) (t := 1) (N := 32) (a0 := (32, .inl (fun _ => 0))) hf hk hx hb (hts _ md_X18_init_10) rfl hK hP hD hS hA rfl rfl (fun _ => rfl) (by decide) (by decide) (Nat.le_of_ble_eq_true rfl) (Nat.le_of_ble_eq_true rfl) (Nat.le_of_ble_eq_true rfl) dX18_init_382 (fun a sh n z_360 k_361 H_362 hf hax hk hnn hP hD hS => ?_)
  refine W.eq (g2 := F0 m 384 ls [.ref (a k_361), .ref (a h0)]) (by rw [hax h0 (okN_at g_359)]) ?_
  replace hl : lv_has ls 3 [(0, .ref (a h0)), (1, .int x0)] := by rw [hax h0 (okN_at g_359)]; exact hl
  replace hag := hag_new hag hax hnn
  clear hax hnn
  refine W.widen (k := 74) (n := 400629) (Nat.le_of_ble_eq_true rfl) (Nat.le_of_ble_eq_true rfl) ?_
  obtain ⟨g_363, hf⟩ := grd_some hf
  obtain ⟨g_364, hf⟩ := grd_some hf
  obtain ⟨kg_364, sg_364⟩ := okO_at g_364
  refine va_putF (D := (dC, dI)) (ci := 18) (v := .ref (a k_361)) (ty := .array .int) (C := RX18) (T := TX18) (N := 78) hx hb hts iwd_X18_init_X18 tyX18 tyX18_ok nmX18 hown hK hP hD hS h0 (Wd_ob kg_364 sg_364 (by decide)) rfl 65 (by decide) (hts _ md_X18_init_67) (fun _ h9 => h9) rfl hin rfl (by decide +kernel) rfl rfl (by rw [fl_len]; decide) dX18_init_384 (fun H_365 locs hP2 hD2 hS2 => ?_)
  rw [Wd_sq1 sg_364 (by decide) rfl] at hP2 hD2
  obtain ⟨z_366, ez_366⟩ : ∃ w, w = sq z_360 h0 65 (some k_361) := ⟨_, rfl⟩
  rw [← ez_366] at hP2 hD2
  replace hf := lt_at ez_366 hf
  replace hk : lk z_366 n := by rw [ez_366]; exact lk_sq1 hk (okN_at g_363)
  clear ez_366
  replace hP := hP2
  replace hD := hD2
  replace hS := hS2
  clear hP2 hD2 hS2
  refine lv_aload_n hx hb dX18_init_387 rfl (lv_at hl 0 rfl) ?_
  refine lv_bipush (v := 32) hx hb dX18_init_388 (by decide) ?_
  obtain ⟨g_367, hf⟩ := grd_some hf
  refine de_newa (atype := .int) (ty := .int) (t := 1) (N := 32) (a0 := (32, .inl (fun _ => 0))) hf hk hx hb (hts _ md_X18_init_10) rfl hK hP hD hS hA rfl rfl (fun _ => rfl) (by decide) (by decide) (Nat.le_of_ble_eq_true rfl) (Nat.le_of_ble_eq_true rfl) (Nat.le_of_ble_eq_true rfl) dX18_init_390 (fun a sh n z_368 k_369 H_370 hf hax hk hnn hP hD hS => ?_)
  refine W.eq (g2 := F0 m 392 ls [.ref (a k_369), .ref (a h0)]) (by rw [hax h0 (okN_at g_367)]) ?_
  replace hl : lv_has ls 3 [(0, .ref (a h0)), (1, .int x0)] := by rw [hax h0 (okN_at g_367)]; exact hl
  replace hag := hag_new hag hax hnn
  clear hax hnn
  refine W.widen (k := 75) (n := 400661) (Nat.le_of_ble_eq_true rfl) (Nat.le_of_ble_eq_true rfl) ?_
  obtain ⟨g_371, hf⟩ := grd_some hf
  obtain ⟨g_372, hf⟩ := grd_some hf
  obtain ⟨kg_372, sg_372⟩ := okO_at g_372
  refine va_putF (D := (dC, dI)) (ci := 18) (v := .ref (a k_369)) (ty := .array .int) (C := RX18) (T := TX18) (N := 78) hx hb hts iwd_X18_init_X18 tyX18 tyX18_ok nmX18 hown hK hP hD hS h0 (Wd_ob kg_372 sg_372 (by decide)) rfl 66 (by decide) (hts _ md_X18_init_68) (fun _ h9 => h9) rfl hin rfl (by decide +kernel) rfl rfl (by rw [fl_len]; decide) dX18_init_392 (fun H_373 locs hP2 hD2 hS2 => ?_)
  rw [Wd_sq1 sg_372 (by decide) rfl] at hP2 hD2
  obtain ⟨z_374, ez_374⟩ : ∃ w, w = sq z_368 h0 66 (some k_369) := ⟨_, rfl⟩
  rw [← ez_374] at hP2 hD2
  replace hf := lt_at ez_374 hf
  replace hk : lk z_374 n := by rw [ez_374]; exact lk_sq1 hk (okN_at g_371)
  clear ez_374
  replace hP := hP2
  replace hD := hD2
  replace hS := hS2
  clear hP2 hD2 hS2
  refine lv_aload_n hx hb dX18_init_395 rfl (lv_at hl 0 rfl) ?_
  refine lv_bipush (v := 32) hx hb dX18_init_396 (by decide) ?_
  obtain ⟨g_375, hf⟩ := grd_some hf
  refine de_newa (atype := .int) (ty := .int) (t := 1) (N := 32) (a0 := (32, .inl (fun _ => 0))) hf hk hx hb (hts _ md_X18_init_10) rfl hK hP hD hS hA rfl rfl (fun _ => rfl) (by decide) (by decide) (Nat.le_of_ble_eq_true rfl) (Nat.le_of_ble_eq_true rfl) (Nat.le_of_ble_eq_true rfl) dX18_init_398 (fun a sh n z_376 k_377 H_378 hf hax hk hnn hP hD hS => ?_)
  refine W.eq (g2 := F0 m 400 ls [.ref (a k_377), .ref (a h0)]) (by rw [hax h0 (okN_at g_375)]) ?_
  replace hl : lv_has ls 3 [(0, .ref (a h0)), (1, .int x0)] := by rw [hax h0 (okN_at g_375)]; exact hl
  replace hag := hag_new hag hax hnn
  clear hax hnn
  refine W.widen (k := 76) (n := 400693) (Nat.le_of_ble_eq_true rfl) (Nat.le_of_ble_eq_true rfl) ?_
  obtain ⟨g_379, hf⟩ := grd_some hf
  obtain ⟨g_380, hf⟩ := grd_some hf
  obtain ⟨kg_380, sg_380⟩ := okO_at g_380
  refine va_putF (D := (dC, dI)) (ci := 18) (v := .ref (a k_377)) (ty := .array .int) (C := RX18) (T := TX18) (N := 78) hx hb hts iwd_X18_init_X18 tyX18 tyX18_ok nmX18 hown hK hP hD hS h0 (Wd_ob kg_380 sg_380 (by decide)) rfl 67 (by decide) (hts _ md_X18_init_69) (fun _ h9 => h9) rfl hin rfl (by decide +kernel) rfl rfl (by rw [fl_len]; decide) dX18_init_400 (fun H_381 locs hP2 hD2 hS2 => ?_)
  rw [Wd_sq1 sg_380 (by decide) rfl] at hP2 hD2
  obtain ⟨z_382, ez_382⟩ : ∃ w, w = sq z_376 h0 67 (some k_377) := ⟨_, rfl⟩
  rw [← ez_382] at hP2 hD2
  replace hf := lt_at ez_382 hf
  replace hk : lk z_382 n := by rw [ez_382]; exact lk_sq1 hk (okN_at g_379)
  clear ez_382
  replace hP := hP2
  replace hD := hD2
  replace hS := hS2
  clear hP2 hD2 hS2
  refine lv_aload_n hx hb dX18_init_403 rfl (lv_at hl 0 rfl) ?_
  refine lv_bipush (v := 32) hx hb dX18_init_404 (by decide) ?_
  obtain ⟨g_383, hf⟩ := grd_some hf
  refine de_newa (atype := .int) (ty := .int) (t := 1) (N := 32) (a0 := (32, .inl (fun _ => 0))) hf hk hx hb (hts _ md_X18_init_10) rfl hK hP hD hS hA rfl rfl (fun _ => rfl) (by decide) (by decide) (Nat.le_of_ble_eq_true rfl) (Nat.le_of_ble_eq_true rfl) (Nat.le_of_ble_eq_true rfl) dX18_init_406 (fun a sh n z_384 k_385 H_386 hf hax hk hnn hP hD hS => ?_)
  refine W.eq (g2 := F0 m 408 ls [.ref (a k_385), .ref (a h0)]) (by rw [hax h0 (okN_at g_383)]) ?_
  replace hl : lv_has ls 3 [(0, .ref (a h0)), (1, .int x0)] := by rw [hax h0 (okN_at g_383)]; exact hl
  replace hag := hag_new hag hax hnn
  clear hax hnn
  refine W.widen (k := 77) (n := 400725) (Nat.le_of_ble_eq_true rfl) (Nat.le_of_ble_eq_true rfl) ?_
  obtain ⟨g_387, hf⟩ := grd_some hf
  obtain ⟨g_388, hf⟩ := grd_some hf
  obtain ⟨kg_388, sg_388⟩ := okO_at g_388
  refine va_putF (D := (dC, dI)) (ci := 18) (v := .ref (a k_385)) (ty := .array .int) (C := RX18) (T := TX18) (N := 78) hx hb hts iwd_X18_init_X18 tyX18 tyX18_ok nmX18 hown hK hP hD hS h0 (Wd_ob kg_388 sg_388 (by decide)) rfl 68 (by decide) (hts _ md_X18_init_70) (fun _ h9 => h9) rfl hin rfl (by decide +kernel) rfl rfl (by rw [fl_len]; decide) dX18_init_408 (fun H_389 locs hP2 hD2 hS2 => ?_)
  rw [Wd_sq1 sg_388 (by decide) rfl] at hP2 hD2
  obtain ⟨z_390, ez_390⟩ : ∃ w, w = sq z_384 h0 68 (some k_385) := ⟨_, rfl⟩
  rw [← ez_390] at hP2 hD2
  replace hf := lt_at ez_390 hf
  replace hk : lk z_390 n := by rw [ez_390]; exact lk_sq1 hk (okN_at g_387)
  clear ez_390
  replace hP := hP2
  replace hD := hD2
  replace hS := hS2
  clear hP2 hD2 hS2
  refine lv_aload_n hx hb dX18_init_411 rfl (lv_at hl 0 rfl) ?_
  refine lv_bipush (v := 32) hx hb dX18_init_412 (by decide) ?_
  obtain ⟨g_391, hf⟩ := grd_some hf
  refine de_newa (atype := .long) (ty := .long) (t := 2) (N := 32) (a0 := (32, .inr (.inl (fun _ => 0)))) hf hk hx hb (hts _ md_X18_init_4) rfl hK hP hD hS hA rfl rfl (fun _ => rfl) (by decide) (by decide) (Nat.le_of_ble_eq_true rfl) (Nat.le_of_ble_eq_true rfl) (Nat.le_of_ble_eq_true rfl) dX18_init_414 (fun a sh n z_392 k_393 H_394 hf hax hk hnn hP hD hS => ?_)
  refine W.eq (g2 := F0 m 416 ls [.ref (a k_393), .ref (a h0)]) (by rw [hax h0 (okN_at g_391)]) ?_
  replace hl : lv_has ls 3 [(0, .ref (a h0)), (1, .int x0)] := by rw [hax h0 (okN_at g_391)]; exact hl
  replace hag := hag_new hag hax hnn
  clear hax hnn
  refine W.widen (k := 78) (n := 400757) (Nat.le_of_ble_eq_true rfl) (Nat.le_of_ble_eq_true rfl) ?_
  obtain ⟨g_395, hf⟩ := grd_some hf
  obtain ⟨g_396, hf⟩ := grd_some hf
  obtain ⟨kg_396, sg_396⟩ := okO_at g_396
  refine va_putF (D := (dC, dI)) (ci := 18) (v := .ref (a k_393)) (ty := .array .long) (C := RX18) (T := TX18) (N := 78) hx hb hts iwd_X18_init_X18 tyX18 tyX18_ok nmX18 hown hK hP hD hS h0 (Wd_ob kg_396 sg_396 (by decide)) rfl 69 (by decide) (hts _ md_X18_init_71) (fun _ h9 => h9) rfl hin rfl (by decide +kernel) rfl rfl (by rw [fl_len]; decide) dX18_init_416 (fun H_397 locs hP2 hD2 hS2 => ?_)
  rw [Wd_sq1 sg_396 (by decide) rfl] at hP2 hD2
  obtain ⟨z_398, ez_398⟩ : ∃ w, w = sq z_392 h0 69 (some k_393) := ⟨_, rfl⟩
  rw [← ez_398] at hP2 hD2
  replace hf := lt_at ez_398 hf
  replace hk : lk z_398 n := by rw [ez_398]; exact lk_sq1 hk (okN_at g_395)
  clear ez_398
  replace hP := hP2
  replace hD := hD2
  replace hS := hS2
  clear hP2 hD2 hS2
  refine lv_aload_n hx hb dX18_init_419 rfl (lv_at hl 0 rfl) ?_
  refine lv_bipush (v := 32) hx hb dX18_init_420 (by decide) ?_
  obtain ⟨g_399, hf⟩ := grd_some hf
  refine de_newa (atype := .int) (ty := .int) (t := 1) (N := 32) (a0 := (32, .inl (fun _ => 0))) hf hk hx hb (hts _ md_X18_init_10) rfl hK hP hD hS hA rfl rfl (fun _ => rfl) (by decide) (by decide) (Nat.le_of_ble_eq_true rfl) (Nat.le_of_ble_eq_true rfl) (Nat.le_of_ble_eq_true rfl) dX18_init_422 (fun a sh n z_400 k_401 H_402 hf hax hk hnn hP hD hS => ?_)
  refine W.eq (g2 := F0 m 424 ls [.ref (a k_401), .ref (a h0)]) (by rw [hax h0 (okN_at g_399)]) ?_
  replace hl : lv_has ls 3 [(0, .ref (a h0)), (1, .int x0)] := by rw [hax h0 (okN_at g_399)]; exact hl
  replace hag := hag_new hag hax hnn
  clear hax hnn
  refine W.widen (k := 79) (n := 400789) (Nat.le_of_ble_eq_true rfl) (Nat.le_of_ble_eq_true rfl) ?_
  obtain ⟨g_403, hf⟩ := grd_some hf
  obtain ⟨g_404, hf⟩ := grd_some hf
  obtain ⟨kg_404, sg_404⟩ := okO_at g_404
  refine va_putF (D := (dC, dI)) (ci := 18) (v := .ref (a k_401)) (ty := .array .int) (C := RX18) (T := TX18) (N := 78) hx hb hts iwd_X18_init_X18 tyX18 tyX18_ok nmX18 hown hK hP hD hS h0 (Wd_ob kg_404 sg_404 (by decide)) rfl 70 (by decide) (hts _ md_X18_init_72) (fun _ h9 => h9) rfl hin rfl (by decide +kernel) rfl rfl (by rw [fl_len]; decide) dX18_init_424 (fun H_405 locs hP2 hD2 hS2 => ?_)
  rw [Wd_sq1 sg_404 (by decide) rfl] at hP2 hD2
  obtain ⟨z_406, ez_406⟩ : ∃ w, w = sq z_400 h0 70 (some k_401) := ⟨_, rfl⟩
  rw [← ez_406] at hP2 hD2
  replace hf := lt_at ez_406 hf
  replace hk : lk z_406 n := by rw [ez_406]; exact lk_sq1 hk (okN_at g_403)
  clear ez_406
  replace hP := hP2
  replace hD := hD2
  replace hS := hS2
  clear hP2 hD2 hS2
  refine lv_aload_n hx hb dX18_init_427 rfl (lv_at hl 0 rfl) ?_
  refine lv_sipush (v := 256) hx hb dX18_init_428 (by decide) ?_
  obtain ⟨g_407, hf⟩ := grd_some hf
  refine de_newa (atype := .byte) (ty := .byte) (t := 0) (N := 256) (a0 := (256, .inl (fun _ => 0))) hf hk hx hb (hts _ md_X18_init_14) rfl hK hP hD hS hA rfl rfl (fun _ => rfl) (by decide) (by decide) (Nat.le_of_ble_eq_true rfl) (Nat.le_of_ble_eq_true rfl) (Nat.le_of_ble_eq_true rfl) dX18_init_431 (fun a sh n z_408 k_409 H_410 hf hax hk hnn hP hD hS => ?_)
  refine W.eq (g2 := F0 m 433 ls [.ref (a k_409), .ref (a h0)]) (by rw [hax h0 (okN_at g_407)]) ?_
  replace hl : lv_has ls 3 [(0, .ref (a h0)), (1, .int x0)] := by rw [hax h0 (okN_at g_407)]; exact hl
  replace hag := hag_new hag hax hnn
  clear hax hnn
  refine W.widen (k := 80) (n := 401045) (Nat.le_of_ble_eq_true rfl) (Nat.le_of_ble_eq_true rfl) ?_
  obtain ⟨g_411, hf⟩ := grd_some hf
  obtain ⟨g_412, hf⟩ := grd_some hf
  obtain ⟨kg_412, sg_412⟩ := okO_at g_412
  refine va_putF (D := (dC, dI)) (ci := 18) (v := .ref (a k_409)) (ty := .array .byte) (C := RX18) (T := TX18) (N := 78) hx hb hts iwd_X18_init_X18 tyX18 tyX18_ok nmX18 hown hK hP hD hS h0 (Wd_ob kg_412 sg_412 (by decide)) rfl 71 (by decide) (hts _ md_X18_init_73) (fun _ h9 => h9) rfl hin rfl (by decide +kernel) rfl rfl (by rw [fl_len]; decide) dX18_init_433 (fun H_413 locs hP2 hD2 hS2 => ?_)
  rw [Wd_sq1 sg_412 (by decide) rfl] at hP2 hD2
  obtain ⟨z_414, ez_414⟩ : ∃ w, w = sq z_408 h0 71 (some k_409) := ⟨_, rfl⟩
  rw [← ez_414] at hP2 hD2
  replace hf := lt_at ez_414 hf
  replace hk : lk z_414 n := by rw [ez_414]; exact lk_sq1 hk (okN_at g_411)
  clear ez_414
  replace hP := hP2
  replace hD := hD2
  replace hS := hS2
  clear hP2 hD2 hS2
  refine lv_aload_n hx hb dX18_init_436 rfl (lv_at hl 0 rfl) ?_
  refine lv_sipush (v := 256) hx hb dX18_init_437 (by decide) ?_
  obtain ⟨g_415, hf⟩ := grd_some hf
  refine de_newa (atype := .long) (ty := .long) (t := 2) (N := 256) (a0 := (256, .inr (.inl (fun _ => 0)))) hf hk hx hb (hts _ md_X18_init_4) rfl hK hP hD hS hA rfl rfl (fun _ => rfl) (by decide) (by decide) (Nat.le_of_ble_eq_true rfl) (Nat.le_of_ble_eq_true rfl) (Nat.le_of_ble_eq_true rfl) dX18_init_440 (fun a sh n z_416 k_417 H_418 hf hax hk hnn hP hD hS => ?_)
  refine W.eq (g2 := F0 m 442 ls [.ref (a k_417), .ref (a h0)]) (by rw [hax h0 (okN_at g_415)]) ?_
  replace hl : lv_has ls 3 [(0, .ref (a h0)), (1, .int x0)] := by rw [hax h0 (okN_at g_415)]; exact hl
  replace hag := hag_new hag hax hnn
  clear hax hnn
  refine W.widen (k := 81) (n := 401301) (Nat.le_of_ble_eq_true rfl) (Nat.le_of_ble_eq_true rfl) ?_
  obtain ⟨g_419, hf⟩ := grd_some hf
  obtain ⟨g_420, hf⟩ := grd_some hf
  obtain ⟨kg_420, sg_420⟩ := okO_at g_420
  refine va_putF (D := (dC, dI)) (ci := 18) (v := .ref (a k_417)) (ty := .array .long) (C := RX18) (T := TX18) (N := 78) hx hb hts iwd_X18_init_X18 tyX18 tyX18_ok nmX18 hown hK hP hD hS h0 (Wd_ob kg_420 sg_420 (by decide)) rfl 72 (by decide) (hts _ md_X18_init_74) (fun _ h9 => h9) rfl hin rfl (by decide +kernel) rfl rfl (by rw [fl_len]; decide) dX18_init_442 (fun H_421 locs hP2 hD2 hS2 => ?_)
  rw [Wd_sq1 sg_420 (by decide) rfl] at hP2 hD2
  obtain ⟨z_422, ez_422⟩ : ∃ w, w = sq z_416 h0 72 (some k_417) := ⟨_, rfl⟩
  rw [← ez_422] at hP2 hD2
  replace hf := lt_at ez_422 hf
  replace hk : lk z_422 n := by rw [ez_422]; exact lk_sq1 hk (okN_at g_419)
  clear ez_422
  replace hP := hP2
  replace hD := hD2
  replace hS := hS2
  clear hP2 hD2 hS2
  refine lv_aload_n hx hb dX18_init_445 rfl (lv_at hl 0 rfl) ?_
  refine lv_sipush (v := 256) hx hb dX18_init_446 (by decide) ?_
  obtain ⟨g_423, hf⟩ := grd_some hf
  refine de_newa (atype := .long) (ty := .long) (t := 2) (N := 256) (a0 := (256, .inr (.inl (fun _ => 0)))) hf hk hx hb (hts _ md_X18_init_4) rfl hK hP hD hS hA rfl rfl (fun _ => rfl) (by decide) (by decide) (Nat.le_of_ble_eq_true rfl) (Nat.le_of_ble_eq_true rfl) (Nat.le_of_ble_eq_true rfl) dX18_init_449 (fun a sh n z_424 k_425 H_426 hf hax hk hnn hP hD hS => ?_)
  refine W.eq (g2 := F0 m 451 ls [.ref (a k_425), .ref (a h0)]) (by rw [hax h0 (okN_at g_423)]) ?_
  replace hl : lv_has ls 3 [(0, .ref (a h0)), (1, .int x0)] := by rw [hax h0 (okN_at g_423)]; exact hl
  replace hag := hag_new hag hax hnn
  clear hax hnn
  refine W.widen (k := 82) (n := 401557) (Nat.le_of_ble_eq_true rfl) (Nat.le_of_ble_eq_true rfl) ?_
  obtain ⟨g_427, hf⟩ := grd_some hf
  obtain ⟨g_428, hf⟩ := grd_some hf
  obtain ⟨kg_428, sg_428⟩ := okO_at g_428
  refine va_putF (D := (dC, dI)) (ci := 18) (v := .ref (a k_425)) (ty := .array .long) (C := RX18) (T := TX18) (N := 78) hx hb hts iwd_X18_init_X18 tyX18 tyX18_ok nmX18 hown hK hP hD hS h0 (Wd_ob kg_428 sg_428 (by decide)) rfl 73 (by decide) (hts _ md_X18_init_75) (fun _ h9 => h9) rfl hin rfl (by decide +kernel) rfl rfl (by rw [fl_len]; decide) dX18_init_451 (fun H_429 locs hP2 hD2 hS2 => ?_)
  rw [Wd_sq1 sg_428 (by decide) rfl] at hP2 hD2
  obtain ⟨z_430, ez_430⟩ : ∃ w, w = sq z_424 h0 73 (some k_425) := ⟨_, rfl⟩
  rw [← ez_430] at hP2 hD2
  replace hf := lt_at ez_430 hf
  replace hk : lk z_430 n := by rw [ez_430]; exact lk_sq1 hk (okN_at g_427)
  clear ez_430
  replace hP := hP2
  replace hD := hD2
  replace hS := hS2
  clear hP2 hD2 hS2
  refine lv_aload_n hx hb dX18_init_454 rfl (lv_at hl 0 rfl) ?_
  refine lv_sipush (v := 1200) hx hb dX18_init_455 (by decide) ?_
  obtain ⟨g_431, hf⟩ := grd_some hf
  refine de_newa (atype := .byte) (ty := .byte) (t := 0) (N := 1200) (a0 := (1200, .inl (fun _ => 0))) hf hk hx hb (hts _ md_X18_init_14) rfl hK hP hD hS hA rfl rfl (fun _ => rfl) (by decide) (by decide) (Nat.le_of_ble_eq_true rfl) (Nat.le_of_ble_eq_true rfl) (Nat.le_of_ble_eq_true rfl) dX18_init_458 (fun a sh n z_432 k_433 H_434 hf hax hk hnn hP hD hS => ?_)
  refine W.eq (g2 := F0 m 460 ls [.ref (a k_433), .ref (a h0)]) (by rw [hax h0 (okN_at g_431)]) ?_
  replace hl : lv_has ls 3 [(0, .ref (a h0)), (1, .int x0)] := by rw [hax h0 (okN_at g_431)]; exact hl
  replace hag := hag_new hag hax hnn
  clear hax hnn
  refine W.widen (k := 83) (n := 402757) (Nat.le_of_ble_eq_true rfl) (Nat.le_of_ble_eq_true rfl) ?_
  obtain ⟨g_435, hf⟩ := grd_some hf
  obtain ⟨g_436, hf⟩ := grd_some hf
  obtain ⟨kg_436, sg_436⟩ := okO_at g_436
  refine va_putF (D := (dC, dI)) (ci := 18) (v := .ref (a k_433)) (ty := .array .byte) (C := RX18) (T := TX18) (N := 78) hx hb hts iwd_X18_init_X18 tyX18 tyX18_ok nmX18 hown hK hP hD hS h0 (Wd_ob kg_436 sg_436 (by decide)) rfl 74 (by decide) (hts _ md_X18_init_76) (fun _ h9 => h9) rfl hin rfl (by decide +kernel) rfl rfl (by rw [fl_len]; decide) dX18_init_460 (fun H_437 locs hP2 hD2 hS2 => ?_)
  rw [Wd_sq1 sg_436 (by decide) rfl] at hP2 hD2
  obtain ⟨z_438, ez_438⟩ : ∃ w, w = sq z_432 h0 74 (some k_433) := ⟨_, rfl⟩
  rw [← ez_438] at hP2 hD2
  replace hf := lt_at ez_438 hf
  replace hk : lk z_438 n := by rw [ez_438]; exact lk_sq1 hk (okN_at g_435)
  clear ez_438
  replace hP := hP2
  replace hD := hD2
  replace hS := hS2
  clear hP2 hD2 hS2
  refine lv_aload_n hx hb dX18_init_463 rfl (lv_at hl 0 rfl) ?_
  refine lv_iconst (v := 4) hx hb dX18_init_464 (by decide) ?_
  obtain ⟨g_439, hf⟩ := grd_some hf
  refine de_newa (atype := .long) (ty := .long) (t := 2) (N := 4) (a0 := (4, .inr (.inl (fun _ => 0)))) hf hk hx hb (hts _ md_X18_init_4) rfl hK hP hD hS hA rfl rfl (fun _ => rfl) (by decide) (by decide) (Nat.le_of_ble_eq_true rfl) (Nat.le_of_ble_eq_true rfl) (Nat.le_of_ble_eq_true rfl) dX18_init_465 (fun a sh n z_440 k_441 H_442 hf hax hk hnn hP hD hS => ?_)
  refine W.eq (g2 := F0 m 467 ls [.ref (a k_441), .ref (a h0)]) (by rw [hax h0 (okN_at g_439)]) ?_
  replace hl : lv_has ls 3 [(0, .ref (a h0)), (1, .int x0)] := by rw [hax h0 (okN_at g_439)]; exact hl
  replace hag := hag_new hag hax hnn
  clear hax hnn
  refine W.widen (k := 84) (n := 402761) (Nat.le_of_ble_eq_true rfl) (Nat.le_of_ble_eq_true rfl) ?_
  obtain ⟨g_443, hf⟩ := grd_some hf
  obtain ⟨g_444, hf⟩ := grd_some hf
  obtain ⟨kg_444, sg_444⟩ := okO_at g_444
  refine va_putF (D := (dC, dI)) (ci := 18) (v := .ref (a k_441)) (ty := .array .long) (C := RX18) (T := TX18) (N := 78) hx hb hts iwd_X18_init_X18 tyX18 tyX18_ok nmX18 hown hK hP hD hS h0 (Wd_ob kg_444 sg_444 (by decide)) rfl 76 (by decide) (hts _ md_X18_init_77) (fun _ h9 => h9) rfl hin rfl (by decide +kernel) rfl rfl (by rw [fl_len]; decide) dX18_init_467 (fun H_445 locs hP2 hD2 hS2 => ?_)
  rw [Wd_sq1 sg_444 (by decide) rfl] at hP2 hD2
  obtain ⟨z_446, ez_446⟩ : ∃ w, w = sq z_440 h0 76 (some k_441) := ⟨_, rfl⟩
  rw [← ez_446] at hP2 hD2
  replace hf := lt_at ez_446 hf
  replace hk : lk z_446 n := by rw [ez_446]; exact lk_sq1 hk (okN_at g_443)
  clear ez_446
  replace hP := hP2
  replace hD := hD2
  replace hS := hS2
  clear hP2 hD2 hS2
  refine lv_aload_n hx hb dX18_init_470 rfl (lv_at hl 0 rfl) ?_
  refine lv_iconst (v := 4) hx hb dX18_init_471 (by decide) ?_
  obtain ⟨g_447, hf⟩ := grd_some hf
  refine de_newa (atype := .long) (ty := .long) (t := 2) (N := 4) (a0 := (4, .inr (.inl (fun _ => 0)))) hf hk hx hb (hts _ md_X18_init_4) rfl hK hP hD hS hA rfl rfl (fun _ => rfl) (by decide) (by decide) (Nat.le_of_ble_eq_true rfl) (Nat.le_of_ble_eq_true rfl) (Nat.le_of_ble_eq_true rfl) dX18_init_472 (fun a sh n z_448 k_449 H_450 hf hax hk hnn hP hD hS => ?_)
  refine W.eq (g2 := F0 m 474 ls [.ref (a k_449), .ref (a h0)]) (by rw [hax h0 (okN_at g_447)]) ?_
  replace hl : lv_has ls 3 [(0, .ref (a h0)), (1, .int x0)] := by rw [hax h0 (okN_at g_447)]; exact hl
  replace hag := hag_new hag hax hnn
  clear hax hnn
  refine W.widen (k := 85) (n := 402765) (Nat.le_of_ble_eq_true rfl) (Nat.le_of_ble_eq_true rfl) ?_
  obtain ⟨g_451, hf⟩ := grd_some hf
  obtain ⟨g_452, hf⟩ := grd_some hf
  obtain ⟨kg_452, sg_452⟩ := okO_at g_452
  refine va_putF (D := (dC, dI)) (ci := 18) (v := .ref (a k_449)) (ty := .array .long) (C := RX18) (T := TX18) (N := 78) hx hb hts iwd_X18_init_X18 tyX18 tyX18_ok nmX18 hown hK hP hD hS h0 (Wd_ob kg_452 sg_452 (by decide)) rfl 77 (by decide) (hts _ md_X18_init_78) (fun _ h9 => h9) rfl hin rfl (by decide +kernel) rfl rfl (by rw [fl_len]; decide) dX18_init_474 (fun H_453 locs hP2 hD2 hS2 => ?_)
  rw [Wd_sq1 sg_452 (by decide) rfl] at hP2 hD2
  obtain ⟨z_454, ez_454⟩ : ∃ w, w = sq z_448 h0 77 (some k_449) := ⟨_, rfl⟩
  rw [← ez_454] at hP2 hD2
  replace hf := lt_at ez_454 hf
  replace hk : lk z_454 n := by rw [ez_454]; exact lk_sq1 hk (okN_at g_451)
  clear ez_454
  replace hP := hP2
  replace hD := hD2
  replace hS := hS2
  clear hP2 hD2 hS2
  refine lv_iconst (v := 0) hx hb dX18_init_477 (by decide) ?_
  refine lv_istore_n (lv' := [(2, .int 0), (0, .ref (a h0)), (1, .int x0)]) hx hb dX18_init_478 rfl hl (by decide) rfl (fun ls hl2 => ?_)
  replace hl := hl2
  clear hl2
  refine lv_iload_n hx hb dX18_init_479 rfl (lv_at hl 0 rfl) ?_
  refine lv_bipush (v := 10) hx hb dX18_init_480 (by decide) ?_
  refine lv_icmp_ge (tgt := 504) hx hb dX18_init_482 (by decide) (fun h => absurd h (by decide)) (fun _ => ?_)
  refine lv_aload_n hx hb dX18_init_485 rfl (lv_at hl 1 rfl) ?_
  obtain ⟨k_455, ek_455, hf⟩ := lnk_some hf
  refine va_get (D := (dC, dI)) (ci := 18) (v := .ref (a k_455)) (C := RX18) (T := TX18) (N := 78) hx hb hts iwd_X18_init_X18 hown hK hP h0 (Wd_ob kg_452 sg_452 (by decide)) rfl 4 (by decide) (hts _ md_X18_init_9) (fun _ h9 => h9) (fl_q rfl ek_455) dX18_init_486 ?_
  refine lv_iload_n hx hb dX18_init_489 rfl (lv_at hl 0 rfl) ?_
  obtain ⟨g_456, hf⟩ := grd_some hf
  obtain ⟨g_457, hf⟩ := grd_some hf
  refine de_new (ci := 16) (fs := [.null, .int 0, .int 0, .int 0, .int 0, .int 0, .int 0, .int 0, .int 0, .int 0, .int 0, .null, .null, .null, .null, .null, .null, .null]) (C := RX16) (T := TX16) (N := 18) hf hk hx hb hts iwd_X18_init_X16 tyX16 tyX16_ok hown (hts _ md_X18_init_8) (hts _ md_X18_init_79) (hts _ md_X18_init_80) hK hP hD hS hA rfl rfl df_X16 (Nat.le_of_ble_eq_true rfl) (Nat.le_of_ble_eq_true rfl) dX18_init_490 (fun a sh n z_458 k_459 H_460 hf hax hk hnn hP hD hS => ?_)
  refine W.eq (g2 := F0 m 493 ls [.ref (a k_459), .int 0, .ref (a k_455)]) (by rw [hax k_455 (okN_at g_457)]) ?_
  replace hl : lv_has ls 3 [(2, .int 0), (0, .ref (a h0)), (1, .int x0)] := by rw [hax h0 (okN_at g_456)]; exact hl
  replace hag := hag_new hag hax hnn
  clear hax hnn
  refine W.widen (k := 86) (n := 402783) (Nat.le_of_ble_eq_true rfl) (Nat.le_of_ble_eq_true rfl) ?_
  refine lv_dup hx hb dX18_init_493 rfl ?_
  obtain ⟨g_461, hf⟩ := grd_some hf
  obtain ⟨g_462, hf⟩ := grd_some hf
  obtain ⟨g_463, hf⟩ := grd_some hf
  obtain ⟨shq, nq, z_464, _u, hfc, hf⟩ := cala_some hf
  have hFc := de_free hD hS hA
  refine va_callv (va_runIN (As := []) (rest := [.ref (a k_459), .int 0, .ref (a k_455)]) ⟨hx, hb, hml, hown, hts⟩ (da_X16_init l dC dI cy a sh n H_460.size F z_458 k_459 hk hfc) ⟨va_cnB 0 hts ggX18_init_X16_init rfl rfl rfl (NK_m_X18_608 hN) (hts _ md_X18_init_80) ⟨by decide, by decide, by decide +kernel⟩ ⟨Nat.le_of_ble_eq_true rfl, Nat.le_of_ble_eq_true rfl⟩, rfl, (hts _ md_X18_init_130)⟩ ⟨fun a U g mk q => by obtain ⟨q0, q1, qP, qK, qD, qN⟩ := q; exact ⟨q0, q1, qP, va_K.moved (u := U) (U := U.calling g mk a) (Vm.Alike.refl U.vm) qK, qD, qN.same rfl⟩, fun U hU hW => ⟨rfl, by rw [hU], by rw [hU]; exact hP, va_K.moved hW.alike hK, hD.weaken (fun _ _ _ _ => trivial), hN.warm hW⟩⟩ rfl rfl hl.1 rfl (lv_room (Nat.le_of_ble_eq_true rfl)) dX18_init_494 ⟨Nat.le_of_ble_eq_true rfl, Nat.le_of_ble_eq_true rfl⟩) hS (fun q _ h => hFc q h) hFc (fun a t H_465 locs ht hvm hw hB hz1 hk1 hS2 => ?_)
  obtain ⟨⟨hax, hnn⟩, hk⟩ := hw
  obtain ⟨hP1, -, hD1⟩ := hB
  rw [ht] at hP1
  replace hD := hD1.weaken (fun _ _ _ h => hFc _ h)
  replace hP := hP1
  replace hS := hS2
  obtain ⟨sh, esh⟩ : ∃ w, w = shq := ⟨_, rfl⟩
  subst esh
  replace hl : lv_has ls 3 [(2, .int 0), (0, .ref (a h0)), (1, .int x0)] := by rw [hax h0 (okN_at g_461)]; exact hl
  replace hag := hag_new hag hax hnn
  obtain ⟨n, enq⟩ : ∃ w, w = nq := ⟨_, rfl⟩
  subst enq
  refine W.eq (g2 := F0 m 497 ls [.ref (a k_459), .int 0, .ref (a k_455)]) (by rw [hax k_459 (okN_at g_462), hax k_455 (okN_at g_463)]) ?_
  clear hax hnn hP1 hD1 hS2 hFc hfc hz1 hk1 hvm ht
  refine W.widen (k := 94) (n := 407169) (Nat.le_of_ble_eq_true rfl) (Nat.le_of_ble_eq_true rfl) ?_
  obtain ⟨g_466, hf⟩ := grd_some hf
  obtain ⟨kg_466, sg_466, ig_466⟩ := okA_at g_466
  obtain ⟨g_467, hf⟩ := grd_some hf
  obtain ⟨kg_467, sg_467⟩ := okO_at g_467
  refine va_astq hx hb hK hP hD hS k_455 6 k_459 16 (Wd_aq kg_466 sg_466 (by decide)) rfl (Wd_ob kg_467 sg_467 (by decide)) rfl ig_466 dX18_init_497 (fun H_468 locs hP2 hD2 hS2 => ?_)
  rw [Wd_tq sg_466 (by decide)] at hP2 hD2
  obtain ⟨z_469, ez_469⟩ : ∃ w, w = sq z_464 k_455 (0 : Int32).toNatClampNeg (some k_459) := ⟨_, rfl⟩
  rw [← ez_469] at hP2 hD2
  replace hf := lt_at ez_469 hf
  replace hk : lk z_469 n := by rw [ez_469]; exact lk_sq1 hk (Or.inl kg_467)
  clear ez_469
  replace hP := hP2
  replace hD := hD2
  replace hS := hS2
  clear hP2 hD2 hS2
  refine lv_iinc (v := 1) (lv' := [(2, .int 1), (0, .ref (a h0)), (1, .int x0)]) hx hb dX18_init_498 hl (k := 0) rfl rfl (by decide) rfl (fun ls hl2 => ?_)
  replace hl := hl2
  clear hl2
  refine lv_goto (tgt := 479) hx hb dX18_init_501 (by decide) ?_
  refine lv_iload_n hx hb dX18_init_479 rfl (lv_at hl 0 rfl) ?_
  refine lv_bipush (v := 10) hx hb dX18_init_480 (by decide) ?_
  refine lv_icmp_ge (tgt := 504) hx hb dX18_init_482 (by decide) (fun h => absurd h (by decide)) (fun _ => ?_)
  refine lv_aload_n hx hb dX18_init_485 rfl (lv_at hl 1 rfl) ?_
  obtain ⟨g_470, hf⟩ := grd_some hf
  obtain ⟨kg_470, sg_470⟩ := okO_at g_470
  obtain ⟨k_471, ek_471, hf⟩ := lnk_some hf
  refine va_get (D := (dC, dI)) (ci := 18) (v := .ref (a k_471)) (C := RX18) (T := TX18) (N := 78) hx hb hts iwd_X18_init_X18 hown hK hP h0 (Wd_ob kg_470 sg_470 (by decide)) rfl 4 (by decide) (hts _ md_X18_init_9) (fun _ h9 => h9) (fl_q rfl ek_471) dX18_init_486 ?_
  refine lv_iload_n hx hb dX18_init_489 rfl (lv_at hl 0 rfl) ?_
  obtain ⟨g_472, hf⟩ := grd_some hf
  obtain ⟨g_473, hf⟩ := grd_some hf
  refine de_new (ci := 16) (fs := [.null, .int 0, .int 0, .int 0, .int 0, .int 0, .int 0, .int 0, .int 0, .int 0, .int 0, .null, .null, .null, .null, .null, .null, .null]) (C := RX16) (T := TX16) (N := 18) hf hk hx hb hts iwd_X18_init_X16 tyX16 tyX16_ok hown (hts _ md_X18_init_8) (hts _ md_X18_init_79) (hts _ md_X18_init_80) hK hP hD hS hA rfl rfl df_X16 (Nat.le_of_ble_eq_true rfl) (Nat.le_of_ble_eq_true rfl) dX18_init_490 (fun a sh n z_474 k_475 H_476 hf hax hk hnn hP hD hS => ?_)
  refine W.eq (g2 := F0 m 493 ls [.ref (a k_475), .int 1, .ref (a k_471)]) (by rw [hax k_471 (okN_at g_473)]) ?_
  replace hl : lv_has ls 3 [(2, .int 1), (0, .ref (a h0)), (1, .int x0)] := by rw [hax h0 (okN_at g_472)]; exact hl
  replace hag := hag_new hag hax hnn
  clear hax hnn
  refine W.widen (k := 95) (n := 407187) (Nat.le_of_ble_eq_true rfl) (Nat.le_of_ble_eq_true rfl) ?_
  refine lv_dup hx hb dX18_init_493 rfl ?_
  obtain ⟨g_477, hf⟩ := grd_some hf
  obtain ⟨g_478, hf⟩ := grd_some hf
  obtain ⟨g_479, hf⟩ := grd_some hf
  obtain ⟨shq, nq, z_480, _u, hfc, hf⟩ := cala_some hf
  have hFc := de_free hD hS hA
  refine va_callv (va_runIN (As := []) (rest := [.ref (a k_475), .int 1, .ref (a k_471)]) ⟨hx, hb, hml, hown, hts⟩ (da_X16_init l dC dI cy a sh n H_476.size F z_474 k_475 hk hfc) ⟨va_cnB 0 hts ggX18_init_X16_init rfl rfl rfl (NK_m_X18_608 hN) (hts _ md_X18_init_80) ⟨by decide, by decide, by decide +kernel⟩ ⟨Nat.le_of_ble_eq_true rfl, Nat.le_of_ble_eq_true rfl⟩, rfl, (hts _ md_X18_init_130)⟩ ⟨fun a U g mk q => by obtain ⟨q0, q1, qP, qK, qD, qN⟩ := q; exact ⟨q0, q1, qP, va_K.moved (u := U) (U := U.calling g mk a) (Vm.Alike.refl U.vm) qK, qD, qN.same rfl⟩, fun U hU hW => ⟨rfl, by rw [hU], by rw [hU]; exact hP, va_K.moved hW.alike hK, hD.weaken (fun _ _ _ _ => trivial), hN.warm hW⟩⟩ rfl rfl hl.1 rfl (lv_room (Nat.le_of_ble_eq_true rfl)) dX18_init_494 ⟨Nat.le_of_ble_eq_true rfl, Nat.le_of_ble_eq_true rfl⟩) hS (fun q _ h => hFc q h) hFc (fun a t H_481 locs ht hvm hw hB hz1 hk1 hS2 => ?_)
  obtain ⟨⟨hax, hnn⟩, hk⟩ := hw
  obtain ⟨hP1, -, hD1⟩ := hB
  rw [ht] at hP1
  replace hD := hD1.weaken (fun _ _ _ h => hFc _ h)
  replace hP := hP1
  replace hS := hS2
  obtain ⟨sh, esh⟩ : ∃ w, w = shq := ⟨_, rfl⟩
  subst esh
  replace hl : lv_has ls 3 [(2, .int 1), (0, .ref (a h0)), (1, .int x0)] := by rw [hax h0 (okN_at g_477)]; exact hl
  replace hag := hag_new hag hax hnn
  obtain ⟨n, enq⟩ : ∃ w, w = nq := ⟨_, rfl⟩
  subst enq
  refine W.eq (g2 := F0 m 497 ls [.ref (a k_475), .int 1, .ref (a k_471)]) (by rw [hax k_475 (okN_at g_478), hax k_471 (okN_at g_479)]) ?_
  clear hax hnn hP1 hD1 hS2 hFc hfc hz1 hk1 hvm ht
  refine W.widen (k := 103) (n := 411573) (Nat.le_of_ble_eq_true rfl) (Nat.le_of_ble_eq_true rfl) ?_
  obtain ⟨g_482, hf⟩ := grd_some hf
  obtain ⟨kg_482, sg_482, ig_482⟩ := okA_at g_482
  obtain ⟨g_483, hf⟩ := grd_some hf
  obtain ⟨kg_483, sg_483⟩ := okO_at g_483
  refine va_astq hx hb hK hP hD hS k_471 6 k_475 16 (Wd_aq kg_482 sg_482 (by decide)) rfl (Wd_ob kg_483 sg_483 (by decide)) rfl ig_482 dX18_init_497 (fun H_484 locs hP2 hD2 hS2 => ?_)
  rw [Wd_tq sg_482 (by decide)] at hP2 hD2
  obtain ⟨z_485, ez_485⟩ : ∃ w, w = sq z_480 k_471 (1 : Int32).toNatClampNeg (some k_475) := ⟨_, rfl⟩
  rw [← ez_485] at hP2 hD2
  replace hf := lt_at ez_485 hf
  replace hk : lk z_485 n := by rw [ez_485]; exact lk_sq1 hk (Or.inl kg_483)
  clear ez_485
  replace hP := hP2
  replace hD := hD2
  replace hS := hS2
  clear hP2 hD2 hS2
  refine lv_iinc (v := 2) (lv' := [(2, .int 2), (0, .ref (a h0)), (1, .int x0)]) hx hb dX18_init_498 hl (k := 0) rfl rfl (by decide) rfl (fun ls hl2 => ?_)
  replace hl := hl2
  clear hl2
  refine lv_goto (tgt := 479) hx hb dX18_init_501 (by decide) ?_
  refine lv_iload_n hx hb dX18_init_479 rfl (lv_at hl 0 rfl) ?_
  refine lv_bipush (v := 10) hx hb dX18_init_480 (by decide) ?_
  refine lv_icmp_ge (tgt := 504) hx hb dX18_init_482 (by decide) (fun h => absurd h (by decide)) (fun _ => ?_)
  refine lv_aload_n hx hb dX18_init_485 rfl (lv_at hl 1 rfl) ?_
  obtain ⟨g_486, hf⟩ := grd_some hf
  obtain ⟨kg_486, sg_486⟩ := okO_at g_486
  obtain ⟨k_487, ek_487, hf⟩ := lnk_some hf
  refine va_get (D := (dC, dI)) (ci := 18) (v := .ref (a k_487)) (C := RX18) (T := TX18) (N := 78) hx hb hts iwd_X18_init_X18 hown hK hP h0 (Wd_ob kg_486 sg_486 (by decide)) rfl 4 (by decide) (hts _ md_X18_init_9) (fun _ h9 => h9) (fl_q rfl ek_487) dX18_init_486 ?_
  refine lv_iload_n hx hb dX18_init_489 rfl (lv_at hl 0 rfl) ?_
  obtain ⟨g_488, hf⟩ := grd_some hf
  obtain ⟨g_489, hf⟩ := grd_some hf
  refine de_new (ci := 16) (fs := [.null, .int 0, .int 0, .int 0, .int 0, .int 0, .int 0, .int 0, .int 0, .int 0, .int 0, .null, .null, .null, .null, .null, .null, .null]) (C := RX16) (T := TX16) (N := 18) hf hk hx hb hts iwd_X18_init_X16 tyX16 tyX16_ok hown (hts _ md_X18_init_8) (hts _ md_X18_init_79) (hts _ md_X18_init_80) hK hP hD hS hA rfl rfl df_X16 (Nat.le_of_ble_eq_true rfl) (Nat.le_of_ble_eq_true rfl) dX18_init_490 (fun a sh n z_490 k_491 H_492 hf hax hk hnn hP hD hS => ?_)
  refine W.eq (g2 := F0 m 493 ls [.ref (a k_491), .int 2, .ref (a k_487)]) (by rw [hax k_487 (okN_at g_489)]) ?_
  replace hl : lv_has ls 3 [(2, .int 2), (0, .ref (a h0)), (1, .int x0)] := by rw [hax h0 (okN_at g_488)]; exact hl
  replace hag := hag_new hag hax hnn
  clear hax hnn
  refine W.widen (k := 104) (n := 411591) (Nat.le_of_ble_eq_true rfl) (Nat.le_of_ble_eq_true rfl) ?_
  refine lv_dup hx hb dX18_init_493 rfl ?_
  obtain ⟨g_493, hf⟩ := grd_some hf
  obtain ⟨g_494, hf⟩ := grd_some hf
  obtain ⟨g_495, hf⟩ := grd_some hf
  obtain ⟨shq, nq, z_496, _u, hfc, hf⟩ := cala_some hf
  have hFc := de_free hD hS hA
  refine va_callv (va_runIN (As := []) (rest := [.ref (a k_491), .int 2, .ref (a k_487)]) ⟨hx, hb, hml, hown, hts⟩ (da_X16_init l dC dI cy a sh n H_492.size F z_490 k_491 hk hfc) ⟨va_cnB 0 hts ggX18_init_X16_init rfl rfl rfl (NK_m_X18_608 hN) (hts _ md_X18_init_80) ⟨by decide, by decide, by decide +kernel⟩ ⟨Nat.le_of_ble_eq_true rfl, Nat.le_of_ble_eq_true rfl⟩, rfl, (hts _ md_X18_init_130)⟩ ⟨fun a U g mk q => by obtain ⟨q0, q1, qP, qK, qD, qN⟩ := q; exact ⟨q0, q1, qP, va_K.moved (u := U) (U := U.calling g mk a) (Vm.Alike.refl U.vm) qK, qD, qN.same rfl⟩, fun U hU hW => ⟨rfl, by rw [hU], by rw [hU]; exact hP, va_K.moved hW.alike hK, hD.weaken (fun _ _ _ _ => trivial), hN.warm hW⟩⟩ rfl rfl hl.1 rfl (lv_room (Nat.le_of_ble_eq_true rfl)) dX18_init_494 ⟨Nat.le_of_ble_eq_true rfl, Nat.le_of_ble_eq_true rfl⟩) hS (fun q _ h => hFc q h) hFc (fun a t H_497 locs ht hvm hw hB hz1 hk1 hS2 => ?_)
  obtain ⟨⟨hax, hnn⟩, hk⟩ := hw
  obtain ⟨hP1, -, hD1⟩ := hB
  rw [ht] at hP1
  replace hD := hD1.weaken (fun _ _ _ h => hFc _ h)
  replace hP := hP1
  replace hS := hS2
  obtain ⟨sh, esh⟩ : ∃ w, w = shq := ⟨_, rfl⟩
  subst esh
  replace hl : lv_has ls 3 [(2, .int 2), (0, .ref (a h0)), (1, .int x0)] := by rw [hax h0 (okN_at g_493)]; exact hl
  replace hag := hag_new hag hax hnn
  obtain ⟨n, enq⟩ : ∃ w, w = nq := ⟨_, rfl⟩
  subst enq
  refine W.eq (g2 := F0 m 497 ls [.ref (a k_491), .int 2, .ref (a k_487)]) (by rw [hax k_491 (okN_at g_494), hax k_487 (okN_at g_495)]) ?_
  clear hax hnn hP1 hD1 hS2 hFc hfc hz1 hk1 hvm ht
  refine W.widen (k := 112) (n := 415977) (Nat.le_of_ble_eq_true rfl) (Nat.le_of_ble_eq_true rfl) ?_
  obtain ⟨g_498, hf⟩ := grd_some hf
  obtain ⟨kg_498, sg_498, ig_498⟩ := okA_at g_498
  obtain ⟨g_499, hf⟩ := grd_some hf
  obtain ⟨kg_499, sg_499⟩ := okO_at g_499
  refine va_astq hx hb hK hP hD hS k_487 6 k_491 16 (Wd_aq kg_498 sg_498 (by decide)) rfl (Wd_ob kg_499 sg_499 (by decide)) rfl ig_498 dX18_init_497 (fun H_500 locs hP2 hD2 hS2 => ?_)
  rw [Wd_tq sg_498 (by decide)] at hP2 hD2
  obtain ⟨z_501, ez_501⟩ : ∃ w, w = sq z_496 k_487 (2 : Int32).toNatClampNeg (some k_491) := ⟨_, rfl⟩
  rw [← ez_501] at hP2 hD2
  replace hf := lt_at ez_501 hf
  replace hk : lk z_501 n := by rw [ez_501]; exact lk_sq1 hk (Or.inl kg_499)
  clear ez_501
  replace hP := hP2
  replace hD := hD2
  replace hS := hS2
  clear hP2 hD2 hS2
  refine lv_iinc (v := 3) (lv' := [(2, .int 3), (0, .ref (a h0)), (1, .int x0)]) hx hb dX18_init_498 hl (k := 0) rfl rfl (by decide) rfl (fun ls hl2 => ?_)
  replace hl := hl2
  clear hl2
  refine lv_goto (tgt := 479) hx hb dX18_init_501 (by decide) ?_
  refine lv_iload_n hx hb dX18_init_479 rfl (lv_at hl 0 rfl) ?_
  refine lv_bipush (v := 10) hx hb dX18_init_480 (by decide) ?_
  refine lv_icmp_ge (tgt := 504) hx hb dX18_init_482 (by decide) (fun h => absurd h (by decide)) (fun _ => ?_)
  refine lv_aload_n hx hb dX18_init_485 rfl (lv_at hl 1 rfl) ?_
  obtain ⟨g_502, hf⟩ := grd_some hf
  obtain ⟨kg_502, sg_502⟩ := okO_at g_502
  obtain ⟨k_503, ek_503, hf⟩ := lnk_some hf
  refine va_get (D := (dC, dI)) (ci := 18) (v := .ref (a k_503)) (C := RX18) (T := TX18) (N := 78) hx hb hts iwd_X18_init_X18 hown hK hP h0 (Wd_ob kg_502 sg_502 (by decide)) rfl 4 (by decide) (hts _ md_X18_init_9) (fun _ h9 => h9) (fl_q rfl ek_503) dX18_init_486 ?_
  refine lv_iload_n hx hb dX18_init_489 rfl (lv_at hl 0 rfl) ?_
  obtain ⟨g_504, hf⟩ := grd_some hf
  obtain ⟨g_505, hf⟩ := grd_some hf
  refine de_new (ci := 16) (fs := [.null, .int 0, .int 0, .int 0, .int 0, .int 0, .int 0, .int 0, .int 0, .int 0, .int 0, .null, .null, .null, .null, .null, .null, .null]) (C := RX16) (T := TX16) (N := 18) hf hk hx hb hts iwd_X18_init_X16 tyX16 tyX16_ok hown (hts _ md_X18_init_8) (hts _ md_X18_init_79) (hts _ md_X18_init_80) hK hP hD hS hA rfl rfl df_X16 (Nat.le_of_ble_eq_true rfl) (Nat.le_of_ble_eq_true rfl) dX18_init_490 (fun a sh n z_506 k_507 H_508 hf hax hk hnn hP hD hS => ?_)
  refine W.eq (g2 := F0 m 493 ls [.ref (a k_507), .int 3, .ref (a k_503)]) (by rw [hax k_503 (okN_at g_505)]) ?_
  replace hl : lv_has ls 3 [(2, .int 3), (0, .ref (a h0)), (1, .int x0)] := by rw [hax h0 (okN_at g_504)]; exact hl
  replace hag := hag_new hag hax hnn
  clear hax hnn
  refine W.widen (k := 113) (n := 415995) (Nat.le_of_ble_eq_true rfl) (Nat.le_of_ble_eq_true rfl) ?_
  refine lv_dup hx hb dX18_init_493 rfl ?_
  obtain ⟨g_509, hf⟩ := grd_some hf
  obtain ⟨g_510, hf⟩ := grd_some hf
  obtain ⟨g_511, hf⟩ := grd_some hf
  obtain ⟨shq, nq, z_512, _u, hfc, hf⟩ := cala_some hf
  have hFc := de_free hD hS hA
  refine va_callv (va_runIN (As := []) (rest := [.ref (a k_507), .int 3, .ref (a k_503)]) ⟨hx, hb, hml, hown, hts⟩ (da_X16_init l dC dI cy a sh n H_508.size F z_506 k_507 hk hfc) ⟨va_cnB 0 hts ggX18_init_X16_init rfl rfl rfl (NK_m_X18_608 hN) (hts _ md_X18_init_80) ⟨by decide, by decide, by decide +kernel⟩ ⟨Nat.le_of_ble_eq_true rfl, Nat.le_of_ble_eq_true rfl⟩, rfl, (hts _ md_X18_init_130)⟩ ⟨fun a U g mk q => by obtain ⟨q0, q1, qP, qK, qD, qN⟩ := q; exact ⟨q0, q1, qP, va_K.moved (u := U) (U := U.calling g mk a) (Vm.Alike.refl U.vm) qK, qD, qN.same rfl⟩, fun U hU hW => ⟨rfl, by rw [hU], by rw [hU]; exact hP, va_K.moved hW.alike hK, hD.weaken (fun _ _ _ _ => trivial), hN.warm hW⟩⟩ rfl rfl hl.1 rfl (lv_room (Nat.le_of_ble_eq_true rfl)) dX18_init_494 ⟨Nat.le_of_ble_eq_true rfl, Nat.le_of_ble_eq_true rfl⟩) hS (fun q _ h => hFc q h) hFc (fun a t H_513 locs ht hvm hw hB hz1 hk1 hS2 => ?_)
  obtain ⟨⟨hax, hnn⟩, hk⟩ := hw
  obtain ⟨hP1, -, hD1⟩ := hB
  rw [ht] at hP1
  replace hD := hD1.weaken (fun _ _ _ h => hFc _ h)
  replace hP := hP1
  replace hS := hS2
  obtain ⟨sh, esh⟩ : ∃ w, w = shq := ⟨_, rfl⟩
  subst esh
  replace hl : lv_has ls 3 [(2, .int 3), (0, .ref (a h0)), (1, .int x0)] := by rw [hax h0 (okN_at g_509)]; exact hl
  replace hag := hag_new hag hax hnn
  obtain ⟨n, enq⟩ : ∃ w, w = nq := ⟨_, rfl⟩
  subst enq
  refine W.eq (g2 := F0 m 497 ls [.ref (a k_507), .int 3, .ref (a k_503)]) (by rw [hax k_507 (okN_at g_510), hax k_503 (okN_at g_511)]) ?_
  clear hax hnn hP1 hD1 hS2 hFc hfc hz1 hk1 hvm ht
  refine W.widen (k := 121) (n := 420381) (Nat.le_of_ble_eq_true rfl) (Nat.le_of_ble_eq_true rfl) ?_
  obtain ⟨g_514, hf⟩ := grd_some hf
  obtain ⟨kg_514, sg_514, ig_514⟩ := okA_at g_514
  obtain ⟨g_515, hf⟩ := grd_some hf
  obtain ⟨kg_515, sg_515⟩ := okO_at g_515
  refine va_astq hx hb hK hP hD hS k_503 6 k_507 16 (Wd_aq kg_514 sg_514 (by decide)) rfl (Wd_ob kg_515 sg_515 (by decide)) rfl ig_514 dX18_init_497 (fun H_516 locs hP2 hD2 hS2 => ?_)
  rw [Wd_tq sg_514 (by decide)] at hP2 hD2
  obtain ⟨z_517, ez_517⟩ : ∃ w, w = sq z_512 k_503 (3 : Int32).toNatClampNeg (some k_507) := ⟨_, rfl⟩
  rw [← ez_517] at hP2 hD2
  replace hf := lt_at ez_517 hf
  replace hk : lk z_517 n := by rw [ez_517]; exact lk_sq1 hk (Or.inl kg_515)
  clear ez_517
  replace hP := hP2
  replace hD := hD2
  replace hS := hS2
  clear hP2 hD2 hS2
  refine lv_iinc (v := 4) (lv' := [(2, .int 4), (0, .ref (a h0)), (1, .int x0)]) hx hb dX18_init_498 hl (k := 0) rfl rfl (by decide) rfl (fun ls hl2 => ?_)
  replace hl := hl2
  clear hl2
  refine lv_goto (tgt := 479) hx hb dX18_init_501 (by decide) ?_
  refine lv_iload_n hx hb dX18_init_479 rfl (lv_at hl 0 rfl) ?_
  refine lv_bipush (v := 10) hx hb dX18_init_480 (by decide) ?_
  refine lv_icmp_ge (tgt := 504) hx hb dX18_init_482 (by decide) (fun h => absurd h (by decide)) (fun _ => ?_)
  refine lv_aload_n hx hb dX18_init_485 rfl (lv_at hl 1 rfl) ?_
  obtain ⟨g_518, hf⟩ := grd_some hf
  obtain ⟨kg_518, sg_518⟩ := okO_at g_518
  obtain ⟨k_519, ek_519, hf⟩ := lnk_some hf
  refine va_get (D := (dC, dI)) (ci := 18) (v := .ref (a k_519)) (C := RX18) (T := TX18) (N := 78) hx hb hts iwd_X18_init_X18 hown hK hP h0 (Wd_ob kg_518 sg_518 (by decide)) rfl 4 (by decide) (hts _ md_X18_init_9) (fun _ h9 => h9) (fl_q rfl ek_519) dX18_init_486 ?_
  refine lv_iload_n hx hb dX18_init_489 rfl (lv_at hl 0 rfl) ?_
  obtain ⟨g_520, hf⟩ := grd_some hf
  obtain ⟨g_521, hf⟩ := grd_some hf
  refine de_new (ci := 16) (fs := [.null, .int 0, .int 0, .int 0, .int 0, .int 0, .int 0, .int 0, .int 0, .int 0, .int 0, .null, .null, .null, .null, .null, .null, .null]) (C := RX16) (T := TX16) (N := 18) hf hk hx hb hts iwd_X18_init_X16 tyX16 tyX16_ok hown (hts _ md_X18_init_8) (hts _ md_X18_init_79) (hts _ md_X18_init_80) hK hP hD hS hA rfl rfl df_X16 (Nat.le_of_ble_eq_true rfl) (Nat.le_of_ble_eq_true rfl) dX18_init_490 (fun a sh n z_522 k_523 H_524 hf hax hk hnn hP hD hS => ?_)
  refine W.eq (g2 := F0 m 493 ls [.ref (a k_523), .int 4, .ref (a k_519)]) (by rw [hax k_519 (okN_at g_521)]) ?_
  replace hl : lv_has ls 3 [(2, .int 4), (0, .ref (a h0)), (1, .int x0)] := by rw [hax h0 (okN_at g_520)]; exact hl
  replace hag := hag_new hag hax hnn
  clear hax hnn
  refine W.widen (k := 122) (n := 420399) (Nat.le_of_ble_eq_true rfl) (Nat.le_of_ble_eq_true rfl) ?_
  refine lv_dup hx hb dX18_init_493 rfl ?_
  obtain ⟨g_525, hf⟩ := grd_some hf
  obtain ⟨g_526, hf⟩ := grd_some hf
  obtain ⟨g_527, hf⟩ := grd_some hf
  obtain ⟨shq, nq, z_528, _u, hfc, hf⟩ := cala_some hf
  have hFc := de_free hD hS hA
  refine va_callv (va_runIN (As := []) (rest := [.ref (a k_523), .int 4, .ref (a k_519)]) ⟨hx, hb, hml, hown, hts⟩ (da_X16_init l dC dI cy a sh n H_524.size F z_522 k_523 hk hfc) ⟨va_cnB 0 hts ggX18_init_X16_init rfl rfl rfl (NK_m_X18_608 hN) (hts _ md_X18_init_80) ⟨by decide, by decide, by decide +kernel⟩ ⟨Nat.le_of_ble_eq_true rfl, Nat.le_of_ble_eq_true rfl⟩, rfl, (hts _ md_X18_init_130)⟩ ⟨fun a U g mk q => by obtain ⟨q0, q1, qP, qK, qD, qN⟩ := q; exact ⟨q0, q1, qP, va_K.moved (u := U) (U := U.calling g mk a) (Vm.Alike.refl U.vm) qK, qD, qN.same rfl⟩, fun U hU hW => ⟨rfl, by rw [hU], by rw [hU]; exact hP, va_K.moved hW.alike hK, hD.weaken (fun _ _ _ _ => trivial), hN.warm hW⟩⟩ rfl rfl hl.1 rfl (lv_room (Nat.le_of_ble_eq_true rfl)) dX18_init_494 ⟨Nat.le_of_ble_eq_true rfl, Nat.le_of_ble_eq_true rfl⟩) hS (fun q _ h => hFc q h) hFc (fun a t H_529 locs ht hvm hw hB hz1 hk1 hS2 => ?_)
  obtain ⟨⟨hax, hnn⟩, hk⟩ := hw
  obtain ⟨hP1, -, hD1⟩ := hB
  rw [ht] at hP1
  replace hD := hD1.weaken (fun _ _ _ h => hFc _ h)
  replace hP := hP1
  replace hS := hS2
  obtain ⟨sh, esh⟩ : ∃ w, w = shq := ⟨_, rfl⟩
  subst esh
  replace hl : lv_has ls 3 [(2, .int 4), (0, .ref (a h0)), (1, .int x0)] := by rw [hax h0 (okN_at g_525)]; exact hl
  replace hag := hag_new hag hax hnn
  obtain ⟨n, enq⟩ : ∃ w, w = nq := ⟨_, rfl⟩
  subst enq
  refine W.eq (g2 := F0 m 497 ls [.ref (a k_523), .int 4, .ref (a k_519)]) (by rw [hax k_523 (okN_at g_526), hax k_519 (okN_at g_527)]) ?_
  clear hax hnn hP1 hD1 hS2 hFc hfc hz1 hk1 hvm ht
  refine W.widen (k := 130) (n := 424785) (Nat.le_of_ble_eq_true rfl) (Nat.le_of_ble_eq_true rfl) ?_
  obtain ⟨g_530, hf⟩ := grd_some hf
  obtain ⟨kg_530, sg_530, ig_530⟩ := okA_at g_530
  obtain ⟨g_531, hf⟩ := grd_some hf
  obtain ⟨kg_531, sg_531⟩ := okO_at g_531
  refine va_astq hx hb hK hP hD hS k_519 6 k_523 16 (Wd_aq kg_530 sg_530 (by decide)) rfl (Wd_ob kg_531 sg_531 (by decide)) rfl ig_530 dX18_init_497 (fun H_532 locs hP2 hD2 hS2 => ?_)
  rw [Wd_tq sg_530 (by decide)] at hP2 hD2
  obtain ⟨z_533, ez_533⟩ : ∃ w, w = sq z_528 k_519 (4 : Int32).toNatClampNeg (some k_523) := ⟨_, rfl⟩
  rw [← ez_533] at hP2 hD2
  replace hf := lt_at ez_533 hf
  replace hk : lk z_533 n := by rw [ez_533]; exact lk_sq1 hk (Or.inl kg_531)
  clear ez_533
  replace hP := hP2
  replace hD := hD2
  replace hS := hS2
  clear hP2 hD2 hS2
  refine lv_iinc (v := 5) (lv' := [(2, .int 5), (0, .ref (a h0)), (1, .int x0)]) hx hb dX18_init_498 hl (k := 0) rfl rfl (by decide) rfl (fun ls hl2 => ?_)
  replace hl := hl2
  clear hl2
  refine lv_goto (tgt := 479) hx hb dX18_init_501 (by decide) ?_
  refine lv_iload_n hx hb dX18_init_479 rfl (lv_at hl 0 rfl) ?_
  refine lv_bipush (v := 10) hx hb dX18_init_480 (by decide) ?_
  refine lv_icmp_ge (tgt := 504) hx hb dX18_init_482 (by decide) (fun h => absurd h (by decide)) (fun _ => ?_)
  refine lv_aload_n hx hb dX18_init_485 rfl (lv_at hl 1 rfl) ?_
  obtain ⟨g_534, hf⟩ := grd_some hf
  obtain ⟨kg_534, sg_534⟩ := okO_at g_534
  obtain ⟨k_535, ek_535, hf⟩ := lnk_some hf
  refine va_get (D := (dC, dI)) (ci := 18) (v := .ref (a k_535)) (C := RX18) (T := TX18) (N := 78) hx hb hts iwd_X18_init_X18 hown hK hP h0 (Wd_ob kg_534 sg_534 (by decide)) rfl 4 (by decide) (hts _ md_X18_init_9) (fun _ h9 => h9) (fl_q rfl ek_535) dX18_init_486 ?_
  refine lv_iload_n hx hb dX18_init_489 rfl (lv_at hl 0 rfl) ?_
  obtain ⟨g_536, hf⟩ := grd_some hf
  obtain ⟨g_537, hf⟩ := grd_some hf
  refine de_new (ci := 16) (fs := [.null, .int 0, .int 0, .int 0, .int 0, .int 0, .int 0, .int 0, .int 0, .int 0, .int 0, .null, .null, .null, .null, .null, .null, .null]) (C := RX16) (T := TX16) (N := 18) hf hk hx hb hts iwd_X18_init_X16 tyX16 tyX16_ok hown (hts _ md_X18_init_8) (hts _ md_X18_init_79) (hts _ md_X18_init_80) hK hP hD hS hA rfl rfl df_X16 (Nat.le_of_ble_eq_true rfl) (Nat.le_of_ble_eq_true rfl) dX18_init_490 (fun a sh n z_538 k_539 H_540 hf hax hk hnn hP hD hS => ?_)
  refine W.eq (g2 := F0 m 493 ls [.ref (a k_539), .int 5, .ref (a k_535)]) (by rw [hax k_535 (okN_at g_537)]) ?_
  replace hl : lv_has ls 3 [(2, .int 5), (0, .ref (a h0)), (1, .int x0)] := by rw [hax h0 (okN_at g_536)]; exact hl
  replace hag := hag_new hag hax hnn
  clear hax hnn
  refine W.widen (k := 131) (n := 424803) (Nat.le_of_ble_eq_true rfl) (Nat.le_of_ble_eq_true rfl) ?_
  refine lv_dup hx hb dX18_init_493 rfl ?_
  obtain ⟨g_541, hf⟩ := grd_some hf
  obtain ⟨g_542, hf⟩ := grd_some hf
  obtain ⟨g_543, hf⟩ := grd_some hf
  obtain ⟨shq, nq, z_544, _u, hfc, hf⟩ := cala_some hf
  have hFc := de_free hD hS hA
  refine va_callv (va_runIN (As := []) (rest := [.ref (a k_539), .int 5, .ref (a k_535)]) ⟨hx, hb, hml, hown, hts⟩ (da_X16_init l dC dI cy a sh n H_540.size F z_538 k_539 hk hfc) ⟨va_cnB 0 hts ggX18_init_X16_init rfl rfl rfl (NK_m_X18_608 hN) (hts _ md_X18_init_80) ⟨by decide, by decide, by decide +kernel⟩ ⟨Nat.le_of_ble_eq_true rfl, Nat.le_of_ble_eq_true rfl⟩, rfl, (hts _ md_X18_init_130)⟩ ⟨fun a U g mk q => by obtain ⟨q0, q1, qP, qK, qD, qN⟩ := q; exact ⟨q0, q1, qP, va_K.moved (u := U) (U := U.calling g mk a) (Vm.Alike.refl U.vm) qK, qD, qN.same rfl⟩, fun U hU hW => ⟨rfl, by rw [hU], by rw [hU]; exact hP, va_K.moved hW.alike hK, hD.weaken (fun _ _ _ _ => trivial), hN.warm hW⟩⟩ rfl rfl hl.1 rfl (lv_room (Nat.le_of_ble_eq_true rfl)) dX18_init_494 ⟨Nat.le_of_ble_eq_true rfl, Nat.le_of_ble_eq_true rfl⟩) hS (fun q _ h => hFc q h) hFc (fun a t H_545 locs ht hvm hw hB hz1 hk1 hS2 => ?_)
  obtain ⟨⟨hax, hnn⟩, hk⟩ := hw
  obtain ⟨hP1, -, hD1⟩ := hB
  rw [ht] at hP1
  replace hD := hD1.weaken (fun _ _ _ h => hFc _ h)
  replace hP := hP1
  replace hS := hS2
  obtain ⟨sh, esh⟩ : ∃ w, w = shq := ⟨_, rfl⟩
  subst esh
  replace hl : lv_has ls 3 [(2, .int 5), (0, .ref (a h0)), (1, .int x0)] := by rw [hax h0 (okN_at g_541)]; exact hl
  replace hag := hag_new hag hax hnn
  obtain ⟨n, enq⟩ : ∃ w, w = nq := ⟨_, rfl⟩
  subst enq
  refine W.eq (g2 := F0 m 497 ls [.ref (a k_539), .int 5, .ref (a k_535)]) (by rw [hax k_539 (okN_at g_542), hax k_535 (okN_at g_543)]) ?_
  clear hax hnn hP1 hD1 hS2 hFc hfc hz1 hk1 hvm ht
  refine W.widen (k := 139) (n := 429189) (Nat.le_of_ble_eq_true rfl) (Nat.le_of_ble_eq_true rfl) ?_
  obtain ⟨g_546, hf⟩ := grd_some hf
  obtain ⟨kg_546, sg_546, ig_546⟩ := okA_at g_546
  obtain ⟨g_547, hf⟩ := grd_some hf
  obtain ⟨kg_547, sg_547⟩ := okO_at g_547
  refine va_astq hx hb hK hP hD hS k_535 6 k_539 16 (Wd_aq kg_546 sg_546 (by decide)) rfl (Wd_ob kg_547 sg_547 (by decide)) rfl ig_546 dX18_init_497 (fun H_548 locs hP2 hD2 hS2 => ?_)
  rw [Wd_tq sg_546 (by decide)] at hP2 hD2
  obtain ⟨z_549, ez_549⟩ : ∃ w, w = sq z_544 k_535 (5 : Int32).toNatClampNeg (some k_539) := ⟨_, rfl⟩
  rw [← ez_549] at hP2 hD2
  replace hf := lt_at ez_549 hf
  replace hk : lk z_549 n := by rw [ez_549]; exact lk_sq1 hk (Or.inl kg_547)
  clear ez_549
  replace hP := hP2
  replace hD := hD2
  replace hS := hS2
  clear hP2 hD2 hS2
  refine lv_iinc (v := 6) (lv' := [(2, .int 6), (0, .ref (a h0)), (1, .int x0)]) hx hb dX18_init_498 hl (k := 0) rfl rfl (by decide) rfl (fun ls hl2 => ?_)
  replace hl := hl2
  clear hl2
  refine lv_goto (tgt := 479) hx hb dX18_init_501 (by decide) ?_
  refine lv_iload_n hx hb dX18_init_479 rfl (lv_at hl 0 rfl) ?_
  refine lv_bipush (v := 10) hx hb dX18_init_480 (by decide) ?_
  refine lv_icmp_ge (tgt := 504) hx hb dX18_init_482 (by decide) (fun h => absurd h (by decide)) (fun _ => ?_)
  refine lv_aload_n hx hb dX18_init_485 rfl (lv_at hl 1 rfl) ?_
  obtain ⟨g_550, hf⟩ := grd_some hf
  obtain ⟨kg_550, sg_550⟩ := okO_at g_550
  obtain ⟨k_551, ek_551, hf⟩ := lnk_some hf
  refine va_get (D := (dC, dI)) (ci := 18) (v := .ref (a k_551)) (C := RX18) (T := TX18) (N := 78) hx hb hts iwd_X18_init_X18 hown hK hP h0 (Wd_ob kg_550 sg_550 (by decide)) rfl 4 (by decide) (hts _ md_X18_init_9) (fun _ h9 => h9) (fl_q rfl ek_551) dX18_init_486 ?_
  refine lv_iload_n hx hb dX18_init_489 rfl (lv_at hl 0 rfl) ?_
  obtain ⟨g_552, hf⟩ := grd_some hf
  obtain ⟨g_553, hf⟩ := grd_some hf
  refine de_new (ci := 16) (fs := [.null, .int 0, .int 0, .int 0, .int 0, .int 0, .int 0, .int 0, .int 0, .int 0, .int 0, .null, .null, .null, .null, .null, .null, .null]) (C := RX16) (T := TX16) (N := 18) hf hk hx hb hts iwd_X18_init_X16 tyX16 tyX16_ok hown (hts _ md_X18_init_8) (hts _ md_X18_init_79) (hts _ md_X18_init_80) hK hP hD hS hA rfl rfl df_X16 (Nat.le_of_ble_eq_true rfl) (Nat.le_of_ble_eq_true rfl) dX18_init_490 (fun a sh n z_554 k_555 H_556 hf hax hk hnn hP hD hS => ?_)
  refine W.eq (g2 := F0 m 493 ls [.ref (a k_555), .int 6, .ref (a k_551)]) (by rw [hax k_551 (okN_at g_553)]) ?_
  replace hl : lv_has ls 3 [(2, .int 6), (0, .ref (a h0)), (1, .int x0)] := by rw [hax h0 (okN_at g_552)]; exact hl
  replace hag := hag_new hag hax hnn
  clear hax hnn
  refine W.widen (k := 140) (n := 429207) (Nat.le_of_ble_eq_true rfl) (Nat.le_of_ble_eq_true rfl) ?_
  refine lv_dup hx hb dX18_init_493 rfl ?_
  obtain ⟨g_557, hf⟩ := grd_some hf
  obtain ⟨g_558, hf⟩ := grd_some hf
  obtain ⟨g_559, hf⟩ := grd_some hf
  obtain ⟨shq, nq, z_560, _u, hfc, hf⟩ := cala_some hf
  have hFc := de_free hD hS hA
  refine va_callv (va_runIN (As := []) (rest := [.ref (a k_555), .int 6, .ref (a k_551)]) ⟨hx, hb, hml, hown, hts⟩ (da_X16_init l dC dI cy a sh n H_556.size F z_554 k_555 hk hfc) ⟨va_cnB 0 hts ggX18_init_X16_init rfl rfl rfl (NK_m_X18_608 hN) (hts _ md_X18_init_80) ⟨by decide, by decide, by decide +kernel⟩ ⟨Nat.le_of_ble_eq_true rfl, Nat.le_of_ble_eq_true rfl⟩, rfl, (hts _ md_X18_init_130)⟩ ⟨fun a U g mk q => by obtain ⟨q0, q1, qP, qK, qD, qN⟩ := q; exact ⟨q0, q1, qP, va_K.moved (u := U) (U := U.calling g mk a) (Vm.Alike.refl U.vm) qK, qD, qN.same rfl⟩, fun U hU hW => ⟨rfl, by rw [hU], by rw [hU]; exact hP, va_K.moved hW.alike hK, hD.weaken (fun _ _ _ _ => trivial), hN.warm hW⟩⟩ rfl rfl hl.1 rfl (lv_room (Nat.le_of_ble_eq_true rfl)) dX18_init_494 ⟨Nat.le_of_ble_eq_true rfl, Nat.le_of_ble_eq_true rfl⟩) hS (fun q _ h => hFc q h) hFc (fun a t H_561 locs ht hvm hw hB hz1 hk1 hS2 => ?_)
  obtain ⟨⟨hax, hnn⟩, hk⟩ := hw
  obtain ⟨hP1, -, hD1⟩ := hB
  rw [ht] at hP1
  replace hD := hD1.weaken (fun _ _ _ h => hFc _ h)
  replace hP := hP1
  replace hS := hS2
  obtain ⟨sh, esh⟩ : ∃ w, w = shq := ⟨_, rfl⟩
  subst esh
  replace hl : lv_has ls 3 [(2, .int 6), (0, .ref (a h0)), (1, .int x0)] := by rw [hax h0 (okN_at g_557)]; exact hl
  replace hag := hag_new hag hax hnn
  obtain ⟨n, enq⟩ : ∃ w, w = nq := ⟨_, rfl⟩
  subst enq
  refine W.eq (g2 := F0 m 497 ls [.ref (a k_555), .int 6, .ref (a k_551)]) (by rw [hax k_555 (okN_at g_558), hax k_551 (okN_at g_559)]) ?_
  clear hax hnn hP1 hD1 hS2 hFc hfc hz1 hk1 hvm ht
  refine W.widen (k := 148) (n := 433593) (Nat.le_of_ble_eq_true rfl) (Nat.le_of_ble_eq_true rfl) ?_
  obtain ⟨g_562, hf⟩ := grd_some hf
  obtain ⟨kg_562, sg_562, ig_562⟩ := okA_at g_562
  obtain ⟨g_563, hf⟩ := grd_some hf
  obtain ⟨kg_563, sg_563⟩ := okO_at g_563
  refine va_astq hx hb hK hP hD hS k_551 6 k_555 16 (Wd_aq kg_562 sg_562 (by decide)) rfl (Wd_ob kg_563 sg_563 (by decide)) rfl ig_562 dX18_init_497 (fun H_564 locs hP2 hD2 hS2 => ?_)
  rw [Wd_tq sg_562 (by decide)] at hP2 hD2
  obtain ⟨z_565, ez_565⟩ : ∃ w, w = sq z_560 k_551 (6 : Int32).toNatClampNeg (some k_555) := ⟨_, rfl⟩
  rw [← ez_565] at hP2 hD2
  replace hf := lt_at ez_565 hf
  replace hk : lk z_565 n := by rw [ez_565]; exact lk_sq1 hk (Or.inl kg_563)
  clear ez_565
  replace hP := hP2
  replace hD := hD2
  replace hS := hS2
  clear hP2 hD2 hS2
  refine lv_iinc (v := 7) (lv' := [(2, .int 7), (0, .ref (a h0)), (1, .int x0)]) hx hb dX18_init_498 hl (k := 0) rfl rfl (by decide) rfl (fun ls hl2 => ?_)
  replace hl := hl2
  clear hl2
  refine lv_goto (tgt := 479) hx hb dX18_init_501 (by decide) ?_
  refine lv_iload_n hx hb dX18_init_479 rfl (lv_at hl 0 rfl) ?_
  refine lv_bipush (v := 10) hx hb dX18_init_480 (by decide) ?_
  refine lv_icmp_ge (tgt := 504) hx hb dX18_init_482 (by decide) (fun h => absurd h (by decide)) (fun _ => ?_)
  refine lv_aload_n hx hb dX18_init_485 rfl (lv_at hl 1 rfl) ?_
  obtain ⟨g_566, hf⟩ := grd_some hf
  obtain ⟨kg_566, sg_566⟩ := okO_at g_566
  obtain ⟨k_567, ek_567, hf⟩ := lnk_some hf
  refine va_get (D := (dC, dI)) (ci := 18) (v := .ref (a k_567)) (C := RX18) (T := TX18) (N := 78) hx hb hts iwd_X18_init_X18 hown hK hP h0 (Wd_ob kg_566 sg_566 (by decide)) rfl 4 (by decide) (hts _ md_X18_init_9) (fun _ h9 => h9) (fl_q rfl ek_567) dX18_init_486 ?_
  refine lv_iload_n hx hb dX18_init_489 rfl (lv_at hl 0 rfl) ?_
  obtain ⟨g_568, hf⟩ := grd_some hf
  obtain ⟨g_569, hf⟩ := grd_some hf
  refine de_new (ci := 16) (fs := [.null, .int 0, .int 0, .int 0, .int 0, .int 0, .int 0, .int 0, .int 0, .int 0, .int 0, .null, .null, .null, .null, .null, .null, .null]) (C := RX16) (T := TX16) (N := 18) hf hk hx hb hts iwd_X18_init_X16 tyX16 tyX16_ok hown (hts _ md_X18_init_8) (hts _ md_X18_init_79) (hts _ md_X18_init_80) hK hP hD hS hA rfl rfl df_X16 (Nat.le_of_ble_eq_true rfl) (Nat.le_of_ble_eq_true rfl) dX18_init_490 (fun a sh n z_570 k_571 H_572 hf hax hk hnn hP hD hS => ?_)
  refine W.eq (g2 := F0 m 493 ls [.ref (a k_571), .int 7, .ref (a k_567)]) (by rw [hax k_567 (okN_at g_569)]) ?_
  replace hl : lv_has ls 3 [(2, .int 7), (0, .ref (a h0)), (1, .int x0)] := by rw [hax h0 (okN_at g_568)]; exact hl
  replace hag := hag_new hag hax hnn
  clear hax hnn
  refine W.widen (k := 149) (n := 433611) (Nat.le_of_ble_eq_true rfl) (Nat.le_of_ble_eq_true rfl) ?_
  refine lv_dup hx hb dX18_init_493 rfl ?_
  obtain ⟨g_573, hf⟩ := grd_some hf
  obtain ⟨g_574, hf⟩ := grd_some hf
  obtain ⟨g_575, hf⟩ := grd_some hf
  obtain ⟨shq, nq, z_576, _u, hfc, hf⟩ := cala_some hf
  have hFc := de_free hD hS hA
  refine va_callv (va_runIN (As := []) (rest := [.ref (a k_571), .int 7, .ref (a k_567)]) ⟨hx, hb, hml, hown, hts⟩ (da_X16_init l dC dI cy a sh n H_572.size F z_570 k_571 hk hfc) ⟨va_cnB 0 hts ggX18_init_X16_init rfl rfl rfl (NK_m_X18_608 hN) (hts _ md_X18_init_80) ⟨by decide, by decide, by decide +kernel⟩ ⟨Nat.le_of_ble_eq_true rfl, Nat.le_of_ble_eq_true rfl⟩, rfl, (hts _ md_X18_init_130)⟩ ⟨fun a U g mk q => by obtain ⟨q0, q1, qP, qK, qD, qN⟩ := q; exact ⟨q0, q1, qP, va_K.moved (u := U) (U := U.calling g mk a) (Vm.Alike.refl U.vm) qK, qD, qN.same rfl⟩, fun U hU hW => ⟨rfl, by rw [hU], by rw [hU]; exact hP, va_K.moved hW.alike hK, hD.weaken (fun _ _ _ _ => trivial), hN.warm hW⟩⟩ rfl rfl hl.1 rfl (lv_room (Nat.le_of_ble_eq_true rfl)) dX18_init_494 ⟨Nat.le_of_ble_eq_true rfl, Nat.le_of_ble_eq_true rfl⟩) hS (fun q _ h => hFc q h) hFc (fun a t H_577 locs ht hvm hw hB hz1 hk1 hS2 => ?_)
  obtain ⟨⟨hax, hnn⟩, hk⟩ := hw
  obtain ⟨hP1, -, hD1⟩ := hB
  rw [ht] at hP1
  replace hD := hD1.weaken (fun _ _ _ h => hFc _ h)
  replace hP := hP1
  replace hS := hS2
  obtain ⟨sh, esh⟩ : ∃ w, w = shq := ⟨_, rfl⟩
  subst esh
  replace hl : lv_has ls 3 [(2, .int 7), (0, .ref (a h0)), (1, .int x0)] := by rw [hax h0 (okN_at g_573)]; exact hl
  replace hag := hag_new hag hax hnn
  obtain ⟨n, enq⟩ : ∃ w, w = nq := ⟨_, rfl⟩
  subst enq
  refine W.eq (g2 := F0 m 497 ls [.ref (a k_571), .int 7, .ref (a k_567)]) (by rw [hax k_571 (okN_at g_574), hax k_567 (okN_at g_575)]) ?_
  clear hax hnn hP1 hD1 hS2 hFc hfc hz1 hk1 hvm ht
  refine W.widen (k := 157) (n := 437997) (Nat.le_of_ble_eq_true rfl) (Nat.le_of_ble_eq_true rfl) ?_
  obtain ⟨g_578, hf⟩ := grd_some hf
  obtain ⟨kg_578, sg_578, ig_578⟩ := okA_at g_578
  obtain ⟨g_579, hf⟩ := grd_some hf
  obtain ⟨kg_579, sg_579⟩ := okO_at g_579
  refine va_astq hx hb hK hP hD hS k_567 6 k_571 16 (Wd_aq kg_578 sg_578 (by decide)) rfl (Wd_ob kg_579 sg_579 (by decide)) rfl ig_578 dX18_init_497 (fun H_580 locs hP2 hD2 hS2 => ?_)
  rw [Wd_tq sg_578 (by decide)] at hP2 hD2
  obtain ⟨z_581, ez_581⟩ : ∃ w, w = sq z_576 k_567 (7 : Int32).toNatClampNeg (some k_571) := ⟨_, rfl⟩
  rw [← ez_581] at hP2 hD2
  replace hf := lt_at ez_581 hf
  replace hk : lk z_581 n := by rw [ez_581]; exact lk_sq1 hk (Or.inl kg_579)
  clear ez_581
  replace hP := hP2
  replace hD := hD2
  replace hS := hS2
  clear hP2 hD2 hS2
  refine lv_iinc (v := 8) (lv' := [(2, .int 8), (0, .ref (a h0)), (1, .int x0)]) hx hb dX18_init_498 hl (k := 0) rfl rfl (by decide) rfl (fun ls hl2 => ?_)
  replace hl := hl2
  clear hl2
  refine lv_goto (tgt := 479) hx hb dX18_init_501 (by decide) ?_
  refine lv_iload_n hx hb dX18_init_479 rfl (lv_at hl 0 rfl) ?_
  refine lv_bipush (v := 10) hx hb dX18_init_480 (by decide) ?_
  refine lv_icmp_ge (tgt := 504) hx hb dX18_init_482 (by decide) (fun h => absurd h (by decide)) (fun _ => ?_)
  refine lv_aload_n hx hb dX18_init_485 rfl (lv_at hl 1 rfl) ?_
  obtain ⟨g_582, hf⟩ := grd_some hf
  obtain ⟨kg_582, sg_582⟩ := okO_at g_582
  obtain ⟨k_583, ek_583, hf⟩ := lnk_some hf
  refine va_get (D := (dC, dI)) (ci := 18) (v := .ref (a k_583)) (C := RX18) (T := TX18) (N := 78) hx hb hts iwd_X18_init_X18 hown hK hP h0 (Wd_ob kg_582 sg_582 (by decide)) rfl 4 (by decide) (hts _ md_X18_init_9) (fun _ h9 => h9) (fl_q rfl ek_583) dX18_init_486 ?_
  refine lv_iload_n hx hb dX18_init_489 rfl (lv_at hl 0 rfl) ?_
  obtain ⟨g_584, hf⟩ := grd_some hf
  obtain ⟨g_585, hf⟩ := grd_some hf
  refine de_new (ci := 16) (fs := [.null, .int 0, .int 0, .int 0, .int 0, .int 0, .int 0, .int 0, .int 0, .int 0, .int 0, .null, .null, .null, .null, .null, .null, .null]) (C := RX16) (T := TX16) (N := 18) hf hk hx hb hts iwd_X18_init_X16 tyX16 tyX16_ok hown (hts _ md_X18_init_8) (hts _ md_X18_init_79) (hts _ md_X18_init_80) hK hP hD hS hA rfl rfl df_X16 (Nat.le_of_ble_eq_true rfl) (Nat.le_of_ble_eq_true rfl) dX18_init_490 (fun a sh n z_586 k_587 H_588 hf hax hk hnn hP hD hS => ?_)
  refine W.eq (g2 := F0 m 493 ls [.ref (a k_587), .int 8, .ref (a k_583)]) (by rw [hax k_583 (okN_at g_585)]) ?_
  replace hl : lv_has ls 3 [(2, .int 8), (0, .ref (a h0)), (1, .int x0)] := by rw [hax h0 (okN_at g_584)]; exact hl
  replace hag := hag_new hag hax hnn
  clear hax hnn
  refine W.widen (k := 158) (n := 438015) (Nat.le_of_ble_eq_true rfl) (Nat.le_of_ble_eq_true rfl) ?_
  refine lv_dup hx hb dX18_init_493 rfl ?_
  obtain ⟨g_589, hf⟩ := grd_some hf
  obtain ⟨g_590, hf⟩ := grd_some hf
  obtain ⟨g_591, hf⟩ := grd_some hf
  obtain ⟨shq, nq, z_592, _u, hfc, hf⟩ := cala_some hf
  have hFc := de_free hD hS hA
  refine va_callv (va_runIN (As := []) (rest := [.ref (a k_587), .int 8, .ref (a k_583)]) ⟨hx, hb, hml, hown, hts⟩ (da_X16_init l dC dI cy a sh n H_588.size F z_586 k_587 hk hfc) ⟨va_cnB 0 hts ggX18_init_X16_init rfl rfl rfl (NK_m_X18_608 hN) (hts _ md_X18_init_80) ⟨by decide, by decide, by decide +kernel⟩ ⟨Nat.le_of_ble_eq_true rfl, Nat.le_of_ble_eq_true rfl⟩, rfl, (hts _ md_X18_init_130)⟩ ⟨fun a U g mk q => by obtain ⟨q0, q1, qP, qK, qD, qN⟩ := q; exact ⟨q0, q1, qP, va_K.moved (u := U) (U := U.calling g mk a) (Vm.Alike.refl U.vm) qK, qD, qN.same rfl⟩, fun U hU hW => ⟨rfl, by rw [hU], by rw [hU]; exact hP, va_K.moved hW.alike hK, hD.weaken (fun _ _ _ _ => trivial), hN.warm hW⟩⟩ rfl rfl hl.1 rfl (lv_room (Nat.le_of_ble_eq_true rfl)) dX18_init_494 ⟨Nat.le_of_ble_eq_true rfl, Nat.le_of_ble_eq_true rfl⟩) hS (fun q _ h => hFc q h) hFc (fun a t H_593 locs ht hvm hw hB hz1 hk1 hS2 => ?_)
  obtain ⟨⟨hax, hnn⟩, hk⟩ := hw
  obtain ⟨hP1, -, hD1⟩ := hB
  rw [ht] at hP1
  replace hD := hD1.weaken (fun _ _ _ h => hFc _ h)
  replace hP := hP1
  replace hS := hS2
  obtain ⟨sh, esh⟩ : ∃ w, w = shq := ⟨_, rfl⟩
  subst esh
  replace hl : lv_has ls 3 [(2, .int 8), (0, .ref (a h0)), (1, .int x0)] := by rw [hax h0 (okN_at g_589)]; exact hl
  replace hag := hag_new hag hax hnn
  obtain ⟨n, enq⟩ : ∃ w, w = nq := ⟨_, rfl⟩
  subst enq
  refine W.eq (g2 := F0 m 497 ls [.ref (a k_587), .int 8, .ref (a k_583)]) (by rw [hax k_587 (okN_at g_590), hax k_583 (okN_at g_591)]) ?_
  clear hax hnn hP1 hD1 hS2 hFc hfc hz1 hk1 hvm ht
  refine W.widen (k := 166) (n := 442401) (Nat.le_of_ble_eq_true rfl) (Nat.le_of_ble_eq_true rfl) ?_
  obtain ⟨g_594, hf⟩ := grd_some hf
  obtain ⟨kg_594, sg_594, ig_594⟩ := okA_at g_594
  obtain ⟨g_595, hf⟩ := grd_some hf
  obtain ⟨kg_595, sg_595⟩ := okO_at g_595
  refine va_astq hx hb hK hP hD hS k_583 6 k_587 16 (Wd_aq kg_594 sg_594 (by decide)) rfl (Wd_ob kg_595 sg_595 (by decide)) rfl ig_594 dX18_init_497 (fun H_596 locs hP2 hD2 hS2 => ?_)
  rw [Wd_tq sg_594 (by decide)] at hP2 hD2
  obtain ⟨z_597, ez_597⟩ : ∃ w, w = sq z_592 k_583 (8 : Int32).toNatClampNeg (some k_587) := ⟨_, rfl⟩
  rw [← ez_597] at hP2 hD2
  replace hf := lt_at ez_597 hf
  replace hk : lk z_597 n := by rw [ez_597]; exact lk_sq1 hk (Or.inl kg_595)
  clear ez_597
  replace hP := hP2
  replace hD := hD2
  replace hS := hS2
  clear hP2 hD2 hS2
  refine lv_iinc (v := 9) (lv' := [(2, .int 9), (0, .ref (a h0)), (1, .int x0)]) hx hb dX18_init_498 hl (k := 0) rfl rfl (by decide) rfl (fun ls hl2 => ?_)
  replace hl := hl2
  clear hl2
  refine lv_goto (tgt := 479) hx hb dX18_init_501 (by decide) ?_
  refine lv_iload_n hx hb dX18_init_479 rfl (lv_at hl 0 rfl) ?_
  refine lv_bipush (v := 10) hx hb dX18_init_480 (by decide) ?_
  refine lv_icmp_ge (tgt := 504) hx hb dX18_init_482 (by decide) (fun h => absurd h (by decide)) (fun _ => ?_)
  refine lv_aload_n hx hb dX18_init_485 rfl (lv_at hl 1 rfl) ?_
  obtain ⟨g_598, hf⟩ := grd_some hf
  obtain ⟨kg_598, sg_598⟩ := okO_at g_598
  obtain ⟨k_599, ek_599, hf⟩ := lnk_some hf
  refine va_get (D := (dC, dI)) (ci := 18) (v := .ref (a k_599)) (C := RX18) (T := TX18) (N := 78) hx hb hts iwd_X18_init_X18 hown hK hP h0 (Wd_ob kg_598 sg_598 (by decide)) rfl 4 (by decide) (hts _ md_X18_init_9) (fun _ h9 => h9) (fl_q rfl ek_599) dX18_init_486 ?_
  refine lv_iload_n hx hb dX18_init_489 rfl (lv_at hl 0 rfl) ?_
  obtain ⟨g_600, hf⟩ := grd_some hf
  obtain ⟨g_601, hf⟩ := grd_some hf
  refine de_new (ci := 16) (fs := [.null, .int 0, .int 0, .int 0, .int 0, .int 0, .int 0, .int 0, .int 0, .int 0, .int 0, .null, .null, .null, .null, .null, .null, .null]) (C := RX16) (T := TX16) (N := 18) hf hk hx hb hts iwd_X18_init_X16 tyX16 tyX16_ok hown (hts _ md_X18_init_8) (hts _ md_X18_init_79) (hts _ md_X18_init_80) hK hP hD hS hA rfl rfl df_X16 (Nat.le_of_ble_eq_true rfl) (Nat.le_of_ble_eq_true rfl) dX18_init_490 (fun a sh n z_602 k_603 H_604 hf hax hk hnn hP hD hS => ?_)
  refine W.eq (g2 := F0 m 493 ls [.ref (a k_603), .int 9, .ref (a k_599)]) (by rw [hax k_599 (okN_at g_601)]) ?_
  replace hl : lv_has ls 3 [(2, .int 9), (0, .ref (a h0)), (1, .int x0)] := by rw [hax h0 (okN_at g_600)]; exact hl
  replace hag := hag_new hag hax hnn
  clear hax hnn
  refine W.widen (k := 167) (n := 442419) (Nat.le_of_ble_eq_true rfl) (Nat.le_of_ble_eq_true rfl) ?_
  refine lv_dup hx hb dX18_init_493 rfl ?_
  obtain ⟨g_605, hf⟩ := grd_some hf
  obtain ⟨g_606, hf⟩ := grd_some hf
  obtain ⟨g_607, hf⟩ := grd_some hf
  obtain ⟨shq, nq, z_608, _u, hfc, hf⟩ := cala_some hf
  have hFc := de_free hD hS hA
  refine va_callv (va_runIN (As := []) (rest := [.ref (a k_603), .int 9, .ref (a k_599)]) ⟨hx, hb, hml, hown, hts⟩ (da_X16_init l dC dI cy a sh n H_604.size F z_602 k_603 hk hfc) ⟨va_cnB 0 hts ggX18_init_X16_init rfl rfl rfl (NK_m_X18_608 hN) (hts _ md_X18_init_80) ⟨by decide, by decide, by decide +kernel⟩ ⟨Nat.le_of_ble_eq_true rfl, Nat.le_of_ble_eq_true rfl⟩, rfl, (hts _ md_X18_init_130)⟩ ⟨fun a U g mk q => by obtain ⟨q0, q1, qP, qK, qD, qN⟩ := q; exact ⟨q0, q1, qP, va_K.moved (u := U) (U := U.calling g mk a) (Vm.Alike.refl U.vm) qK, qD, qN.same rfl⟩, fun U hU hW => ⟨rfl, by rw [hU], by rw [hU]; exact hP, va_K.moved hW.alike hK, hD.weaken (fun _ _ _ _ => trivial), hN.warm hW⟩⟩ rfl rfl hl.1 rfl (lv_room (Nat.le_of_ble_eq_true rfl)) dX18_init_494 ⟨Nat.le_of_ble_eq_true rfl, Nat.le_of_ble_eq_true rfl⟩) hS (fun q _ h => hFc q h) hFc (fun a t H_609 locs ht hvm hw hB hz1 hk1 hS2 => ?_)
  obtain ⟨⟨hax, hnn⟩, hk⟩ := hw
  obtain ⟨hP1, -, hD1⟩ := hB
  rw [ht] at hP1
  replace hD := hD1.weaken (fun _ _ _ h => hFc _ h)
  replace hP := hP1
  replace hS := hS2
  obtain ⟨sh, esh⟩ : ∃ w, w = shq := ⟨_, rfl⟩
  subst esh
  replace hl : lv_has ls 3 [(2, .int 9), (0, .ref (a h0)), (1, .int x0)] := by rw [hax h0 (okN_at g_605)]; exact hl
  replace hag := hag_new hag hax hnn
  obtain ⟨n, enq⟩ : ∃ w, w = nq := ⟨_, rfl⟩
  subst enq
  refine W.eq (g2 := F0 m 497 ls [.ref (a k_603), .int 9, .ref (a k_599)]) (by rw [hax k_603 (okN_at g_606), hax k_599 (okN_at g_607)]) ?_
  clear hax hnn hP1 hD1 hS2 hFc hfc hz1 hk1 hvm ht
  refine W.widen (k := 175) (n := 446805) (Nat.le_of_ble_eq_true rfl) (Nat.le_of_ble_eq_true rfl) ?_
  obtain ⟨g_610, hf⟩ := grd_some hf
  obtain ⟨kg_610, sg_610, ig_610⟩ := okA_at g_610
  obtain ⟨g_611, hf⟩ := grd_some hf
  obtain ⟨kg_611, sg_611⟩ := okO_at g_611
  refine va_astq hx hb hK hP hD hS k_599 6 k_603 16 (Wd_aq kg_610 sg_610 (by decide)) rfl (Wd_ob kg_611 sg_611 (by decide)) rfl ig_610 dX18_init_497 (fun H_612 locs hP2 hD2 hS2 => ?_)
  rw [Wd_tq sg_610 (by decide)] at hP2 hD2
  obtain ⟨z_613, ez_613⟩ : ∃ w, w = sq z_608 k_599 (9 : Int32).toNatClampNeg (some k_603) := ⟨_, rfl⟩
  rw [← ez_613] at hP2 hD2
  replace hf := lt_at ez_613 hf
  replace hk : lk z_613 n := by rw [ez_613]; exact lk_sq1 hk (Or.inl kg_611)
  clear ez_613
  replace hP := hP2
  replace hD := hD2
  replace hS := hS2
  clear hP2 hD2 hS2
  refine lv_iinc (v := 10) (lv' := [(2, .int 10), (0, .ref (a h0)), (1, .int x0)]) hx hb dX18_init_498 hl (k := 0) rfl rfl (by decide) rfl (fun ls hl2 => ?_)
  replace hl := hl2
  clear hl2
  refine lv_goto (tgt := 479) hx hb dX18_init_501 (by decide) ?_
  refine lv_iload_n hx hb dX18_init_479 rfl (lv_at hl 0 rfl) ?_
  refine lv_bipush (v := 10) hx hb dX18_init_480 (by decide) ?_
  refine lv_icmp_ge (tgt := 504) hx hb dX18_init_482 (by decide) (fun _ => ?_) (fun h => absurd (by decide) h)
  obtain ⟨h5, h6, h8, h9⟩ := rta_some hf
  rw [h5, h6, h8]
  exact W.vret hx hb hr (fun t ht hW => ⟨⟨a, rfl, ⟨hag, hk⟩, by rw [ht]; exact hP, va_K.moved hW.alike hK, hD⟩, hS.F ht⟩) hS.2.2 dX18_init_504

theorem md_X11_init_1 : (.methodLink RX11 1 objectInit : Cond) ∈ wsX11_init := List.mem_of_getElem? (i := 1) rfl
theorem md_X11_init_2 : (.instanceMethod objectInit : Cond) ∈ wsX11_init := List.mem_of_getElem? (i := 2) rfl
theorem md_X11_init_3 : (.code objectInit ⟨#[0xb1]⟩ 1 none : Cond) ∈ wsX11_init := List.mem_of_getElem? (i := 3) rfl
theorem md_X11_init_4 : (.arrayClass .byte : Cond) ∈ wsX11_init := List.mem_of_getElem? (i := 4) rfl
theorem md_X11_init_5 : (.fieldLink RX11 9 "ResourceLedger" "tape" "[B" : Cond) ∈ wsX11_init := List.mem_of_getElem? (i := 5) rfl
theorem iwd_X11_init_X11 : ∀ w ∈ wsX110, w ∈ wsX11_init := fun _ h => List.mem_cons_of_mem _ (List.mem_append_left _ (List.mem_append_left _ (List.mem_append_left _ (List.mem_append_left _ (List.mem_append_left _ (List.mem_append_left _ (List.mem_append_left _ (List.mem_append_left _ (List.mem_append_left _ (List.mem_append_left _ (List.mem_append_left _ (List.mem_append_right _ h))))))))))))
theorem md_X11_init_6 : (.classLink RX11 13 RX8 : Cond) ∈ wsX11_init := List.mem_of_getElem? (i := 6) rfl
theorem md_X11_init_7 : (.fieldLink RX11 15 "ResourceLedger" "block" "[LResourceLedger$Transaction;" : Cond) ∈ wsX11_init := List.mem_of_getElem? (i := 7) rfl
theorem iwd_X11_init_X7 : ∀ w ∈ wsX70, w ∈ wsX11_init := fun _ h => List.mem_cons_of_mem _ (List.mem_append_left _ (List.mem_append_left _ (List.mem_append_left _ (List.mem_append_left _ (List.mem_append_left _ (List.mem_append_left _ (List.mem_append_left _ (List.mem_append_left _ (List.mem_append_left _ (List.mem_append_left _ (List.mem_append_right _ h)))))))))))
theorem md_X11_init_8 : (.classLink RX11 19 RX7 : Cond) ∈ wsX11_init := List.mem_of_getElem? (i := 8) rfl
theorem md_X11_init_9 : (.instantiable RX7 16 : Cond) ∈ wsX11_init := List.mem_of_getElem? (i := 9) rfl
theorem md_X11_init_10 : (.initialized RX7 : Cond) ∈ wsX11_init := List.mem_of_getElem? (i := 10) rfl
theorem md_X11_init_33 : (.methodLink RX11 21 yX7_init : Cond) ∈ wsX11_init := List.mem_of_getElem? (i := 33) rfl
theorem md_X11_init_34 : (.instanceMethod yX7_init : Cond) ∈ wsX11_init := List.mem_of_getElem? (i := 34) rfl
theorem md_X11_init_11 : (.fieldLink RX11 22 "ResourceLedger" "state" "LResourceLedger$State;" : Cond) ∈ wsX11_init := List.mem_of_getElem? (i := 11) rfl
theorem iwd_X11_init_X6 : ∀ w ∈ wsX60, w ∈ wsX11_init := fun _ h => List.mem_cons_of_mem _ (List.mem_append_left _ (List.mem_append_left _ (List.mem_append_left _ (List.mem_append_left _ (List.mem_append_left _ (List.mem_append_left _ (List.mem_append_left _ (List.mem_append_left _ (List.mem_append_left _ (List.mem_append_right _ h))))))))))
theorem md_X11_init_12 : (.classLink RX11 26 RX6 : Cond) ∈ wsX11_init := List.mem_of_getElem? (i := 12) rfl
theorem md_X11_init_13 : (.instantiable RX6 9 : Cond) ∈ wsX11_init := List.mem_of_getElem? (i := 13) rfl
theorem md_X11_init_14 : (.initialized RX6 : Cond) ∈ wsX11_init := List.mem_of_getElem? (i := 14) rfl
theorem md_X11_init_60 : (.instanceMethod yX6_init : Cond) ∈ wsX11_init := List.mem_of_getElem? (i := 60) rfl
theorem md_X11_init_15 : (.fieldLink RX11 29 "ResourceLedger" "reader" "LResourceLedger$Reader;" : Cond) ∈ wsX11_init := List.mem_of_getElem? (i := 15) rfl
theorem iwd_X11_init_X3 : ∀ w ∈ wsX30, w ∈ wsX11_init := fun _ h => List.mem_cons_of_mem _ (List.mem_append_left _ (List.mem_append_left _ (List.mem_append_left _ (List.mem_append_left _ (List.mem_append_left _ (List.mem_append_left _ (List.mem_append_left _ (List.mem_append_left _ (List.mem_append_right _ h)))))))))
theorem md_X11_init_16 : (.classLink RX11 33 RX3 : Cond) ∈ wsX11_init := List.mem_of_getElem? (i := 16) rfl
theorem md_X11_init_17 : (.instantiable RX3 22 : Cond) ∈ wsX11_init := List.mem_of_getElem? (i := 17) rfl
theorem md_X11_init_18 : (.initialized RX3 : Cond) ∈ wsX11_init := List.mem_of_getElem? (i := 18) rfl
theorem md_X11_init_64 : (.instanceMethod yX3_init : Cond) ∈ wsX11_init := List.mem_of_getElem? (i := 64) rfl
theorem md_X11_init_19 : (.fieldLink RX11 36 "ResourceLedger" "looker" "LResourceLedger$Looker;" : Cond) ∈ wsX11_init := List.mem_of_getElem? (i := 19) rfl
theorem iwd_X11_init_X9 : ∀ w ∈ wsX90, w ∈ wsX11_init := fun _ h => List.mem_cons_of_mem _ (List.mem_append_left _ (List.mem_append_left _ (List.mem_append_left _ (List.mem_append_left _ (List.mem_append_left _ (List.mem_append_left _ (List.mem_append_left _ (List.mem_append_right _ h))))))))
theorem md_X11_init_20 : (.classLink RX11 40 RX9 : Cond) ∈ wsX11_init := List.mem_of_getElem? (i := 20) rfl
theorem md_X11_init_21 : (.instantiable RX9 13 : Cond) ∈ wsX11_init := List.mem_of_getElem? (i := 21) rfl
theorem md_X11_init_22 : (.initialized RX9 : Cond) ∈ wsX11_init := List.mem_of_getElem? (i := 22) rfl
theorem md_X11_init_79 : (.instanceMethod yX9_init : Cond) ∈ wsX11_init := List.mem_of_getElem? (i := 79) rfl
theorem md_X11_init_23 : (.fieldLink RX11 43 "ResourceLedger" "tree" "LResourceLedger$Tree;" : Cond) ∈ wsX11_init := List.mem_of_getElem? (i := 23) rfl
theorem md_X11_init_24 : (.fieldLink RX11 47 "ResourceLedger" "asked" "[B" : Cond) ∈ wsX11_init := List.mem_of_getElem? (i := 24) rfl
theorem iwd_X11_init_X4 : ∀ w ∈ wsX40, w ∈ wsX11_init := fun _ h => List.mem_cons_of_mem _ (List.mem_append_left _ (List.mem_append_left _ (List.mem_append_left _ (List.mem_append_left _ (List.mem_append_left _ (List.mem_append_left _ (List.mem_append_right _ h)))))))
theorem md_X11_init_25 : (.classLink RX11 50 RX4 : Cond) ∈ wsX11_init := List.mem_of_getElem? (i := 25) rfl
theorem md_X11_init_26 : (.instantiable RX4 18 : Cond) ∈ wsX11_init := List.mem_of_getElem? (i := 26) rfl
theorem md_X11_init_27 : (.initialized RX4 : Cond) ∈ wsX11_init := List.mem_of_getElem? (i := 27) rfl
theorem md_X11_init_100 : (.methodLink RX11 52 yX4_init : Cond) ∈ wsX11_init := List.mem_of_getElem? (i := 100) rfl
theorem md_X11_init_101 : (.instanceMethod yX4_init : Cond) ∈ wsX11_init := List.mem_of_getElem? (i := 101) rfl
theorem md_X11_init_28 : (.fieldLink RX11 55 "ResourceLedger" "machine" "LResourceLedger$Machine;" : Cond) ∈ wsX11_init := List.mem_of_getElem? (i := 28) rfl
theorem iwd_X11_init_X8 : ∀ w ∈ wsX80, w ∈ wsX11_init := fun _ h => List.mem_cons_of_mem _ (List.mem_append_left _ (List.mem_append_left _ (List.mem_append_left _ (List.mem_append_left _ (List.mem_append_left _ (List.mem_append_right _ h))))))
theorem md_X11_init_29 : (.instantiable RX8 19 : Cond) ∈ wsX11_init := List.mem_of_getElem? (i := 29) rfl
theorem md_X11_init_30 : (.initialized RX8 : Cond) ∈ wsX11_init := List.mem_of_getElem? (i := 30) rfl
theorem md_X11_init_151 : (.instanceMethod yX8_init : Cond) ∈ wsX11_init := List.mem_of_getElem? (i := 151) rfl
theorem md_X11_init_31 : (.fieldLink RX11 60 "ResourceLedger$State" "programs" "[LResourceLedger$Program;" : Cond) ∈ wsX11_init := List.mem_of_getElem? (i := 31) rfl
theorem md_X11_init_32 : (.fieldLink RX11 64 "ResourceLedger$Program" "COIN_BYTES" "[B" : Cond) ∈ wsX11_init := List.mem_of_getElem? (i := 32) rfl
set_option maxHeartbeats 4000000 in
set_option maxRecDepth 100000 in
theorem da_X11_init (l : Launch) (dC : Nat → ClassId) (dI : Nat → Nat → Nat) (cy : Nat → ClassId) (a0 : Nat → Nat) (sh0 : Nat → Nat × Nat) (n0 sz : Nat) (F : Nat) (sk : Nat → Nat) (z0 : St) (h0 : Nat) (x0 : Int32) (hk0 : lk z0 n0) {sh8 : Nat → Nat × Nat} {n8 : Nat} {z8 : St} {r8 : Unit} (hf : fa_X11_init F sh0 n0 z0 h0 x0 = some (sh8, n8, z8, r8)) : Met l yX11_init wsX11_init ({ frames := 6, cells := 336, slots := 246318, locals := 141 }) (va_Pc [.ref (a0 h0), .int x0] (fun U => U.heap.size = sz ∧ va_P (dC, dI) vwCl (Wd cy a0 sh0 n0 z0) U.heap ∧ va_K (dC, dI) vwCl (TYS cy) U ∧ va_D (fun _ => True) (Wd cy a0 sh0 n0 z0) ∧ NK U ∧ SKs sk (a0 CBK) (va_A (Wd cy a0 sh0 n0 z0) sz) U U.heap)) (va_Qv (fun u : Nat → Nat => ((∀ k, k < n0 ∨ k = CBK → u k = a0 k) ∧ n0 ≤ n8)) (fun u t => va_P (dC, dI) vwCl (Wd cy u sh8 n8 z8) t.heap ∧ va_K (dC, dI) vwCl (TYS cy) t ∧ va_D (va_A (Wd cy a0 sh0 n0 z0) sz) (Wd cy u sh8 n8 z8)) (va_A (Wd cy a0 sh0 n0 z0) sz)) 336 246318 (va_A (Wd cy a0 sh0 n0 z0) sz) := by
  refine Met.ofW (cc := cX11_init) (maxL := 3) (ret := none) (by decide) rfl ?_
  intro p e s m args below meth c s₁ B hml hv
  obtain ⟨rfl, hsz, hP, hK, hD0, hN, hSK⟩ := hv
  have hx := B.exec
  have hb := B.bytes
  have hr := B.returns
  have hts := atoms_spec (ws := wsX11_init) B.pre
  have hown : s.vm.findClass RX11 = some m.cls := findClass_of_methodNamed B.named
  have hlocks := B.notSynchronized
  have hin : meth.name = "<init>" := (name_of_methodNamed B.named B.method).1
  subst hsz
  have hD := hD0.self (sz := s.heap.size)
  clear hD0
  generalize hAe : va_A (Wd cy a0 sh0 n0 z0) s.heap.size = A at hD hSK ⊢
  have hA : ∀ q : Nat, s.heap.size ≤ q → A q := fun q h => by rw [← hAe]; exact Or.inr h
  clear hAe
  have hS : va_S A s.heap s.heap [] := va_S.rf
  have hl := lv_entry ([.ref (a0 h0), .int x0]) (n := 3) (Nat.le_of_ble_eq_true rfl)
  rw [lg_entry_eq]
  generalize (lg_sl ([.ref (a0 h0), .int x0]) ++ List.replicate (3 - (lg_sl ([.ref (a0 h0), .int x0])).length) Slot.unset).toArray = ls at hl ⊢
  replace hl : lv_has ls 3 [(0, .ref (a0 h0)), (1, .int x0)] := hl
  unfold fa_X11_init at hf
  refine da_start (fn := fun sh n z => fa_X11_init F sh n z h0 x0) (av := fun a => [(0, .ref (a h0)), (1, .int x0)]) (sk := fun q => SKs sk q A s s.heap) hf hk0 hS hD hP hl hSK (fun a sh n z H locs hf hag hk hS hD hP hl hSK => ?_)
  unfold fa_X11_init at hf
  try dsimp only at hf hl hSK
  refine lv_aload_n hx hb dX11_init_0 rfl (lv_at hl 0 rfl) ?_
  refine W.objInit hx hb hown (hts _ md_X11_init_1) (hts _ md_X11_init_2) (hts _ md_X11_init_3) rfl (by rw [hml]; exact hl.1) rfl dX11_init_1 (Nat.le_of_ble_eq_true rfl) (Nat.le_of_ble_eq_true rfl) ?_
  refine W.eq (g2 := F0 m 4 ls []) rfl ?_
  refine lv_aload_n hx hb dX11_init_4 rfl (lv_at hl 0 rfl) ?_
  refine lv_sipush (v := 2048) hx hb dX11_init_5 (by decide) ?_
  obtain ⟨g_1, hf⟩ := grd_some hf
  refine de_newa (atype := .byte) (ty := .byte) (t := 0) (N := 2048) (a0 := (2048, .inl (fun _ => 0))) hf hk hx hb (hts _ md_X11_init_4) rfl hK hP hD hS hA rfl rfl (fun _ => rfl) (by decide) (by decide) (Nat.le_of_ble_eq_true rfl) (Nat.le_of_ble_eq_true rfl) (Nat.le_of_ble_eq_true rfl) dX11_init_8 (fun a sh n z_2 k_3 H_4 hf hax hk hnn hP hD hS => ?_)
  refine W.eq (g2 := F0 m 10 ls [.ref (a k_3), .ref (a h0)]) (by rw [hax h0 (okN_at g_1)]) ?_
  replace hl : lv_has ls 3 [(0, .ref (a h0)), (1, .int x0)] := by rw [hax h0 (okN_at g_1)]; exact hl
  rw [← hax CBK (Or.inr rfl)] at hSK
  replace hag := hag_new hag hax hnn
  clear hax hnn
  refine W.widen (k := 1) (n := 2048) (Nat.le_of_ble_eq_true rfl) (Nat.le_of_ble_eq_true rfl) ?_
  obtain ⟨g_5, hf⟩ := grd_some hf
  obtain ⟨g_6, hf⟩ := grd_some hf
  obtain ⟨kg_6, sg_6⟩ := okO_at g_6
  refine va_putF (D := (dC, dI)) (ci := 11) (v := .ref (a k_3)) (ty := .array .byte) (C := RX11) (T := TX11) (N := 13) hx hb hts iwd_X11_init_X11 tyX11 tyX11_ok nmX11 hown hK hP hD hS h0 (Wd_ob kg_6 sg_6 (by decide)) rfl 0 (by decide) (hts _ md_X11_init_5) (fun _ h9 => h9) rfl hin rfl (by decide +kernel) rfl rfl (by rw [fl_len]; decide) dX11_init_10 (fun H_7 locs hP2 hD2 hS2 => ?_)
  rw [Wd_sq1 sg_6 (by decide) rfl] at hP2 hD2
  obtain ⟨z_8, ez_8⟩ : ∃ w, w = sq z_2 h0 0 (some k_3) := ⟨_, rfl⟩
  rw [← ez_8] at hP2 hD2
  replace hf := lt_at ez_8 hf
  replace hk : lk z_8 n := by rw [ez_8]; exact lk_sq1 hk (okN_at g_5)
  clear ez_8
  replace hP := hP2
  replace hD := hD2
  replace hS := hS2
  clear hP2 hD2 hS2
  refine lv_aload_n hx hb dX11_init_13 rfl (lv_at hl 0 rfl) ?_
  refine lv_bipush (v := 32) hx hb dX11_init_14 (by decide) ?_
  obtain ⟨g_9, hf⟩ := grd_some hf
  refine de_newq (t := 5) (N := 32) hf hk hx hb hown (hts _ md_X11_init_6) hN.2.2.2.1 hK hP hD hS hA rfl rfl (by decide) (by decide) (Nat.le_of_ble_eq_true rfl) (Nat.le_of_ble_eq_true rfl) (Nat.le_of_ble_eq_true rfl) dX11_init_16 (fun a sh n z_10 k_11 H_12 hf hax hk hnn hP hD hS => ?_)
  refine W.eq (g2 := F0 m 19 ls [.ref (a k_11), .ref (a h0)]) (by rw [hax h0 (okN_at g_9)]) ?_
  replace hl : lv_has ls 3 [(0, .ref (a h0)), (1, .int x0)] := by rw [hax h0 (okN_at g_9)]; exact hl
  rw [← hax CBK (Or.inr rfl)] at hSK
  replace hag := hag_new hag hax hnn
  clear hax hnn
  refine W.widen (k := 2) (n := 2080) (Nat.le_of_ble_eq_true rfl) (Nat.le_of_ble_eq_true rfl) ?_
  obtain ⟨g_13, hf⟩ := grd_some hf
  obtain ⟨g_14, hf⟩ := grd_some hf
  obtain ⟨kg_14, sg_14⟩ := okO_at g_14
  refine va_putF (D := (dC, dI)) (ci := 11) (v := .ref (a k_11)) (ty := .array (.object "ResourceLedger$Transaction")) (C := RX11) (T := TX11) (N := 13) hx hb hts iwd_X11_init_X11 tyX11 tyX11_ok nmX11 hown hK hP hD hS h0 (Wd_ob kg_14 sg_14 (by decide)) rfl 3 (by decide) (hts _ md_X11_init_7) (fun _ h9 => h9) rfl hin rfl (by decide +kernel) rfl rfl (by rw [fl_len]; decide) dX11_init_19 (fun H_15 locs hP2 hD2 hS2 => ?_)
  rw [Wd_sq1 sg_14 (by decide) rfl] at hP2 hD2
  obtain ⟨z_16, ez_16⟩ : ∃ w, w = sq z_10 h0 3 (some k_11) := ⟨_, rfl⟩
  rw [← ez_16] at hP2 hD2
  replace hf := lt_at ez_16 hf
  replace hk : lk z_16 n := by rw [ez_16]; exact lk_sq1 hk (okN_at g_13)
  clear ez_16
  replace hP := hP2
  replace hD := hD2
  replace hS := hS2
  clear hP2 hD2 hS2
  refine lv_aload_n hx hb dX11_init_22 rfl (lv_at hl 0 rfl) ?_
  obtain ⟨g_17, hf⟩ := grd_some hf
  refine de_new (ci := 7) (fs := [.null, .null, .null, .int 0, .null, .int 0, .null, .null, .null, .null, .int 0, .null, .null, .null, .long 0, .long 0]) (C := RX7) (T := TX7) (N := 16) hf hk hx hb hts iwd_X11_init_X7 tyX7 tyX7_ok hown (hts _ md_X11_init_8) (hts _ md_X11_init_9) (hts _ md_X11_init_10) hK hP hD hS hA rfl rfl df_X7 (Nat.le_of_ble_eq_true rfl) (Nat.le_of_ble_eq_true rfl) dX11_init_23 (fun a sh n z_18 k_19 H_20 hf hax hk hnn hP hD hS => ?_)
  refine W.eq (g2 := F0 m 26 ls [.ref (a k_19), .ref (a h0)]) (by rw [hax h0 (okN_at g_17)]) ?_
  replace hl : lv_has ls 3 [(0, .ref (a h0)), (1, .int x0)] := by rw [hax h0 (okN_at g_17)]; exact hl
  rw [← hax CBK (Or.inr rfl)] at hSK
  replace hag := hag_new hag hax hnn
  clear hax hnn
  refine W.widen (k := 3) (n := 2096) (Nat.le_of_ble_eq_true rfl) (Nat.le_of_ble_eq_true rfl) ?_
  refine lv_dup hx hb dX11_init_26 rfl ?_
  obtain ⟨g_21, hf⟩ := grd_some hf
  obtain ⟨g_22, hf⟩ := grd_some hf
  obtain ⟨shq, nq, z_23, _u, hfc, hf⟩ := cala_some hf
  have hFc := de_free hD hS hA
  refine va_callv (va_runI (As := []) (rest := [.ref (a k_19), .ref (a h0)]) ⟨hx, hb, hml, hown, hts⟩ (da_X7_init l dC dI cy a sh n H_20.size F z_18 k_19 hk hfc) (cwI 0 hts ggX11_init_X7_init rfl rfl rfl (hts _ md_X11_init_10) (hts _ md_X11_init_33) (hts _ md_X11_init_34) rfl (by decide +kernel) ⟨Nat.le_of_ble_eq_true rfl, Nat.le_of_ble_eq_true rfl⟩) ⟨fun a U g mk q => by obtain ⟨q0, q1, qP, qK, qD, qN⟩ := q; exact ⟨q0, q1, qP, va_K.moved (u := U) (U := U.calling g mk a) (Vm.Alike.refl U.vm) qK, qD, qN.same rfl⟩, fun U hU hW => ⟨rfl, by rw [hU], by rw [hU]; exact hP, va_K.moved hW.alike hK, hD.weaken (fun _ _ _ _ => trivial), hN.warm hW⟩⟩ rfl rfl hl.1 rfl (lv_room (Nat.le_of_ble_eq_true rfl)) dX11_init_27 ⟨Nat.le_of_ble_eq_true rfl, Nat.le_of_ble_eq_true rfl⟩) hS (fun q _ h => hFc q h) hFc (fun a t H_24 locs ht hvm hw hB hz1 hk1 hS2 => ?_)
  obtain ⟨⟨hax, hnn⟩, hk⟩ := hw
  obtain ⟨hP1, -, hD1⟩ := hB
  rw [ht] at hP1
  replace hD := hD1.weaken (fun _ _ _ h => hFc _ h)
  replace hP := hP1
  replace hS := hS2
  obtain ⟨sh, esh⟩ : ∃ w, w = shq := ⟨_, rfl⟩
  subst esh
  replace hl : lv_has ls 3 [(0, .ref (a h0)), (1, .int x0)] := by rw [hax h0 (okN_at g_21)]; exact hl
  rw [← hax CBK (Or.inr rfl)] at hSK
  replace hag := hag_new hag hax hnn
  obtain ⟨n, enq⟩ : ∃ w, w = nq := ⟨_, rfl⟩
  subst enq
  refine W.eq (g2 := F0 m 30 ls [.ref (a k_19), .ref (a h0)]) (by rw [hax h0 (okN_at g_21), hax k_19 (okN_at g_22)]) ?_
  clear hax hnn hP1 hD1 hS2 hFc hfc hz1 hk1 hvm ht
  refine W.widen (k := 59) (n := 101856) (Nat.le_of_ble_eq_true rfl) (Nat.le_of_ble_eq_true rfl) ?_
  obtain ⟨g_25, hf⟩ := grd_some hf
  obtain ⟨g_26, hf⟩ := grd_some hf
  obtain ⟨kg_26, sg_26⟩ := okO_at g_26
  refine va_putF (D := (dC, dI)) (ci := 11) (v := .ref (a k_19)) (ty := .object "ResourceLedger$State") (C := RX11) (T := TX11) (N := 13) hx hb hts iwd_X11_init_X11 tyX11 tyX11_ok nmX11 hown hK hP hD hS h0 (Wd_ob kg_26 sg_26 (by decide)) rfl 6 (by decide) (hts _ md_X11_init_11) (fun _ h9 => h9) rfl hin rfl (by decide +kernel) rfl rfl (by rw [fl_len]; decide) dX11_init_30 (fun H_27 locs hP2 hD2 hS2 => ?_)
  rw [Wd_sq1 sg_26 (by decide) rfl] at hP2 hD2
  obtain ⟨z_28, ez_28⟩ : ∃ w, w = sq z_23 h0 6 (some k_19) := ⟨_, rfl⟩
  rw [← ez_28] at hP2 hD2
  replace hf := lt_at ez_28 hf
  replace hk : lk z_28 n := by rw [ez_28]; exact lk_sq1 hk (okN_at g_25)
  clear ez_28
  replace hP := hP2
  replace hD := hD2
  replace hS := hS2
  clear hP2 hD2 hS2
  refine lv_aload_n hx hb dX11_init_33 rfl (lv_at hl 0 rfl) ?_
  obtain ⟨g_29, hf⟩ := grd_some hf
  refine de_new (ci := 6) (fs := [.int 0, .int 0, .null, .int 0, .int 0, .int 0, .int 0, .int 0, .null]) (C := RX6) (T := TX6) (N := 9) hf hk hx hb hts iwd_X11_init_X6 tyX6 tyX6_ok hown (hts _ md_X11_init_12) (hts _ md_X11_init_13) (hts _ md_X11_init_14) hK hP hD hS hA rfl rfl df_X6 (Nat.le_of_ble_eq_true rfl) (Nat.le_of_ble_eq_true rfl) dX11_init_34 (fun a sh n z_30 k_31 H_32 hf hax hk hnn hP hD hS => ?_)
  refine W.eq (g2 := F0 m 37 ls [.ref (a k_31), .ref (a h0)]) (by rw [hax h0 (okN_at g_29)]) ?_
  replace hl : lv_has ls 3 [(0, .ref (a h0)), (1, .int x0)] := by rw [hax h0 (okN_at g_29)]; exact hl
  rw [← hax CBK (Or.inr rfl)] at hSK
  replace hag := hag_new hag hax hnn
  clear hax hnn
  refine W.widen (k := 60) (n := 101865) (Nat.le_of_ble_eq_true rfl) (Nat.le_of_ble_eq_true rfl) ?_
  refine lv_dup hx hb dX11_init_37 rfl ?_
  obtain ⟨g_33, hf⟩ := grd_some hf
  obtain ⟨g_34, hf⟩ := grd_some hf
  obtain ⟨shq, nq, z_35, _u, hfc, hf⟩ := cala_some hf
  have hFc := de_free hD hS hA
  refine va_callv (va_runIN (As := []) (rest := [.ref (a k_31), .ref (a h0)]) ⟨hx, hb, hml, hown, hts⟩ (da_X6_init l dC dI cy a sh n H_32.size F z_30 k_31 hk hfc) ⟨va_cnB 0 hts ggX11_init_X6_init rfl rfl rfl (NK_m_X11_28 hN) (hts _ md_X11_init_14) ⟨by decide, by decide, by decide +kernel⟩ ⟨Nat.le_of_ble_eq_true rfl, Nat.le_of_ble_eq_true rfl⟩, rfl, (hts _ md_X11_init_60)⟩ ⟨fun a U g mk q => by obtain ⟨q0, q1, qP, qK, qD, qN⟩ := q; exact ⟨q0, q1, qP, va_K.moved (u := U) (U := U.calling g mk a) (Vm.Alike.refl U.vm) qK, qD, qN.same rfl⟩, fun U hU hW => ⟨rfl, by rw [hU], by rw [hU]; exact hP, va_K.moved hW.alike hK, hD.weaken (fun _ _ _ _ => trivial), hN.warm hW⟩⟩ rfl rfl hl.1 rfl (lv_room (Nat.le_of_ble_eq_true rfl)) dX11_init_38 ⟨Nat.le_of_ble_eq_true rfl, Nat.le_of_ble_eq_true rfl⟩) hS (fun q _ h => hFc q h) hFc (fun a t H_36 locs ht hvm hw hB hz1 hk1 hS2 => ?_)
  obtain ⟨⟨hax, hnn⟩, hk⟩ := hw
  obtain ⟨hP1, -, hD1⟩ := hB
  rw [ht] at hP1
  replace hD := hD1.weaken (fun _ _ _ h => hFc _ h)
  replace hP := hP1
  replace hS := hS2
  obtain ⟨sh, esh⟩ : ∃ w, w = shq := ⟨_, rfl⟩
  subst esh
  replace hl : lv_has ls 3 [(0, .ref (a h0)), (1, .int x0)] := by rw [hax h0 (okN_at g_33)]; exact hl
  rw [← hax CBK (Or.inr rfl)] at hSK
  replace hag := hag_new hag hax hnn
  obtain ⟨n, enq⟩ : ∃ w, w = nq := ⟨_, rfl⟩
  subst enq
  refine W.eq (g2 := F0 m 41 ls [.ref (a k_31), .ref (a h0)]) (by rw [hax h0 (okN_at g_33), hax k_31 (okN_at g_34)]) ?_
  clear hax hnn hP1 hD1 hS2 hFc hfc hz1 hk1 hvm ht
  refine W.widen (k := 61) (n := 101897) (Nat.le_of_ble_eq_true rfl) (Nat.le_of_ble_eq_true rfl) ?_
  obtain ⟨g_37, hf⟩ := grd_some hf
  obtain ⟨g_38, hf⟩ := grd_some hf
  obtain ⟨kg_38, sg_38⟩ := okO_at g_38
  refine va_putF (D := (dC, dI)) (ci := 11) (v := .ref (a k_31)) (ty := .object "ResourceLedger$Reader") (C := RX11) (T := TX11) (N := 13) hx hb hts iwd_X11_init_X11 tyX11 tyX11_ok nmX11 hown hK hP hD hS h0 (Wd_ob kg_38 sg_38 (by decide)) rfl 7 (by decide) (hts _ md_X11_init_15) (fun _ h9 => h9) rfl hin rfl (by decide +kernel) rfl rfl (by rw [fl_len]; decide) dX11_init_41 (fun H_39 locs hP2 hD2 hS2 => ?_)
  rw [Wd_sq1 sg_38 (by decide) rfl] at hP2 hD2
  obtain ⟨z_40, ez_40⟩ : ∃ w, w = sq z_35 h0 7 (some k_31) := ⟨_, rfl⟩
  rw [← ez_40] at hP2 hD2
  replace hf := lt_at ez_40 hf
  replace hk : lk z_40 n := by rw [ez_40]; exact lk_sq1 hk (okN_at g_37)
  clear ez_40
  replace hP := hP2
  replace hD := hD2
  replace hS := hS2
  clear hP2 hD2 hS2
  refine lv_aload_n hx hb dX11_init_44 rfl (lv_at hl 0 rfl) ?_
  obtain ⟨g_41, hf⟩ := grd_some hf
  refine de_new (ci := 3) (fs := [.int 0, .int 0, .null, .int 0, .int 0, .null, .null, .null, .int 0, .null, .null, .long 0, .long 0, .long 0, .long 0, .int 0, .int 0, .null, .null, .null, .null, .null]) (C := RX3) (T := TX3) (N := 22) hf hk hx hb hts iwd_X11_init_X3 tyX3 tyX3_ok hown (hts _ md_X11_init_16) (hts _ md_X11_init_17) (hts _ md_X11_init_18) hK hP hD hS hA rfl rfl df_X3 (Nat.le_of_ble_eq_true rfl) (Nat.le_of_ble_eq_true rfl) dX11_init_45 (fun a sh n z_42 k_43 H_44 hf hax hk hnn hP hD hS => ?_)
  refine W.eq (g2 := F0 m 48 ls [.ref (a k_43), .ref (a h0)]) (by rw [hax h0 (okN_at g_41)]) ?_
  replace hl : lv_has ls 3 [(0, .ref (a h0)), (1, .int x0)] := by rw [hax h0 (okN_at g_41)]; exact hl
  rw [← hax CBK (Or.inr rfl)] at hSK
  replace hag := hag_new hag hax hnn
  clear hax hnn
  refine W.widen (k := 62) (n := 101919) (Nat.le_of_ble_eq_true rfl) (Nat.le_of_ble_eq_true rfl) ?_
  refine lv_dup hx hb dX11_init_48 rfl ?_
  obtain ⟨g_45, hf⟩ := grd_some hf
  obtain ⟨g_46, hf⟩ := grd_some hf
  obtain ⟨shq, nq, z_47, _u, hfc, hf⟩ := cala_some hf
  have hFc := de_free hD hS hA
  refine va_callv (va_runIN (As := []) (rest := [.ref (a k_43), .ref (a h0)]) ⟨hx, hb, hml, hown, hts⟩ (da_X3_init l dC dI cy a sh n H_44.size F z_42 k_43 hk hfc) ⟨va_cnB 0 hts ggX11_init_X3_init rfl rfl rfl (NK_m_X11_35 hN) (hts _ md_X11_init_18) ⟨by decide, by decide, by decide +kernel⟩ ⟨Nat.le_of_ble_eq_true rfl, Nat.le_of_ble_eq_true rfl⟩, rfl, (hts _ md_X11_init_64)⟩ ⟨fun a U g mk q => by obtain ⟨q0, q1, qP, qK, qD, qN⟩ := q; exact ⟨q0, q1, qP, va_K.moved (u := U) (U := U.calling g mk a) (Vm.Alike.refl U.vm) qK, qD, qN.same rfl⟩, fun U hU hW => ⟨rfl, by rw [hU], by rw [hU]; exact hP, va_K.moved hW.alike hK, hD.weaken (fun _ _ _ _ => trivial), hN.warm hW⟩⟩ rfl rfl hl.1 rfl (lv_room (Nat.le_of_ble_eq_true rfl)) dX11_init_49 ⟨Nat.le_of_ble_eq_true rfl, Nat.le_of_ble_eq_true rfl⟩) hS (fun q _ h => hFc q h) hFc (fun a t H_48 locs ht hvm hw hB hz1 hk1 hS2 => ?_)
  obtain ⟨⟨hax, hnn⟩, hk⟩ := hw
  obtain ⟨hP1, -, hD1⟩ := hB
  rw [ht] at hP1
  replace hD := hD1.weaken (fun _ _ _ h => hFc _ h)
  replace hP := hP1
  replace hS := hS2
  obtain ⟨sh, esh⟩ : ∃ w, w = shq := ⟨_, rfl⟩
  subst esh
  replace hl : lv_has ls 3 [(0, .ref (a h0)), (1, .int x0)] := by rw [hax h0 (okN_at g_45)]; exact hl
  rw [← hax CBK (Or.inr rfl)] at hSK
  replace hag := hag_new hag hax hnn
  obtain ⟨n, enq⟩ : ∃ w, w = nq := ⟨_, rfl⟩
  subst enq
  refine W.eq (g2 := F0 m 52 ls [.ref (a k_43), .ref (a h0)]) (by rw [hax h0 (okN_at g_45), hax k_43 (okN_at g_46)]) ?_
  clear hax hnn hP1 hD1 hS2 hFc hfc hz1 hk1 hvm ht
  refine W.widen (k := 72) (n := 147247) (Nat.le_of_ble_eq_true rfl) (Nat.le_of_ble_eq_true rfl) ?_
  obtain ⟨g_49, hf⟩ := grd_some hf
  obtain ⟨g_50, hf⟩ := grd_some hf
  obtain ⟨kg_50, sg_50⟩ := okO_at g_50
  refine va_putF (D := (dC, dI)) (ci := 11) (v := .ref (a k_43)) (ty := .object "ResourceLedger$Looker") (C := RX11) (T := TX11) (N := 13) hx hb hts iwd_X11_init_X11 tyX11 tyX11_ok nmX11 hown hK hP hD hS h0 (Wd_ob kg_50 sg_50 (by decide)) rfl 8 (by decide) (hts _ md_X11_init_19) (fun _ h9 => h9) rfl hin rfl (by decide +kernel) rfl rfl (by rw [fl_len]; decide) dX11_init_52 (fun H_51 locs hP2 hD2 hS2 => ?_)
  rw [Wd_sq1 sg_50 (by decide) rfl] at hP2 hD2
  obtain ⟨z_52, ez_52⟩ : ∃ w, w = sq z_47 h0 8 (some k_43) := ⟨_, rfl⟩
  rw [← ez_52] at hP2 hD2
  replace hf := lt_at ez_52 hf
  replace hk : lk z_52 n := by rw [ez_52]; exact lk_sq1 hk (okN_at g_49)
  clear ez_52
  replace hP := hP2
  replace hD := hD2
  replace hS := hS2
  clear hP2 hD2 hS2
  refine lv_aload_n hx hb dX11_init_55 rfl (lv_at hl 0 rfl) ?_
  obtain ⟨g_53, hf⟩ := grd_some hf
  refine de_new (ci := 9) (fs := [.null, .int 0, .null, .null, .null, .null, .null, .int 0, .null, .null, .null, .null, .int 0]) (C := RX9) (T := TX9) (N := 13) hf hk hx hb hts iwd_X11_init_X9 tyX9 tyX9_ok hown (hts _ md_X11_init_20) (hts _ md_X11_init_21) (hts _ md_X11_init_22) hK hP hD hS hA rfl rfl df_X9 (Nat.le_of_ble_eq_true rfl) (Nat.le_of_ble_eq_true rfl) dX11_init_56 (fun a sh n z_54 k_55 H_56 hf hax hk hnn hP hD hS => ?_)
  refine W.eq (g2 := F0 m 59 ls [.ref (a k_55), .ref (a h0)]) (by rw [hax h0 (okN_at g_53)]) ?_
  replace hl : lv_has ls 3 [(0, .ref (a h0)), (1, .int x0)] := by rw [hax h0 (okN_at g_53)]; exact hl
  rw [← hax CBK (Or.inr rfl)] at hSK
  replace hag := hag_new hag hax hnn
  clear hax hnn
  refine W.widen (k := 73) (n := 147260) (Nat.le_of_ble_eq_true rfl) (Nat.le_of_ble_eq_true rfl) ?_
  refine lv_dup hx hb dX11_init_59 rfl ?_
  obtain ⟨g_57, hf⟩ := grd_some hf
  obtain ⟨g_58, hf⟩ := grd_some hf
  obtain ⟨shq, nq, z_59, _u, hfc, hf⟩ := cala_some hf
  have hFc := de_free hD hS hA
  refine va_callv (va_runIN (As := []) (rest := [.ref (a k_55), .ref (a h0)]) ⟨hx, hb, hml, hown, hts⟩ (da_X9_init l dC dI cy a sh n H_56.size F z_54 k_55 hk hfc) ⟨va_cnB 0 hts ggX11_init_X9_init rfl rfl rfl (NK_m_X11_42 hN) (hts _ md_X11_init_22) ⟨by decide, by decide, by decide +kernel⟩ ⟨Nat.le_of_ble_eq_true rfl, Nat.le_of_ble_eq_true rfl⟩, rfl, (hts _ md_X11_init_79)⟩ ⟨fun a U g mk q => by obtain ⟨q0, q1, qP, qK, qD, qN⟩ := q; exact ⟨q0, q1, qP, va_K.moved (u := U) (U := U.calling g mk a) (Vm.Alike.refl U.vm) qK, qD, qN.same rfl⟩, fun U hU hW => ⟨rfl, by rw [hU], by rw [hU]; exact hP, va_K.moved hW.alike hK, hD.weaken (fun _ _ _ _ => trivial), hN.warm hW⟩⟩ rfl rfl hl.1 rfl (lv_room (Nat.le_of_ble_eq_true rfl)) dX11_init_60 ⟨Nat.le_of_ble_eq_true rfl, Nat.le_of_ble_eq_true rfl⟩) hS (fun q _ h => hFc q h) hFc (fun a t H_60 locs ht hvm hw hB hz1 hk1 hS2 => ?_)
  obtain ⟨⟨hax, hnn⟩, hk⟩ := hw
  obtain ⟨hP1, -, hD1⟩ := hB
  rw [ht] at hP1
  replace hD := hD1.weaken (fun _ _ _ h => hFc _ h)
  replace hP := hP1
  replace hS := hS2
  obtain ⟨sh, esh⟩ : ∃ w, w = shq := ⟨_, rfl⟩
  subst esh
  replace hl : lv_has ls 3 [(0, .ref (a h0)), (1, .int x0)] := by rw [hax h0 (okN_at g_57)]; exact hl
  rw [← hax CBK (Or.inr rfl)] at hSK
  replace hag := hag_new hag hax hnn
  obtain ⟨n, enq⟩ : ∃ w, w = nq := ⟨_, rfl⟩
  subst enq
  refine W.eq (g2 := F0 m 63 ls [.ref (a k_55), .ref (a h0)]) (by rw [hax h0 (okN_at g_57), hax k_55 (okN_at g_58)]) ?_
  clear hax hnn hP1 hD1 hS2 hFc hfc hz1 hk1 hvm ht
  refine W.widen (k := 85) (n := 152729) (Nat.le_of_ble_eq_true rfl) (Nat.le_of_ble_eq_true rfl) ?_
  obtain ⟨g_61, hf⟩ := grd_some hf
  obtain ⟨g_62, hf⟩ := grd_some hf
  obtain ⟨kg_62, sg_62⟩ := okO_at g_62
  refine va_putF (D := (dC, dI)) (ci := 11) (v := .ref (a k_55)) (ty := .object "ResourceLedger$Tree") (C := RX11) (T := TX11) (N := 13) hx hb hts iwd_X11_init_X11 tyX11 tyX11_ok nmX11 hown hK hP hD hS h0 (Wd_ob kg_62 sg_62 (by decide)) rfl 10 (by decide) (hts _ md_X11_init_23) (fun _ h9 => h9) rfl hin rfl (by decide +kernel) rfl rfl (by rw [fl_len]; decide) dX11_init_63 (fun H_63 locs hP2 hD2 hS2 => ?_)
  rw [Wd_sq1 sg_62 (by decide) rfl] at hP2 hD2
  obtain ⟨z_64, ez_64⟩ : ∃ w, w = sq z_59 h0 10 (some k_55) := ⟨_, rfl⟩
  rw [← ez_64] at hP2 hD2
  replace hf := lt_at ez_64 hf
  replace hk : lk z_64 n := by rw [ez_64]; exact lk_sq1 hk (okN_at g_61)
  clear ez_64
  replace hP := hP2
  replace hD := hD2
  replace hS := hS2
  clear hP2 hD2 hS2
  refine lv_aload_n hx hb dX11_init_66 rfl (lv_at hl 0 rfl) ?_
  refine lv_sipush (v := 1024) hx hb dX11_init_67 (by decide) ?_
  obtain ⟨g_65, hf⟩ := grd_some hf
  refine de_newa (atype := .byte) (ty := .byte) (t := 0) (N := 1024) (a0 := (1024, .inl (fun _ => 0))) hf hk hx hb (hts _ md_X11_init_4) rfl hK hP hD hS hA rfl rfl (fun _ => rfl) (by decide) (by decide) (Nat.le_of_ble_eq_true rfl) (Nat.le_of_ble_eq_true rfl) (Nat.le_of_ble_eq_true rfl) dX11_init_70 (fun a sh n z_66 k_67 H_68 hf hax hk hnn hP hD hS => ?_)
  refine W.eq (g2 := F0 m 72 ls [.ref (a k_67), .ref (a h0)]) (by rw [hax h0 (okN_at g_65)]) ?_
  replace hl : lv_has ls 3 [(0, .ref (a h0)), (1, .int x0)] := by rw [hax h0 (okN_at g_65)]; exact hl
  rw [← hax CBK (Or.inr rfl)] at hSK
  replace hag := hag_new hag hax hnn
  clear hax hnn
  refine W.widen (k := 86) (n := 153753) (Nat.le_of_ble_eq_true rfl) (Nat.le_of_ble_eq_true rfl) ?_
  obtain ⟨g_69, hf⟩ := grd_some hf
  obtain ⟨g_70, hf⟩ := grd_some hf
  obtain ⟨kg_70, sg_70⟩ := okO_at g_70
  refine va_putF (D := (dC, dI)) (ci := 11) (v := .ref (a k_67)) (ty := .array .byte) (C := RX11) (T := TX11) (N := 13) hx hb hts iwd_X11_init_X11 tyX11 tyX11_ok nmX11 hown hK hP hD hS h0 (Wd_ob kg_70 sg_70 (by decide)) rfl 11 (by decide) (hts _ md_X11_init_24) (fun _ h9 => h9) rfl hin rfl (by decide +kernel) rfl rfl (by rw [fl_len]; decide) dX11_init_72 (fun H_71 locs hP2 hD2 hS2 => ?_)
  rw [Wd_sq1 sg_70 (by decide) rfl] at hP2 hD2
  obtain ⟨z_72, ez_72⟩ : ∃ w, w = sq z_66 h0 11 (some k_67) := ⟨_, rfl⟩
  rw [← ez_72] at hP2 hD2
  replace hf := lt_at ez_72 hf
  replace hk : lk z_72 n := by rw [ez_72]; exact lk_sq1 hk (okN_at g_69)
  clear ez_72
  replace hP := hP2
  replace hD := hD2
  replace hS := hS2
  clear hP2 hD2 hS2
  refine lv_aload_n hx hb dX11_init_75 rfl (lv_at hl 0 rfl) ?_
  obtain ⟨g_73, hf⟩ := grd_some hf
  refine de_new (ci := 4) (fs := [.null, .null, .null, .null, .null, .null, .null, .null, .null, .null, .null, .null, .int 0, .null, .int 0, .int 0, .int 0, .long 0]) (C := RX4) (T := TX4) (N := 18) hf hk hx hb hts iwd_X11_init_X4 tyX4 tyX4_ok hown (hts _ md_X11_init_25) (hts _ md_X11_init_26) (hts _ md_X11_init_27) hK hP hD hS hA rfl rfl df_X4 (Nat.le_of_ble_eq_true rfl) (Nat.le_of_ble_eq_true rfl) dX11_init_76 (fun a sh n z_74 k_75 H_76 hf hax hk hnn hP hD hS => ?_)
  refine W.eq (g2 := F0 m 79 ls [.ref (a k_75), .ref (a h0)]) (by rw [hax h0 (okN_at g_73)]) ?_
  replace hl : lv_has ls 3 [(0, .ref (a h0)), (1, .int x0)] := by rw [hax h0 (okN_at g_73)]; exact hl
  rw [← hax CBK (Or.inr rfl)] at hSK
  replace hag := hag_new hag hax hnn
  clear hax hnn
  refine W.widen (k := 87) (n := 153771) (Nat.le_of_ble_eq_true rfl) (Nat.le_of_ble_eq_true rfl) ?_
  refine lv_dup hx hb dX11_init_79 rfl ?_
  refine lv_aload_n hx hb dX11_init_80 rfl (lv_at hl 0 rfl) ?_
  obtain ⟨g_77, hf⟩ := grd_some hf
  obtain ⟨kg_77, sg_77⟩ := okO_at g_77
  obtain ⟨k_78, ek_78, hf⟩ := lnk_some hf
  refine va_get (D := (dC, dI)) (ci := 11) (v := .ref (a k_78)) (C := RX11) (T := TX11) (N := 13) hx hb hts iwd_X11_init_X11 hown hK hP h0 (Wd_ob kg_77 sg_77 (by decide)) rfl 6 (by decide) (hts _ md_X11_init_11) (fun _ h9 => h9) (fl_q rfl ek_78) dX11_init_81 ?_
  obtain ⟨g_79, hf⟩ := grd_some hf
  obtain ⟨g_80, hf⟩ := grd_some hf
  obtain ⟨shq, nq, z_81, _u, hfc, hf⟩ := cala_some hf
  have hFc := de_free hD hS hA
  refine va_callv (va_runI (As := [.ref (a k_78)]) (rest := [.ref (a k_75), .ref (a h0)]) ⟨hx, hb, hml, hown, hts⟩ (da_X4_init l dC dI cy a sh n H_76.size F z_74 k_75 k_78 hk hfc) (cwI 1 hts ggX11_init_X4_init rfl rfl rfl (hts _ md_X11_init_27) (hts _ md_X11_init_100) (hts _ md_X11_init_101) rfl (by decide +kernel) ⟨Nat.le_of_ble_eq_true rfl, Nat.le_of_ble_eq_true rfl⟩) ⟨fun a U g mk q => by obtain ⟨q0, q1, qP, qK, qD, qN⟩ := q; exact ⟨q0, q1, qP, va_K.moved (u := U) (U := U.calling g mk a) (Vm.Alike.refl U.vm) qK, qD, qN.same rfl⟩, fun U hU hW => ⟨rfl, by rw [hU], by rw [hU]; exact hP, va_K.moved hW.alike hK, hD.weaken (fun _ _ _ _ => trivial), hN.warm hW⟩⟩ rfl rfl hl.1 rfl (lv_room (Nat.le_of_ble_eq_true rfl)) dX11_init_84 ⟨Nat.le_of_ble_eq_true rfl, Nat.le_of_ble_eq_true rfl⟩) hS (fun q _ h => hFc q h) hFc (fun a t H_82 locs ht hvm hw hB hz1 hk1 hS2 => ?_)
  obtain ⟨⟨hax, hnn⟩, hk⟩ := hw
  obtain ⟨hP1, -, hD1⟩ := hB
  rw [ht] at hP1
  replace hD := hD1.weaken (fun _ _ _ h => hFc _ h)
  replace hP := hP1
  replace hS := hS2
  obtain ⟨sh, esh⟩ : ∃ w, w = shq := ⟨_, rfl⟩
  subst esh
  replace hl : lv_has ls 3 [(0, .ref (a h0)), (1, .int x0)] := by rw [hax h0 (okN_at g_79)]; exact hl
  rw [← hax CBK (Or.inr rfl)] at hSK
  replace hag := hag_new hag hax hnn
  obtain ⟨n, enq⟩ : ∃ w, w = nq := ⟨_, rfl⟩
  subst enq
  refine W.eq (g2 := F0 m 87 ls [.ref (a k_75), .ref (a h0)]) (by rw [hax h0 (okN_at g_79), hax k_75 (okN_at g_80)]) ?_
  clear hax hnn hP1 hD1 hS2 hFc hfc hz1 hk1 hvm ht
  refine W.widen (k := 112) (n := 244174) (Nat.le_of_ble_eq_true rfl) (Nat.le_of_ble_eq_true rfl) ?_
  obtain ⟨g_83, hf⟩ := grd_some hf
  obtain ⟨g_84, hf⟩ := grd_some hf
  obtain ⟨kg_84, sg_84⟩ := okO_at g_84
  refine va_putF (D := (dC, dI)) (ci := 11) (v := .ref (a k_75)) (ty := .object "ResourceLedger$Machine") (C := RX11) (T := TX11) (N := 13) hx hb hts iwd_X11_init_X11 tyX11 tyX11_ok nmX11 hown hK hP hD hS h0 (Wd_ob kg_84 sg_84 (by decide)) rfl 9 (by decide) (hts _ md_X11_init_28) (fun _ h9 => h9) rfl hin rfl (by decide +kernel) rfl rfl (by rw [fl_len]; decide) dX11_init_87 (fun H_85 locs hP2 hD2 hS2 => ?_)
  rw [Wd_sq1 sg_84 (by decide) rfl] at hP2 hD2
  obtain ⟨z_86, ez_86⟩ : ∃ w, w = sq z_81 h0 9 (some k_75) := ⟨_, rfl⟩
  rw [← ez_86] at hP2 hD2
  replace hf := lt_at ez_86 hf
  replace hk : lk z_86 n := by rw [ez_86]; exact lk_sq1 hk (okN_at g_83)
  clear ez_86
  replace hP := hP2
  replace hD := hD2
  replace hS := hS2
  clear hP2 hD2 hS2
  refine lv_iconst (v := 0) hx hb dX11_init_90 (by decide) ?_
  refine lv_istore_n (lv' := [(2, .int 0), (0, .ref (a h0)), (1, .int x0)]) hx hb dX11_init_91 rfl hl (by decide) rfl (fun ls hl2 => ?_)
  replace hl := hl2
  clear hl2
  refine lv_iload_n hx hb dX11_init_92 rfl (lv_at hl 0 rfl) ?_
  refine lv_bipush (v := 32) hx hb dX11_init_93 (by decide) ?_
  refine lv_icmp_ge (tgt := 117) hx hb dX11_init_95 (by decide) (fun h => absurd h (by decide)) (fun _ => ?_)
  refine lv_aload_n hx hb dX11_init_98 rfl (lv_at hl 1 rfl) ?_
  obtain ⟨k_87, ek_87, hf⟩ := lnk_some hf
  refine va_get (D := (dC, dI)) (ci := 11) (v := .ref (a k_87)) (C := RX11) (T := TX11) (N := 13) hx hb hts iwd_X11_init_X11 hown hK hP h0 (Wd_ob kg_84 sg_84 (by decide)) rfl 3 (by decide) (hts _ md_X11_init_7) (fun _ h9 => h9) (fl_q rfl ek_87) dX11_init_99 ?_
  refine lv_iload_n hx hb dX11_init_102 rfl (lv_at hl 0 rfl) ?_
  obtain ⟨g_88, hf⟩ := grd_some hf
  obtain ⟨g_89, hf⟩ := grd_some hf
  refine de_new (ci := 8) (fs := [.int 0, .long 0, .long 0, .int 0, .int 0, .int 0, .null, .int 0, .null, .null, .null, .int 0, .long 0, .int 0, .int 0, .int 0, .null, .null, .null]) (C := RX8) (T := TX8) (N := 19) hf hk hx hb hts iwd_X11_init_X8 tyX8 tyX8_ok hown (hts _ md_X11_init_6) (hts _ md_X11_init_29) (hts _ md_X11_init_30) hK hP hD hS hA rfl rfl df_X8 (Nat.le_of_ble_eq_true rfl) (Nat.le_of_ble_eq_true rfl) dX11_init_103 (fun a sh n z_90 k_91 H_92 hf hax hk hnn hP hD hS => ?_)
  refine W.eq (g2 := F0 m 106 ls [.ref (a k_91), .int 0, .ref (a k_87)]) (by rw [hax k_87 (okN_at g_89)]) ?_
  replace hl : lv_has ls 3 [(2, .int 0), (0, .ref (a h0)), (1, .int x0)] := by rw [hax h0 (okN_at g_88)]; exact hl
  rw [← hax CBK (Or.inr rfl)] at hSK
  replace hag := hag_new hag hax hnn
  clear hax hnn
  refine W.widen (k := 113) (n := 244193) (Nat.le_of_ble_eq_true rfl) (Nat.le_of_ble_eq_true rfl) ?_
  refine lv_dup hx hb dX11_init_106 rfl ?_
  obtain ⟨g_93, hf⟩ := grd_some hf
  obtain ⟨g_94, hf⟩ := grd_some hf
  obtain ⟨g_95, hf⟩ := grd_some hf
  obtain ⟨shq, nq, z_96, _u, hfc, hf⟩ := cala_some hf
  have hFc := de_free hD hS hA
  refine va_callv (va_runIN (As := []) (rest := [.ref (a k_91), .int 0, .ref (a k_87)]) ⟨hx, hb, hml, hown, hts⟩ (da_X8_init l dC dI cy a sh n H_92.size F z_90 k_91 hk hfc) ⟨va_cnB 0 hts ggX11_init_X8_init rfl rfl rfl (NK_m_X11_59 hN) (hts _ md_X11_init_30) ⟨by decide, by decide, by decide +kernel⟩ ⟨Nat.le_of_ble_eq_true rfl, Nat.le_of_ble_eq_true rfl⟩, rfl, (hts _ md_X11_init_151)⟩ ⟨fun a U g mk q => by obtain ⟨q0, q1, qP, qK, qD, qN⟩ := q; exact ⟨q0, q1, qP, va_K.moved (u := U) (U := U.calling g mk a) (Vm.Alike.refl U.vm) qK, qD, qN.same rfl⟩, fun U hU hW => ⟨rfl, by rw [hU], by rw [hU]; exact hP, va_K.moved hW.alike hK, hD.weaken (fun _ _ _ _ => trivial), hN.warm hW⟩⟩ rfl rfl hl.1 rfl (lv_room (Nat.le_of_ble_eq_true rfl)) dX11_init_107 ⟨Nat.le_of_ble_eq_true rfl, Nat.le_of_ble_eq_true rfl⟩) hS (fun q _ h => hFc q h) hFc (fun a t H_97 locs ht hvm hw hB hz1 hk1 hS2 => ?_)
  obtain ⟨⟨hax, hnn⟩, hk⟩ := hw
  obtain ⟨hP1, -, hD1⟩ := hB
  rw [ht] at hP1
  replace hD := hD1.weaken (fun _ _ _ h => hFc _ h)
  replace hP := hP1
  replace hS := hS2
  obtain ⟨sh, esh⟩ : ∃ w, w = shq := ⟨_, rfl⟩
  subst esh
  replace hl : lv_has ls 3 [(2, .int 0), (0, .ref (a h0)), (1, .int x0)] := by rw [hax h0 (okN_at g_93)]; exact hl
  rw [← hax CBK (Or.inr rfl)] at hSK
  replace hag := hag_new hag hax hnn
  obtain ⟨n, enq⟩ : ∃ w, w = nq := ⟨_, rfl⟩
  subst enq
  refine W.eq (g2 := F0 m 110 ls [.ref (a k_91), .int 0, .ref (a k_87)]) (by rw [hax k_91 (okN_at g_94), hax k_87 (okN_at g_95)]) ?_
  clear hax hnn hP1 hD1 hS2 hFc hfc hz1 hk1 hvm ht
  refine W.widen (k := 119) (n := 244241) (Nat.le_of_ble_eq_true rfl) (Nat.le_of_ble_eq_true rfl) ?_
  obtain ⟨g_98, hf⟩ := grd_some hf
  obtain ⟨kg_98, sg_98, ig_98⟩ := okA_at g_98
  obtain ⟨g_99, hf⟩ := grd_some hf
  obtain ⟨kg_99, sg_99⟩ := okO_at g_99
  refine va_astq hx hb hK hP hD hS k_87 5 k_91 8 (Wd_aq kg_98 sg_98 (by decide)) rfl (Wd_ob kg_99 sg_99 (by decide)) rfl ig_98 dX11_init_110 (fun H_100 locs hP2 hD2 hS2 => ?_)
  rw [Wd_tq sg_98 (by decide)] at hP2 hD2
  obtain ⟨z_101, ez_101⟩ : ∃ w, w = sq z_96 k_87 (0 : Int32).toNatClampNeg (some k_91) := ⟨_, rfl⟩
  rw [← ez_101] at hP2 hD2
  replace hf := lt_at ez_101 hf
  replace hk : lk z_101 n := by rw [ez_101]; exact lk_sq1 hk (Or.inl kg_99)
  clear ez_101
  replace hP := hP2
  replace hD := hD2
  replace hS := hS2
  clear hP2 hD2 hS2
  refine lv_iinc (v := 1) (lv' := [(2, .int 1), (0, .ref (a h0)), (1, .int x0)]) hx hb dX11_init_111 hl (k := 0) rfl rfl (by decide) rfl (fun ls hl2 => ?_)
  replace hl := hl2
  clear hl2
  refine lv_goto (tgt := 92) hx hb dX11_init_114 (by decide) ?_
  refine lv_iload_n hx hb dX11_init_92 rfl (lv_at hl 0 rfl) ?_
  refine lv_bipush (v := 32) hx hb dX11_init_93 (by decide) ?_
  refine lv_icmp_ge (tgt := 117) hx hb dX11_init_95 (by decide) (fun h => absurd h (by decide)) (fun _ => ?_)
  refine lv_aload_n hx hb dX11_init_98 rfl (lv_at hl 1 rfl) ?_
  obtain ⟨g_102, hf⟩ := grd_some hf
  obtain ⟨kg_102, sg_102⟩ := okO_at g_102
  obtain ⟨k_103, ek_103, hf⟩ := lnk_some hf
  refine va_get (D := (dC, dI)) (ci := 11) (v := .ref (a k_103)) (C := RX11) (T := TX11) (N := 13) hx hb hts iwd_X11_init_X11 hown hK hP h0 (Wd_ob kg_102 sg_102 (by decide)) rfl 3 (by decide) (hts _ md_X11_init_7) (fun _ h9 => h9) (fl_q rfl ek_103) dX11_init_99 ?_
  refine lv_iload_n hx hb dX11_init_102 rfl (lv_at hl 0 rfl) ?_
  obtain ⟨g_104, hf⟩ := grd_some hf
  obtain ⟨g_105, hf⟩ := grd_some hf
  refine de_new (ci := 8) (fs := [.int 0, .long 0, .long 0, .int 0, .int 0, .int 0, .null, .int 0, .null, .null, .null, .int 0, .long 0, .int 0, .int 0, .int 0, .null, .null, .null]) (C := RX8) (T := TX8) (N := 19) hf hk hx hb hts iwd_X11_init_X8 tyX8 tyX8_ok hown (hts _ md_X11_init_6) (hts _ md_X11_init_29) (hts _ md_X11_init_30) hK hP hD hS hA rfl rfl df_X8 (Nat.le_of_ble_eq_true rfl) (Nat.le_of_ble_eq_true rfl) dX11_init_103 (fun a sh n z_106 k_107 H_108 hf hax hk hnn hP hD hS => ?_)
  refine W.eq (g2 := F0 m 106 ls [.ref (a k_107), .int 1, .ref (a k_103)]) (by rw [hax k_103 (okN_at g_105)]) ?_
  replace hl : lv_has ls 3 [(2, .int 1), (0, .ref (a h0)), (1, .int x0)] := by rw [hax h0 (okN_at g_104)]; exact hl
  rw [← hax CBK (Or.inr rfl)] at hSK
  replace hag := hag_new hag hax hnn
  clear hax hnn
  refine W.widen (k := 120) (n := 244260) (Nat.le_of_ble_eq_true rfl) (Nat.le_of_ble_eq_true rfl) ?_
  refine lv_dup hx hb dX11_init_106 rfl ?_
  obtain ⟨g_109, hf⟩ := grd_some hf
  obtain ⟨g_110, hf⟩ := grd_some hf
  obtain ⟨g_111, hf⟩ := grd_some hf
  obtain ⟨shq, nq, z_112, _u, hfc, hf⟩ := cala_some hf
  have hFc := de_free hD hS hA
  refine va_callv (va_runIN (As := []) (rest := [.ref (a k_107), .int 1, .ref (a k_103)]) ⟨hx, hb, hml, hown, hts⟩ (da_X8_init l dC dI cy a sh n H_108.size F z_106 k_107 hk hfc) ⟨va_cnB 0 hts ggX11_init_X8_init rfl rfl rfl (NK_m_X11_59 hN) (hts _ md_X11_init_30) ⟨by decide, by decide, by decide +kernel⟩ ⟨Nat.le_of_ble_eq_true rfl, Nat.le_of_ble_eq_true rfl⟩, rfl, (hts _ md_X11_init_151)⟩ ⟨fun a U g mk q => by obtain ⟨q0, q1, qP, qK, qD, qN⟩ := q; exact ⟨q0, q1, qP, va_K.moved (u := U) (U := U.calling g mk a) (Vm.Alike.refl U.vm) qK, qD, qN.same rfl⟩, fun U hU hW => ⟨rfl, by rw [hU], by rw [hU]; exact hP, va_K.moved hW.alike hK, hD.weaken (fun _ _ _ _ => trivial), hN.warm hW⟩⟩ rfl rfl hl.1 rfl (lv_room (Nat.le_of_ble_eq_true rfl)) dX11_init_107 ⟨Nat.le_of_ble_eq_true rfl, Nat.le_of_ble_eq_true rfl⟩) hS (fun q _ h => hFc q h) hFc (fun a t H_113 locs ht hvm hw hB hz1 hk1 hS2 => ?_)
  obtain ⟨⟨hax, hnn⟩, hk⟩ := hw
  obtain ⟨hP1, -, hD1⟩ := hB
  rw [ht] at hP1
  replace hD := hD1.weaken (fun _ _ _ h => hFc _ h)
  replace hP := hP1
  replace hS := hS2
  obtain ⟨sh, esh⟩ : ∃ w, w = shq := ⟨_, rfl⟩
  subst esh
  replace hl : lv_has ls 3 [(2, .int 1), (0, .ref (a h0)), (1, .int x0)] := by rw [hax h0 (okN_at g_109)]; exact hl
  rw [← hax CBK (Or.inr rfl)] at hSK
  replace hag := hag_new hag hax hnn
  obtain ⟨n, enq⟩ : ∃ w, w = nq := ⟨_, rfl⟩
  subst enq
  refine W.eq (g2 := F0 m 110 ls [.ref (a k_107), .int 1, .ref (a k_103)]) (by rw [hax k_107 (okN_at g_110), hax k_103 (okN_at g_111)]) ?_
  clear hax hnn hP1 hD1 hS2 hFc hfc hz1 hk1 hvm ht
  refine W.widen (k := 126) (n := 244308) (Nat.le_of_ble_eq_true rfl) (Nat.le_of_ble_eq_true rfl) ?_
  obtain ⟨g_114, hf⟩ := grd_some hf
  obtain ⟨kg_114, sg_114, ig_114⟩ := okA_at g_114
  obtain ⟨g_115, hf⟩ := grd_some hf
  obtain ⟨kg_115, sg_115⟩ := okO_at g_115
  refine va_astq hx hb hK hP hD hS k_103 5 k_107 8 (Wd_aq kg_114 sg_114 (by decide)) rfl (Wd_ob kg_115 sg_115 (by decide)) rfl ig_114 dX11_init_110 (fun H_116 locs hP2 hD2 hS2 => ?_)
  rw [Wd_tq sg_114 (by decide)] at hP2 hD2
  obtain ⟨z_117, ez_117⟩ : ∃ w, w = sq z_112 k_103 (1 : Int32).toNatClampNeg (some k_107) := ⟨_, rfl⟩
  rw [← ez_117] at hP2 hD2
  replace hf := lt_at ez_117 hf
  replace hk : lk z_117 n := by rw [ez_117]; exact lk_sq1 hk (Or.inl kg_115)
  clear ez_117
  replace hP := hP2
  replace hD := hD2
  replace hS := hS2
  clear hP2 hD2 hS2
  refine lv_iinc (v := 2) (lv' := [(2, .int 2), (0, .ref (a h0)), (1, .int x0)]) hx hb dX11_init_111 hl (k := 0) rfl rfl (by decide) rfl (fun ls hl2 => ?_)
  replace hl := hl2
  clear hl2
  refine lv_goto (tgt := 92) hx hb dX11_init_114 (by decide) ?_
  refine lv_iload_n hx hb dX11_init_92 rfl (lv_at hl 0 rfl) ?_
  refine lv_bipush (v := 32) hx hb dX11_init_93 (by decide) ?_
  refine lv_icmp_ge (tgt := 117) hx hb dX11_init_95 (by decide) (fun h => absurd h (by decide)) (fun _ => ?_)
  refine lv_aload_n hx hb dX11_init_98 rfl (lv_at hl 1 rfl) ?_
  obtain ⟨g_118, hf⟩ := grd_some hf
  obtain ⟨kg_118, sg_118⟩ := okO_at g_118
  obtain ⟨k_119, ek_119, hf⟩ := lnk_some hf
  refine va_get (D := (dC, dI)) (ci := 11) (v := .ref (a k_119)) (C := RX11) (T := TX11) (N := 13) hx hb hts iwd_X11_init_X11 hown hK hP h0 (Wd_ob kg_118 sg_118 (by decide)) rfl 3 (by decide) (hts _ md_X11_init_7) (fun _ h9 => h9) (fl_q rfl ek_119) dX11_init_99 ?_
  refine lv_iload_n hx hb dX11_init_102 rfl (lv_at hl 0 rfl) ?_
  obtain ⟨g_120, hf⟩ := grd_some hf
  obtain ⟨g_121, hf⟩ := grd_some hf
  refine de_new (ci := 8) (fs := [.int 0, .long 0, .long 0, .int 0, .int 0, .int 0, .null, .int 0, .null, .null, .null, .int 0, .long 0, .int 0, .int 0, .int 0, .null, .null, .null]) (C := RX8) (T := TX8) (N := 19) hf hk hx hb hts iwd_X11_init_X8 tyX8 tyX8_ok hown (hts _ md_X11_init_6) (hts _ md_X11_init_29) (hts _ md_X11_init_30) hK hP hD hS hA rfl rfl df_X8 (Nat.le_of_ble_eq_true rfl) (Nat.le_of_ble_eq_true rfl) dX11_init_103 (fun a sh n z_122 k_123 H_124 hf hax hk hnn hP hD hS => ?_)
  refine W.eq (g2 := F0 m 106 ls [.ref (a k_123), .int 2, .ref (a k_119)]) (by rw [hax k_119 (okN_at g_121)]) ?_
  replace hl : lv_has ls 3 [(2, .int 2), (0, .ref (a h0)), (1, .int x0)] := by rw [hax h0 (okN_at g_120)]; exact hl
  rw [← hax CBK (Or.inr rfl)] at hSK
  replace hag := hag_new hag hax hnn
  clear hax hnn
  refine W.widen (k := 127) (n := 244327) (Nat.le_of_ble_eq_true rfl) (Nat.le_of_ble_eq_true rfl) ?_
  refine lv_dup hx hb dX11_init_106 rfl ?_
  obtain ⟨g_125, hf⟩ := grd_some hf
  obtain ⟨g_126, hf⟩ := grd_some hf
  obtain ⟨g_127, hf⟩ := grd_some hf
  obtain ⟨shq, nq, z_128, _u, hfc, hf⟩ := cala_some hf
  have hFc := de_free hD hS hA
  refine va_callv (va_runIN (As := []) (rest := [.ref (a k_123), .int 2, .ref (a k_119)]) ⟨hx, hb, hml, hown, hts⟩ (da_X8_init l dC dI cy a sh n H_124.size F z_122 k_123 hk hfc) ⟨va_cnB 0 hts ggX11_init_X8_init rfl rfl rfl (NK_m_X11_59 hN) (hts _ md_X11_init_30) ⟨by decide, by decide, by decide +kernel⟩ ⟨Nat.le_of_ble_eq_true rfl, Nat.le_of_ble_eq_true rfl⟩, rfl, (hts _ md_X11_init_151)⟩ ⟨fun a U g mk q => by obtain ⟨q0, q1, qP, qK, qD, qN⟩ := q; exact ⟨q0, q1, qP, va_K.moved (u := U) (U := U.calling g mk a) (Vm.Alike.refl U.vm) qK, qD, qN.same rfl⟩, fun U hU hW => ⟨rfl, by rw [hU], by rw [hU]; exact hP, va_K.moved hW.alike hK, hD.weaken (fun _ _ _ _ => trivial), hN.warm hW⟩⟩ rfl rfl hl.1 rfl (lv_room (Nat.le_of_ble_eq_true rfl)) dX11_init_107 ⟨Nat.le_of_ble_eq_true rfl, Nat.le_of_ble_eq_true rfl⟩) hS (fun q _ h => hFc q h) hFc (fun a t H_129 locs ht hvm hw hB hz1 hk1 hS2 => ?_)
  obtain ⟨⟨hax, hnn⟩, hk⟩ := hw
  obtain ⟨hP1, -, hD1⟩ := hB
  rw [ht] at hP1
  replace hD := hD1.weaken (fun _ _ _ h => hFc _ h)
  replace hP := hP1
  replace hS := hS2
  obtain ⟨sh, esh⟩ : ∃ w, w = shq := ⟨_, rfl⟩
  subst esh
  replace hl : lv_has ls 3 [(2, .int 2), (0, .ref (a h0)), (1, .int x0)] := by rw [hax h0 (okN_at g_125)]; exact hl
  rw [← hax CBK (Or.inr rfl)] at hSK
  replace hag := hag_new hag hax hnn
  obtain ⟨n, enq⟩ : ∃ w, w = nq := ⟨_, rfl⟩
  subst enq
  refine W.eq (g2 := F0 m 110 ls [.ref (a k_123), .int 2, .ref (a k_119)]) (by rw [hax k_123 (okN_at g_126), hax k_119 (okN_at g_127)]) ?_
  clear hax hnn hP1 hD1 hS2 hFc hfc hz1 hk1 hvm ht
  refine W.widen (k := 133) (n := 244375) (Nat.le_of_ble_eq_true rfl) (Nat.le_of_ble_eq_true rfl) ?_
  obtain ⟨g_130, hf⟩ := grd_some hf
  obtain ⟨kg_130, sg_130, ig_130⟩ := okA_at g_130
  obtain ⟨g_131, hf⟩ := grd_some hf
  obtain ⟨kg_131, sg_131⟩ := okO_at g_131
  refine va_astq hx hb hK hP hD hS k_119 5 k_123 8 (Wd_aq kg_130 sg_130 (by decide)) rfl (Wd_ob kg_131 sg_131 (by decide)) rfl ig_130 dX11_init_110 (fun H_132 locs hP2 hD2 hS2 => ?_)
  rw [Wd_tq sg_130 (by decide)] at hP2 hD2
  obtain ⟨z_133, ez_133⟩ : ∃ w, w = sq z_128 k_119 (2 : Int32).toNatClampNeg (some k_123) := ⟨_, rfl⟩
  rw [← ez_133] at hP2 hD2
  replace hf := lt_at ez_133 hf
  replace hk : lk z_133 n := by rw [ez_133]; exact lk_sq1 hk (Or.inl kg_131)
  clear ez_133
  replace hP := hP2
  replace hD := hD2
  replace hS := hS2
  clear hP2 hD2 hS2
  refine lv_iinc (v := 3) (lv' := [(2, .int 3), (0, .ref (a h0)), (1, .int x0)]) hx hb dX11_init_111 hl (k := 0) rfl rfl (by decide) rfl (fun ls hl2 => ?_)
  replace hl := hl2
  clear hl2
  refine lv_goto (tgt := 92) hx hb dX11_init_114 (by decide) ?_
  refine lv_iload_n hx hb dX11_init_92 rfl (lv_at hl 0 rfl) ?_
  refine lv_bipush (v := 32) hx hb dX11_init_93 (by decide) ?_
  refine lv_icmp_ge (tgt := 117) hx hb dX11_init_95 (by decide) (fun h => absurd h (by decide)) (fun _ => ?_)
  refine lv_aload_n hx hb dX11_init_98 rfl (lv_at hl 1 rfl) ?_
  obtain ⟨g_134, hf⟩ := grd_some hf
  obtain ⟨kg_134, sg_134⟩ := okO_at g_134
  obtain ⟨k_135, ek_135, hf⟩ := lnk_some hf
  refine va_get (D := (dC, dI)) (ci := 11) (v := .ref (a k_135)) (C := RX11) (T := TX11) (N := 13) hx hb hts iwd_X11_init_X11 hown hK hP h0 (Wd_ob kg_134 sg_134 (by decide)) rfl 3 (by decide) (hts _ md_X11_init_7) (fun _ h9 => h9) (fl_q rfl ek_135) dX11_init_99 ?_
  refine lv_iload_n hx hb dX11_init_102 rfl (lv_at hl 0 rfl) ?_
  obtain ⟨g_136, hf⟩ := grd_some hf
  obtain ⟨g_137, hf⟩ := grd_some hf
  refine de_new (ci := 8) (fs := [.int 0, .long 0, .long 0, .int 0, .int 0, .int 0, .null, .int 0, .null, .null, .null, .int 0, .long 0, .int 0, .int 0, .int 0, .null, .null, .null]) (C := RX8) (T := TX8) (N := 19) hf hk hx hb hts iwd_X11_init_X8 tyX8 tyX8_ok hown (hts _ md_X11_init_6) (hts _ md_X11_init_29) (hts _ md_X11_init_30) hK hP hD hS hA rfl rfl df_X8 (Nat.le_of_ble_eq_true rfl) (Nat.le_of_ble_eq_true rfl) dX11_init_103 (fun a sh n z_138 k_139 H_140 hf hax hk hnn hP hD hS => ?_)
  refine W.eq (g2 := F0 m 106 ls [.ref (a k_139), .int 3, .ref (a k_135)]) (by rw [hax k_135 (okN_at g_137)]) ?_
  replace hl : lv_has ls 3 [(2, .int 3), (0, .ref (a h0)), (1, .int x0)] := by rw [hax h0 (okN_at g_136)]; exact hl
  rw [← hax CBK (Or.inr rfl)] at hSK
  replace hag := hag_new hag hax hnn
  clear hax hnn
  refine W.widen (k := 134) (n := 244394) (Nat.le_of_ble_eq_true rfl) (Nat.le_of_ble_eq_true rfl) ?_
  refine lv_dup hx hb dX11_init_106 rfl ?_
  obtain ⟨g_141, hf⟩ := grd_some hf
  obtain ⟨g_142, hf⟩ := grd_some hf
  obtain ⟨g_143, hf⟩ := grd_some hf
  obtain ⟨shq, nq, z_144, _u, hfc, hf⟩ := cala_some hf
  have hFc := de_free hD hS hA
  refine va_callv (va_runIN (As := []) (rest := [.ref (a k_139), .int 3, .ref (a k_135)]) ⟨hx, hb, hml, hown, hts⟩ (da_X8_init l dC dI cy a sh n H_140.size F z_138 k_139 hk hfc) ⟨va_cnB 0 hts ggX11_init_X8_init rfl rfl rfl (NK_m_X11_59 hN) (hts _ md_X11_init_30) ⟨by decide, by decide, by decide +kernel⟩ ⟨Nat.le_of_ble_eq_true rfl, Nat.le_of_ble_eq_true rfl⟩, rfl, (hts _ md_X11_init_151)⟩ ⟨fun a U g mk q => by obtain ⟨q0, q1, qP, qK, qD, qN⟩ := q; exact ⟨q0, q1, qP, va_K.moved (u := U) (U := U.calling g mk a) (Vm.Alike.refl U.vm) qK, qD, qN.same rfl⟩, fun U hU hW => ⟨rfl, by rw [hU], by rw [hU]; exact hP, va_K.moved hW.alike hK, hD.weaken (fun _ _ _ _ => trivial), hN.warm hW⟩⟩ rfl rfl hl.1 rfl (lv_room (Nat.le_of_ble_eq_true rfl)) dX11_init_107 ⟨Nat.le_of_ble_eq_true rfl, Nat.le_of_ble_eq_true rfl⟩) hS (fun q _ h => hFc q h) hFc (fun a t H_145 locs ht hvm hw hB hz1 hk1 hS2 => ?_)
  obtain ⟨⟨hax, hnn⟩, hk⟩ := hw
  obtain ⟨hP1, -, hD1⟩ := hB
  rw [ht] at hP1
  replace hD := hD1.weaken (fun _ _ _ h => hFc _ h)
  replace hP := hP1
  replace hS := hS2
  obtain ⟨sh, esh⟩ : ∃ w, w = shq := ⟨_, rfl⟩
  subst esh
  replace hl : lv_has ls 3 [(2, .int 3), (0, .ref (a h0)), (1, .int x0)] := by rw [hax h0 (okN_at g_141)]; exact hl
  rw [← hax CBK (Or.inr rfl)] at hSK
  replace hag := hag_new hag hax hnn
  obtain ⟨n, enq⟩ : ∃ w, w = nq := ⟨_, rfl⟩
  subst enq
  refine W.eq (g2 := F0 m 110 ls [.ref (a k_139), .int 3, .ref (a k_135)]) (by rw [hax k_139 (okN_at g_142), hax k_135 (okN_at g_143)]) ?_
  clear hax hnn hP1 hD1 hS2 hFc hfc hz1 hk1 hvm ht
  refine W.widen (k := 140) (n := 244442) (Nat.le_of_ble_eq_true rfl) (Nat.le_of_ble_eq_true rfl) ?_
  obtain ⟨g_146, hf⟩ := grd_some hf
  obtain ⟨kg_146, sg_146, ig_146⟩ := okA_at g_146
  obtain ⟨g_147, hf⟩ := grd_some hf
  obtain ⟨kg_147, sg_147⟩ := okO_at g_147
  refine va_astq hx hb hK hP hD hS k_135 5 k_139 8 (Wd_aq kg_146 sg_146 (by decide)) rfl (Wd_ob kg_147 sg_147 (by decide)) rfl ig_146 dX11_init_110 (fun H_148 locs hP2 hD2 hS2 => ?_)
  rw [Wd_tq sg_146 (by decide)] at hP2 hD2
  obtain ⟨z_149, ez_149⟩ : ∃ w, w = sq z_144 k_135 (3 : Int32).toNatClampNeg (some k_139) := ⟨_, rfl⟩
  rw [← ez_149] at hP2 hD2
  replace hf := lt_at ez_149 hf
  replace hk : lk z_149 n := by rw [ez_149]; exact lk_sq1 hk (Or.inl kg_147)
  clear ez_149
  replace hP := hP2
  replace hD := hD2
  replace hS := hS2
  clear hP2 hD2 hS2
  refine lv_iinc (v := 4) (lv' := [(2, .int 4), (0, .ref (a h0)), (1, .int x0)]) hx hb dX11_init_111 hl (k := 0) rfl rfl (by decide) rfl (fun ls hl2 => ?_)
  replace hl := hl2
  clear hl2
  refine lv_goto (tgt := 92) hx hb dX11_init_114 (by decide) ?_
  refine lv_iload_n hx hb dX11_init_92 rfl (lv_at hl 0 rfl) ?_
  refine lv_bipush (v := 32) hx hb dX11_init_93 (by decide) ?_
  refine lv_icmp_ge (tgt := 117) hx hb dX11_init_95 (by decide) (fun h => absurd h (by decide)) (fun _ => ?_)
  refine lv_aload_n hx hb dX11_init_98 rfl (lv_at hl 1 rfl) ?_
  obtain ⟨g_150, hf⟩ := grd_some hf
  obtain ⟨kg_150, sg_150⟩ := okO_at g_150
  obtain ⟨k_151, ek_151, hf⟩ := lnk_some hf
  refine va_get (D := (dC, dI)) (ci := 11) (v := .ref (a k_151)) (C := RX11) (T := TX11) (N := 13) hx hb hts iwd_X11_init_X11 hown hK hP h0 (Wd_ob kg_150 sg_150 (by decide)) rfl 3 (by decide) (hts _ md_X11_init_7) (fun _ h9 => h9) (fl_q rfl ek_151) dX11_init_99 ?_
  refine lv_iload_n hx hb dX11_init_102 rfl (lv_at hl 0 rfl) ?_
  obtain ⟨g_152, hf⟩ := grd_some hf
  obtain ⟨g_153, hf⟩ := grd_some hf
  refine de_new (ci := 8) (fs := [.int 0, .long 0, .long 0, .int 0, .int 0, .int 0, .null, .int 0, .null, .null, .null, .int 0, .long 0, .int 0, .int 0, .int 0, .null, .null, .null]) (C := RX8) (T := TX8) (N := 19) hf hk hx hb hts iwd_X11_init_X8 tyX8 tyX8_ok hown (hts _ md_X11_init_6) (hts _ md_X11_init_29) (hts _ md_X11_init_30) hK hP hD hS hA rfl rfl df_X8 (Nat.le_of_ble_eq_true rfl) (Nat.le_of_ble_eq_true rfl) dX11_init_103 (fun a sh n z_154 k_155 H_156 hf hax hk hnn hP hD hS => ?_)
  refine W.eq (g2 := F0 m 106 ls [.ref (a k_155), .int 4, .ref (a k_151)]) (by rw [hax k_151 (okN_at g_153)]) ?_
  replace hl : lv_has ls 3 [(2, .int 4), (0, .ref (a h0)), (1, .int x0)] := by rw [hax h0 (okN_at g_152)]; exact hl
  rw [← hax CBK (Or.inr rfl)] at hSK
  replace hag := hag_new hag hax hnn
  clear hax hnn
  refine W.widen (k := 141) (n := 244461) (Nat.le_of_ble_eq_true rfl) (Nat.le_of_ble_eq_true rfl) ?_
  refine lv_dup hx hb dX11_init_106 rfl ?_
  obtain ⟨g_157, hf⟩ := grd_some hf
  obtain ⟨g_158, hf⟩ := grd_some hf
  obtain ⟨g_159, hf⟩ := grd_some hf
  obtain ⟨shq, nq, z_160, _u, hfc, hf⟩ := cala_some hf
  have hFc := de_free hD hS hA
  refine va_callv (va_runIN (As := []) (rest := [.ref (a k_155), .int 4, .ref (a k_151)]) ⟨hx, hb, hml, hown, hts⟩ (da_X8_init l dC dI cy a sh n H_156.size F z_154 k_155 hk hfc) ⟨va_cnB 0 hts ggX11_init_X8_init rfl rfl rfl (NK_m_X11_59 hN) (hts _ md_X11_init_30) ⟨by decide, by decide, by decide +kernel⟩ ⟨Nat.le_of_ble_eq_true rfl, Nat.le_of_ble_eq_true rfl⟩, rfl, (hts _ md_X11_init_151)⟩ ⟨fun a U g mk q => by obtain ⟨q0, q1, qP, qK, qD, qN⟩ := q; exact ⟨q0, q1, qP, va_K.moved (u := U) (U := U.calling g mk a) (Vm.Alike.refl U.vm) qK, qD, qN.same rfl⟩, fun U hU hW => ⟨rfl, by rw [hU], by rw [hU]; exact hP, va_K.moved hW.alike hK, hD.weaken (fun _ _ _ _ => trivial), hN.warm hW⟩⟩ rfl rfl hl.1 rfl (lv_room (Nat.le_of_ble_eq_true rfl)) dX11_init_107 ⟨Nat.le_of_ble_eq_true rfl, Nat.le_of_ble_eq_true rfl⟩) hS (fun q _ h => hFc q h) hFc (fun a t H_161 locs ht hvm hw hB hz1 hk1 hS2 => ?_)
  obtain ⟨⟨hax, hnn⟩, hk⟩ := hw
  obtain ⟨hP1, -, hD1⟩ := hB
  rw [ht] at hP1
  replace hD := hD1.weaken (fun _ _ _ h => hFc _ h)
  replace hP := hP1
  replace hS := hS2
  obtain ⟨sh, esh⟩ : ∃ w, w = shq := ⟨_, rfl⟩
  subst esh
  replace hl : lv_has ls 3 [(2, .int 4), (0, .ref (a h0)), (1, .int x0)] := by rw [hax h0 (okN_at g_157)]; exact hl
  rw [← hax CBK (Or.inr rfl)] at hSK
  replace hag := hag_new hag hax hnn
  obtain ⟨n, enq⟩ : ∃ w, w = nq := ⟨_, rfl⟩
  subst enq
  refine W.eq (g2 := F0 m 110 ls [.ref (a k_155), .int 4, .ref (a k_151)]) (by rw [hax k_155 (okN_at g_158), hax k_151 (okN_at g_159)]) ?_
  clear hax hnn hP1 hD1 hS2 hFc hfc hz1 hk1 hvm ht
  refine W.widen (k := 147) (n := 244509) (Nat.le_of_ble_eq_true rfl) (Nat.le_of_ble_eq_true rfl) ?_
  obtain ⟨g_162, hf⟩ := grd_some hf
  obtain ⟨kg_162, sg_162, ig_162⟩ := okA_at g_162
  obtain ⟨g_163, hf⟩ := grd_some hf
  obtain ⟨kg_163, sg_163⟩ := okO_at g_163
  refine va_astq hx hb hK hP hD hS k_151 5 k_155 8 (Wd_aq kg_162 sg_162 (by decide)) rfl (Wd_ob kg_163 sg_163 (by decide)) rfl ig_162 dX11_init_110 (fun H_164 locs hP2 hD2 hS2 => ?_)
  rw [Wd_tq sg_162 (by decide)] at hP2 hD2
  obtain ⟨z_165, ez_165⟩ : ∃ w, w = sq z_160 k_151 (4 : Int32).toNatClampNeg (some k_155) := ⟨_, rfl⟩
  rw [← ez_165] at hP2 hD2
  replace hf := lt_at ez_165 hf
  replace hk : lk z_165 n := by rw [ez_165]; exact lk_sq1 hk (Or.inl kg_163)
  clear ez_165
  replace hP := hP2
  replace hD := hD2
  replace hS := hS2
  clear hP2 hD2 hS2
  refine lv_iinc (v := 5) (lv' := [(2, .int 5), (0, .ref (a h0)), (1, .int x0)]) hx hb dX11_init_111 hl (k := 0) rfl rfl (by decide) rfl (fun ls hl2 => ?_)
  replace hl := hl2
  clear hl2
  refine lv_goto (tgt := 92) hx hb dX11_init_114 (by decide) ?_
  refine lv_iload_n hx hb dX11_init_92 rfl (lv_at hl 0 rfl) ?_
  refine lv_bipush (v := 32) hx hb dX11_init_93 (by decide) ?_
  refine lv_icmp_ge (tgt := 117) hx hb dX11_init_95 (by decide) (fun h => absurd h (by decide)) (fun _ => ?_)
  refine lv_aload_n hx hb dX11_init_98 rfl (lv_at hl 1 rfl) ?_
  obtain ⟨g_166, hf⟩ := grd_some hf
  obtain ⟨kg_166, sg_166⟩ := okO_at g_166
  obtain ⟨k_167, ek_167, hf⟩ := lnk_some hf
  refine va_get (D := (dC, dI)) (ci := 11) (v := .ref (a k_167)) (C := RX11) (T := TX11) (N := 13) hx hb hts iwd_X11_init_X11 hown hK hP h0 (Wd_ob kg_166 sg_166 (by decide)) rfl 3 (by decide) (hts _ md_X11_init_7) (fun _ h9 => h9) (fl_q rfl ek_167) dX11_init_99 ?_
  refine lv_iload_n hx hb dX11_init_102 rfl (lv_at hl 0 rfl) ?_
  obtain ⟨g_168, hf⟩ := grd_some hf
  obtain ⟨g_169, hf⟩ := grd_some hf
  refine de_new (ci := 8) (fs := [.int 0, .long 0, .long 0, .int 0, .int 0, .int 0, .null, .int 0, .null, .null, .null, .int 0, .long 0, .int 0, .int 0, .int 0, .null, .null, .null]) (C := RX8) (T := TX8) (N := 19) hf hk hx hb hts iwd_X11_init_X8 tyX8 tyX8_ok hown (hts _ md_X11_init_6) (hts _ md_X11_init_29) (hts _ md_X11_init_30) hK hP hD hS hA rfl rfl df_X8 (Nat.le_of_ble_eq_true rfl) (Nat.le_of_ble_eq_true rfl) dX11_init_103 (fun a sh n z_170 k_171 H_172 hf hax hk hnn hP hD hS => ?_)
  refine W.eq (g2 := F0 m 106 ls [.ref (a k_171), .int 5, .ref (a k_167)]) (by rw [hax k_167 (okN_at g_169)]) ?_
  replace hl : lv_has ls 3 [(2, .int 5), (0, .ref (a h0)), (1, .int x0)] := by rw [hax h0 (okN_at g_168)]; exact hl
  rw [← hax CBK (Or.inr rfl)] at hSK
  replace hag := hag_new hag hax hnn
  clear hax hnn
  refine W.widen (k := 148) (n := 244528) (Nat.le_of_ble_eq_true rfl) (Nat.le_of_ble_eq_true rfl) ?_
  refine lv_dup hx hb dX11_init_106 rfl ?_
  obtain ⟨g_173, hf⟩ := grd_some hf
  obtain ⟨g_174, hf⟩ := grd_some hf
  obtain ⟨g_175, hf⟩ := grd_some hf
  obtain ⟨shq, nq, z_176, _u, hfc, hf⟩ := cala_some hf
  have hFc := de_free hD hS hA
  refine va_callv (va_runIN (As := []) (rest := [.ref (a k_171), .int 5, .ref (a k_167)]) ⟨hx, hb, hml, hown, hts⟩ (da_X8_init l dC dI cy a sh n H_172.size F z_170 k_171 hk hfc) ⟨va_cnB 0 hts ggX11_init_X8_init rfl rfl rfl (NK_m_X11_59 hN) (hts _ md_X11_init_30) ⟨by decide, by decide, by decide +kernel⟩ ⟨Nat.le_of_ble_eq_true rfl, Nat.le_of_ble_eq_true rfl⟩, rfl, (hts _ md_X11_init_151)⟩ ⟨fun a U g mk q => by obtain ⟨q0, q1, qP, qK, qD, qN⟩ := q; exact ⟨q0, q1, qP, va_K.moved (u := U) (U := U.calling g mk a) (Vm.Alike.refl U.vm) qK, qD, qN.same rfl⟩, fun U hU hW => ⟨rfl, by rw [hU], by rw [hU]; exact hP, va_K.moved hW.alike hK, hD.weaken (fun _ _ _ _ => trivial), hN.warm hW⟩⟩ rfl rfl hl.1 rfl (lv_room (Nat.le_of_ble_eq_true rfl)) dX11_init_107 ⟨Nat.le_of_ble_eq_true rfl, Nat.le_of_ble_eq_true rfl⟩) hS (fun q _ h => hFc q h) hFc (fun a t H_177 locs ht hvm hw hB hz1 hk1 hS2 => ?_)
  obtain ⟨⟨hax, hnn⟩, hk⟩ := hw
  obtain ⟨hP1, -, hD1⟩ := hB
  rw [ht] at hP1
  replace hD := hD1.weaken (fun _ _ _ h => hFc _ h)
  replace hP := hP1
  replace hS := hS2
  obtain ⟨sh, esh⟩ : ∃ w, w = shq := ⟨_, rfl⟩
  subst esh
  replace hl : lv_has ls 3 [(2, .int 5), (0, .ref (a h0)), (1, .int x0)] := by rw [hax h0 (okN_at g_173)]; exact hl
  rw [← hax CBK (Or.inr rfl)] at hSK
  replace hag := hag_new hag hax hnn
  obtain ⟨n, enq⟩ : ∃ w, w = nq := ⟨_, rfl⟩
  subst enq
  refine W.eq (g2 := F0 m 110 ls [.ref (a k_171), .int 5, .ref (a k_167)]) (by rw [hax k_171 (okN_at g_174), hax k_167 (okN_at g_175)]) ?_
  clear hax hnn hP1 hD1 hS2 hFc hfc hz1 hk1 hvm ht
  refine W.widen (k := 154) (n := 244576) (Nat.le_of_ble_eq_true rfl) (Nat.le_of_ble_eq_true rfl) ?_
  obtain ⟨g_178, hf⟩ := grd_some hf
  obtain ⟨kg_178, sg_178, ig_178⟩ := okA_at g_178
  obtain ⟨g_179, hf⟩ := grd_some hf
  obtain ⟨kg_179, sg_179⟩ := okO_at g_179
  refine va_astq hx hb hK hP hD hS k_167 5 k_171 8 (Wd_aq kg_178 sg_178 (by decide)) rfl (Wd_ob kg_179 sg_179 (by decide)) rfl ig_178 dX11_init_110 (fun H_180 locs hP2 hD2 hS2 => ?_)
  rw [Wd_tq sg_178 (by decide)] at hP2 hD2
  obtain ⟨z_181, ez_181⟩ : ∃ w, w = sq z_176 k_167 (5 : Int32).toNatClampNeg (some k_171) := ⟨_, rfl⟩
  rw [← ez_181] at hP2 hD2
  replace hf := lt_at ez_181 hf
  replace hk : lk z_181 n := by rw [ez_181]; exact lk_sq1 hk (Or.inl kg_179)
  clear ez_181
  replace hP := hP2
  replace hD := hD2
  replace hS := hS2
  clear hP2 hD2 hS2
  refine lv_iinc (v := 6) (lv' := [(2, .int 6), (0, .ref (a h0)), (1, .int x0)]) hx hb dX11_init_111 hl (k := 0) rfl rfl (by decide) rfl (fun ls hl2 => ?_)
  replace hl := hl2
  clear hl2
  refine lv_goto (tgt := 92) hx hb dX11_init_114 (by decide) ?_
  refine lv_iload_n hx hb dX11_init_92 rfl (lv_at hl 0 rfl) ?_
  refine lv_bipush (v := 32) hx hb dX11_init_93 (by decide) ?_
  refine lv_icmp_ge (tgt := 117) hx hb dX11_init_95 (by decide) (fun h => absurd h (by decide)) (fun _ => ?_)
  refine lv_aload_n hx hb dX11_init_98 rfl (lv_at hl 1 rfl) ?_
  obtain ⟨g_182, hf⟩ := grd_some hf
  obtain ⟨kg_182, sg_182⟩ := okO_at g_182
  obtain ⟨k_183, ek_183, hf⟩ := lnk_some hf
  refine va_get (D := (dC, dI)) (ci := 11) (v := .ref (a k_183)) (C := RX11) (T := TX11) (N := 13) hx hb hts iwd_X11_init_X11 hown hK hP h0 (Wd_ob kg_182 sg_182 (by decide)) rfl 3 (by decide) (hts _ md_X11_init_7) (fun _ h9 => h9) (fl_q rfl ek_183) dX11_init_99 ?_
  refine lv_iload_n hx hb dX11_init_102 rfl (lv_at hl 0 rfl) ?_
  obtain ⟨g_184, hf⟩ := grd_some hf
  obtain ⟨g_185, hf⟩ := grd_some hf
  refine de_new (ci := 8) (fs := [.int 0, .long 0, .long 0, .int 0, .int 0, .int 0, .null, .int 0, .null, .null, .null, .int 0, .long 0, .int 0, .int 0, .int 0, .null, .null, .null]) (C := RX8) (T := TX8) (N := 19) hf hk hx hb hts iwd_X11_init_X8 tyX8 tyX8_ok hown (hts _ md_X11_init_6) (hts _ md_X11_init_29) (hts _ md_X11_init_30) hK hP hD hS hA rfl rfl df_X8 (Nat.le_of_ble_eq_true rfl) (Nat.le_of_ble_eq_true rfl) dX11_init_103 (fun a sh n z_186 k_187 H_188 hf hax hk hnn hP hD hS => ?_)
  refine W.eq (g2 := F0 m 106 ls [.ref (a k_187), .int 6, .ref (a k_183)]) (by rw [hax k_183 (okN_at g_185)]) ?_
  replace hl : lv_has ls 3 [(2, .int 6), (0, .ref (a h0)), (1, .int x0)] := by rw [hax h0 (okN_at g_184)]; exact hl
  rw [← hax CBK (Or.inr rfl)] at hSK
  replace hag := hag_new hag hax hnn
  clear hax hnn
  refine W.widen (k := 155) (n := 244595) (Nat.le_of_ble_eq_true rfl) (Nat.le_of_ble_eq_true rfl) ?_
  refine lv_dup hx hb dX11_init_106 rfl ?_
  obtain ⟨g_189, hf⟩ := grd_some hf
  obtain ⟨g_190, hf⟩ := grd_some hf
  obtain ⟨g_191, hf⟩ := grd_some hf
  obtain ⟨shq, nq, z_192, _u, hfc, hf⟩ := cala_some hf
  have hFc := de_free hD hS hA
  refine va_callv (va_runIN (As := []) (rest := [.ref (a k_187), .int 6, .ref (a k_183)]) ⟨hx, hb, hml, hown, hts⟩ (da_X8_init l dC dI cy a sh n H_188.size F z_186 k_187 hk hfc) ⟨va_cnB 0 hts ggX11_init_X8_init rfl rfl rfl (NK_m_X11_59 hN) (hts _ md_X11_init_30) ⟨by decide, by decide, by decide +kernel⟩ ⟨Nat.le_of_ble_eq_true rfl, Nat.le_of_ble_eq_true rfl⟩, rfl, (hts _ md_X11_init_151)⟩ ⟨fun a U g mk q => by obtain ⟨q0, q1, qP, qK, qD, qN⟩ := q; exact ⟨q0, q1, qP, va_K.moved (u := U) (U := U.calling g mk a) (Vm.Alike.refl U.vm) qK, qD, qN.same rfl⟩, fun U hU hW => ⟨rfl, by rw [hU], by rw [hU]; exact hP, va_K.moved hW.alike hK, hD.weaken (fun _ _ _ _ => trivial), hN.warm hW⟩⟩ rfl rfl hl.1 rfl (lv_room (Nat.le_of_ble_eq_true rfl)) dX11_init_107 ⟨Nat.le_of_ble_eq_true rfl, Nat.le_of_ble_eq_true rfl⟩) hS (fun q _ h => hFc q h) hFc (fun a t H_193 locs ht hvm hw hB hz1 hk1 hS2 => ?_)
  obtain ⟨⟨hax, hnn⟩, hk⟩ := hw
  obtain ⟨hP1, -, hD1⟩ := hB
  rw [ht] at hP1
  replace hD := hD1.weaken (fun _ _ _ h => hFc _ h)
  replace hP := hP1
  replace hS := hS2
  obtain ⟨sh, esh⟩ : ∃ w, w = shq := ⟨_, rfl⟩
  subst esh
  replace hl : lv_has ls 3 [(2, .int 6), (0, .ref (a h0)), (1, .int x0)] := by rw [hax h0 (okN_at g_189)]; exact hl
  rw [← hax CBK (Or.inr rfl)] at hSK
  replace hag := hag_new hag hax hnn
  obtain ⟨n, enq⟩ : ∃ w, w = nq := ⟨_, rfl⟩
  subst enq
  refine W.eq (g2 := F0 m 110 ls [.ref (a k_187), .int 6, .ref (a k_183)]) (by rw [hax k_187 (okN_at g_190), hax k_183 (okN_at g_191)]) ?_
  clear hax hnn hP1 hD1 hS2 hFc hfc hz1 hk1 hvm ht
  refine W.widen (k := 161) (n := 244643) (Nat.le_of_ble_eq_true rfl) (Nat.le_of_ble_eq_true rfl) ?_
  obtain ⟨g_194, hf⟩ := grd_some hf
  obtain ⟨kg_194, sg_194, ig_194⟩ := okA_at g_194
  obtain ⟨g_195, hf⟩ := grd_some hf
  obtain ⟨kg_195, sg_195⟩ := okO_at g_195
  refine va_astq hx hb hK hP hD hS k_183 5 k_187 8 (Wd_aq kg_194 sg_194 (by decide)) rfl (Wd_ob kg_195 sg_195 (by decide)) rfl ig_194 dX11_init_110 (fun H_196 locs hP2 hD2 hS2 => ?_)
  rw [Wd_tq sg_194 (by decide)] at hP2 hD2
  obtain ⟨z_197, ez_197⟩ : ∃ w, w = sq z_192 k_183 (6 : Int32).toNatClampNeg (some k_187) := ⟨_, rfl⟩
  rw [← ez_197] at hP2 hD2
  replace hf := lt_at ez_197 hf
  replace hk : lk z_197 n := by rw [ez_197]; exact lk_sq1 hk (Or.inl kg_195)
  clear ez_197
  replace hP := hP2
  replace hD := hD2
  replace hS := hS2
  clear hP2 hD2 hS2
  refine lv_iinc (v := 7) (lv' := [(2, .int 7), (0, .ref (a h0)), (1, .int x0)]) hx hb dX11_init_111 hl (k := 0) rfl rfl (by decide) rfl (fun ls hl2 => ?_)
  replace hl := hl2
  clear hl2
  refine lv_goto (tgt := 92) hx hb dX11_init_114 (by decide) ?_
  refine lv_iload_n hx hb dX11_init_92 rfl (lv_at hl 0 rfl) ?_
  refine lv_bipush (v := 32) hx hb dX11_init_93 (by decide) ?_
  refine lv_icmp_ge (tgt := 117) hx hb dX11_init_95 (by decide) (fun h => absurd h (by decide)) (fun _ => ?_)
  refine lv_aload_n hx hb dX11_init_98 rfl (lv_at hl 1 rfl) ?_
  obtain ⟨g_198, hf⟩ := grd_some hf
  obtain ⟨kg_198, sg_198⟩ := okO_at g_198
  obtain ⟨k_199, ek_199, hf⟩ := lnk_some hf
  refine va_get (D := (dC, dI)) (ci := 11) (v := .ref (a k_199)) (C := RX11) (T := TX11) (N := 13) hx hb hts iwd_X11_init_X11 hown hK hP h0 (Wd_ob kg_198 sg_198 (by decide)) rfl 3 (by decide) (hts _ md_X11_init_7) (fun _ h9 => h9) (fl_q rfl ek_199) dX11_init_99 ?_
  refine lv_iload_n hx hb dX11_init_102 rfl (lv_at hl 0 rfl) ?_
  obtain ⟨g_200, hf⟩ := grd_some hf
  obtain ⟨g_201, hf⟩ := grd_some hf
  refine de_new (ci := 8) (fs := [.int 0, .long 0, .long 0, .int 0, .int 0, .int 0, .null, .int 0, .null, .null, .null, .int 0, .long 0, .int 0, .int 0, .int 0, .null, .null, .null]) (C := RX8) (T := TX8) (N := 19) hf hk hx hb hts iwd_X11_init_X8 tyX8 tyX8_ok hown (hts _ md_X11_init_6) (hts _ md_X11_init_29) (hts _ md_X11_init_30) hK hP hD hS hA rfl rfl df_X8 (Nat.le_of_ble_eq_true rfl) (Nat.le_of_ble_eq_true rfl) dX11_init_103 (fun a sh n z_202 k_203 H_204 hf hax hk hnn hP hD hS => ?_)
  refine W.eq (g2 := F0 m 106 ls [.ref (a k_203), .int 7, .ref (a k_199)]) (by rw [hax k_199 (okN_at g_201)]) ?_
  replace hl : lv_has ls 3 [(2, .int 7), (0, .ref (a h0)), (1, .int x0)] := by rw [hax h0 (okN_at g_200)]; exact hl
  rw [← hax CBK (Or.inr rfl)] at hSK
  replace hag := hag_new hag hax hnn
  clear hax hnn
  refine W.widen (k := 162) (n := 244662) (Nat.le_of_ble_eq_true rfl) (Nat.le_of_ble_eq_true rfl) ?_
  refine lv_dup hx hb dX11_init_106 rfl ?_
  obtain ⟨g_205, hf⟩ := grd_some hf
  obtain ⟨g_206, hf⟩ := grd_some hf
  obtain ⟨g_207, hf⟩ := grd_some hf
  obtain ⟨shq, nq, z_208, _u, hfc, hf⟩ := cala_some hf
  have hFc := de_free hD hS hA
  refine va_callv (va_runIN (As := []) (rest := [.ref (a k_203), .int 7, .ref (a k_199)]) ⟨hx, hb, hml, hown, hts⟩ (da_X8_init l dC dI cy a sh n H_204.size F z_202 k_203 hk hfc) ⟨va_cnB 0 hts ggX11_init_X8_init rfl rfl rfl (NK_m_X11_59 hN) (hts _ md_X11_init_30) ⟨by decide, by decide, by decide +kernel⟩ ⟨Nat.le_of_ble_eq_true rfl, Nat.le_of_ble_eq_true rfl⟩, rfl, (hts _ md_X11_init_151)⟩ ⟨fun a U g mk q => by obtain ⟨q0, q1, qP, qK, qD, qN⟩ := q; exact ⟨q0, q1, qP, va_K.moved (u := U) (U := U.calling g mk a) (Vm.Alike.refl U.vm) qK, qD, qN.same rfl⟩, fun U hU hW => ⟨rfl, by rw [hU], by rw [hU]; exact hP, va_K.moved hW.alike hK, hD.weaken (fun _ _ _ _ => trivial), hN.warm hW⟩⟩ rfl rfl hl.1 rfl (lv_room (Nat.le_of_ble_eq_true rfl)) dX11_init_107 ⟨Nat.le_of_ble_eq_true rfl, Nat.le_of_ble_eq_true rfl⟩) hS (fun q _ h => hFc q h) hFc (fun a t H_209 locs ht hvm hw hB hz1 hk1 hS2 => ?_)
  obtain ⟨⟨hax, hnn⟩, hk⟩ := hw
  obtain ⟨hP1, -, hD1⟩ := hB
  rw [ht] at hP1
  replace hD := hD1.weaken (fun _ _ _ h => hFc _ h)
  replace hP := hP1
  replace hS := hS2
  obtain ⟨sh, esh⟩ : ∃ w, w = shq := ⟨_, rfl⟩
  subst esh
  replace hl : lv_has ls 3 [(2, .int 7), (0, .ref (a h0)), (1, .int x0)] := by rw [hax h0 (okN_at g_205)]; exact hl
  rw [← hax CBK (Or.inr rfl)] at hSK
  replace hag := hag_new hag hax hnn
  obtain ⟨n, enq⟩ : ∃ w, w = nq := ⟨_, rfl⟩
  subst enq
  refine W.eq (g2 := F0 m 110 ls [.ref (a k_203), .int 7, .ref (a k_199)]) (by rw [hax k_203 (okN_at g_206), hax k_199 (okN_at g_207)]) ?_
  clear hax hnn hP1 hD1 hS2 hFc hfc hz1 hk1 hvm ht
  refine W.widen (k := 168) (n := 244710) (Nat.le_of_ble_eq_true rfl) (Nat.le_of_ble_eq_true rfl) ?_
  obtain ⟨g_210, hf⟩ := grd_some hf
  obtain ⟨kg_210, sg_210, ig_210⟩ := okA_at g_210
  obtain ⟨g_211, hf⟩ := grd_some hf
  obtain ⟨kg_211, sg_211⟩ := okO_at g_211
  refine va_astq hx hb hK hP hD hS k_199 5 k_203 8 (Wd_aq kg_210 sg_210 (by decide)) rfl (Wd_ob kg_211 sg_211 (by decide)) rfl ig_210 dX11_init_110 (fun H_212 locs hP2 hD2 hS2 => ?_)
  rw [Wd_tq sg_210 (by decide)] at hP2 hD2
  obtain ⟨z_213, ez_213⟩ : ∃ w, w = sq z_208 k_199 (7 : Int32).toNatClampNeg (some k_203) := ⟨_, rfl⟩
  rw [← ez_213] at hP2 hD2
  replace hf := lt_at ez_213 hf
  replace hk : lk z_213 n := by rw [ez_213]; exact lk_sq1 hk (Or.inl kg_211)
  clear ez_213
  replace hP := hP2
  replace hD := hD2
  replace hS := hS2
  clear hP2 hD2 hS2
  refine lv_iinc (v := 8) (lv' := [(2, .int 8), (0, .ref (a h0)), (1, .int x0)]) hx hb dX11_init_111 hl (k := 0) rfl rfl (by decide) rfl (fun ls hl2 => ?_)
  replace hl := hl2
  clear hl2
  refine lv_goto (tgt := 92) hx hb dX11_init_114 (by decide) ?_
  refine lv_iload_n hx hb dX11_init_92 rfl (lv_at hl 0 rfl) ?_
  refine lv_bipush (v := 32) hx hb dX11_init_93 (by decide) ?_
  refine lv_icmp_ge (tgt := 117) hx hb dX11_init_95 (by decide) (fun h => absurd h (by decide)) (fun _ => ?_)
  refine lv_aload_n hx hb dX11_init_98 rfl (lv_at hl 1 rfl) ?_
  obtain ⟨g_214, hf⟩ := grd_some hf
  obtain ⟨kg_214, sg_214⟩ := okO_at g_214
  obtain ⟨k_215, ek_215, hf⟩ := lnk_some hf
  refine va_get (D := (dC, dI)) (ci := 11) (v := .ref (a k_215)) (C := RX11) (T := TX11) (N := 13) hx hb hts iwd_X11_init_X11 hown hK hP h0 (Wd_ob kg_214 sg_214 (by decide)) rfl 3 (by decide) (hts _ md_X11_init_7) (fun _ h9 => h9) (fl_q rfl ek_215) dX11_init_99 ?_
  refine lv_iload_n hx hb dX11_init_102 rfl (lv_at hl 0 rfl) ?_
  obtain ⟨g_216, hf⟩ := grd_some hf
  obtain ⟨g_217, hf⟩ := grd_some hf
  refine de_new (ci := 8) (fs := [.int 0, .long 0, .long 0, .int 0, .int 0, .int 0, .null, .int 0, .null, .null, .null, .int 0, .long 0, .int 0, .int 0, .int 0, .null, .null, .null]) (C := RX8) (T := TX8) (N := 19) hf hk hx hb hts iwd_X11_init_X8 tyX8 tyX8_ok hown (hts _ md_X11_init_6) (hts _ md_X11_init_29) (hts _ md_X11_init_30) hK hP hD hS hA rfl rfl df_X8 (Nat.le_of_ble_eq_true rfl) (Nat.le_of_ble_eq_true rfl) dX11_init_103 (fun a sh n z_218 k_219 H_220 hf hax hk hnn hP hD hS => ?_)
  refine W.eq (g2 := F0 m 106 ls [.ref (a k_219), .int 8, .ref (a k_215)]) (by rw [hax k_215 (okN_at g_217)]) ?_
  replace hl : lv_has ls 3 [(2, .int 8), (0, .ref (a h0)), (1, .int x0)] := by rw [hax h0 (okN_at g_216)]; exact hl
  rw [← hax CBK (Or.inr rfl)] at hSK
  replace hag := hag_new hag hax hnn
  clear hax hnn
  refine W.widen (k := 169) (n := 244729) (Nat.le_of_ble_eq_true rfl) (Nat.le_of_ble_eq_true rfl) ?_
  refine lv_dup hx hb dX11_init_106 rfl ?_
  obtain ⟨g_221, hf⟩ := grd_some hf
  obtain ⟨g_222, hf⟩ := grd_some hf
  obtain ⟨g_223, hf⟩ := grd_some hf
  obtain ⟨shq, nq, z_224, _u, hfc, hf⟩ := cala_some hf
  have hFc := de_free hD hS hA
  refine va_callv (va_runIN (As := []) (rest := [.ref (a k_219), .int 8, .ref (a k_215)]) ⟨hx, hb, hml, hown, hts⟩ (da_X8_init l dC dI cy a sh n H_220.size F z_218 k_219 hk hfc) ⟨va_cnB 0 hts ggX11_init_X8_init rfl rfl rfl (NK_m_X11_59 hN) (hts _ md_X11_init_30) ⟨by decide, by decide, by decide +kernel⟩ ⟨Nat.le_of_ble_eq_true rfl, Nat.le_of_ble_eq_true rfl⟩, rfl, (hts _ md_X11_init_151)⟩ ⟨fun a U g mk q => by obtain ⟨q0, q1, qP, qK, qD, qN⟩ := q; exact ⟨q0, q1, qP, va_K.moved (u := U) (U := U.calling g mk a) (Vm.Alike.refl U.vm) qK, qD, qN.same rfl⟩, fun U hU hW => ⟨rfl, by rw [hU], by rw [hU]; exact hP, va_K.moved hW.alike hK, hD.weaken (fun _ _ _ _ => trivial), hN.warm hW⟩⟩ rfl rfl hl.1 rfl (lv_room (Nat.le_of_ble_eq_true rfl)) dX11_init_107 ⟨Nat.le_of_ble_eq_true rfl, Nat.le_of_ble_eq_true rfl⟩) hS (fun q _ h => hFc q h) hFc (fun a t H_225 locs ht hvm hw hB hz1 hk1 hS2 => ?_)
  obtain ⟨⟨hax, hnn⟩, hk⟩ := hw
  obtain ⟨hP1, -, hD1⟩ := hB
  rw [ht] at hP1
  replace hD := hD1.weaken (fun _ _ _ h => hFc _ h)
  replace hP := hP1
  replace hS := hS2
  obtain ⟨sh, esh⟩ : ∃ w, w = shq := ⟨_, rfl⟩
  subst esh
  replace hl : lv_has ls 3 [(2, .int 8), (0, .ref (a h0)), (1, .int x0)] := by rw [hax h0 (okN_at g_221)]; exact hl
  rw [← hax CBK (Or.inr rfl)] at hSK
  replace hag := hag_new hag hax hnn
  obtain ⟨n, enq⟩ : ∃ w, w = nq := ⟨_, rfl⟩
  subst enq
  refine W.eq (g2 := F0 m 110 ls [.ref (a k_219), .int 8, .ref (a k_215)]) (by rw [hax k_219 (okN_at g_222), hax k_215 (okN_at g_223)]) ?_
  clear hax hnn hP1 hD1 hS2 hFc hfc hz1 hk1 hvm ht
  refine W.widen (k := 175) (n := 244777) (Nat.le_of_ble_eq_true rfl) (Nat.le_of_ble_eq_true rfl) ?_
  obtain ⟨g_226, hf⟩ := grd_some hf
  obtain ⟨kg_226, sg_226, ig_226⟩ := okA_at g_226
  obtain ⟨g_227, hf⟩ := grd_some hf
  obtain ⟨kg_227, sg_227⟩ := okO_at g_227
  refine va_astq hx hb hK hP hD hS k_215 5 k_219 8 (Wd_aq kg_226 sg_226 (by decide)) rfl (Wd_ob kg_227 sg_227 (by decide)) rfl ig_226 dX11_init_110 (fun H_228 locs hP2 hD2 hS2 => ?_)
  rw [Wd_tq sg_226 (by decide)] at hP2 hD2
  obtain ⟨z_229, ez_229⟩ : ∃ w, w = sq z_224 k_215 (8 : Int32).toNatClampNeg (some k_219) := ⟨_, rfl⟩
  rw [← ez_229] at hP2 hD2
  replace hf := lt_at ez_229 hf
  replace hk : lk z_229 n := by rw [ez_229]; exact lk_sq1 hk (Or.inl kg_227)
  clear ez_229
  replace hP := hP2
  replace hD := hD2
  replace hS := hS2
  clear hP2 hD2 hS2
  refine lv_iinc (v := 9) (lv' := [(2, .int 9), (0, .ref (a h0)), (1, .int x0)]) hx hb dX11_init_111 hl (k := 0) rfl rfl (by decide) rfl (fun ls hl2 => ?_)
  replace hl := hl2
  clear hl2
  refine lv_goto (tgt := 92) hx hb dX11_init_114 (by decide) ?_
  refine lv_iload_n hx hb dX11_init_92 rfl (lv_at hl 0 rfl) ?_
  refine lv_bipush (v := 32) hx hb dX11_init_93 (by decide) ?_
  refine lv_icmp_ge (tgt := 117) hx hb dX11_init_95 (by decide) (fun h => absurd h (by decide)) (fun _ => ?_)
  refine lv_aload_n hx hb dX11_init_98 rfl (lv_at hl 1 rfl) ?_
  obtain ⟨g_230, hf⟩ := grd_some hf
  obtain ⟨kg_230, sg_230⟩ := okO_at g_230
  obtain ⟨k_231, ek_231, hf⟩ := lnk_some hf
  refine va_get (D := (dC, dI)) (ci := 11) (v := .ref (a k_231)) (C := RX11) (T := TX11) (N := 13) hx hb hts iwd_X11_init_X11 hown hK hP h0 (Wd_ob kg_230 sg_230 (by decide)) rfl 3 (by decide) (hts _ md_X11_init_7) (fun _ h9 => h9) (fl_q rfl ek_231) dX11_init_99 ?_
  refine lv_iload_n hx hb dX11_init_102 rfl (lv_at hl 0 rfl) ?_
  obtain ⟨g_232, hf⟩ := grd_some hf
  obtain ⟨g_233, hf⟩ := grd_some hf
  refine de_new (ci := 8) (fs := [.int 0, .long 0, .long 0, .int 0, .int 0, .int 0, .null, .int 0, .null, .null, .null, .int 0, .long 0, .int 0, .int 0, .int 0, .null, .null, .null]) (C := RX8) (T := TX8) (N := 19) hf hk hx hb hts iwd_X11_init_X8 tyX8 tyX8_ok hown (hts _ md_X11_init_6) (hts _ md_X11_init_29) (hts _ md_X11_init_30) hK hP hD hS hA rfl rfl df_X8 (Nat.le_of_ble_eq_true rfl) (Nat.le_of_ble_eq_true rfl) dX11_init_103 (fun a sh n z_234 k_235 H_236 hf hax hk hnn hP hD hS => ?_)
  refine W.eq (g2 := F0 m 106 ls [.ref (a k_235), .int 9, .ref (a k_231)]) (by rw [hax k_231 (okN_at g_233)]) ?_
  replace hl : lv_has ls 3 [(2, .int 9), (0, .ref (a h0)), (1, .int x0)] := by rw [hax h0 (okN_at g_232)]; exact hl
  rw [← hax CBK (Or.inr rfl)] at hSK
  replace hag := hag_new hag hax hnn
  clear hax hnn
  refine W.widen (k := 176) (n := 244796) (Nat.le_of_ble_eq_true rfl) (Nat.le_of_ble_eq_true rfl) ?_
  refine lv_dup hx hb dX11_init_106 rfl ?_
  obtain ⟨g_237, hf⟩ := grd_some hf
  obtain ⟨g_238, hf⟩ := grd_some hf
  obtain ⟨g_239, hf⟩ := grd_some hf
  obtain ⟨shq, nq, z_240, _u, hfc, hf⟩ := cala_some hf
  have hFc := de_free hD hS hA
  refine va_callv (va_runIN (As := []) (rest := [.ref (a k_235), .int 9, .ref (a k_231)]) ⟨hx, hb, hml, hown, hts⟩ (da_X8_init l dC dI cy a sh n H_236.size F z_234 k_235 hk hfc) ⟨va_cnB 0 hts ggX11_init_X8_init rfl rfl rfl (NK_m_X11_59 hN) (hts _ md_X11_init_30) ⟨by decide, by decide, by decide +kernel⟩ ⟨Nat.le_of_ble_eq_true rfl, Nat.le_of_ble_eq_true rfl⟩, rfl, (hts _ md_X11_init_151)⟩ ⟨fun a U g mk q => by obtain ⟨q0, q1, qP, qK, qD, qN⟩ := q; exact ⟨q0, q1, qP, va_K.moved (u := U) (U := U.calling g mk a) (Vm.Alike.refl U.vm) qK, qD, qN.same rfl⟩, fun U hU hW => ⟨rfl, by rw [hU], by rw [hU]; exact hP, va_K.moved hW.alike hK, hD.weaken (fun _ _ _ _ => trivial), hN.warm hW⟩⟩ rfl rfl hl.1 rfl (lv_room (Nat.le_of_ble_eq_true rfl)) dX11_init_107 ⟨Nat.le_of_ble_eq_true rfl, Nat.le_of_ble_eq_true rfl⟩) hS (fun q _ h => hFc q h) hFc (fun a t H_241 locs ht hvm hw hB hz1 hk1 hS2 => ?_)
  obtain ⟨⟨hax, hnn⟩, hk⟩ := hw
  obtain ⟨hP1, -, hD1⟩ := hB
  rw [ht] at hP1
  replace hD := hD1.weaken (fun _ _ _ h => hFc _ h)
  replace hP := hP1
  replace hS := hS2
  obtain ⟨sh, esh⟩ : ∃ w, w = shq := ⟨_, rfl⟩
  subst esh
  replace hl : lv_has ls 3 [(2, .int 9), (0, .ref (a h0)), (1, .int x0)] := by rw [hax h0 (okN_at g_237)]; exact hl
  rw [← hax CBK (Or.inr rfl)] at hSK
  replace hag := hag_new hag hax hnn
  obtain ⟨n, enq⟩ : ∃ w, w = nq := ⟨_, rfl⟩
  subst enq
  refine W.eq (g2 := F0 m 110 ls [.ref (a k_235), .int 9, .ref (a k_231)]) (by rw [hax k_235 (okN_at g_238), hax k_231 (okN_at g_239)]) ?_
  clear hax hnn hP1 hD1 hS2 hFc hfc hz1 hk1 hvm ht
  refine W.widen (k := 182) (n := 244844) (Nat.le_of_ble_eq_true rfl) (Nat.le_of_ble_eq_true rfl) ?_
  obtain ⟨g_242, hf⟩ := grd_some hf
  obtain ⟨kg_242, sg_242, ig_242⟩ := okA_at g_242
  obtain ⟨g_243, hf⟩ := grd_some hf
  obtain ⟨kg_243, sg_243⟩ := okO_at g_243
  refine va_astq hx hb hK hP hD hS k_231 5 k_235 8 (Wd_aq kg_242 sg_242 (by decide)) rfl (Wd_ob kg_243 sg_243 (by decide)) rfl ig_242 dX11_init_110 (fun H_244 locs hP2 hD2 hS2 => ?_)
  rw [Wd_tq sg_242 (by decide)] at hP2 hD2
  obtain ⟨z_245, ez_245⟩ : ∃ w, w = sq z_240 k_231 (9 : Int32).toNatClampNeg (some k_235) := ⟨_, rfl⟩
  rw [← ez_245] at hP2 hD2
  replace hf := lt_at ez_245 hf
  replace hk : lk z_245 n := by rw [ez_245]; exact lk_sq1 hk (Or.inl kg_243)
  clear ez_245
  replace hP := hP2
  replace hD := hD2
  replace hS := hS2
  clear hP2 hD2 hS2
  refine lv_iinc (v := 10) (lv' := [(2, .int 10), (0, .ref (a h0)), (1, .int x0)]) hx hb dX11_init_111 hl (k := 0) rfl rfl (by decide) rfl (fun ls hl2 => ?_)
  replace hl := hl2
  clear hl2
  refine lv_goto (tgt := 92) hx hb dX11_init_114 (by decide) ?_
  refine lv_iload_n hx hb dX11_init_92 rfl (lv_at hl 0 rfl) ?_
  refine lv_bipush (v := 32) hx hb dX11_init_93 (by decide) ?_
  refine lv_icmp_ge (tgt := 117) hx hb dX11_init_95 (by decide) (fun h => absurd h (by decide)) (fun _ => ?_)
  refine lv_aload_n hx hb dX11_init_98 rfl (lv_at hl 1 rfl) ?_
  obtain ⟨g_246, hf⟩ := grd_some hf
  obtain ⟨kg_246, sg_246⟩ := okO_at g_246
  obtain ⟨k_247, ek_247, hf⟩ := lnk_some hf
  refine va_get (D := (dC, dI)) (ci := 11) (v := .ref (a k_247)) (C := RX11) (T := TX11) (N := 13) hx hb hts iwd_X11_init_X11 hown hK hP h0 (Wd_ob kg_246 sg_246 (by decide)) rfl 3 (by decide) (hts _ md_X11_init_7) (fun _ h9 => h9) (fl_q rfl ek_247) dX11_init_99 ?_
  refine lv_iload_n hx hb dX11_init_102 rfl (lv_at hl 0 rfl) ?_
  obtain ⟨g_248, hf⟩ := grd_some hf
  obtain ⟨g_249, hf⟩ := grd_some hf
  refine de_new (ci := 8) (fs := [.int 0, .long 0, .long 0, .int 0, .int 0, .int 0, .null, .int 0, .null, .null, .null, .int 0, .long 0, .int 0, .int 0, .int 0, .null, .null, .null]) (C := RX8) (T := TX8) (N := 19) hf hk hx hb hts iwd_X11_init_X8 tyX8 tyX8_ok hown (hts _ md_X11_init_6) (hts _ md_X11_init_29) (hts _ md_X11_init_30) hK hP hD hS hA rfl rfl df_X8 (Nat.le_of_ble_eq_true rfl) (Nat.le_of_ble_eq_true rfl) dX11_init_103 (fun a sh n z_250 k_251 H_252 hf hax hk hnn hP hD hS => ?_)
  refine W.eq (g2 := F0 m 106 ls [.ref (a k_251), .int 10, .ref (a k_247)]) (by rw [hax k_247 (okN_at g_249)]) ?_
  replace hl : lv_has ls 3 [(2, .int 10), (0, .ref (a h0)), (1, .int x0)] := by rw [hax h0 (okN_at g_248)]; exact hl
  rw [← hax CBK (Or.inr rfl)] at hSK
  replace hag := hag_new hag hax hnn
  clear hax hnn
  refine W.widen (k := 183) (n := 244863) (Nat.le_of_ble_eq_true rfl) (Nat.le_of_ble_eq_true rfl) ?_
  refine lv_dup hx hb dX11_init_106 rfl ?_
  obtain ⟨g_253, hf⟩ := grd_some hf
  obtain ⟨g_254, hf⟩ := grd_some hf
  obtain ⟨g_255, hf⟩ := grd_some hf
  obtain ⟨shq, nq, z_256, _u, hfc, hf⟩ := cala_some hf
  have hFc := de_free hD hS hA
  refine va_callv (va_runIN (As := []) (rest := [.ref (a k_251), .int 10, .ref (a k_247)]) ⟨hx, hb, hml, hown, hts⟩ (da_X8_init l dC dI cy a sh n H_252.size F z_250 k_251 hk hfc) ⟨va_cnB 0 hts ggX11_init_X8_init rfl rfl rfl (NK_m_X11_59 hN) (hts _ md_X11_init_30) ⟨by decide, by decide, by decide +kernel⟩ ⟨Nat.le_of_ble_eq_true rfl, Nat.le_of_ble_eq_true rfl⟩, rfl, (hts _ md_X11_init_151)⟩ ⟨fun a U g mk q => by obtain ⟨q0, q1, qP, qK, qD, qN⟩ := q; exact ⟨q0, q1, qP, va_K.moved (u := U) (U := U.calling g mk a) (Vm.Alike.refl U.vm) qK, qD, qN.same rfl⟩, fun U hU hW => ⟨rfl, by rw [hU], by rw [hU]; exact hP, va_K.moved hW.alike hK, hD.weaken (fun _ _ _ _ => trivial), hN.warm hW⟩⟩ rfl rfl hl.1 rfl (lv_room (Nat.le_of_ble_eq_true rfl)) dX11_init_107 ⟨Nat.le_of_ble_eq_true rfl, Nat.le_of_ble_eq_true rfl⟩) hS (fun q _ h => hFc q h) hFc (fun a t H_257 locs ht hvm hw hB hz1 hk1 hS2 => ?_)
  obtain ⟨⟨hax, hnn⟩, hk⟩ := hw
  obtain ⟨hP1, -, hD1⟩ := hB
  rw [ht] at hP1
  replace hD := hD1.weaken (fun _ _ _ h => hFc _ h)
  replace hP := hP1
  replace hS := hS2
  obtain ⟨sh, esh⟩ : ∃ w, w = shq := ⟨_, rfl⟩
  subst esh
  replace hl : lv_has ls 3 [(2, .int 10), (0, .ref (a h0)), (1, .int x0)] := by rw [hax h0 (okN_at g_253)]; exact hl
  rw [← hax CBK (Or.inr rfl)] at hSK
  replace hag := hag_new hag hax hnn
  obtain ⟨n, enq⟩ : ∃ w, w = nq := ⟨_, rfl⟩
  subst enq
  refine W.eq (g2 := F0 m 110 ls [.ref (a k_251), .int 10, .ref (a k_247)]) (by rw [hax k_251 (okN_at g_254), hax k_247 (okN_at g_255)]) ?_
  clear hax hnn hP1 hD1 hS2 hFc hfc hz1 hk1 hvm ht
  refine W.widen (k := 189) (n := 244911) (Nat.le_of_ble_eq_true rfl) (Nat.le_of_ble_eq_true rfl) ?_
  obtain ⟨g_258, hf⟩ := grd_some hf
  obtain ⟨kg_258, sg_258, ig_258⟩ := okA_at g_258
  obtain ⟨g_259, hf⟩ := grd_some hf
  obtain ⟨kg_259, sg_259⟩ := okO_at g_259
  refine va_astq hx hb hK hP hD hS k_247 5 k_251 8 (Wd_aq kg_258 sg_258 (by decide)) rfl (Wd_ob kg_259 sg_259 (by decide)) rfl ig_258 dX11_init_110 (fun H_260 locs hP2 hD2 hS2 => ?_)
  rw [Wd_tq sg_258 (by decide)] at hP2 hD2
  obtain ⟨z_261, ez_261⟩ : ∃ w, w = sq z_256 k_247 (10 : Int32).toNatClampNeg (some k_251) := ⟨_, rfl⟩
  rw [← ez_261] at hP2 hD2
  replace hf := lt_at ez_261 hf
  replace hk : lk z_261 n := by rw [ez_261]; exact lk_sq1 hk (Or.inl kg_259)
  clear ez_261
  replace hP := hP2
  replace hD := hD2
  replace hS := hS2
  clear hP2 hD2 hS2
  refine lv_iinc (v := 11) (lv' := [(2, .int 11), (0, .ref (a h0)), (1, .int x0)]) hx hb dX11_init_111 hl (k := 0) rfl rfl (by decide) rfl (fun ls hl2 => ?_)
  replace hl := hl2
  clear hl2
  refine lv_goto (tgt := 92) hx hb dX11_init_114 (by decide) ?_
  refine lv_iload_n hx hb dX11_init_92 rfl (lv_at hl 0 rfl) ?_
  refine lv_bipush (v := 32) hx hb dX11_init_93 (by decide) ?_
  refine lv_icmp_ge (tgt := 117) hx hb dX11_init_95 (by decide) (fun h => absurd h (by decide)) (fun _ => ?_)
  refine lv_aload_n hx hb dX11_init_98 rfl (lv_at hl 1 rfl) ?_
  obtain ⟨g_262, hf⟩ := grd_some hf
  obtain ⟨kg_262, sg_262⟩ := okO_at g_262
  obtain ⟨k_263, ek_263, hf⟩ := lnk_some hf
  refine va_get (D := (dC, dI)) (ci := 11) (v := .ref (a k_263)) (C := RX11) (T := TX11) (N := 13) hx hb hts iwd_X11_init_X11 hown hK hP h0 (Wd_ob kg_262 sg_262 (by decide)) rfl 3 (by decide) (hts _ md_X11_init_7) (fun _ h9 => h9) (fl_q rfl ek_263) dX11_init_99 ?_
  refine lv_iload_n hx hb dX11_init_102 rfl (lv_at hl 0 rfl) ?_
  obtain ⟨g_264, hf⟩ := grd_some hf
  obtain ⟨g_265, hf⟩ := grd_some hf
  refine de_new (ci := 8) (fs := [.int 0, .long 0, .long 0, .int 0, .int 0, .int 0, .null, .int 0, .null, .null, .null, .int 0, .long 0, .int 0, .int 0, .int 0, .null, .null, .null]) (C := RX8) (T := TX8) (N := 19) hf hk hx hb hts iwd_X11_init_X8 tyX8 tyX8_ok hown (hts _ md_X11_init_6) (hts _ md_X11_init_29) (hts _ md_X11_init_30) hK hP hD hS hA rfl rfl df_X8 (Nat.le_of_ble_eq_true rfl) (Nat.le_of_ble_eq_true rfl) dX11_init_103 (fun a sh n z_266 k_267 H_268 hf hax hk hnn hP hD hS => ?_)
  refine W.eq (g2 := F0 m 106 ls [.ref (a k_267), .int 11, .ref (a k_263)]) (by rw [hax k_263 (okN_at g_265)]) ?_
  replace hl : lv_has ls 3 [(2, .int 11), (0, .ref (a h0)), (1, .int x0)] := by rw [hax h0 (okN_at g_264)]; exact hl
  rw [← hax CBK (Or.inr rfl)] at hSK
  replace hag := hag_new hag hax hnn
  clear hax hnn
  refine W.widen (k := 190) (n := 244930) (Nat.le_of_ble_eq_true rfl) (Nat.le_of_ble_eq_true rfl) ?_
  refine lv_dup hx hb dX11_init_106 rfl ?_
  obtain ⟨g_269, hf⟩ := grd_some hf
  obtain ⟨g_270, hf⟩ := grd_some hf
  obtain ⟨g_271, hf⟩ := grd_some hf
  obtain ⟨shq, nq, z_272, _u, hfc, hf⟩ := cala_some hf
  have hFc := de_free hD hS hA
  refine va_callv (va_runIN (As := []) (rest := [.ref (a k_267), .int 11, .ref (a k_263)]) ⟨hx, hb, hml, hown, hts⟩ (da_X8_init l dC dI cy a sh n H_268.size F z_266 k_267 hk hfc) ⟨va_cnB 0 hts ggX11_init_X8_init rfl rfl rfl (NK_m_X11_59 hN) (hts _ md_X11_init_30) ⟨by decide, by decide, by decide +kernel⟩ ⟨Nat.le_of_ble_eq_true rfl, Nat.le_of_ble_eq_true rfl⟩, rfl, (hts _ md_X11_init_151)⟩ ⟨fun a U g mk q => by obtain ⟨q0, q1, qP, qK, qD, qN⟩ := q; exact ⟨q0, q1, qP, va_K.moved (u := U) (U := U.calling g mk a) (Vm.Alike.refl U.vm) qK, qD, qN.same rfl⟩, fun U hU hW => ⟨rfl, by rw [hU], by rw [hU]; exact hP, va_K.moved hW.alike hK, hD.weaken (fun _ _ _ _ => trivial), hN.warm hW⟩⟩ rfl rfl hl.1 rfl (lv_room (Nat.le_of_ble_eq_true rfl)) dX11_init_107 ⟨Nat.le_of_ble_eq_true rfl, Nat.le_of_ble_eq_true rfl⟩) hS (fun q _ h => hFc q h) hFc (fun a t H_273 locs ht hvm hw hB hz1 hk1 hS2 => ?_)
  obtain ⟨⟨hax, hnn⟩, hk⟩ := hw
  obtain ⟨hP1, -, hD1⟩ := hB
  rw [ht] at hP1
  replace hD := hD1.weaken (fun _ _ _ h => hFc _ h)
  replace hP := hP1
  replace hS := hS2
  obtain ⟨sh, esh⟩ : ∃ w, w = shq := ⟨_, rfl⟩
  subst esh
  replace hl : lv_has ls 3 [(2, .int 11), (0, .ref (a h0)), (1, .int x0)] := by rw [hax h0 (okN_at g_269)]; exact hl
  rw [← hax CBK (Or.inr rfl)] at hSK
  replace hag := hag_new hag hax hnn
  obtain ⟨n, enq⟩ : ∃ w, w = nq := ⟨_, rfl⟩
  subst enq
  refine W.eq (g2 := F0 m 110 ls [.ref (a k_267), .int 11, .ref (a k_263)]) (by rw [hax k_267 (okN_at g_270), hax k_263 (okN_at g_271)]) ?_
  clear hax hnn hP1 hD1 hS2 hFc hfc hz1 hk1 hvm ht
  refine W.widen (k := 196) (n := 244978) (Nat.le_of_ble_eq_true rfl) (Nat.le_of_ble_eq_true rfl) ?_
  obtain ⟨g_274, hf⟩ := grd_some hf
  obtain ⟨kg_274, sg_274, ig_274⟩ := okA_at g_274
  obtain ⟨g_275, hf⟩ := grd_some hf
  obtain ⟨kg_275, sg_275⟩ := okO_at g_275
  refine va_astq hx hb hK hP hD hS k_263 5 k_267 8 (Wd_aq kg_274 sg_274 (by decide)) rfl (Wd_ob kg_275 sg_275 (by decide)) rfl ig_274 dX11_init_110 (fun H_276 locs hP2 hD2 hS2 => ?_)
  rw [Wd_tq sg_274 (by decide)] at hP2 hD2
  obtain ⟨z_277, ez_277⟩ : ∃ w, w = sq z_272 k_263 (11 : Int32).toNatClampNeg (some k_267) := ⟨_, rfl⟩
  rw [← ez_277] at hP2 hD2
  replace hf := lt_at ez_277 hf
  replace hk : lk z_277 n := by rw [ez_277]; exact lk_sq1 hk (Or.inl kg_275)
  clear ez_277
  replace hP := hP2
  replace hD := hD2
  replace hS := hS2
  clear hP2 hD2 hS2
  refine lv_iinc (v := 12) (lv' := [(2, .int 12), (0, .ref (a h0)), (1, .int x0)]) hx hb dX11_init_111 hl (k := 0) rfl rfl (by decide) rfl (fun ls hl2 => ?_)
  replace hl := hl2
  clear hl2
  refine lv_goto (tgt := 92) hx hb dX11_init_114 (by decide) ?_
  refine lv_iload_n hx hb dX11_init_92 rfl (lv_at hl 0 rfl) ?_
  refine lv_bipush (v := 32) hx hb dX11_init_93 (by decide) ?_
  refine lv_icmp_ge (tgt := 117) hx hb dX11_init_95 (by decide) (fun h => absurd h (by decide)) (fun _ => ?_)
  refine lv_aload_n hx hb dX11_init_98 rfl (lv_at hl 1 rfl) ?_
  obtain ⟨g_278, hf⟩ := grd_some hf
  obtain ⟨kg_278, sg_278⟩ := okO_at g_278
  obtain ⟨k_279, ek_279, hf⟩ := lnk_some hf
  refine va_get (D := (dC, dI)) (ci := 11) (v := .ref (a k_279)) (C := RX11) (T := TX11) (N := 13) hx hb hts iwd_X11_init_X11 hown hK hP h0 (Wd_ob kg_278 sg_278 (by decide)) rfl 3 (by decide) (hts _ md_X11_init_7) (fun _ h9 => h9) (fl_q rfl ek_279) dX11_init_99 ?_
  refine lv_iload_n hx hb dX11_init_102 rfl (lv_at hl 0 rfl) ?_
  obtain ⟨g_280, hf⟩ := grd_some hf
  obtain ⟨g_281, hf⟩ := grd_some hf
  refine de_new (ci := 8) (fs := [.int 0, .long 0, .long 0, .int 0, .int 0, .int 0, .null, .int 0, .null, .null, .null, .int 0, .long 0, .int 0, .int 0, .int 0, .null, .null, .null]) (C := RX8) (T := TX8) (N := 19) hf hk hx hb hts iwd_X11_init_X8 tyX8 tyX8_ok hown (hts _ md_X11_init_6) (hts _ md_X11_init_29) (hts _ md_X11_init_30) hK hP hD hS hA rfl rfl df_X8 (Nat.le_of_ble_eq_true rfl) (Nat.le_of_ble_eq_true rfl) dX11_init_103 (fun a sh n z_282 k_283 H_284 hf hax hk hnn hP hD hS => ?_)
  refine W.eq (g2 := F0 m 106 ls [.ref (a k_283), .int 12, .ref (a k_279)]) (by rw [hax k_279 (okN_at g_281)]) ?_
  replace hl : lv_has ls 3 [(2, .int 12), (0, .ref (a h0)), (1, .int x0)] := by rw [hax h0 (okN_at g_280)]; exact hl
  rw [← hax CBK (Or.inr rfl)] at hSK
  replace hag := hag_new hag hax hnn
  clear hax hnn
  refine W.widen (k := 197) (n := 244997) (Nat.le_of_ble_eq_true rfl) (Nat.le_of_ble_eq_true rfl) ?_
  refine lv_dup hx hb dX11_init_106 rfl ?_
  obtain ⟨g_285, hf⟩ := grd_some hf
  obtain ⟨g_286, hf⟩ := grd_some hf
  obtain ⟨g_287, hf⟩ := grd_some hf
  obtain ⟨shq, nq, z_288, _u, hfc, hf⟩ := cala_some hf
  have hFc := de_free hD hS hA
  refine va_callv (va_runIN (As := []) (rest := [.ref (a k_283), .int 12, .ref (a k_279)]) ⟨hx, hb, hml, hown, hts⟩ (da_X8_init l dC dI cy a sh n H_284.size F z_282 k_283 hk hfc) ⟨va_cnB 0 hts ggX11_init_X8_init rfl rfl rfl (NK_m_X11_59 hN) (hts _ md_X11_init_30) ⟨by decide, by decide, by decide +kernel⟩ ⟨Nat.le_of_ble_eq_true rfl, Nat.le_of_ble_eq_true rfl⟩, rfl, (hts _ md_X11_init_151)⟩ ⟨fun a U g mk q => by obtain ⟨q0, q1, qP, qK, qD, qN⟩ := q; exact ⟨q0, q1, qP, va_K.moved (u := U) (U := U.calling g mk a) (Vm.Alike.refl U.vm) qK, qD, qN.same rfl⟩, fun U hU hW => ⟨rfl, by rw [hU], by rw [hU]; exact hP, va_K.moved hW.alike hK, hD.weaken (fun _ _ _ _ => trivial), hN.warm hW⟩⟩ rfl rfl hl.1 rfl (lv_room (Nat.le_of_ble_eq_true rfl)) dX11_init_107 ⟨Nat.le_of_ble_eq_true rfl, Nat.le_of_ble_eq_true rfl⟩) hS (fun q _ h => hFc q h) hFc (fun a t H_289 locs ht hvm hw hB hz1 hk1 hS2 => ?_)
  obtain ⟨⟨hax, hnn⟩, hk⟩ := hw
  obtain ⟨hP1, -, hD1⟩ := hB
  rw [ht] at hP1
  replace hD := hD1.weaken (fun _ _ _ h => hFc _ h)
  replace hP := hP1
  replace hS := hS2
  obtain ⟨sh, esh⟩ : ∃ w, w = shq := ⟨_, rfl⟩
  subst esh
  replace hl : lv_has ls 3 [(2, .int 12), (0, .ref (a h0)), (1, .int x0)] := by rw [hax h0 (okN_at g_285)]; exact hl
  rw [← hax CBK (Or.inr rfl)] at hSK
  replace hag := hag_new hag hax hnn
  obtain ⟨n, enq⟩ : ∃ w, w = nq := ⟨_, rfl⟩
  subst enq
  refine W.eq (g2 := F0 m 110 ls [.ref (a k_283), .int 12, .ref (a k_279)]) (by rw [hax k_283 (okN_at g_286), hax k_279 (okN_at g_287)]) ?_
  clear hax hnn hP1 hD1 hS2 hFc hfc hz1 hk1 hvm ht
  refine W.widen (k := 203) (n := 245045) (Nat.le_of_ble_eq_true rfl) (Nat.le_of_ble_eq_true rfl) ?_
  obtain ⟨g_290, hf⟩ := grd_some hf
  obtain ⟨kg_290, sg_290, ig_290⟩ := okA_at g_290
  obtain ⟨g_291, hf⟩ := grd_some hf
  obtain ⟨kg_291, sg_291⟩ := okO_at g_291
  refine va_astq hx hb hK hP hD hS k_279 5 k_283 8 (Wd_aq kg_290 sg_290 (by decide)) rfl (Wd_ob kg_291 sg_291 (by decide)) rfl ig_290 dX11_init_110 (fun H_292 locs hP2 hD2 hS2 => ?_)
  rw [Wd_tq sg_290 (by decide)] at hP2 hD2
  obtain ⟨z_293, ez_293⟩ : ∃ w, w = sq z_288 k_279 (12 : Int32).toNatClampNeg (some k_283) := ⟨_, rfl⟩
  rw [← ez_293] at hP2 hD2
  replace hf := lt_at ez_293 hf
  replace hk : lk z_293 n := by rw [ez_293]; exact lk_sq1 hk (Or.inl kg_291)
  clear ez_293
  replace hP := hP2
  replace hD := hD2
  replace hS := hS2
  clear hP2 hD2 hS2
  refine lv_iinc (v := 13) (lv' := [(2, .int 13), (0, .ref (a h0)), (1, .int x0)]) hx hb dX11_init_111 hl (k := 0) rfl rfl (by decide) rfl (fun ls hl2 => ?_)
  replace hl := hl2
  clear hl2
  refine lv_goto (tgt := 92) hx hb dX11_init_114 (by decide) ?_
  refine lv_iload_n hx hb dX11_init_92 rfl (lv_at hl 0 rfl) ?_
  refine lv_bipush (v := 32) hx hb dX11_init_93 (by decide) ?_
  refine lv_icmp_ge (tgt := 117) hx hb dX11_init_95 (by decide) (fun h => absurd h (by decide)) (fun _ => ?_)
  refine lv_aload_n hx hb dX11_init_98 rfl (lv_at hl 1 rfl) ?_
  obtain ⟨g_294, hf⟩ := grd_some hf
  obtain ⟨kg_294, sg_294⟩ := okO_at g_294
  obtain ⟨k_295, ek_295, hf⟩ := lnk_some hf
  refine va_get (D := (dC, dI)) (ci := 11) (v := .ref (a k_295)) (C := RX11) (T := TX11) (N := 13) hx hb hts iwd_X11_init_X11 hown hK hP h0 (Wd_ob kg_294 sg_294 (by decide)) rfl 3 (by decide) (hts _ md_X11_init_7) (fun _ h9 => h9) (fl_q rfl ek_295) dX11_init_99 ?_
  refine lv_iload_n hx hb dX11_init_102 rfl (lv_at hl 0 rfl) ?_
  obtain ⟨g_296, hf⟩ := grd_some hf
  obtain ⟨g_297, hf⟩ := grd_some hf
  refine de_new (ci := 8) (fs := [.int 0, .long 0, .long 0, .int 0, .int 0, .int 0, .null, .int 0, .null, .null, .null, .int 0, .long 0, .int 0, .int 0, .int 0, .null, .null, .null]) (C := RX8) (T := TX8) (N := 19) hf hk hx hb hts iwd_X11_init_X8 tyX8 tyX8_ok hown (hts _ md_X11_init_6) (hts _ md_X11_init_29) (hts _ md_X11_init_30) hK hP hD hS hA rfl rfl df_X8 (Nat.le_of_ble_eq_true rfl) (Nat.le_of_ble_eq_true rfl) dX11_init_103 (fun a sh n z_298 k_299 H_300 hf hax hk hnn hP hD hS => ?_)
  refine W.eq (g2 := F0 m 106 ls [.ref (a k_299), .int 13, .ref (a k_295)]) (by rw [hax k_295 (okN_at g_297)]) ?_
  replace hl : lv_has ls 3 [(2, .int 13), (0, .ref (a h0)), (1, .int x0)] := by rw [hax h0 (okN_at g_296)]; exact hl
  rw [← hax CBK (Or.inr rfl)] at hSK
  replace hag := hag_new hag hax hnn
  clear hax hnn
  refine W.widen (k := 204) (n := 245064) (Nat.le_of_ble_eq_true rfl) (Nat.le_of_ble_eq_true rfl) ?_
  refine lv_dup hx hb dX11_init_106 rfl ?_
  obtain ⟨g_301, hf⟩ := grd_some hf
  obtain ⟨g_302, hf⟩ := grd_some hf
  obtain ⟨g_303, hf⟩ := grd_some hf
  obtain ⟨shq, nq, z_304, _u, hfc, hf⟩ := cala_some hf
  have hFc := de_free hD hS hA
  refine va_callv (va_runIN (As := []) (rest := [.ref (a k_299), .int 13, .ref (a k_295)]) ⟨hx, hb, hml, hown, hts⟩ (da_X8_init l dC dI cy a sh n H_300.size F z_298 k_299 hk hfc) ⟨va_cnB 0 hts ggX11_init_X8_init rfl rfl rfl (NK_m_X11_59 hN) (hts _ md_X11_init_30) ⟨by decide, by decide, by decide +kernel⟩ ⟨Nat.le_of_ble_eq_true rfl, Nat.le_of_ble_eq_true rfl⟩, rfl, (hts _ md_X11_init_151)⟩ ⟨fun a U g mk q => by obtain ⟨q0, q1, qP, qK, qD, qN⟩ := q; exact ⟨q0, q1, qP, va_K.moved (u := U) (U := U.calling g mk a) (Vm.Alike.refl U.vm) qK, qD, qN.same rfl⟩, fun U hU hW => ⟨rfl, by rw [hU], by rw [hU]; exact hP, va_K.moved hW.alike hK, hD.weaken (fun _ _ _ _ => trivial), hN.warm hW⟩⟩ rfl rfl hl.1 rfl (lv_room (Nat.le_of_ble_eq_true rfl)) dX11_init_107 ⟨Nat.le_of_ble_eq_true rfl, Nat.le_of_ble_eq_true rfl⟩) hS (fun q _ h => hFc q h) hFc (fun a t H_305 locs ht hvm hw hB hz1 hk1 hS2 => ?_)
  obtain ⟨⟨hax, hnn⟩, hk⟩ := hw
  obtain ⟨hP1, -, hD1⟩ := hB
  rw [ht] at hP1
  replace hD := hD1.weaken (fun _ _ _ h => hFc _ h)
  replace hP := hP1
  replace hS := hS2
  obtain ⟨sh, esh⟩ : ∃ w, w = shq := ⟨_, rfl⟩
  subst esh
  replace hl : lv_has ls 3 [(2, .int 13), (0, .ref (a h0)), (1, .int x0)] := by rw [hax h0 (okN_at g_301)]; exact hl
  rw [← hax CBK (Or.inr rfl)] at hSK
  replace hag := hag_new hag hax hnn
  obtain ⟨n, enq⟩ : ∃ w, w = nq := ⟨_, rfl⟩
  subst enq
  refine W.eq (g2 := F0 m 110 ls [.ref (a k_299), .int 13, .ref (a k_295)]) (by rw [hax k_299 (okN_at g_302), hax k_295 (okN_at g_303)]) ?_
  clear hax hnn hP1 hD1 hS2 hFc hfc hz1 hk1 hvm ht
  refine W.widen (k := 210) (n := 245112) (Nat.le_of_ble_eq_true rfl) (Nat.le_of_ble_eq_true rfl) ?_
  obtain ⟨g_306, hf⟩ := grd_some hf
  obtain ⟨kg_306, sg_306, ig_306⟩ := okA_at g_306
  obtain ⟨g_307, hf⟩ := grd_some hf
  obtain ⟨kg_307, sg_307⟩ := okO_at g_307
  refine va_astq hx hb hK hP hD hS k_295 5 k_299 8 (Wd_aq kg_306 sg_306 (by decide)) rfl (Wd_ob kg_307 sg_307 (by decide)) rfl ig_306 dX11_init_110 (fun H_308 locs hP2 hD2 hS2 => ?_)
  rw [Wd_tq sg_306 (by decide)] at hP2 hD2
  obtain ⟨z_309, ez_309⟩ : ∃ w, w = sq z_304 k_295 (13 : Int32).toNatClampNeg (some k_299) := ⟨_, rfl⟩
  rw [← ez_309] at hP2 hD2
  replace hf := lt_at ez_309 hf
  replace hk : lk z_309 n := by rw [ez_309]; exact lk_sq1 hk (Or.inl kg_307)
  clear ez_309
  replace hP := hP2
  replace hD := hD2
  replace hS := hS2
  clear hP2 hD2 hS2
  refine lv_iinc (v := 14) (lv' := [(2, .int 14), (0, .ref (a h0)), (1, .int x0)]) hx hb dX11_init_111 hl (k := 0) rfl rfl (by decide) rfl (fun ls hl2 => ?_)
  replace hl := hl2
  clear hl2
  refine lv_goto (tgt := 92) hx hb dX11_init_114 (by decide) ?_
  refine lv_iload_n hx hb dX11_init_92 rfl (lv_at hl 0 rfl) ?_
  refine lv_bipush (v := 32) hx hb dX11_init_93 (by decide) ?_
  refine lv_icmp_ge (tgt := 117) hx hb dX11_init_95 (by decide) (fun h => absurd h (by decide)) (fun _ => ?_)
  refine lv_aload_n hx hb dX11_init_98 rfl (lv_at hl 1 rfl) ?_
  obtain ⟨g_310, hf⟩ := grd_some hf
  obtain ⟨kg_310, sg_310⟩ := okO_at g_310
  obtain ⟨k_311, ek_311, hf⟩ := lnk_some hf
  refine va_get (D := (dC, dI)) (ci := 11) (v := .ref (a k_311)) (C := RX11) (T := TX11) (N := 13) hx hb hts iwd_X11_init_X11 hown hK hP h0 (Wd_ob kg_310 sg_310 (by decide)) rfl 3 (by decide) (hts _ md_X11_init_7) (fun _ h9 => h9) (fl_q rfl ek_311) dX11_init_99 ?_
  refine lv_iload_n hx hb dX11_init_102 rfl (lv_at hl 0 rfl) ?_
  obtain ⟨g_312, hf⟩ := grd_some hf
  obtain ⟨g_313, hf⟩ := grd_some hf
  refine de_new (ci := 8) (fs := [.int 0, .long 0, .long 0, .int 0, .int 0, .int 0, .null, .int 0, .null, .null, .null, .int 0, .long 0, .int 0, .int 0, .int 0, .null, .null, .null]) (C := RX8) (T := TX8) (N := 19) hf hk hx hb hts iwd_X11_init_X8 tyX8 tyX8_ok hown (hts _ md_X11_init_6) (hts _ md_X11_init_29) (hts _ md_X11_init_30) hK hP hD hS hA rfl rfl df_X8 (Nat.le_of_ble_eq_true rfl) (Nat.le_of_ble_eq_true rfl) dX11_init_103 (fun a sh n z_314 k_315 H_316 hf hax hk hnn hP hD hS => ?_)
  refine W.eq (g2 := F0 m 106 ls [.ref (a k_315), .int 14, .ref (a k_311)]) (by rw [hax k_311 (okN_at g_313)]) ?_
  replace hl : lv_has ls 3 [(2, .int 14), (0, .ref (a h0)), (1, .int x0)] := by rw [hax h0 (okN_at g_312)]; exact hl
  rw [← hax CBK (Or.inr rfl)] at hSK
  replace hag := hag_new hag hax hnn
  clear hax hnn
  refine W.widen (k := 211) (n := 245131) (Nat.le_of_ble_eq_true rfl) (Nat.le_of_ble_eq_true rfl) ?_
  refine lv_dup hx hb dX11_init_106 rfl ?_
  obtain ⟨g_317, hf⟩ := grd_some hf
  obtain ⟨g_318, hf⟩ := grd_some hf
  obtain ⟨g_319, hf⟩ := grd_some hf
  obtain ⟨shq, nq, z_320, _u, hfc, hf⟩ := cala_some hf
  have hFc := de_free hD hS hA
  refine va_callv (va_runIN (As := []) (rest := [.ref (a k_315), .int 14, .ref (a k_311)]) ⟨hx, hb, hml, hown, hts⟩ (da_X8_init l dC dI cy a sh n H_316.size F z_314 k_315 hk hfc) ⟨va_cnB 0 hts ggX11_init_X8_init rfl rfl rfl (NK_m_X11_59 hN) (hts _ md_X11_init_30) ⟨by decide, by decide, by decide +kernel⟩ ⟨Nat.le_of_ble_eq_true rfl, Nat.le_of_ble_eq_true rfl⟩, rfl, (hts _ md_X11_init_151)⟩ ⟨fun a U g mk q => by obtain ⟨q0, q1, qP, qK, qD, qN⟩ := q; exact ⟨q0, q1, qP, va_K.moved (u := U) (U := U.calling g mk a) (Vm.Alike.refl U.vm) qK, qD, qN.same rfl⟩, fun U hU hW => ⟨rfl, by rw [hU], by rw [hU]; exact hP, va_K.moved hW.alike hK, hD.weaken (fun _ _ _ _ => trivial), hN.warm hW⟩⟩ rfl rfl hl.1 rfl (lv_room (Nat.le_of_ble_eq_true rfl)) dX11_init_107 ⟨Nat.le_of_ble_eq_true rfl, Nat.le_of_ble_eq_true rfl⟩) hS (fun q _ h => hFc q h) hFc (fun a t H_321 locs ht hvm hw hB hz1 hk1 hS2 => ?_)
  obtain ⟨⟨hax, hnn⟩, hk⟩ := hw
  obtain ⟨hP1, -, hD1⟩ := hB
  rw [ht] at hP1
  replace hD := hD1.weaken (fun _ _ _ h => hFc _ h)
  replace hP := hP1
  replace hS := hS2
  obtain ⟨sh, esh⟩ : ∃ w, w = shq := ⟨_, rfl⟩
  subst esh
  replace hl : lv_has ls 3 [(2, .int 14), (0, .ref (a h0)), (1, .int x0)] := by rw [hax h0 (okN_at g_317)]; exact hl
  rw [← hax CBK (Or.inr rfl)] at hSK
  replace hag := hag_new hag hax hnn
  obtain ⟨n, enq⟩ : ∃ w, w = nq := ⟨_, rfl⟩
  subst enq
  refine W.eq (g2 := F0 m 110 ls [.ref (a k_315), .int 14, .ref (a k_311)]) (by rw [hax k_315 (okN_at g_318), hax k_311 (okN_at g_319)]) ?_
  clear hax hnn hP1 hD1 hS2 hFc hfc hz1 hk1 hvm ht
  refine W.widen (k := 217) (n := 245179) (Nat.le_of_ble_eq_true rfl) (Nat.le_of_ble_eq_true rfl) ?_
  obtain ⟨g_322, hf⟩ := grd_some hf
  obtain ⟨kg_322, sg_322, ig_322⟩ := okA_at g_322
  obtain ⟨g_323, hf⟩ := grd_some hf
  obtain ⟨kg_323, sg_323⟩ := okO_at g_323
  refine va_astq hx hb hK hP hD hS k_311 5 k_315 8 (Wd_aq kg_322 sg_322 (by decide)) rfl (Wd_ob kg_323 sg_323 (by decide)) rfl ig_322 dX11_init_110 (fun H_324 locs hP2 hD2 hS2 => ?_)
  rw [Wd_tq sg_322 (by decide)] at hP2 hD2
  obtain ⟨z_325, ez_325⟩ : ∃ w, w = sq z_320 k_311 (14 : Int32).toNatClampNeg (some k_315) := ⟨_, rfl⟩
  rw [← ez_325] at hP2 hD2
  replace hf := lt_at ez_325 hf
  replace hk : lk z_325 n := by rw [ez_325]; exact lk_sq1 hk (Or.inl kg_323)
  clear ez_325
  replace hP := hP2
  replace hD := hD2
  replace hS := hS2
  clear hP2 hD2 hS2
  refine lv_iinc (v := 15) (lv' := [(2, .int 15), (0, .ref (a h0)), (1, .int x0)]) hx hb dX11_init_111 hl (k := 0) rfl rfl (by decide) rfl (fun ls hl2 => ?_)
  replace hl := hl2
  clear hl2
  refine lv_goto (tgt := 92) hx hb dX11_init_114 (by decide) ?_
  refine lv_iload_n hx hb dX11_init_92 rfl (lv_at hl 0 rfl) ?_
  refine lv_bipush (v := 32) hx hb dX11_init_93 (by decide) ?_
  refine lv_icmp_ge (tgt := 117) hx hb dX11_init_95 (by decide) (fun h => absurd h (by decide)) (fun _ => ?_)
  refine lv_aload_n hx hb dX11_init_98 rfl (lv_at hl 1 rfl) ?_
  obtain ⟨g_326, hf⟩ := grd_some hf
  obtain ⟨kg_326, sg_326⟩ := okO_at g_326
  obtain ⟨k_327, ek_327, hf⟩ := lnk_some hf
  refine va_get (D := (dC, dI)) (ci := 11) (v := .ref (a k_327)) (C := RX11) (T := TX11) (N := 13) hx hb hts iwd_X11_init_X11 hown hK hP h0 (Wd_ob kg_326 sg_326 (by decide)) rfl 3 (by decide) (hts _ md_X11_init_7) (fun _ h9 => h9) (fl_q rfl ek_327) dX11_init_99 ?_
  refine lv_iload_n hx hb dX11_init_102 rfl (lv_at hl 0 rfl) ?_
  obtain ⟨g_328, hf⟩ := grd_some hf
  obtain ⟨g_329, hf⟩ := grd_some hf
  refine de_new (ci := 8) (fs := [.int 0, .long 0, .long 0, .int 0, .int 0, .int 0, .null, .int 0, .null, .null, .null, .int 0, .long 0, .int 0, .int 0, .int 0, .null, .null, .null]) (C := RX8) (T := TX8) (N := 19) hf hk hx hb hts iwd_X11_init_X8 tyX8 tyX8_ok hown (hts _ md_X11_init_6) (hts _ md_X11_init_29) (hts _ md_X11_init_30) hK hP hD hS hA rfl rfl df_X8 (Nat.le_of_ble_eq_true rfl) (Nat.le_of_ble_eq_true rfl) dX11_init_103 (fun a sh n z_330 k_331 H_332 hf hax hk hnn hP hD hS => ?_)
  refine W.eq (g2 := F0 m 106 ls [.ref (a k_331), .int 15, .ref (a k_327)]) (by rw [hax k_327 (okN_at g_329)]) ?_
  replace hl : lv_has ls 3 [(2, .int 15), (0, .ref (a h0)), (1, .int x0)] := by rw [hax h0 (okN_at g_328)]; exact hl
  rw [← hax CBK (Or.inr rfl)] at hSK
  replace hag := hag_new hag hax hnn
  clear hax hnn
  refine W.widen (k := 218) (n := 245198) (Nat.le_of_ble_eq_true rfl) (Nat.le_of_ble_eq_true rfl) ?_
  refine lv_dup hx hb dX11_init_106 rfl ?_
  obtain ⟨g_333, hf⟩ := grd_some hf
  obtain ⟨g_334, hf⟩ := grd_some hf
  obtain ⟨g_335, hf⟩ := grd_some hf
  obtain ⟨shq, nq, z_336, _u, hfc, hf⟩ := cala_some hf
  have hFc := de_free hD hS hA
  refine va_callv (va_runIN (As := []) (rest := [.ref (a k_331), .int 15, .ref (a k_327)]) ⟨hx, hb, hml, hown, hts⟩ (da_X8_init l dC dI cy a sh n H_332.size F z_330 k_331 hk hfc) ⟨va_cnB 0 hts ggX11_init_X8_init rfl rfl rfl (NK_m_X11_59 hN) (hts _ md_X11_init_30) ⟨by decide, by decide, by decide +kernel⟩ ⟨Nat.le_of_ble_eq_true rfl, Nat.le_of_ble_eq_true rfl⟩, rfl, (hts _ md_X11_init_151)⟩ ⟨fun a U g mk q => by obtain ⟨q0, q1, qP, qK, qD, qN⟩ := q; exact ⟨q0, q1, qP, va_K.moved (u := U) (U := U.calling g mk a) (Vm.Alike.refl U.vm) qK, qD, qN.same rfl⟩, fun U hU hW => ⟨rfl, by rw [hU], by rw [hU]; exact hP, va_K.moved hW.alike hK, hD.weaken (fun _ _ _ _ => trivial), hN.warm hW⟩⟩ rfl rfl hl.1 rfl (lv_room (Nat.le_of_ble_eq_true rfl)) dX11_init_107 ⟨Nat.le_of_ble_eq_true rfl, Nat.le_of_ble_eq_true rfl⟩) hS (fun q _ h => hFc q h) hFc (fun a t H_337 locs ht hvm hw hB hz1 hk1 hS2 => ?_)
  obtain ⟨⟨hax, hnn⟩, hk⟩ := hw
  obtain ⟨hP1, -, hD1⟩ := hB
  rw [ht] at hP1
  replace hD := hD1.weaken (fun _ _ _ h => hFc _ h)
  replace hP := hP1
  replace hS := hS2
  obtain ⟨sh, esh⟩ : ∃ w, w = shq := ⟨_, rfl⟩
  subst esh
  replace hl : lv_has ls 3 [(2, .int 15), (0, .ref (a h0)), (1, .int x0)] := by rw [hax h0 (okN_at g_333)]; exact hl
  rw [← hax CBK (Or.inr rfl)] at hSK
  replace hag := hag_new hag hax hnn
  obtain ⟨n, enq⟩ : ∃ w, w = nq := ⟨_, rfl⟩
  subst enq
  refine W.eq (g2 := F0 m 110 ls [.ref (a k_331), .int 15, .ref (a k_327)]) (by rw [hax k_331 (okN_at g_334), hax k_327 (okN_at g_335)]) ?_
  clear hax hnn hP1 hD1 hS2 hFc hfc hz1 hk1 hvm ht
  refine W.widen (k := 224) (n := 245246) (Nat.le_of_ble_eq_true rfl) (Nat.le_of_ble_eq_true rfl) ?_
  obtain ⟨g_338, hf⟩ := grd_some hf
  obtain ⟨kg_338, sg_338, ig_338⟩ := okA_at g_338
  obtain ⟨g_339, hf⟩ := grd_some hf
  obtain ⟨kg_339, sg_339⟩ := okO_at g_339
  refine va_astq hx hb hK hP hD hS k_327 5 k_331 8 (Wd_aq kg_338 sg_338 (by decide)) rfl (Wd_ob kg_339 sg_339 (by decide)) rfl ig_338 dX11_init_110 (fun H_340 locs hP2 hD2 hS2 => ?_)
  rw [Wd_tq sg_338 (by decide)] at hP2 hD2
  obtain ⟨z_341, ez_341⟩ : ∃ w, w = sq z_336 k_327 (15 : Int32).toNatClampNeg (some k_331) := ⟨_, rfl⟩
  rw [← ez_341] at hP2 hD2
  replace hf := lt_at ez_341 hf
  replace hk : lk z_341 n := by rw [ez_341]; exact lk_sq1 hk (Or.inl kg_339)
  clear ez_341
  replace hP := hP2
  replace hD := hD2
  replace hS := hS2
  clear hP2 hD2 hS2
  refine lv_iinc (v := 16) (lv' := [(2, .int 16), (0, .ref (a h0)), (1, .int x0)]) hx hb dX11_init_111 hl (k := 0) rfl rfl (by decide) rfl (fun ls hl2 => ?_)
  replace hl := hl2
  clear hl2
  refine lv_goto (tgt := 92) hx hb dX11_init_114 (by decide) ?_
  refine lv_iload_n hx hb dX11_init_92 rfl (lv_at hl 0 rfl) ?_
  refine lv_bipush (v := 32) hx hb dX11_init_93 (by decide) ?_
  refine lv_icmp_ge (tgt := 117) hx hb dX11_init_95 (by decide) (fun h => absurd h (by decide)) (fun _ => ?_)
  refine lv_aload_n hx hb dX11_init_98 rfl (lv_at hl 1 rfl) ?_
  obtain ⟨g_342, hf⟩ := grd_some hf
  obtain ⟨kg_342, sg_342⟩ := okO_at g_342
  obtain ⟨k_343, ek_343, hf⟩ := lnk_some hf
  refine va_get (D := (dC, dI)) (ci := 11) (v := .ref (a k_343)) (C := RX11) (T := TX11) (N := 13) hx hb hts iwd_X11_init_X11 hown hK hP h0 (Wd_ob kg_342 sg_342 (by decide)) rfl 3 (by decide) (hts _ md_X11_init_7) (fun _ h9 => h9) (fl_q rfl ek_343) dX11_init_99 ?_
  refine lv_iload_n hx hb dX11_init_102 rfl (lv_at hl 0 rfl) ?_
  obtain ⟨g_344, hf⟩ := grd_some hf
  obtain ⟨g_345, hf⟩ := grd_some hf
  refine de_new (ci := 8) (fs := [.int 0, .long 0, .long 0, .int 0, .int 0, .int 0, .null, .int 0, .null, .null, .null, .int 0, .long 0, .int 0, .int 0, .int 0, .null, .null, .null]) (C := RX8) (T := TX8) (N := 19) hf hk hx hb hts iwd_X11_init_X8 tyX8 tyX8_ok hown (hts _ md_X11_init_6) (hts _ md_X11_init_29) (hts _ md_X11_init_30) hK hP hD hS hA rfl rfl df_X8 (Nat.le_of_ble_eq_true rfl) (Nat.le_of_ble_eq_true rfl) dX11_init_103 (fun a sh n z_346 k_347 H_348 hf hax hk hnn hP hD hS => ?_)
  refine W.eq (g2 := F0 m 106 ls [.ref (a k_347), .int 16, .ref (a k_343)]) (by rw [hax k_343 (okN_at g_345)]) ?_
  replace hl : lv_has ls 3 [(2, .int 16), (0, .ref (a h0)), (1, .int x0)] := by rw [hax h0 (okN_at g_344)]; exact hl
  rw [← hax CBK (Or.inr rfl)] at hSK
  replace hag := hag_new hag hax hnn
  clear hax hnn
  refine W.widen (k := 225) (n := 245265) (Nat.le_of_ble_eq_true rfl) (Nat.le_of_ble_eq_true rfl) ?_
  refine lv_dup hx hb dX11_init_106 rfl ?_
  obtain ⟨g_349, hf⟩ := grd_some hf
  obtain ⟨g_350, hf⟩ := grd_some hf
  obtain ⟨g_351, hf⟩ := grd_some hf
  obtain ⟨shq, nq, z_352, _u, hfc, hf⟩ := cala_some hf
  have hFc := de_free hD hS hA
  refine va_callv (va_runIN (As := []) (rest := [.ref (a k_347), .int 16, .ref (a k_343)]) ⟨hx, hb, hml, hown, hts⟩ (da_X8_init l dC dI cy a sh n H_348.size F z_346 k_347 hk hfc) ⟨va_cnB 0 hts ggX11_init_X8_init rfl rfl rfl (NK_m_X11_59 hN) (hts _ md_X11_init_30) ⟨by decide, by decide, by decide +kernel⟩ ⟨Nat.le_of_ble_eq_true rfl, Nat.le_of_ble_eq_true rfl⟩, rfl, (hts _ md_X11_init_151)⟩ ⟨fun a U g mk q => by obtain ⟨q0, q1, qP, qK, qD, qN⟩ := q; exact ⟨q0, q1, qP, va_K.moved (u := U) (U := U.calling g mk a) (Vm.Alike.refl U.vm) qK, qD, qN.same rfl⟩, fun U hU hW => ⟨rfl, by rw [hU], by rw [hU]; exact hP, va_K.moved hW.alike hK, hD.weaken (fun _ _ _ _ => trivial), hN.warm hW⟩⟩ rfl rfl hl.1 rfl (lv_room (Nat.le_of_ble_eq_true rfl)) dX11_init_107 ⟨Nat.le_of_ble_eq_true rfl, Nat.le_of_ble_eq_true rfl⟩) hS (fun q _ h => hFc q h) hFc (fun a t H_353 locs ht hvm hw hB hz1 hk1 hS2 => ?_)
  obtain ⟨⟨hax, hnn⟩, hk⟩ := hw
  obtain ⟨hP1, -, hD1⟩ := hB
  rw [ht] at hP1
  replace hD := hD1.weaken (fun _ _ _ h => hFc _ h)
  replace hP := hP1
  replace hS := hS2
  obtain ⟨sh, esh⟩ : ∃ w, w = shq := ⟨_, rfl⟩
  subst esh
  replace hl : lv_has ls 3 [(2, .int 16), (0, .ref (a h0)), (1, .int x0)] := by rw [hax h0 (okN_at g_349)]; exact hl
  rw [← hax CBK (Or.inr rfl)] at hSK
  replace hag := hag_new hag hax hnn
  obtain ⟨n, enq⟩ : ∃ w, w = nq := ⟨_, rfl⟩
  subst enq
  refine W.eq (g2 := F0 m 110 ls [.ref (a k_347), .int 16, .ref (a k_343)]) (by rw [hax k_347 (okN_at g_350), hax k_343 (okN_at g_351)]) ?_
  clear hax hnn hP1 hD1 hS2 hFc hfc hz1 hk1 hvm ht
  refine W.widen (k := 231) (n := 245313) (Nat.le_of_ble_eq_true rfl) (Nat.le_of_ble_eq_true rfl) ?_
  obtain ⟨g_354, hf⟩ := grd_some hf
  obtain ⟨kg_354, sg_354, ig_354⟩ := okA_at g_354
  obtain ⟨g_355, hf⟩ := grd_some hf
  obtain ⟨kg_355, sg_355⟩ := okO_at g_355
  refine va_astq hx hb hK hP hD hS k_343 5 k_347 8 (Wd_aq kg_354 sg_354 (by decide)) rfl (Wd_ob kg_355 sg_355 (by decide)) rfl ig_354 dX11_init_110 (fun H_356 locs hP2 hD2 hS2 => ?_)
  rw [Wd_tq sg_354 (by decide)] at hP2 hD2
  obtain ⟨z_357, ez_357⟩ : ∃ w, w = sq z_352 k_343 (16 : Int32).toNatClampNeg (some k_347) := ⟨_, rfl⟩
  rw [← ez_357] at hP2 hD2
  replace hf := lt_at ez_357 hf
  replace hk : lk z_357 n := by rw [ez_357]; exact lk_sq1 hk (Or.inl kg_355)
  clear ez_357
  replace hP := hP2
  replace hD := hD2
  replace hS := hS2
  clear hP2 hD2 hS2
  refine lv_iinc (v := 17) (lv' := [(2, .int 17), (0, .ref (a h0)), (1, .int x0)]) hx hb dX11_init_111 hl (k := 0) rfl rfl (by decide) rfl (fun ls hl2 => ?_)
  replace hl := hl2
  clear hl2
  refine lv_goto (tgt := 92) hx hb dX11_init_114 (by decide) ?_
  refine lv_iload_n hx hb dX11_init_92 rfl (lv_at hl 0 rfl) ?_
  refine lv_bipush (v := 32) hx hb dX11_init_93 (by decide) ?_
  refine lv_icmp_ge (tgt := 117) hx hb dX11_init_95 (by decide) (fun h => absurd h (by decide)) (fun _ => ?_)
  refine lv_aload_n hx hb dX11_init_98 rfl (lv_at hl 1 rfl) ?_
  obtain ⟨g_358, hf⟩ := grd_some hf
  obtain ⟨kg_358, sg_358⟩ := okO_at g_358
  obtain ⟨k_359, ek_359, hf⟩ := lnk_some hf
  refine va_get (D := (dC, dI)) (ci := 11) (v := .ref (a k_359)) (C := RX11) (T := TX11) (N := 13) hx hb hts iwd_X11_init_X11 hown hK hP h0 (Wd_ob kg_358 sg_358 (by decide)) rfl 3 (by decide) (hts _ md_X11_init_7) (fun _ h9 => h9) (fl_q rfl ek_359) dX11_init_99 ?_
  refine lv_iload_n hx hb dX11_init_102 rfl (lv_at hl 0 rfl) ?_
  obtain ⟨g_360, hf⟩ := grd_some hf
  obtain ⟨g_361, hf⟩ := grd_some hf
  refine de_new (ci := 8) (fs := [.int 0, .long 0, .long 0, .int 0, .int 0, .int 0, .null, .int 0, .null, .null, .null, .int 0, .long 0, .int 0, .int 0, .int 0, .null, .null, .null]) (C := RX8) (T := TX8) (N := 19) hf hk hx hb hts iwd_X11_init_X8 tyX8 tyX8_ok hown (hts _ md_X11_init_6) (hts _ md_X11_init_29) (hts _ md_X11_init_30) hK hP hD hS hA rfl rfl df_X8 (Nat.le_of_ble_eq_true rfl) (Nat.le_of_ble_eq_true rfl) dX11_init_103 (fun a sh n z_362 k_363 H_364 hf hax hk hnn hP hD hS => ?_)
  refine W.eq (g2 := F0 m 106 ls [.ref (a k_363), .int 17, .ref (a k_359)]) (by rw [hax k_359 (okN_at g_361)]) ?_
  replace hl : lv_has ls 3 [(2, .int 17), (0, .ref (a h0)), (1, .int x0)] := by rw [hax h0 (okN_at g_360)]; exact hl
  rw [← hax CBK (Or.inr rfl)] at hSK
  replace hag := hag_new hag hax hnn
  clear hax hnn
  refine W.widen (k := 232) (n := 245332) (Nat.le_of_ble_eq_true rfl) (Nat.le_of_ble_eq_true rfl) ?_
  refine lv_dup hx hb dX11_init_106 rfl ?_
  obtain ⟨g_365, hf⟩ := grd_some hf
  obtain ⟨g_366, hf⟩ := grd_some hf
  obtain ⟨g_367, hf⟩ := grd_some hf
  obtain ⟨shq, nq, z_368, _u, hfc, hf⟩ := cala_some hf
  have hFc := de_free hD hS hA
  refine va_callv (va_runIN (As := []) (rest := [.ref (a k_363), .int 17, .ref (a k_359)]) ⟨hx, hb, hml, hown, hts⟩ (da_X8_init l dC dI cy a sh n H_364.size F z_362 k_363 hk hfc) ⟨va_cnB 0 hts ggX11_init_X8_init rfl rfl rfl (NK_m_X11_59 hN) (hts _ md_X11_init_30) ⟨by decide, by decide, by decide +kernel⟩ ⟨Nat.le_of_ble_eq_true rfl, Nat.le_of_ble_eq_true rfl⟩, rfl, (hts _ md_X11_init_151)⟩ ⟨fun a U g mk q => by obtain ⟨q0, q1, qP, qK, qD, qN⟩ := q; exact ⟨q0, q1, qP, va_K.moved (u := U) (U := U.calling g mk a) (Vm.Alike.refl U.vm) qK, qD, qN.same rfl⟩, fun U hU hW => ⟨rfl, by rw [hU], by rw [hU]; exact hP, va_K.moved hW.alike hK, hD.weaken (fun _ _ _ _ => trivial), hN.warm hW⟩⟩ rfl rfl hl.1 rfl (lv_room (Nat.le_of_ble_eq_true rfl)) dX11_init_107 ⟨Nat.le_of_ble_eq_true rfl, Nat.le_of_ble_eq_true rfl⟩) hS (fun q _ h => hFc q h) hFc (fun a t H_369 locs ht hvm hw hB hz1 hk1 hS2 => ?_)
  obtain ⟨⟨hax, hnn⟩, hk⟩ := hw
  obtain ⟨hP1, -, hD1⟩ := hB
  rw [ht] at hP1
  replace hD := hD1.weaken (fun _ _ _ h => hFc _ h)
  replace hP := hP1
  replace hS := hS2
  obtain ⟨sh, esh⟩ : ∃ w, w = shq := ⟨_, rfl⟩
  subst esh
  replace hl : lv_has ls 3 [(2, .int 17), (0, .ref (a h0)), (1, .int x0)] := by rw [hax h0 (okN_at g_365)]; exact hl
  rw [← hax CBK (Or.inr rfl)] at hSK
  replace hag := hag_new hag hax hnn
  obtain ⟨n, enq⟩ : ∃ w, w = nq := ⟨_, rfl⟩
  subst enq
  refine W.eq (g2 := F0 m 110 ls [.ref (a k_363), .int 17, .ref (a k_359)]) (by rw [hax k_363 (okN_at g_366), hax k_359 (okN_at g_367)]) ?_
  clear hax hnn hP1 hD1 hS2 hFc hfc hz1 hk1 hvm ht
  refine W.widen (k := 238) (n := 245380) (Nat.le_of_ble_eq_true rfl) (Nat.le_of_ble_eq_true rfl) ?_
  obtain ⟨g_370, hf⟩ := grd_some hf
  obtain ⟨kg_370, sg_370, ig_370⟩ := okA_at g_370
  obtain ⟨g_371, hf⟩ := grd_some hf
  obtain ⟨kg_371, sg_371⟩ := okO_at g_371
  refine va_astq hx hb hK hP hD hS k_359 5 k_363 8 (Wd_aq kg_370 sg_370 (by decide)) rfl (Wd_ob kg_371 sg_371 (by decide)) rfl ig_370 dX11_init_110 (fun H_372 locs hP2 hD2 hS2 => ?_)
  rw [Wd_tq sg_370 (by decide)] at hP2 hD2
  obtain ⟨z_373, ez_373⟩ : ∃ w, w = sq z_368 k_359 (17 : Int32).toNatClampNeg (some k_363) := ⟨_, rfl⟩
  rw [← ez_373] at hP2 hD2
  replace hf := lt_at ez_373 hf
  replace hk : lk z_373 n := by rw [ez_373]; exact lk_sq1 hk (Or.inl kg_371)
  clear ez_373
  replace hP := hP2
  replace hD := hD2
  replace hS := hS2
  clear hP2 hD2 hS2
  refine lv_iinc (v := 18) (lv' := [(2, .int 18), (0, .ref (a h0)), (1, .int x0)]) hx hb dX11_init_111 hl (k := 0) rfl rfl (by decide) rfl (fun ls hl2 => ?_)
  replace hl := hl2
  clear hl2
  refine lv_goto (tgt := 92) hx hb dX11_init_114 (by decide) ?_
  refine lv_iload_n hx hb dX11_init_92 rfl (lv_at hl 0 rfl) ?_
  refine lv_bipush (v := 32) hx hb dX11_init_93 (by decide) ?_
  refine lv_icmp_ge (tgt := 117) hx hb dX11_init_95 (by decide) (fun h => absurd h (by decide)) (fun _ => ?_)
  refine lv_aload_n hx hb dX11_init_98 rfl (lv_at hl 1 rfl) ?_
  obtain ⟨g_374, hf⟩ := grd_some hf
  obtain ⟨kg_374, sg_374⟩ := okO_at g_374
  obtain ⟨k_375, ek_375, hf⟩ := lnk_some hf
  refine va_get (D := (dC, dI)) (ci := 11) (v := .ref (a k_375)) (C := RX11) (T := TX11) (N := 13) hx hb hts iwd_X11_init_X11 hown hK hP h0 (Wd_ob kg_374 sg_374 (by decide)) rfl 3 (by decide) (hts _ md_X11_init_7) (fun _ h9 => h9) (fl_q rfl ek_375) dX11_init_99 ?_
  refine lv_iload_n hx hb dX11_init_102 rfl (lv_at hl 0 rfl) ?_
  obtain ⟨g_376, hf⟩ := grd_some hf
  obtain ⟨g_377, hf⟩ := grd_some hf
  refine de_new (ci := 8) (fs := [.int 0, .long 0, .long 0, .int 0, .int 0, .int 0, .null, .int 0, .null, .null, .null, .int 0, .long 0, .int 0, .int 0, .int 0, .null, .null, .null]) (C := RX8) (T := TX8) (N := 19) hf hk hx hb hts iwd_X11_init_X8 tyX8 tyX8_ok hown (hts _ md_X11_init_6) (hts _ md_X11_init_29) (hts _ md_X11_init_30) hK hP hD hS hA rfl rfl df_X8 (Nat.le_of_ble_eq_true rfl) (Nat.le_of_ble_eq_true rfl) dX11_init_103 (fun a sh n z_378 k_379 H_380 hf hax hk hnn hP hD hS => ?_)
  refine W.eq (g2 := F0 m 106 ls [.ref (a k_379), .int 18, .ref (a k_375)]) (by rw [hax k_375 (okN_at g_377)]) ?_
  replace hl : lv_has ls 3 [(2, .int 18), (0, .ref (a h0)), (1, .int x0)] := by rw [hax h0 (okN_at g_376)]; exact hl
  rw [← hax CBK (Or.inr rfl)] at hSK
  replace hag := hag_new hag hax hnn
  clear hax hnn
  refine W.widen (k := 239) (n := 245399) (Nat.le_of_ble_eq_true rfl) (Nat.le_of_ble_eq_true rfl) ?_
  refine lv_dup hx hb dX11_init_106 rfl ?_
  obtain ⟨g_381, hf⟩ := grd_some hf
  obtain ⟨g_382, hf⟩ := grd_some hf
  obtain ⟨g_383, hf⟩ := grd_some hf
  obtain ⟨shq, nq, z_384, _u, hfc, hf⟩ := cala_some hf
  have hFc := de_free hD hS hA
  refine va_callv (va_runIN (As := []) (rest := [.ref (a k_379), .int 18, .ref (a k_375)]) ⟨hx, hb, hml, hown, hts⟩ (da_X8_init l dC dI cy a sh n H_380.size F z_378 k_379 hk hfc) ⟨va_cnB 0 hts ggX11_init_X8_init rfl rfl rfl (NK_m_X11_59 hN) (hts _ md_X11_init_30) ⟨by decide, by decide, by decide +kernel⟩ ⟨Nat.le_of_ble_eq_true rfl, Nat.le_of_ble_eq_true rfl⟩, rfl, (hts _ md_X11_init_151)⟩ ⟨fun a U g mk q => by obtain ⟨q0, q1, qP, qK, qD, qN⟩ := q; exact ⟨q0, q1, qP, va_K.moved (u := U) (U := U.calling g mk a) (Vm.Alike.refl U.vm) qK, qD, qN.same rfl⟩, fun U hU hW => ⟨rfl, by rw [hU], by rw [hU]; exact hP, va_K.moved hW.alike hK, hD.weaken (fun _ _ _ _ => trivial), hN.warm hW⟩⟩ rfl rfl hl.1 rfl (lv_room (Nat.le_of_ble_eq_true rfl)) dX11_init_107 ⟨Nat.le_of_ble_eq_true rfl, Nat.le_of_ble_eq_true rfl⟩) hS (fun q _ h => hFc q h) hFc (fun a t H_385 locs ht hvm hw hB hz1 hk1 hS2 => ?_)
  obtain ⟨⟨hax, hnn⟩, hk⟩ := hw
  obtain ⟨hP1, -, hD1⟩ := hB
  rw [ht] at hP1
  replace hD := hD1.weaken (fun _ _ _ h => hFc _ h)
  replace hP := hP1
  replace hS := hS2
  obtain ⟨sh, esh⟩ : ∃ w, w = shq := ⟨_, rfl⟩
  subst esh
  replace hl : lv_has ls 3 [(2, .int 18), (0, .ref (a h0)), (1, .int x0)] := by rw [hax h0 (okN_at g_381)]; exact hl
  rw [← hax CBK (Or.inr rfl)] at hSK
  replace hag := hag_new hag hax hnn
  obtain ⟨n, enq⟩ : ∃ w, w = nq := ⟨_, rfl⟩
  subst enq
  refine W.eq (g2 := F0 m 110 ls [.ref (a k_379), .int 18, .ref (a k_375)]) (by rw [hax k_379 (okN_at g_382), hax k_375 (okN_at g_383)]) ?_
  clear hax hnn hP1 hD1 hS2 hFc hfc hz1 hk1 hvm ht
  refine W.widen (k := 245) (n := 245447) (Nat.le_of_ble_eq_true rfl) (Nat.le_of_ble_eq_true rfl) ?_
  obtain ⟨g_386, hf⟩ := grd_some hf
  obtain ⟨kg_386, sg_386, ig_386⟩ := okA_at g_386
  obtain ⟨g_387, hf⟩ := grd_some hf
  obtain ⟨kg_387, sg_387⟩ := okO_at g_387
  refine va_astq hx hb hK hP hD hS k_375 5 k_379 8 (Wd_aq kg_386 sg_386 (by decide)) rfl (Wd_ob kg_387 sg_387 (by decide)) rfl ig_386 dX11_init_110 (fun H_388 locs hP2 hD2 hS2 => ?_)
  rw [Wd_tq sg_386 (by decide)] at hP2 hD2
  obtain ⟨z_389, ez_389⟩ : ∃ w, w = sq z_384 k_375 (18 : Int32).toNatClampNeg (some k_379) := ⟨_, rfl⟩
  rw [← ez_389] at hP2 hD2
  replace hf := lt_at ez_389 hf
  replace hk : lk z_389 n := by rw [ez_389]; exact lk_sq1 hk (Or.inl kg_387)
  clear ez_389
  replace hP := hP2
  replace hD := hD2
  replace hS := hS2
  clear hP2 hD2 hS2
  refine lv_iinc (v := 19) (lv' := [(2, .int 19), (0, .ref (a h0)), (1, .int x0)]) hx hb dX11_init_111 hl (k := 0) rfl rfl (by decide) rfl (fun ls hl2 => ?_)
  replace hl := hl2
  clear hl2
  refine lv_goto (tgt := 92) hx hb dX11_init_114 (by decide) ?_
  refine lv_iload_n hx hb dX11_init_92 rfl (lv_at hl 0 rfl) ?_
  refine lv_bipush (v := 32) hx hb dX11_init_93 (by decide) ?_
  refine lv_icmp_ge (tgt := 117) hx hb dX11_init_95 (by decide) (fun h => absurd h (by decide)) (fun _ => ?_)
  refine lv_aload_n hx hb dX11_init_98 rfl (lv_at hl 1 rfl) ?_
  obtain ⟨g_390, hf⟩ := grd_some hf
  obtain ⟨kg_390, sg_390⟩ := okO_at g_390
  obtain ⟨k_391, ek_391, hf⟩ := lnk_some hf
  refine va_get (D := (dC, dI)) (ci := 11) (v := .ref (a k_391)) (C := RX11) (T := TX11) (N := 13) hx hb hts iwd_X11_init_X11 hown hK hP h0 (Wd_ob kg_390 sg_390 (by decide)) rfl 3 (by decide) (hts _ md_X11_init_7) (fun _ h9 => h9) (fl_q rfl ek_391) dX11_init_99 ?_
  refine lv_iload_n hx hb dX11_init_102 rfl (lv_at hl 0 rfl) ?_
  obtain ⟨g_392, hf⟩ := grd_some hf
  obtain ⟨g_393, hf⟩ := grd_some hf
  refine de_new (ci := 8) (fs := [.int 0, .long 0, .long 0, .int 0, .int 0, .int 0, .null, .int 0, .null, .null, .null, .int 0, .long 0, .int 0, .int 0, .int 0, .null, .null, .null]) (C := RX8) (T := TX8) (N := 19) hf hk hx hb hts iwd_X11_init_X8 tyX8 tyX8_ok hown (hts _ md_X11_init_6) (hts _ md_X11_init_29) (hts _ md_X11_init_30) hK hP hD hS hA rfl rfl df_X8 (Nat.le_of_ble_eq_true rfl) (Nat.le_of_ble_eq_true rfl) dX11_init_103 (fun a sh n z_394 k_395 H_396 hf hax hk hnn hP hD hS => ?_)
  refine W.eq (g2 := F0 m 106 ls [.ref (a k_395), .int 19, .ref (a k_391)]) (by rw [hax k_391 (okN_at g_393)]) ?_
  replace hl : lv_has ls 3 [(2, .int 19), (0, .ref (a h0)), (1, .int x0)] := by rw [hax h0 (okN_at g_392)]; exact hl
  rw [← hax CBK (Or.inr rfl)] at hSK
  replace hag := hag_new hag hax hnn
  clear hax hnn
  refine W.widen (k := 246) (n := 245466) (Nat.le_of_ble_eq_true rfl) (Nat.le_of_ble_eq_true rfl) ?_
  refine lv_dup hx hb dX11_init_106 rfl ?_
  obtain ⟨g_397, hf⟩ := grd_some hf
  obtain ⟨g_398, hf⟩ := grd_some hf
  obtain ⟨g_399, hf⟩ := grd_some hf
  obtain ⟨shq, nq, z_400, _u, hfc, hf⟩ := cala_some hf
  have hFc := de_free hD hS hA
  refine va_callv (va_runIN (As := []) (rest := [.ref (a k_395), .int 19, .ref (a k_391)]) ⟨hx, hb, hml, hown, hts⟩ (da_X8_init l dC dI cy a sh n H_396.size F z_394 k_395 hk hfc) ⟨va_cnB 0 hts ggX11_init_X8_init rfl rfl rfl (NK_m_X11_59 hN) (hts _ md_X11_init_30) ⟨by decide, by decide, by decide +kernel⟩ ⟨Nat.le_of_ble_eq_true rfl, Nat.le_of_ble_eq_true rfl⟩, rfl, (hts _ md_X11_init_151)⟩ ⟨fun a U g mk q => by obtain ⟨q0, q1, qP, qK, qD, qN⟩ := q; exact ⟨q0, q1, qP, va_K.moved (u := U) (U := U.calling g mk a) (Vm.Alike.refl U.vm) qK, qD, qN.same rfl⟩, fun U hU hW => ⟨rfl, by rw [hU], by rw [hU]; exact hP, va_K.moved hW.alike hK, hD.weaken (fun _ _ _ _ => trivial), hN.warm hW⟩⟩ rfl rfl hl.1 rfl (lv_room (Nat.le_of_ble_eq_true rfl)) dX11_init_107 ⟨Nat.le_of_ble_eq_true rfl, Nat.le_of_ble_eq_true rfl⟩) hS (fun q _ h => hFc q h) hFc (fun a t H_401 locs ht hvm hw hB hz1 hk1 hS2 => ?_)
  obtain ⟨⟨hax, hnn⟩, hk⟩ := hw
  obtain ⟨hP1, -, hD1⟩ := hB
  rw [ht] at hP1
  replace hD := hD1.weaken (fun _ _ _ h => hFc _ h)
  replace hP := hP1
  replace hS := hS2
  obtain ⟨sh, esh⟩ : ∃ w, w = shq := ⟨_, rfl⟩
  subst esh
  replace hl : lv_has ls 3 [(2, .int 19), (0, .ref (a h0)), (1, .int x0)] := by rw [hax h0 (okN_at g_397)]; exact hl
  rw [← hax CBK (Or.inr rfl)] at hSK
  replace hag := hag_new hag hax hnn
  obtain ⟨n, enq⟩ : ∃ w, w = nq := ⟨_, rfl⟩
  subst enq
  refine W.eq (g2 := F0 m 110 ls [.ref (a k_395), .int 19, .ref (a k_391)]) (by rw [hax k_395 (okN_at g_398), hax k_391 (okN_at g_399)]) ?_
  clear hax hnn hP1 hD1 hS2 hFc hfc hz1 hk1 hvm ht
  refine W.widen (k := 252) (n := 245514) (Nat.le_of_ble_eq_true rfl) (Nat.le_of_ble_eq_true rfl) ?_
  obtain ⟨g_402, hf⟩ := grd_some hf
  obtain ⟨kg_402, sg_402, ig_402⟩ := okA_at g_402
  obtain ⟨g_403, hf⟩ := grd_some hf
  obtain ⟨kg_403, sg_403⟩ := okO_at g_403
  refine va_astq hx hb hK hP hD hS k_391 5 k_395 8 (Wd_aq kg_402 sg_402 (by decide)) rfl (Wd_ob kg_403 sg_403 (by decide)) rfl ig_402 dX11_init_110 (fun H_404 locs hP2 hD2 hS2 => ?_)
  rw [Wd_tq sg_402 (by decide)] at hP2 hD2
  obtain ⟨z_405, ez_405⟩ : ∃ w, w = sq z_400 k_391 (19 : Int32).toNatClampNeg (some k_395) := ⟨_, rfl⟩
  rw [← ez_405] at hP2 hD2
  replace hf := lt_at ez_405 hf
  replace hk : lk z_405 n := by rw [ez_405]; exact lk_sq1 hk (Or.inl kg_403)
  clear ez_405
  replace hP := hP2
  replace hD := hD2
  replace hS := hS2
  clear hP2 hD2 hS2
  refine lv_iinc (v := 20) (lv' := [(2, .int 20), (0, .ref (a h0)), (1, .int x0)]) hx hb dX11_init_111 hl (k := 0) rfl rfl (by decide) rfl (fun ls hl2 => ?_)
  replace hl := hl2
  clear hl2
  refine lv_goto (tgt := 92) hx hb dX11_init_114 (by decide) ?_
  refine lv_iload_n hx hb dX11_init_92 rfl (lv_at hl 0 rfl) ?_
  refine lv_bipush (v := 32) hx hb dX11_init_93 (by decide) ?_
  refine lv_icmp_ge (tgt := 117) hx hb dX11_init_95 (by decide) (fun h => absurd h (by decide)) (fun _ => ?_)
  refine lv_aload_n hx hb dX11_init_98 rfl (lv_at hl 1 rfl) ?_
  obtain ⟨g_406, hf⟩ := grd_some hf
  obtain ⟨kg_406, sg_406⟩ := okO_at g_406
  obtain ⟨k_407, ek_407, hf⟩ := lnk_some hf
  refine va_get (D := (dC, dI)) (ci := 11) (v := .ref (a k_407)) (C := RX11) (T := TX11) (N := 13) hx hb hts iwd_X11_init_X11 hown hK hP h0 (Wd_ob kg_406 sg_406 (by decide)) rfl 3 (by decide) (hts _ md_X11_init_7) (fun _ h9 => h9) (fl_q rfl ek_407) dX11_init_99 ?_
  refine lv_iload_n hx hb dX11_init_102 rfl (lv_at hl 0 rfl) ?_
  obtain ⟨g_408, hf⟩ := grd_some hf
  obtain ⟨g_409, hf⟩ := grd_some hf
  refine de_new (ci := 8) (fs := [.int 0, .long 0, .long 0, .int 0, .int 0, .int 0, .null, .int 0, .null, .null, .null, .int 0, .long 0, .int 0, .int 0, .int 0, .null, .null, .null]) (C := RX8) (T := TX8) (N := 19) hf hk hx hb hts iwd_X11_init_X8 tyX8 tyX8_ok hown (hts _ md_X11_init_6) (hts _ md_X11_init_29) (hts _ md_X11_init_30) hK hP hD hS hA rfl rfl df_X8 (Nat.le_of_ble_eq_true rfl) (Nat.le_of_ble_eq_true rfl) dX11_init_103 (fun a sh n z_410 k_411 H_412 hf hax hk hnn hP hD hS => ?_)
  refine W.eq (g2 := F0 m 106 ls [.ref (a k_411), .int 20, .ref (a k_407)]) (by rw [hax k_407 (okN_at g_409)]) ?_
  replace hl : lv_has ls 3 [(2, .int 20), (0, .ref (a h0)), (1, .int x0)] := by rw [hax h0 (okN_at g_408)]; exact hl
  rw [← hax CBK (Or.inr rfl)] at hSK
  replace hag := hag_new hag hax hnn
  clear hax hnn
  refine W.widen (k := 253) (n := 245533) (Nat.le_of_ble_eq_true rfl) (Nat.le_of_ble_eq_true rfl) ?_
  refine lv_dup hx hb dX11_init_106 rfl ?_
  obtain ⟨g_413, hf⟩ := grd_some hf
  obtain ⟨g_414, hf⟩ := grd_some hf
  obtain ⟨g_415, hf⟩ := grd_some hf
  obtain ⟨shq, nq, z_416, _u, hfc, hf⟩ := cala_some hf
  have hFc := de_free hD hS hA
  refine va_callv (va_runIN (As := []) (rest := [.ref (a k_411), .int 20, .ref (a k_407)]) ⟨hx, hb, hml, hown, hts⟩ (da_X8_init l dC dI cy a sh n H_412.size F z_410 k_411 hk hfc) ⟨va_cnB 0 hts ggX11_init_X8_init rfl rfl rfl (NK_m_X11_59 hN) (hts _ md_X11_init_30) ⟨by decide, by decide, by decide +kernel⟩ ⟨Nat.le_of_ble_eq_true rfl, Nat.le_of_ble_eq_true rfl⟩, rfl, (hts _ md_X11_init_151)⟩ ⟨fun a U g mk q => by obtain ⟨q0, q1, qP, qK, qD, qN⟩ := q; exact ⟨q0, q1, qP, va_K.moved (u := U) (U := U.calling g mk a) (Vm.Alike.refl U.vm) qK, qD, qN.same rfl⟩, fun U hU hW => ⟨rfl, by rw [hU], by rw [hU]; exact hP, va_K.moved hW.alike hK, hD.weaken (fun _ _ _ _ => trivial), hN.warm hW⟩⟩ rfl rfl hl.1 rfl (lv_room (Nat.le_of_ble_eq_true rfl)) dX11_init_107 ⟨Nat.le_of_ble_eq_true rfl, Nat.le_of_ble_eq_true rfl⟩) hS (fun q _ h => hFc q h) hFc (fun a t H_417 locs ht hvm hw hB hz1 hk1 hS2 => ?_)
  obtain ⟨⟨hax, hnn⟩, hk⟩ := hw
  obtain ⟨hP1, -, hD1⟩ := hB
  rw [ht] at hP1
  replace hD := hD1.weaken (fun _ _ _ h => hFc _ h)
  replace hP := hP1
  replace hS := hS2
  obtain ⟨sh, esh⟩ : ∃ w, w = shq := ⟨_, rfl⟩
  subst esh
  replace hl : lv_has ls 3 [(2, .int 20), (0, .ref (a h0)), (1, .int x0)] := by rw [hax h0 (okN_at g_413)]; exact hl
  rw [← hax CBK (Or.inr rfl)] at hSK
  replace hag := hag_new hag hax hnn
  obtain ⟨n, enq⟩ : ∃ w, w = nq := ⟨_, rfl⟩
  subst enq
  refine W.eq (g2 := F0 m 110 ls [.ref (a k_411), .int 20, .ref (a k_407)]) (by rw [hax k_411 (okN_at g_414), hax k_407 (okN_at g_415)]) ?_
  clear hax hnn hP1 hD1 hS2 hFc hfc hz1 hk1 hvm ht
  refine W.widen (k := 259) (n := 245581) (Nat.le_of_ble_eq_true rfl) (Nat.le_of_ble_eq_true rfl) ?_
  obtain ⟨g_418, hf⟩ := grd_some hf
  obtain ⟨kg_418, sg_418, ig_418⟩ := okA_at g_418
  obtain ⟨g_419, hf⟩ := grd_some hf
  obtain ⟨kg_419, sg_419⟩ := okO_at g_419
  refine va_astq hx hb hK hP hD hS k_407 5 k_411 8 (Wd_aq kg_418 sg_418 (by decide)) rfl (Wd_ob kg_419 sg_419 (by decide)) rfl ig_418 dX11_init_110 (fun H_420 locs hP2 hD2 hS2 => ?_)
  rw [Wd_tq sg_418 (by decide)] at hP2 hD2
  obtain ⟨z_421, ez_421⟩ : ∃ w, w = sq z_416 k_407 (20 : Int32).toNatClampNeg (some k_411) := ⟨_, rfl⟩
  rw [← ez_421] at hP2 hD2
  replace hf := lt_at ez_421 hf
  replace hk : lk z_421 n := by rw [ez_421]; exact lk_sq1 hk (Or.inl kg_419)
  clear ez_421
  replace hP := hP2
  replace hD := hD2
  replace hS := hS2
  clear hP2 hD2 hS2
  refine lv_iinc (v := 21) (lv' := [(2, .int 21), (0, .ref (a h0)), (1, .int x0)]) hx hb dX11_init_111 hl (k := 0) rfl rfl (by decide) rfl (fun ls hl2 => ?_)
  replace hl := hl2
  clear hl2
  refine lv_goto (tgt := 92) hx hb dX11_init_114 (by decide) ?_
  refine lv_iload_n hx hb dX11_init_92 rfl (lv_at hl 0 rfl) ?_
  refine lv_bipush (v := 32) hx hb dX11_init_93 (by decide) ?_
  refine lv_icmp_ge (tgt := 117) hx hb dX11_init_95 (by decide) (fun h => absurd h (by decide)) (fun _ => ?_)
  refine lv_aload_n hx hb dX11_init_98 rfl (lv_at hl 1 rfl) ?_
  obtain ⟨g_422, hf⟩ := grd_some hf
  obtain ⟨kg_422, sg_422⟩ := okO_at g_422
  obtain ⟨k_423, ek_423, hf⟩ := lnk_some hf
  refine va_get (D := (dC, dI)) (ci := 11) (v := .ref (a k_423)) (C := RX11) (T := TX11) (N := 13) hx hb hts iwd_X11_init_X11 hown hK hP h0 (Wd_ob kg_422 sg_422 (by decide)) rfl 3 (by decide) (hts _ md_X11_init_7) (fun _ h9 => h9) (fl_q rfl ek_423) dX11_init_99 ?_
  refine lv_iload_n hx hb dX11_init_102 rfl (lv_at hl 0 rfl) ?_
  obtain ⟨g_424, hf⟩ := grd_some hf
  obtain ⟨g_425, hf⟩ := grd_some hf
  refine de_new (ci := 8) (fs := [.int 0, .long 0, .long 0, .int 0, .int 0, .int 0, .null, .int 0, .null, .null, .null, .int 0, .long 0, .int 0, .int 0, .int 0, .null, .null, .null]) (C := RX8) (T := TX8) (N := 19) hf hk hx hb hts iwd_X11_init_X8 tyX8 tyX8_ok hown (hts _ md_X11_init_6) (hts _ md_X11_init_29) (hts _ md_X11_init_30) hK hP hD hS hA rfl rfl df_X8 (Nat.le_of_ble_eq_true rfl) (Nat.le_of_ble_eq_true rfl) dX11_init_103 (fun a sh n z_426 k_427 H_428 hf hax hk hnn hP hD hS => ?_)
  refine W.eq (g2 := F0 m 106 ls [.ref (a k_427), .int 21, .ref (a k_423)]) (by rw [hax k_423 (okN_at g_425)]) ?_
  replace hl : lv_has ls 3 [(2, .int 21), (0, .ref (a h0)), (1, .int x0)] := by rw [hax h0 (okN_at g_424)]; exact hl
  rw [← hax CBK (Or.inr rfl)] at hSK
  replace hag := hag_new hag hax hnn
  clear hax hnn
  refine W.widen (k := 260) (n := 245600) (Nat.le_of_ble_eq_true rfl) (Nat.le_of_ble_eq_true rfl) ?_
  refine lv_dup hx hb dX11_init_106 rfl ?_
  obtain ⟨g_429, hf⟩ := grd_some hf
  obtain ⟨g_430, hf⟩ := grd_some hf
  obtain ⟨g_431, hf⟩ := grd_some hf
  obtain ⟨shq, nq, z_432, _u, hfc, hf⟩ := cala_some hf
  have hFc := de_free hD hS hA
  refine va_callv (va_runIN (As := []) (rest := [.ref (a k_427), .int 21, .ref (a k_423)]) ⟨hx, hb, hml, hown, hts⟩ (da_X8_init l dC dI cy a sh n H_428.size F z_426 k_427 hk hfc) ⟨va_cnB 0 hts ggX11_init_X8_init rfl rfl rfl (NK_m_X11_59 hN) (hts _ md_X11_init_30) ⟨by decide, by decide, by decide +kernel⟩ ⟨Nat.le_of_ble_eq_true rfl, Nat.le_of_ble_eq_true rfl⟩, rfl, (hts _ md_X11_init_151)⟩ ⟨fun a U g mk q => by obtain ⟨q0, q1, qP, qK, qD, qN⟩ := q; exact ⟨q0, q1, qP, va_K.moved (u := U) (U := U.calling g mk a) (Vm.Alike.refl U.vm) qK, qD, qN.same rfl⟩, fun U hU hW => ⟨rfl, by rw [hU], by rw [hU]; exact hP, va_K.moved hW.alike hK, hD.weaken (fun _ _ _ _ => trivial), hN.warm hW⟩⟩ rfl rfl hl.1 rfl (lv_room (Nat.le_of_ble_eq_true rfl)) dX11_init_107 ⟨Nat.le_of_ble_eq_true rfl, Nat.le_of_ble_eq_true rfl⟩) hS (fun q _ h => hFc q h) hFc (fun a t H_433 locs ht hvm hw hB hz1 hk1 hS2 => ?_)
  obtain ⟨⟨hax, hnn⟩, hk⟩ := hw
  obtain ⟨hP1, -, hD1⟩ := hB
  rw [ht] at hP1
  replace hD := hD1.weaken (fun _ _ _ h => hFc _ h)
  replace hP := hP1
  replace hS := hS2
  obtain ⟨sh, esh⟩ : ∃ w, w = shq := ⟨_, rfl⟩
  subst esh
  replace hl : lv_has ls 3 [(2, .int 21), (0, .ref (a h0)), (1, .int x0)] := by rw [hax h0 (okN_at g_429)]; exact hl
  rw [← hax CBK (Or.inr rfl)] at hSK
  replace hag := hag_new hag hax hnn
  obtain ⟨n, enq⟩ : ∃ w, w = nq := ⟨_, rfl⟩
  subst enq
  refine W.eq (g2 := F0 m 110 ls [.ref (a k_427), .int 21, .ref (a k_423)]) (by rw [hax k_427 (okN_at g_430), hax k_423 (okN_at g_431)]) ?_
  clear hax hnn hP1 hD1 hS2 hFc hfc hz1 hk1 hvm ht
  refine W.widen (k := 266) (n := 245648) (Nat.le_of_ble_eq_true rfl) (Nat.le_of_ble_eq_true rfl) ?_
  obtain ⟨g_434, hf⟩ := grd_some hf
  obtain ⟨kg_434, sg_434, ig_434⟩ := okA_at g_434
  obtain ⟨g_435, hf⟩ := grd_some hf
  obtain ⟨kg_435, sg_435⟩ := okO_at g_435
  refine va_astq hx hb hK hP hD hS k_423 5 k_427 8 (Wd_aq kg_434 sg_434 (by decide)) rfl (Wd_ob kg_435 sg_435 (by decide)) rfl ig_434 dX11_init_110 (fun H_436 locs hP2 hD2 hS2 => ?_)
  rw [Wd_tq sg_434 (by decide)] at hP2 hD2
  obtain ⟨z_437, ez_437⟩ : ∃ w, w = sq z_432 k_423 (21 : Int32).toNatClampNeg (some k_427) := ⟨_, rfl⟩
  rw [← ez_437] at hP2 hD2
  replace hf := lt_at ez_437 hf
  replace hk : lk z_437 n := by rw [ez_437]; exact lk_sq1 hk (Or.inl kg_435)
  clear ez_437
  replace hP := hP2
  replace hD := hD2
  replace hS := hS2
  clear hP2 hD2 hS2
  refine lv_iinc (v := 22) (lv' := [(2, .int 22), (0, .ref (a h0)), (1, .int x0)]) hx hb dX11_init_111 hl (k := 0) rfl rfl (by decide) rfl (fun ls hl2 => ?_)
  replace hl := hl2
  clear hl2
  refine lv_goto (tgt := 92) hx hb dX11_init_114 (by decide) ?_
  refine lv_iload_n hx hb dX11_init_92 rfl (lv_at hl 0 rfl) ?_
  refine lv_bipush (v := 32) hx hb dX11_init_93 (by decide) ?_
  refine lv_icmp_ge (tgt := 117) hx hb dX11_init_95 (by decide) (fun h => absurd h (by decide)) (fun _ => ?_)
  refine lv_aload_n hx hb dX11_init_98 rfl (lv_at hl 1 rfl) ?_
  obtain ⟨g_438, hf⟩ := grd_some hf
  obtain ⟨kg_438, sg_438⟩ := okO_at g_438
  obtain ⟨k_439, ek_439, hf⟩ := lnk_some hf
  refine va_get (D := (dC, dI)) (ci := 11) (v := .ref (a k_439)) (C := RX11) (T := TX11) (N := 13) hx hb hts iwd_X11_init_X11 hown hK hP h0 (Wd_ob kg_438 sg_438 (by decide)) rfl 3 (by decide) (hts _ md_X11_init_7) (fun _ h9 => h9) (fl_q rfl ek_439) dX11_init_99 ?_
  refine lv_iload_n hx hb dX11_init_102 rfl (lv_at hl 0 rfl) ?_
  obtain ⟨g_440, hf⟩ := grd_some hf
  obtain ⟨g_441, hf⟩ := grd_some hf
  refine de_new (ci := 8) (fs := [.int 0, .long 0, .long 0, .int 0, .int 0, .int 0, .null, .int 0, .null, .null, .null, .int 0, .long 0, .int 0, .int 0, .int 0, .null, .null, .null]) (C := RX8) (T := TX8) (N := 19) hf hk hx hb hts iwd_X11_init_X8 tyX8 tyX8_ok hown (hts _ md_X11_init_6) (hts _ md_X11_init_29) (hts _ md_X11_init_30) hK hP hD hS hA rfl rfl df_X8 (Nat.le_of_ble_eq_true rfl) (Nat.le_of_ble_eq_true rfl) dX11_init_103 (fun a sh n z_442 k_443 H_444 hf hax hk hnn hP hD hS => ?_)
  refine W.eq (g2 := F0 m 106 ls [.ref (a k_443), .int 22, .ref (a k_439)]) (by rw [hax k_439 (okN_at g_441)]) ?_
  replace hl : lv_has ls 3 [(2, .int 22), (0, .ref (a h0)), (1, .int x0)] := by rw [hax h0 (okN_at g_440)]; exact hl
  rw [← hax CBK (Or.inr rfl)] at hSK
  replace hag := hag_new hag hax hnn
  clear hax hnn
  refine W.widen (k := 267) (n := 245667) (Nat.le_of_ble_eq_true rfl) (Nat.le_of_ble_eq_true rfl) ?_
  refine lv_dup hx hb dX11_init_106 rfl ?_
  obtain ⟨g_445, hf⟩ := grd_some hf
  obtain ⟨g_446, hf⟩ := grd_some hf
  obtain ⟨g_447, hf⟩ := grd_some hf
  obtain ⟨shq, nq, z_448, _u, hfc, hf⟩ := cala_some hf
  have hFc := de_free hD hS hA
  refine va_callv (va_runIN (As := []) (rest := [.ref (a k_443), .int 22, .ref (a k_439)]) ⟨hx, hb, hml, hown, hts⟩ (da_X8_init l dC dI cy a sh n H_444.size F z_442 k_443 hk hfc) ⟨va_cnB 0 hts ggX11_init_X8_init rfl rfl rfl (NK_m_X11_59 hN) (hts _ md_X11_init_30) ⟨by decide, by decide, by decide +kernel⟩ ⟨Nat.le_of_ble_eq_true rfl, Nat.le_of_ble_eq_true rfl⟩, rfl, (hts _ md_X11_init_151)⟩ ⟨fun a U g mk q => by obtain ⟨q0, q1, qP, qK, qD, qN⟩ := q; exact ⟨q0, q1, qP, va_K.moved (u := U) (U := U.calling g mk a) (Vm.Alike.refl U.vm) qK, qD, qN.same rfl⟩, fun U hU hW => ⟨rfl, by rw [hU], by rw [hU]; exact hP, va_K.moved hW.alike hK, hD.weaken (fun _ _ _ _ => trivial), hN.warm hW⟩⟩ rfl rfl hl.1 rfl (lv_room (Nat.le_of_ble_eq_true rfl)) dX11_init_107 ⟨Nat.le_of_ble_eq_true rfl, Nat.le_of_ble_eq_true rfl⟩) hS (fun q _ h => hFc q h) hFc (fun a t H_449 locs ht hvm hw hB hz1 hk1 hS2 => ?_)
  obtain ⟨⟨hax, hnn⟩, hk⟩ := hw
  obtain ⟨hP1, -, hD1⟩ := hB
  rw [ht] at hP1
  replace hD := hD1.weaken (fun _ _ _ h => hFc _ h)
  replace hP := hP1
  replace hS := hS2
  obtain ⟨sh, esh⟩ : ∃ w, w = shq := ⟨_, rfl⟩
  subst esh
  replace hl : lv_has ls 3 [(2, .int 22), (0, .ref (a h0)), (1, .int x0)] := by rw [hax h0 (okN_at g_445)]; exact hl
  rw [← hax CBK (Or.inr rfl)] at hSK
  replace hag := hag_new hag hax hnn
  obtain ⟨n, enq⟩ : ∃ w, w = nq := ⟨_, rfl⟩
  subst enq
  refine W.eq (g2 := F0 m 110 ls [.ref (a k_443), .int 22, .ref (a k_439)]) (by rw [hax k_443 (okN_at g_446), hax k_439 (okN_at g_447)]) ?_
  clear hax hnn hP1 hD1 hS2 hFc hfc hz1 hk1 hvm ht
  refine W.widen (k := 273) (n := 245715) (Nat.le_of_ble_eq_true rfl) (Nat.le_of_ble_eq_true rfl) ?_
  obtain ⟨g_450, hf⟩ := grd_some hf
  obtain ⟨kg_450, sg_450, ig_450⟩ := okA_at g_450
  obtain ⟨g_451, hf⟩ := grd_some hf
  obtain ⟨kg_451, sg_451⟩ := okO_at g_451
  refine va_astq hx hb hK hP hD hS k_439 5 k_443 8 (Wd_aq kg_450 sg_450 (by decide)) rfl (Wd_ob kg_451 sg_451 (by decide)) rfl ig_450 dX11_init_110 (fun H_452 locs hP2 hD2 hS2 => ?_)
  rw [Wd_tq sg_450 (by decide)] at hP2 hD2
  obtain ⟨z_453, ez_453⟩ : ∃ w, w = sq z_448 k_439 (22 : Int32).toNatClampNeg (some k_443) := ⟨_, rfl⟩
  rw [← ez_453] at hP2 hD2
  replace hf := lt_at ez_453 hf
  replace hk : lk z_453 n := by rw [ez_453]; exact lk_sq1 hk (Or.inl kg_451)
  clear ez_453
  replace hP := hP2
  replace hD := hD2
  replace hS := hS2
  clear hP2 hD2 hS2
  refine lv_iinc (v := 23) (lv' := [(2, .int 23), (0, .ref (a h0)), (1, .int x0)]) hx hb dX11_init_111 hl (k := 0) rfl rfl (by decide) rfl (fun ls hl2 => ?_)
  replace hl := hl2
  clear hl2
  refine lv_goto (tgt := 92) hx hb dX11_init_114 (by decide) ?_
  refine lv_iload_n hx hb dX11_init_92 rfl (lv_at hl 0 rfl) ?_
  refine lv_bipush (v := 32) hx hb dX11_init_93 (by decide) ?_
  refine lv_icmp_ge (tgt := 117) hx hb dX11_init_95 (by decide) (fun h => absurd h (by decide)) (fun _ => ?_)
  refine lv_aload_n hx hb dX11_init_98 rfl (lv_at hl 1 rfl) ?_
  obtain ⟨g_454, hf⟩ := grd_some hf
  obtain ⟨kg_454, sg_454⟩ := okO_at g_454
  obtain ⟨k_455, ek_455, hf⟩ := lnk_some hf
  refine va_get (D := (dC, dI)) (ci := 11) (v := .ref (a k_455)) (C := RX11) (T := TX11) (N := 13) hx hb hts iwd_X11_init_X11 hown hK hP h0 (Wd_ob kg_454 sg_454 (by decide)) rfl 3 (by decide) (hts _ md_X11_init_7) (fun _ h9 => h9) (fl_q rfl ek_455) dX11_init_99 ?_
  refine lv_iload_n hx hb dX11_init_102 rfl (lv_at hl 0 rfl) ?_
  obtain ⟨g_456, hf⟩ := grd_some hf
  obtain ⟨g_457, hf⟩ := grd_some hf
  refine de_new (ci := 8) (fs := [.int 0, .long 0, .long 0, .int 0, .int 0, .int 0, .null, .int 0, .null, .null, .null, .int 0, .long 0, .int 0, .int 0, .int 0, .null, .null, .null]) (C := RX8) (T := TX8) (N := 19) hf hk hx hb hts iwd_X11_init_X8 tyX8 tyX8_ok hown (hts _ md_X11_init_6) (hts _ md_X11_init_29) (hts _ md_X11_init_30) hK hP hD hS hA rfl rfl df_X8 (Nat.le_of_ble_eq_true rfl) (Nat.le_of_ble_eq_true rfl) dX11_init_103 (fun a sh n z_458 k_459 H_460 hf hax hk hnn hP hD hS => ?_)
  refine W.eq (g2 := F0 m 106 ls [.ref (a k_459), .int 23, .ref (a k_455)]) (by rw [hax k_455 (okN_at g_457)]) ?_
  replace hl : lv_has ls 3 [(2, .int 23), (0, .ref (a h0)), (1, .int x0)] := by rw [hax h0 (okN_at g_456)]; exact hl
  rw [← hax CBK (Or.inr rfl)] at hSK
  replace hag := hag_new hag hax hnn
  clear hax hnn
  refine W.widen (k := 274) (n := 245734) (Nat.le_of_ble_eq_true rfl) (Nat.le_of_ble_eq_true rfl) ?_
  refine lv_dup hx hb dX11_init_106 rfl ?_
  obtain ⟨g_461, hf⟩ := grd_some hf
  obtain ⟨g_462, hf⟩ := grd_some hf
  obtain ⟨g_463, hf⟩ := grd_some hf
  obtain ⟨shq, nq, z_464, _u, hfc, hf⟩ := cala_some hf
  have hFc := de_free hD hS hA
  refine va_callv (va_runIN (As := []) (rest := [.ref (a k_459), .int 23, .ref (a k_455)]) ⟨hx, hb, hml, hown, hts⟩ (da_X8_init l dC dI cy a sh n H_460.size F z_458 k_459 hk hfc) ⟨va_cnB 0 hts ggX11_init_X8_init rfl rfl rfl (NK_m_X11_59 hN) (hts _ md_X11_init_30) ⟨by decide, by decide, by decide +kernel⟩ ⟨Nat.le_of_ble_eq_true rfl, Nat.le_of_ble_eq_true rfl⟩, rfl, (hts _ md_X11_init_151)⟩ ⟨fun a U g mk q => by obtain ⟨q0, q1, qP, qK, qD, qN⟩ := q; exact ⟨q0, q1, qP, va_K.moved (u := U) (U := U.calling g mk a) (Vm.Alike.refl U.vm) qK, qD, qN.same rfl⟩, fun U hU hW => ⟨rfl, by rw [hU], by rw [hU]; exact hP, va_K.moved hW.alike hK, hD.weaken (fun _ _ _ _ => trivial), hN.warm hW⟩⟩ rfl rfl hl.1 rfl (lv_room (Nat.le_of_ble_eq_true rfl)) dX11_init_107 ⟨Nat.le_of_ble_eq_true rfl, Nat.le_of_ble_eq_true rfl⟩) hS (fun q _ h => hFc q h) hFc (fun a t H_465 locs ht hvm hw hB hz1 hk1 hS2 => ?_)
  obtain ⟨⟨hax, hnn⟩, hk⟩ := hw
  obtain ⟨hP1, -, hD1⟩ := hB
  rw [ht] at hP1
  replace hD := hD1.weaken (fun _ _ _ h => hFc _ h)
  replace hP := hP1
  replace hS := hS2
  obtain ⟨sh, esh⟩ : ∃ w, w = shq := ⟨_, rfl⟩
  subst esh
  replace hl : lv_has ls 3 [(2, .int 23), (0, .ref (a h0)), (1, .int x0)] := by rw [hax h0 (okN_at g_461)]; exact hl
  rw [← hax CBK (Or.inr rfl)] at hSK
  replace hag := hag_new hag hax hnn
  obtain ⟨n, enq⟩ : ∃ w, w = nq := ⟨_, rfl⟩
  subst enq
  refine W.eq (g2 := F0 m 110 ls [.ref (a k_459), .int 23, .ref (a k_455)]) (by rw [hax k_459 (okN_at g_462), hax k_455 (okN_at g_463)]) ?_
  clear hax hnn hP1 hD1 hS2 hFc hfc hz1 hk1 hvm ht
  refine W.widen (k := 280) (n := 245782) (Nat.le_of_ble_eq_true rfl) (Nat.le_of_ble_eq_true rfl) ?_
  obtain ⟨g_466, hf⟩ := grd_some hf
  obtain ⟨kg_466, sg_466, ig_466⟩ := okA_at g_466
  obtain ⟨g_467, hf⟩ := grd_some hf
  obtain ⟨kg_467, sg_467⟩ := okO_at g_467
  refine va_astq hx hb hK hP hD hS k_455 5 k_459 8 (Wd_aq kg_466 sg_466 (by decide)) rfl (Wd_ob kg_467 sg_467 (by decide)) rfl ig_466 dX11_init_110 (fun H_468 locs hP2 hD2 hS2 => ?_)
  rw [Wd_tq sg_466 (by decide)] at hP2 hD2
  obtain ⟨z_469, ez_469⟩ : ∃ w, w = sq z_464 k_455 (23 : Int32).toNatClampNeg (some k_459) := ⟨_, rfl⟩
  rw [← ez_469] at hP2 hD2
  replace hf := lt_at ez_469 hf
  replace hk : lk z_469 n := by rw [ez_469]; exact lk_sq1 hk (Or.inl kg_467)
  clear ez_469
  replace hP := hP2
  replace hD := hD2
  replace hS := hS2
  clear hP2 hD2 hS2
  refine lv_iinc (v := 24) (lv' := [(2, .int 24), (0, .ref (a h0)), (1, .int x0)]) hx hb dX11_init_111 hl (k := 0) rfl rfl (by decide) rfl (fun ls hl2 => ?_)
  replace hl := hl2
  clear hl2
  refine lv_goto (tgt := 92) hx hb dX11_init_114 (by decide) ?_
  refine lv_iload_n hx hb dX11_init_92 rfl (lv_at hl 0 rfl) ?_
  refine lv_bipush (v := 32) hx hb dX11_init_93 (by decide) ?_
  refine lv_icmp_ge (tgt := 117) hx hb dX11_init_95 (by decide) (fun h => absurd h (by decide)) (fun _ => ?_)
  refine lv_aload_n hx hb dX11_init_98 rfl (lv_at hl 1 rfl) ?_
  obtain ⟨g_470, hf⟩ := grd_some hf
  obtain ⟨kg_470, sg_470⟩ := okO_at g_470
  obtain ⟨k_471, ek_471, hf⟩ := lnk_some hf
  refine va_get (D := (dC, dI)) (ci := 11) (v := .ref (a k_471)) (C := RX11) (T := TX11) (N := 13) hx hb hts iwd_X11_init_X11 hown hK hP h0 (Wd_ob kg_470 sg_470 (by decide)) rfl 3 (by decide) (hts _ md_X11_init_7) (fun _ h9 => h9) (fl_q rfl ek_471) dX11_init_99 ?_
  refine lv_iload_n hx hb dX11_init_102 rfl (lv_at hl 0 rfl) ?_
  obtain ⟨g_472, hf⟩ := grd_some hf
  obtain ⟨g_473, hf⟩ := grd_some hf
  refine de_new (ci := 8) (fs := [.int 0, .long 0, .long 0, .int 0, .int 0, .int 0, .null, .int 0, .null, .null, .null, .int 0, .long 0, .int 0, .int 0, .int 0, .null, .null, .null]) (C := RX8) (T := TX8) (N := 19) hf hk hx hb hts iwd_X11_init_X8 tyX8 tyX8_ok hown (hts _ md_X11_init_6) (hts _ md_X11_init_29) (hts _ md_X11_init_30) hK hP hD hS hA rfl rfl df_X8 (Nat.le_of_ble_eq_true rfl) (Nat.le_of_ble_eq_true rfl) dX11_init_103 (fun a sh n z_474 k_475 H_476 hf hax hk hnn hP hD hS => ?_)
  refine W.eq (g2 := F0 m 106 ls [.ref (a k_475), .int 24, .ref (a k_471)]) (by rw [hax k_471 (okN_at g_473)]) ?_
  replace hl : lv_has ls 3 [(2, .int 24), (0, .ref (a h0)), (1, .int x0)] := by rw [hax h0 (okN_at g_472)]; exact hl
  rw [← hax CBK (Or.inr rfl)] at hSK
  replace hag := hag_new hag hax hnn
  clear hax hnn
  refine W.widen (k := 281) (n := 245801) (Nat.le_of_ble_eq_true rfl) (Nat.le_of_ble_eq_true rfl) ?_
  refine lv_dup hx hb dX11_init_106 rfl ?_
  obtain ⟨g_477, hf⟩ := grd_some hf
  obtain ⟨g_478, hf⟩ := grd_some hf
  obtain ⟨g_479, hf⟩ := grd_some hf
  obtain ⟨shq, nq, z_480, _u, hfc, hf⟩ := cala_some hf
  have hFc := de_free hD hS hA
  refine va_callv (va_runIN (As := []) (rest := [.ref (a k_475), .int 24, .ref (a k_471)]) ⟨hx, hb, hml, hown, hts⟩ (da_X8_init l dC dI cy a sh n H_476.size F z_474 k_475 hk hfc) ⟨va_cnB 0 hts ggX11_init_X8_init rfl rfl rfl (NK_m_X11_59 hN) (hts _ md_X11_init_30) ⟨by decide, by decide, by decide +kernel⟩ ⟨Nat.le_of_ble_eq_true rfl, Nat.le_of_ble_eq_true rfl⟩, rfl, (hts _ md_X11_init_151)⟩ ⟨fun a U g mk q => by obtain ⟨q0, q1, qP, qK, qD, qN⟩ := q; exact ⟨q0, q1, qP, va_K.moved (u := U) (U := U.calling g mk a) (Vm.Alike.refl U.vm) qK, qD, qN.same rfl⟩, fun U hU hW => ⟨rfl, by rw [hU], by rw [hU]; exact hP, va_K.moved hW.alike hK, hD.weaken (fun _ _ _ _ => trivial), hN.warm hW⟩⟩ rfl rfl hl.1 rfl (lv_room (Nat.le_of_ble_eq_true rfl)) dX11_init_107 ⟨Nat.le_of_ble_eq_true rfl, Nat.le_of_ble_eq_true rfl⟩) hS (fun q _ h => hFc q h) hFc (fun a t H_481 locs ht hvm hw hB hz1 hk1 hS2 => ?_)
  obtain ⟨⟨hax, hnn⟩, hk⟩ := hw
  obtain ⟨hP1, -, hD1⟩ := hB
  rw [ht] at hP1
  replace hD := hD1.weaken (fun _ _ _ h => hFc _ h)
  replace hP := hP1
  replace hS := hS2
  obtain ⟨sh, esh⟩ : ∃ w, w = shq := ⟨_, rfl⟩
  subst esh
  replace hl : lv_has ls 3 [(2, .int 24), (0, .ref (a h0)), (1, .int x0)] := by rw [hax h0 (okN_at g_477)]; exact hl
  rw [← hax CBK (Or.inr rfl)] at hSK
  replace hag := hag_new hag hax hnn
  obtain ⟨n, enq⟩ : ∃ w, w = nq := ⟨_, rfl⟩
  subst enq
  refine W.eq (g2 := F0 m 110 ls [.ref (a k_475), .int 24, .ref (a k_471)]) (by rw [hax k_475 (okN_at g_478), hax k_471 (okN_at g_479)]) ?_
  clear hax hnn hP1 hD1 hS2 hFc hfc hz1 hk1 hvm ht
  refine W.widen (k := 287) (n := 245849) (Nat.le_of_ble_eq_true rfl) (Nat.le_of_ble_eq_true rfl) ?_
  obtain ⟨g_482, hf⟩ := grd_some hf
  obtain ⟨kg_482, sg_482, ig_482⟩ := okA_at g_482
  obtain ⟨g_483, hf⟩ := grd_some hf
  obtain ⟨kg_483, sg_483⟩ := okO_at g_483
  refine va_astq hx hb hK hP hD hS k_471 5 k_475 8 (Wd_aq kg_482 sg_482 (by decide)) rfl (Wd_ob kg_483 sg_483 (by decide)) rfl ig_482 dX11_init_110 (fun H_484 locs hP2 hD2 hS2 => ?_)
  rw [Wd_tq sg_482 (by decide)] at hP2 hD2
  obtain ⟨z_485, ez_485⟩ : ∃ w, w = sq z_480 k_471 (24 : Int32).toNatClampNeg (some k_475) := ⟨_, rfl⟩
  rw [← ez_485] at hP2 hD2
  replace hf := lt_at ez_485 hf
  replace hk : lk z_485 n := by rw [ez_485]; exact lk_sq1 hk (Or.inl kg_483)
  clear ez_485
  replace hP := hP2
  replace hD := hD2
  replace hS := hS2
  clear hP2 hD2 hS2
  refine lv_iinc (v := 25) (lv' := [(2, .int 25), (0, .ref (a h0)), (1, .int x0)]) hx hb dX11_init_111 hl (k := 0) rfl rfl (by decide) rfl (fun ls hl2 => ?_)
  replace hl := hl2
  clear hl2
  refine lv_goto (tgt := 92) hx hb dX11_init_114 (by decide) ?_
  refine lv_iload_n hx hb dX11_init_92 rfl (lv_at hl 0 rfl) ?_
  refine lv_bipush (v := 32) hx hb dX11_init_93 (by decide) ?_
  refine lv_icmp_ge (tgt := 117) hx hb dX11_init_95 (by decide) (fun h => absurd h (by decide)) (fun _ => ?_)
  refine lv_aload_n hx hb dX11_init_98 rfl (lv_at hl 1 rfl) ?_
  obtain ⟨g_486, hf⟩ := grd_some hf
  obtain ⟨kg_486, sg_486⟩ := okO_at g_486
  obtain ⟨k_487, ek_487, hf⟩ := lnk_some hf
  refine va_get (D := (dC, dI)) (ci := 11) (v := .ref (a k_487)) (C := RX11) (T := TX11) (N := 13) hx hb hts iwd_X11_init_X11 hown hK hP h0 (Wd_ob kg_486 sg_486 (by decide)) rfl 3 (by decide) (hts _ md_X11_init_7) (fun _ h9 => h9) (fl_q rfl ek_487) dX11_init_99 ?_
  refine lv_iload_n hx hb dX11_init_102 rfl (lv_at hl 0 rfl) ?_
  obtain ⟨g_488, hf⟩ := grd_some hf
  obtain ⟨g_489, hf⟩ := grd_some hf
  refine de_new (ci := 8) (fs := [.int 0, .long 0, .long 0, .int 0, .int 0, .int 0, .null, .int 0, .null, .null, .null, .int 0, .long 0, .int 0, .int 0, .int 0, .null, .null, .null]) (C := RX8) (T := TX8) (N := 19) hf hk hx hb hts iwd_X11_init_X8 tyX8 tyX8_ok hown (hts _ md_X11_init_6) (hts _ md_X11_init_29) (hts _ md_X11_init_30) hK hP hD hS hA rfl rfl df_X8 (Nat.le_of_ble_eq_true rfl) (Nat.le_of_ble_eq_true rfl) dX11_init_103 (fun a sh n z_490 k_491 H_492 hf hax hk hnn hP hD hS => ?_)
  refine W.eq (g2 := F0 m 106 ls [.ref (a k_491), .int 25, .ref (a k_487)]) (by rw [hax k_487 (okN_at g_489)]) ?_
  replace hl : lv_has ls 3 [(2, .int 25), (0, .ref (a h0)), (1, .int x0)] := by rw [hax h0 (okN_at g_488)]; exact hl
  rw [← hax CBK (Or.inr rfl)] at hSK
  replace hag := hag_new hag hax hnn
  clear hax hnn
  refine W.widen (k := 288) (n := 245868) (Nat.le_of_ble_eq_true rfl) (Nat.le_of_ble_eq_true rfl) ?_
  refine lv_dup hx hb dX11_init_106 rfl ?_
  obtain ⟨g_493, hf⟩ := grd_some hf
  obtain ⟨g_494, hf⟩ := grd_some hf
  obtain ⟨g_495, hf⟩ := grd_some hf
  obtain ⟨shq, nq, z_496, _u, hfc, hf⟩ := cala_some hf
  have hFc := de_free hD hS hA
  refine va_callv (va_runIN (As := []) (rest := [.ref (a k_491), .int 25, .ref (a k_487)]) ⟨hx, hb, hml, hown, hts⟩ (da_X8_init l dC dI cy a sh n H_492.size F z_490 k_491 hk hfc) ⟨va_cnB 0 hts ggX11_init_X8_init rfl rfl rfl (NK_m_X11_59 hN) (hts _ md_X11_init_30) ⟨by decide, by decide, by decide +kernel⟩ ⟨Nat.le_of_ble_eq_true rfl, Nat.le_of_ble_eq_true rfl⟩, rfl, (hts _ md_X11_init_151)⟩ ⟨fun a U g mk q => by obtain ⟨q0, q1, qP, qK, qD, qN⟩ := q; exact ⟨q0, q1, qP, va_K.moved (u := U) (U := U.calling g mk a) (Vm.Alike.refl U.vm) qK, qD, qN.same rfl⟩, fun U hU hW => ⟨rfl, by rw [hU], by rw [hU]; exact hP, va_K.moved hW.alike hK, hD.weaken (fun _ _ _ _ => trivial), hN.warm hW⟩⟩ rfl rfl hl.1 rfl (lv_room (Nat.le_of_ble_eq_true rfl)) dX11_init_107 ⟨Nat.le_of_ble_eq_true rfl, Nat.le_of_ble_eq_true rfl⟩) hS (fun q _ h => hFc q h) hFc (fun a t H_497 locs ht hvm hw hB hz1 hk1 hS2 => ?_)
  obtain ⟨⟨hax, hnn⟩, hk⟩ := hw
  obtain ⟨hP1, -, hD1⟩ := hB
  rw [ht] at hP1
  replace hD := hD1.weaken (fun _ _ _ h => hFc _ h)
  replace hP := hP1
  replace hS := hS2
  obtain ⟨sh, esh⟩ : ∃ w, w = shq := ⟨_, rfl⟩
  subst esh
  replace hl : lv_has ls 3 [(2, .int 25), (0, .ref (a h0)), (1, .int x0)] := by rw [hax h0 (okN_at g_493)]; exact hl
  rw [← hax CBK (Or.inr rfl)] at hSK
  replace hag := hag_new hag hax hnn
  obtain ⟨n, enq⟩ : ∃ w, w = nq := ⟨_, rfl⟩
  subst enq
  refine W.eq (g2 := F0 m 110 ls [.ref (a k_491), .int 25, .ref (a k_487)]) (by rw [hax k_491 (okN_at g_494), hax k_487 (okN_at g_495)]) ?_
  clear hax hnn hP1 hD1 hS2 hFc hfc hz1 hk1 hvm ht
  refine W.widen (k := 294) (n := 245916) (Nat.le_of_ble_eq_true rfl) (Nat.le_of_ble_eq_true rfl) ?_
  obtain ⟨g_498, hf⟩ := grd_some hf
  obtain ⟨kg_498, sg_498, ig_498⟩ := okA_at g_498
  obtain ⟨g_499, hf⟩ := grd_some hf
  obtain ⟨kg_499, sg_499⟩ := okO_at g_499
  refine va_astq hx hb hK hP hD hS k_487 5 k_491 8 (Wd_aq kg_498 sg_498 (by decide)) rfl (Wd_ob kg_499 sg_499 (by decide)) rfl ig_498 dX11_init_110 (fun H_500 locs hP2 hD2 hS2 => ?_)
  rw [Wd_tq sg_498 (by decide)] at hP2 hD2
  obtain ⟨z_501, ez_501⟩ : ∃ w, w = sq z_496 k_487 (25 : Int32).toNatClampNeg (some k_491) := ⟨_, rfl⟩
  rw [← ez_501] at hP2 hD2
  replace hf := lt_at ez_501 hf
  replace hk : lk z_501 n := by rw [ez_501]; exact lk_sq1 hk (Or.inl kg_499)
  clear ez_501
  replace hP := hP2
  replace hD := hD2
  replace hS := hS2
  clear hP2 hD2 hS2
  refine lv_iinc (v := 26) (lv' := [(2, .int 26), (0, .ref (a h0)), (1, .int x0)]) hx hb dX11_init_111 hl (k := 0) rfl rfl (by decide) rfl (fun ls hl2 => ?_)
  replace hl := hl2
  clear hl2
  refine lv_goto (tgt := 92) hx hb dX11_init_114 (by decide) ?_
  refine lv_iload_n hx hb dX11_init_92 rfl (lv_at hl 0 rfl) ?_
  refine lv_bipush (v := 32) hx hb dX11_init_93 (by decide) ?_
  refine lv_icmp_ge (tgt := 117) hx hb dX11_init_95 (by decide) (fun h => absurd h (by decide)) (fun _ => ?_)
  refine lv_aload_n hx hb dX11_init_98 rfl (lv_at hl 1 rfl) ?_
  obtain ⟨g_502, hf⟩ := grd_some hf
  obtain ⟨kg_502, sg_502⟩ := okO_at g_502
  obtain ⟨k_503, ek_503, hf⟩ := lnk_some hf
  refine va_get (D := (dC, dI)) (ci := 11) (v := .ref (a k_503)) (C := RX11) (T := TX11) (N := 13) hx hb hts iwd_X11_init_X11 hown hK hP h0 (Wd_ob kg_502 sg_502 (by decide)) rfl 3 (by decide) (hts _ md_X11_init_7) (fun _ h9 => h9) (fl_q rfl ek_503) dX11_init_99 ?_
  refine lv_iload_n hx hb dX11_init_102 rfl (lv_at hl 0 rfl) ?_
  obtain ⟨g_504, hf⟩ := grd_some hf
  obtain ⟨g_505, hf⟩ := grd_some hf
  refine de_new (ci := 8) (fs := [.int 0, .long 0, .long 0, .int 0, .int 0, .int 0, .null, .int 0, .null, .null, .null, .int 0, .long 0, .int 0, .int 0, .int 0, .null, .null, .null]) (C := RX8) (T := TX8) (N := 19) hf hk hx hb hts iwd_X11_init_X8 tyX8 tyX8_ok hown (hts _ md_X11_init_6) (hts _ md_X11_init_29) (hts _ md_X11_init_30) hK hP hD hS hA rfl rfl df_X8 (Nat.le_of_ble_eq_true rfl) (Nat.le_of_ble_eq_true rfl) dX11_init_103 (fun a sh n z_506 k_507 H_508 hf hax hk hnn hP hD hS => ?_)
  refine W.eq (g2 := F0 m 106 ls [.ref (a k_507), .int 26, .ref (a k_503)]) (by rw [hax k_503 (okN_at g_505)]) ?_
  replace hl : lv_has ls 3 [(2, .int 26), (0, .ref (a h0)), (1, .int x0)] := by rw [hax h0 (okN_at g_504)]; exact hl
  rw [← hax CBK (Or.inr rfl)] at hSK
  replace hag := hag_new hag hax hnn
  clear hax hnn
  refine W.widen (k := 295) (n := 245935) (Nat.le_of_ble_eq_true rfl) (Nat.le_of_ble_eq_true rfl) ?_
  refine lv_dup hx hb dX11_init_106 rfl ?_
  obtain ⟨g_509, hf⟩ := grd_some hf
  obtain ⟨g_510, hf⟩ := grd_some hf
  obtain ⟨g_511, hf⟩ := grd_some hf
  obtain ⟨shq, nq, z_512, _u, hfc, hf⟩ := cala_some hf
  have hFc := de_free hD hS hA
  refine va_callv (va_runIN (As := []) (rest := [.ref (a k_507), .int 26, .ref (a k_503)]) ⟨hx, hb, hml, hown, hts⟩ (da_X8_init l dC dI cy a sh n H_508.size F z_506 k_507 hk hfc) ⟨va_cnB 0 hts ggX11_init_X8_init rfl rfl rfl (NK_m_X11_59 hN) (hts _ md_X11_init_30) ⟨by decide, by decide, by decide +kernel⟩ ⟨Nat.le_of_ble_eq_true rfl, Nat.le_of_ble_eq_true rfl⟩, rfl, (hts _ md_X11_init_151)⟩ ⟨fun a U g mk q => by obtain ⟨q0, q1, qP, qK, qD, qN⟩ := q; exact ⟨q0, q1, qP, va_K.moved (u := U) (U := U.calling g mk a) (Vm.Alike.refl U.vm) qK, qD, qN.same rfl⟩, fun U hU hW => ⟨rfl, by rw [hU], by rw [hU]; exact hP, va_K.moved hW.alike hK, hD.weaken (fun _ _ _ _ => trivial), hN.warm hW⟩⟩ rfl rfl hl.1 rfl (lv_room (Nat.le_of_ble_eq_true rfl)) dX11_init_107 ⟨Nat.le_of_ble_eq_true rfl, Nat.le_of_ble_eq_true rfl⟩) hS (fun q _ h => hFc q h) hFc (fun a t H_513 locs ht hvm hw hB hz1 hk1 hS2 => ?_)
  obtain ⟨⟨hax, hnn⟩, hk⟩ := hw
  obtain ⟨hP1, -, hD1⟩ := hB
  rw [ht] at hP1
  replace hD := hD1.weaken (fun _ _ _ h => hFc _ h)
  replace hP := hP1
  replace hS := hS2
  obtain ⟨sh, esh⟩ : ∃ w, w = shq := ⟨_, rfl⟩
  subst esh
  replace hl : lv_has ls 3 [(2, .int 26), (0, .ref (a h0)), (1, .int x0)] := by rw [hax h0 (okN_at g_509)]; exact hl
  rw [← hax CBK (Or.inr rfl)] at hSK
  replace hag := hag_new hag hax hnn
  obtain ⟨n, enq⟩ : ∃ w, w = nq := ⟨_, rfl⟩
  subst enq
  refine W.eq (g2 := F0 m 110 ls [.ref (a k_507), .int 26, .ref (a k_503)]) (by rw [hax k_507 (okN_at g_510), hax k_503 (okN_at g_511)]) ?_
  clear hax hnn hP1 hD1 hS2 hFc hfc hz1 hk1 hvm ht
  refine W.widen (k := 301) (n := 245983) (Nat.le_of_ble_eq_true rfl) (Nat.le_of_ble_eq_true rfl) ?_
  obtain ⟨g_514, hf⟩ := grd_some hf
  obtain ⟨kg_514, sg_514, ig_514⟩ := okA_at g_514
  obtain ⟨g_515, hf⟩ := grd_some hf
  obtain ⟨kg_515, sg_515⟩ := okO_at g_515
  refine va_astq hx hb hK hP hD hS k_503 5 k_507 8 (Wd_aq kg_514 sg_514 (by decide)) rfl (Wd_ob kg_515 sg_515 (by decide)) rfl ig_514 dX11_init_110 (fun H_516 locs hP2 hD2 hS2 => ?_)
  rw [Wd_tq sg_514 (by decide)] at hP2 hD2
  obtain ⟨z_517, ez_517⟩ : ∃ w, w = sq z_512 k_503 (26 : Int32).toNatClampNeg (some k_507) := ⟨_, rfl⟩
  rw [← ez_517] at hP2 hD2
  replace hf := lt_at ez_517 hf
  replace hk : lk z_517 n := by rw [ez_517]; exact lk_sq1 hk (Or.inl kg_515)
  clear ez_517
  replace hP := hP2
  replace hD := hD2
  replace hS := hS2
  clear hP2 hD2 hS2
  refine lv_iinc (v := 27) (lv' := [(2, .int 27), (0, .ref (a h0)), (1, .int x0)]) hx hb dX11_init_111 hl (k := 0) rfl rfl (by decide) rfl (fun ls hl2 => ?_)
  replace hl := hl2
  clear hl2
  refine lv_goto (tgt := 92) hx hb dX11_init_114 (by decide) ?_
  refine lv_iload_n hx hb dX11_init_92 rfl (lv_at hl 0 rfl) ?_
  refine lv_bipush (v := 32) hx hb dX11_init_93 (by decide) ?_
  refine lv_icmp_ge (tgt := 117) hx hb dX11_init_95 (by decide) (fun h => absurd h (by decide)) (fun _ => ?_)
  refine lv_aload_n hx hb dX11_init_98 rfl (lv_at hl 1 rfl) ?_
  obtain ⟨g_518, hf⟩ := grd_some hf
  obtain ⟨kg_518, sg_518⟩ := okO_at g_518
  obtain ⟨k_519, ek_519, hf⟩ := lnk_some hf
  refine va_get (D := (dC, dI)) (ci := 11) (v := .ref (a k_519)) (C := RX11) (T := TX11) (N := 13) hx hb hts iwd_X11_init_X11 hown hK hP h0 (Wd_ob kg_518 sg_518 (by decide)) rfl 3 (by decide) (hts _ md_X11_init_7) (fun _ h9 => h9) (fl_q rfl ek_519) dX11_init_99 ?_
  refine lv_iload_n hx hb dX11_init_102 rfl (lv_at hl 0 rfl) ?_
  obtain ⟨g_520, hf⟩ := grd_some hf
  obtain ⟨g_521, hf⟩ := grd_some hf
  refine de_new (ci := 8) (fs := [.int 0, .long 0, .long 0, .int 0, .int 0, .int 0, .null, .int 0, .null, .null, .null, .int 0, .long 0, .int 0, .int 0, .int 0, .null, .null, .null]) (C := RX8) (T := TX8) (N := 19) hf hk hx hb hts iwd_X11_init_X8 tyX8 tyX8_ok hown (hts _ md_X11_init_6) (hts _ md_X11_init_29) (hts _ md_X11_init_30) hK hP hD hS hA rfl rfl df_X8 (Nat.le_of_ble_eq_true rfl) (Nat.le_of_ble_eq_true rfl) dX11_init_103 (fun a sh n z_522 k_523 H_524 hf hax hk hnn hP hD hS => ?_)
  refine W.eq (g2 := F0 m 106 ls [.ref (a k_523), .int 27, .ref (a k_519)]) (by rw [hax k_519 (okN_at g_521)]) ?_
  replace hl : lv_has ls 3 [(2, .int 27), (0, .ref (a h0)), (1, .int x0)] := by rw [hax h0 (okN_at g_520)]; exact hl
  rw [← hax CBK (Or.inr rfl)] at hSK
  replace hag := hag_new hag hax hnn
  clear hax hnn
  refine W.widen (k := 302) (n := 246002) (Nat.le_of_ble_eq_true rfl) (Nat.le_of_ble_eq_true rfl) ?_
  refine lv_dup hx hb dX11_init_106 rfl ?_
  obtain ⟨g_525, hf⟩ := grd_some hf
  obtain ⟨g_526, hf⟩ := grd_some hf
  obtain ⟨g_527, hf⟩ := grd_some hf
  obtain ⟨shq, nq, z_528, _u, hfc, hf⟩ := cala_some hf
  have hFc := de_free hD hS hA
  refine va_callv (va_runIN (As := []) (rest := [.ref (a k_523), .int 27, .ref (a k_519)]) ⟨hx, hb, hml, hown, hts⟩ (da_X8_init l dC dI cy a sh n H_524.size F z_522 k_523 hk hfc) ⟨va_cnB 0 hts ggX11_init_X8_init rfl rfl rfl (NK_m_X11_59 hN) (hts _ md_X11_init_30) ⟨by decide, by decide, by decide +kernel⟩ ⟨Nat.le_of_ble_eq_true rfl, Nat.le_of_ble_eq_true rfl⟩, rfl, (hts _ md_X11_init_151)⟩ ⟨fun a U g mk q => by obtain ⟨q0, q1, qP, qK, qD, qN⟩ := q; exact ⟨q0, q1, qP, va_K.moved (u := U) (U := U.calling g mk a) (Vm.Alike.refl U.vm) qK, qD, qN.same rfl⟩, fun U hU hW => ⟨rfl, by rw [hU], by rw [hU]; exact hP, va_K.moved hW.alike hK, hD.weaken (fun _ _ _ _ => trivial), hN.warm hW⟩⟩ rfl rfl hl.1 rfl (lv_room (Nat.le_of_ble_eq_true rfl)) dX11_init_107 ⟨Nat.le_of_ble_eq_true rfl, Nat.le_of_ble_eq_true rfl⟩) hS (fun q _ h => hFc q h) hFc (fun a t H_529 locs ht hvm hw hB hz1 hk1 hS2 => ?_)
  obtain ⟨⟨hax, hnn⟩, hk⟩ := hw
  obtain ⟨hP1, -, hD1⟩ := hB
  rw [ht] at hP1
  replace hD := hD1.weaken (fun _ _ _ h => hFc _ h)
  replace hP := hP1
  replace hS := hS2
  obtain ⟨sh, esh⟩ : ∃ w, w = shq := ⟨_, rfl⟩
  subst esh
  replace hl : lv_has ls 3 [(2, .int 27), (0, .ref (a h0)), (1, .int x0)] := by rw [hax h0 (okN_at g_525)]; exact hl
  rw [← hax CBK (Or.inr rfl)] at hSK
  replace hag := hag_new hag hax hnn
  obtain ⟨n, enq⟩ : ∃ w, w = nq := ⟨_, rfl⟩
  subst enq
  refine W.eq (g2 := F0 m 110 ls [.ref (a k_523), .int 27, .ref (a k_519)]) (by rw [hax k_523 (okN_at g_526), hax k_519 (okN_at g_527)]) ?_
  clear hax hnn hP1 hD1 hS2 hFc hfc hz1 hk1 hvm ht
  refine W.widen (k := 308) (n := 246050) (Nat.le_of_ble_eq_true rfl) (Nat.le_of_ble_eq_true rfl) ?_
  obtain ⟨g_530, hf⟩ := grd_some hf
  obtain ⟨kg_530, sg_530, ig_530⟩ := okA_at g_530
  obtain ⟨g_531, hf⟩ := grd_some hf
  obtain ⟨kg_531, sg_531⟩ := okO_at g_531
  refine va_astq hx hb hK hP hD hS k_519 5 k_523 8 (Wd_aq kg_530 sg_530 (by decide)) rfl (Wd_ob kg_531 sg_531 (by decide)) rfl ig_530 dX11_init_110 (fun H_532 locs hP2 hD2 hS2 => ?_)
  rw [Wd_tq sg_530 (by decide)] at hP2 hD2
  obtain ⟨z_533, ez_533⟩ : ∃ w, w = sq z_528 k_519 (27 : Int32).toNatClampNeg (some k_523) := ⟨_, rfl⟩
  rw [← ez_533] at hP2 hD2
  replace hf := lt_at ez_533 hf
  replace hk : lk z_533 n := by rw [ez_533]; exact lk_sq1 hk (Or.inl kg_531)
  clear ez_533
  replace hP := hP2
  replace hD := hD2
  replace hS := hS2
  clear hP2 hD2 hS2
  refine lv_iinc (v := 28) (lv' := [(2, .int 28), (0, .ref (a h0)), (1, .int x0)]) hx hb dX11_init_111 hl (k := 0) rfl rfl (by decide) rfl (fun ls hl2 => ?_)
  replace hl := hl2
  clear hl2
  refine lv_goto (tgt := 92) hx hb dX11_init_114 (by decide) ?_
  refine lv_iload_n hx hb dX11_init_92 rfl (lv_at hl 0 rfl) ?_
  refine lv_bipush (v := 32) hx hb dX11_init_93 (by decide) ?_
  refine lv_icmp_ge (tgt := 117) hx hb dX11_init_95 (by decide) (fun h => absurd h (by decide)) (fun _ => ?_)
  refine lv_aload_n hx hb dX11_init_98 rfl (lv_at hl 1 rfl) ?_
  obtain ⟨g_534, hf⟩ := grd_some hf
  obtain ⟨kg_534, sg_534⟩ := okO_at g_534
  obtain ⟨k_535, ek_535, hf⟩ := lnk_some hf
  refine va_get (D := (dC, dI)) (ci := 11) (v := .ref (a k_535)) (C := RX11) (T := TX11) (N := 13) hx hb hts iwd_X11_init_X11 hown hK hP h0 (Wd_ob kg_534 sg_534 (by decide)) rfl 3 (by decide) (hts _ md_X11_init_7) (fun _ h9 => h9) (fl_q rfl ek_535) dX11_init_99 ?_
  refine lv_iload_n hx hb dX11_init_102 rfl (lv_at hl 0 rfl) ?_
  obtain ⟨g_536, hf⟩ := grd_some hf
  obtain ⟨g_537, hf⟩ := grd_some hf
  refine de_new (ci := 8) (fs := [.int 0, .long 0, .long 0, .int 0, .int 0, .int 0, .null, .int 0, .null, .null, .null, .int 0, .long 0, .int 0, .int 0, .int 0, .null, .null, .null]) (C := RX8) (T := TX8) (N := 19) hf hk hx hb hts iwd_X11_init_X8 tyX8 tyX8_ok hown (hts _ md_X11_init_6) (hts _ md_X11_init_29) (hts _ md_X11_init_30) hK hP hD hS hA rfl rfl df_X8 (Nat.le_of_ble_eq_true rfl) (Nat.le_of_ble_eq_true rfl) dX11_init_103 (fun a sh n z_538 k_539 H_540 hf hax hk hnn hP hD hS => ?_)
  refine W.eq (g2 := F0 m 106 ls [.ref (a k_539), .int 28, .ref (a k_535)]) (by rw [hax k_535 (okN_at g_537)]) ?_
  replace hl : lv_has ls 3 [(2, .int 28), (0, .ref (a h0)), (1, .int x0)] := by rw [hax h0 (okN_at g_536)]; exact hl
  rw [← hax CBK (Or.inr rfl)] at hSK
  replace hag := hag_new hag hax hnn
  clear hax hnn
  refine W.widen (k := 309) (n := 246069) (Nat.le_of_ble_eq_true rfl) (Nat.le_of_ble_eq_true rfl) ?_
  refine lv_dup hx hb dX11_init_106 rfl ?_
  obtain ⟨g_541, hf⟩ := grd_some hf
  obtain ⟨g_542, hf⟩ := grd_some hf
  obtain ⟨g_543, hf⟩ := grd_some hf
  obtain ⟨shq, nq, z_544, _u, hfc, hf⟩ := cala_some hf
  have hFc := de_free hD hS hA
  refine va_callv (va_runIN (As := []) (rest := [.ref (a k_539), .int 28, .ref (a k_535)]) ⟨hx, hb, hml, hown, hts⟩ (da_X8_init l dC dI cy a sh n H_540.size F z_538 k_539 hk hfc) ⟨va_cnB 0 hts ggX11_init_X8_init rfl rfl rfl (NK_m_X11_59 hN) (hts _ md_X11_init_30) ⟨by decide, by decide, by decide +kernel⟩ ⟨Nat.le_of_ble_eq_true rfl, Nat.le_of_ble_eq_true rfl⟩, rfl, (hts _ md_X11_init_151)⟩ ⟨fun a U g mk q => by obtain ⟨q0, q1, qP, qK, qD, qN⟩ := q; exact ⟨q0, q1, qP, va_K.moved (u := U) (U := U.calling g mk a) (Vm.Alike.refl U.vm) qK, qD, qN.same rfl⟩, fun U hU hW => ⟨rfl, by rw [hU], by rw [hU]; exact hP, va_K.moved hW.alike hK, hD.weaken (fun _ _ _ _ => trivial), hN.warm hW⟩⟩ rfl rfl hl.1 rfl (lv_room (Nat.le_of_ble_eq_true rfl)) dX11_init_107 ⟨Nat.le_of_ble_eq_true rfl, Nat.le_of_ble_eq_true rfl⟩) hS (fun q _ h => hFc q h) hFc (fun a t H_545 locs ht hvm hw hB hz1 hk1 hS2 => ?_)
  obtain ⟨⟨hax, hnn⟩, hk⟩ := hw
  obtain ⟨hP1, -, hD1⟩ := hB
  rw [ht] at hP1
  replace hD := hD1.weaken (fun _ _ _ h => hFc _ h)
  replace hP := hP1
  replace hS := hS2
  obtain ⟨sh, esh⟩ : ∃ w, w = shq := ⟨_, rfl⟩
  subst esh
  replace hl : lv_has ls 3 [(2, .int 28), (0, .ref (a h0)), (1, .int x0)] := by rw [hax h0 (okN_at g_541)]; exact hl
  rw [← hax CBK (Or.inr rfl)] at hSK
  replace hag := hag_new hag hax hnn
  obtain ⟨n, enq⟩ : ∃ w, w = nq := ⟨_, rfl⟩
  subst enq
  refine W.eq (g2 := F0 m 110 ls [.ref (a k_539), .int 28, .ref (a k_535)]) (by rw [hax k_539 (okN_at g_542), hax k_535 (okN_at g_543)]) ?_
  clear hax hnn hP1 hD1 hS2 hFc hfc hz1 hk1 hvm ht
  refine W.widen (k := 315) (n := 246117) (Nat.le_of_ble_eq_true rfl) (Nat.le_of_ble_eq_true rfl) ?_
  obtain ⟨g_546, hf⟩ := grd_some hf
  obtain ⟨kg_546, sg_546, ig_546⟩ := okA_at g_546
  obtain ⟨g_547, hf⟩ := grd_some hf
  obtain ⟨kg_547, sg_547⟩ := okO_at g_547
  refine va_astq hx hb hK hP hD hS k_535 5 k_539 8 (Wd_aq kg_546 sg_546 (by decide)) rfl (Wd_ob kg_547 sg_547 (by decide)) rfl ig_546 dX11_init_110 (fun H_548 locs hP2 hD2 hS2 => ?_)
  rw [Wd_tq sg_546 (by decide)] at hP2 hD2
  obtain ⟨z_549, ez_549⟩ : ∃ w, w = sq z_544 k_535 (28 : Int32).toNatClampNeg (some k_539) := ⟨_, rfl⟩
  rw [← ez_549] at hP2 hD2
  replace hf := lt_at ez_549 hf
  replace hk : lk z_549 n := by rw [ez_549]; exact lk_sq1 hk (Or.inl kg_547)
  clear ez_549
  replace hP := hP2
  replace hD := hD2
  replace hS := hS2
  clear hP2 hD2 hS2
  refine lv_iinc (v := 29) (lv' := [(2, .int 29), (0, .ref (a h0)), (1, .int x0)]) hx hb dX11_init_111 hl (k := 0) rfl rfl (by decide) rfl (fun ls hl2 => ?_)
  replace hl := hl2
  clear hl2
  refine lv_goto (tgt := 92) hx hb dX11_init_114 (by decide) ?_
  refine lv_iload_n hx hb dX11_init_92 rfl (lv_at hl 0 rfl) ?_
  refine lv_bipush (v := 32) hx hb dX11_init_93 (by decide) ?_
  refine lv_icmp_ge (tgt := 117) hx hb dX11_init_95 (by decide) (fun h => absurd h (by decide)) (fun _ => ?_)
  refine lv_aload_n hx hb dX11_init_98 rfl (lv_at hl 1 rfl) ?_
  obtain ⟨g_550, hf⟩ := grd_some hf
  obtain ⟨kg_550, sg_550⟩ := okO_at g_550
  obtain ⟨k_551, ek_551, hf⟩ := lnk_some hf
  refine va_get (D := (dC, dI)) (ci := 11) (v := .ref (a k_551)) (C := RX11) (T := TX11) (N := 13) hx hb hts iwd_X11_init_X11 hown hK hP h0 (Wd_ob kg_550 sg_550 (by decide)) rfl 3 (by decide) (hts _ md_X11_init_7) (fun _ h9 => h9) (fl_q rfl ek_551) dX11_init_99 ?_
  refine lv_iload_n hx hb dX11_init_102 rfl (lv_at hl 0 rfl) ?_
  obtain ⟨g_552, hf⟩ := grd_some hf
  obtain ⟨g_553, hf⟩ := grd_some hf
  refine de_new (ci := 8) (fs := [.int 0, .long 0, .long 0, .int 0, .int 0, .int 0, .null, .int 0, .null, .null, .null, .int 0, .long 0, .int 0, .int 0, .int 0, .null, .null, .null]) (C := RX8) (T := TX8) (N := 19) hf hk hx hb hts iwd_X11_init_X8 tyX8 tyX8_ok hown (hts _ md_X11_init_6) (hts _ md_X11_init_29) (hts _ md_X11_init_30) hK hP hD hS hA rfl rfl df_X8 (Nat.le_of_ble_eq_true rfl) (Nat.le_of_ble_eq_true rfl) dX11_init_103 (fun a sh n z_554 k_555 H_556 hf hax hk hnn hP hD hS => ?_)
  refine W.eq (g2 := F0 m 106 ls [.ref (a k_555), .int 29, .ref (a k_551)]) (by rw [hax k_551 (okN_at g_553)]) ?_
  replace hl : lv_has ls 3 [(2, .int 29), (0, .ref (a h0)), (1, .int x0)] := by rw [hax h0 (okN_at g_552)]; exact hl
  rw [← hax CBK (Or.inr rfl)] at hSK
  replace hag := hag_new hag hax hnn
  clear hax hnn
  refine W.widen (k := 316) (n := 246136) (Nat.le_of_ble_eq_true rfl) (Nat.le_of_ble_eq_true rfl) ?_
  refine lv_dup hx hb dX11_init_106 rfl ?_
  obtain ⟨g_557, hf⟩ := grd_some hf
  obtain ⟨g_558, hf⟩ := grd_some hf
  obtain ⟨g_559, hf⟩ := grd_some hf
  obtain ⟨shq, nq, z_560, _u, hfc, hf⟩ := cala_some hf
  have hFc := de_free hD hS hA
  refine va_callv (va_runIN (As := []) (rest := [.ref (a k_555), .int 29, .ref (a k_551)]) ⟨hx, hb, hml, hown, hts⟩ (da_X8_init l dC dI cy a sh n H_556.size F z_554 k_555 hk hfc) ⟨va_cnB 0 hts ggX11_init_X8_init rfl rfl rfl (NK_m_X11_59 hN) (hts _ md_X11_init_30) ⟨by decide, by decide, by decide +kernel⟩ ⟨Nat.le_of_ble_eq_true rfl, Nat.le_of_ble_eq_true rfl⟩, rfl, (hts _ md_X11_init_151)⟩ ⟨fun a U g mk q => by obtain ⟨q0, q1, qP, qK, qD, qN⟩ := q; exact ⟨q0, q1, qP, va_K.moved (u := U) (U := U.calling g mk a) (Vm.Alike.refl U.vm) qK, qD, qN.same rfl⟩, fun U hU hW => ⟨rfl, by rw [hU], by rw [hU]; exact hP, va_K.moved hW.alike hK, hD.weaken (fun _ _ _ _ => trivial), hN.warm hW⟩⟩ rfl rfl hl.1 rfl (lv_room (Nat.le_of_ble_eq_true rfl)) dX11_init_107 ⟨Nat.le_of_ble_eq_true rfl, Nat.le_of_ble_eq_true rfl⟩) hS (fun q _ h => hFc q h) hFc (fun a t H_561 locs ht hvm hw hB hz1 hk1 hS2 => ?_)
  obtain ⟨⟨hax, hnn⟩, hk⟩ := hw
  obtain ⟨hP1, -, hD1⟩ := hB
  rw [ht] at hP1
  replace hD := hD1.weaken (fun _ _ _ h => hFc _ h)
  replace hP := hP1
  replace hS := hS2
  obtain ⟨sh, esh⟩ : ∃ w, w = shq := ⟨_, rfl⟩
  subst esh
  replace hl : lv_has ls 3 [(2, .int 29), (0, .ref (a h0)), (1, .int x0)] := by rw [hax h0 (okN_at g_557)]; exact hl
  rw [← hax CBK (Or.inr rfl)] at hSK
  replace hag := hag_new hag hax hnn
  obtain ⟨n, enq⟩ : ∃ w, w = nq := ⟨_, rfl⟩
  subst enq
  refine W.eq (g2 := F0 m 110 ls [.ref (a k_555), .int 29, .ref (a k_551)]) (by rw [hax k_555 (okN_at g_558), hax k_551 (okN_at g_559)]) ?_
  clear hax hnn hP1 hD1 hS2 hFc hfc hz1 hk1 hvm ht
  refine W.widen (k := 322) (n := 246184) (Nat.le_of_ble_eq_true rfl) (Nat.le_of_ble_eq_true rfl) ?_
  obtain ⟨g_562, hf⟩ := grd_some hf
  obtain ⟨kg_562, sg_562, ig_562⟩ := okA_at g_562
  obtain ⟨g_563, hf⟩ := grd_some hf
  obtain ⟨kg_563, sg_563⟩ := okO_at g_563
  refine va_astq hx hb hK hP hD hS k_551 5 k_555 8 (Wd_aq kg_562 sg_562 (by decide)) rfl (Wd_ob kg_563 sg_563 (by decide)) rfl ig_562 dX11_init_110 (fun H_564 locs hP2 hD2 hS2 => ?_)
  rw [Wd_tq sg_562 (by decide)] at hP2 hD2
  obtain ⟨z_565, ez_565⟩ : ∃ w, w = sq z_560 k_551 (29 : Int32).toNatClampNeg (some k_555) := ⟨_, rfl⟩
  rw [← ez_565] at hP2 hD2
  replace hf := lt_at ez_565 hf
  replace hk : lk z_565 n := by rw [ez_565]; exact lk_sq1 hk (Or.inl kg_563)
  clear ez_565
  replace hP := hP2
  replace hD := hD2
  replace hS := hS2
  clear hP2 hD2 hS2
  refine lv_iinc (v := 30) (lv' := [(2, .int 30), (0, .ref (a h0)), (1, .int x0)]) hx hb dX11_init_111 hl (k := 0) rfl rfl (by decide) rfl (fun ls hl2 => ?_)
  replace hl := hl2
  clear hl2
  refine lv_goto (tgt := 92) hx hb dX11_init_114 (by decide) ?_
  refine lv_iload_n hx hb dX11_init_92 rfl (lv_at hl 0 rfl) ?_
  refine lv_bipush (v := 32) hx hb dX11_init_93 (by decide) ?_
  refine lv_icmp_ge (tgt := 117) hx hb dX11_init_95 (by decide) (fun h => absurd h (by decide)) (fun _ => ?_)
  refine lv_aload_n hx hb dX11_init_98 rfl (lv_at hl 1 rfl) ?_
  obtain ⟨g_566, hf⟩ := grd_some hf
  obtain ⟨kg_566, sg_566⟩ := okO_at g_566
  obtain ⟨k_567, ek_567, hf⟩ := lnk_some hf
  refine va_get (D := (dC, dI)) (ci := 11) (v := .ref (a k_567)) (C := RX11) (T := TX11) (N := 13) hx hb hts iwd_X11_init_X11 hown hK hP h0 (Wd_ob kg_566 sg_566 (by decide)) rfl 3 (by decide) (hts _ md_X11_init_7) (fun _ h9 => h9) (fl_q rfl ek_567) dX11_init_99 ?_
  refine lv_iload_n hx hb dX11_init_102 rfl (lv_at hl 0 rfl) ?_
  obtain ⟨g_568, hf⟩ := grd_some hf
  obtain ⟨g_569, hf⟩ := grd_some hf
  refine de_new (ci := 8) (fs := [.int 0, .long 0, .long 0, .int 0, .int 0, .int 0, .null, .int 0, .null, .null, .null, .int 0, .long 0, .int 0, .int 0, .int 0, .null, .null, .null]) (C := RX8) (T := TX8) (N := 19) hf hk hx hb hts iwd_X11_init_X8 tyX8 tyX8_ok hown (hts _ md_X11_init_6) (hts _ md_X11_init_29) (hts _ md_X11_init_30) hK hP hD hS hA rfl rfl df_X8 (Nat.le_of_ble_eq_true rfl) (Nat.le_of_ble_eq_true rfl) dX11_init_103 (fun a sh n z_570 k_571 H_572 hf hax hk hnn hP hD hS => ?_)
  refine W.eq (g2 := F0 m 106 ls [.ref (a k_571), .int 30, .ref (a k_567)]) (by rw [hax k_567 (okN_at g_569)]) ?_
  replace hl : lv_has ls 3 [(2, .int 30), (0, .ref (a h0)), (1, .int x0)] := by rw [hax h0 (okN_at g_568)]; exact hl
  rw [← hax CBK (Or.inr rfl)] at hSK
  replace hag := hag_new hag hax hnn
  clear hax hnn
  refine W.widen (k := 323) (n := 246203) (Nat.le_of_ble_eq_true rfl) (Nat.le_of_ble_eq_true rfl) ?_
  refine lv_dup hx hb dX11_init_106 rfl ?_
  obtain ⟨g_573, hf⟩ := grd_some hf
  obtain ⟨g_574, hf⟩ := grd_some hf
  obtain ⟨g_575, hf⟩ := grd_some hf
  obtain ⟨shq, nq, z_576, _u, hfc, hf⟩ := cala_some hf
  have hFc := de_free hD hS hA
  refine va_callv (va_runIN (As := []) (rest := [.ref (a k_571), .int 30, .ref (a k_567)]) ⟨hx, hb, hml, hown, hts⟩ (da_X8_init l dC dI cy a sh n H_572.size F z_570 k_571 hk hfc) ⟨va_cnB 0 hts ggX11_init_X8_init rfl rfl rfl (NK_m_X11_59 hN) (hts _ md_X11_init_30) ⟨by decide, by decide, by decide +kernel⟩ ⟨Nat.le_of_ble_eq_true rfl, Nat.le_of_ble_eq_true rfl⟩, rfl, (hts _ md_X11_init_151)⟩ ⟨fun a U g mk q => by obtain ⟨q0, q1, qP, qK, qD, qN⟩ := q; exact ⟨q0, q1, qP, va_K.moved (u := U) (U := U.calling g mk a) (Vm.Alike.refl U.vm) qK, qD, qN.same rfl⟩, fun U hU hW => ⟨rfl, by rw [hU], by rw [hU]; exact hP, va_K.moved hW.alike hK, hD.weaken (fun _ _ _ _ => trivial), hN.warm hW⟩⟩ rfl rfl hl.1 rfl (lv_room (Nat.le_of_ble_eq_true rfl)) dX11_init_107 ⟨Nat.le_of_ble_eq_true rfl, Nat.le_of_ble_eq_true rfl⟩) hS (fun q _ h => hFc q h) hFc (fun a t H_577 locs ht hvm hw hB hz1 hk1 hS2 => ?_)
  obtain ⟨⟨hax, hnn⟩, hk⟩ := hw
  obtain ⟨hP1, -, hD1⟩ := hB
  rw [ht] at hP1
  replace hD := hD1.weaken (fun _ _ _ h => hFc _ h)
  replace hP := hP1
  replace hS := hS2
  obtain ⟨sh, esh⟩ : ∃ w, w = shq := ⟨_, rfl⟩
  subst esh
  replace hl : lv_has ls 3 [(2, .int 30), (0, .ref (a h0)), (1, .int x0)] := by rw [hax h0 (okN_at g_573)]; exact hl
  rw [← hax CBK (Or.inr rfl)] at hSK
  replace hag := hag_new hag hax hnn
  obtain ⟨n, enq⟩ : ∃ w, w = nq := ⟨_, rfl⟩
  subst enq
  refine W.eq (g2 := F0 m 110 ls [.ref (a k_571), .int 30, .ref (a k_567)]) (by rw [hax k_571 (okN_at g_574), hax k_567 (okN_at g_575)]) ?_
  clear hax hnn hP1 hD1 hS2 hFc hfc hz1 hk1 hvm ht
  refine W.widen (k := 329) (n := 246251) (Nat.le_of_ble_eq_true rfl) (Nat.le_of_ble_eq_true rfl) ?_
  obtain ⟨g_578, hf⟩ := grd_some hf
  obtain ⟨kg_578, sg_578, ig_578⟩ := okA_at g_578
  obtain ⟨g_579, hf⟩ := grd_some hf
  obtain ⟨kg_579, sg_579⟩ := okO_at g_579
  refine va_astq hx hb hK hP hD hS k_567 5 k_571 8 (Wd_aq kg_578 sg_578 (by decide)) rfl (Wd_ob kg_579 sg_579 (by decide)) rfl ig_578 dX11_init_110 (fun H_580 locs hP2 hD2 hS2 => ?_)
  rw [Wd_tq sg_578 (by decide)] at hP2 hD2
  obtain ⟨z_581, ez_581⟩ : ∃ w, w = sq z_576 k_567 (30 : Int32).toNatClampNeg (some k_571) := ⟨_, rfl⟩
  rw [← ez_581] at hP2 hD2
  replace hf := lt_at ez_581 hf
  replace hk : lk z_581 n := by rw [ez_581]; exact lk_sq1 hk (Or.inl kg_579)
  clear ez_581
  replace hP := hP2
  replace hD := hD2
  replace hS := hS2
  clear hP2 hD2 hS2
  refine lv_iinc (v := 31) (lv' := [(2, .int 31), (0, .ref (a h0)), (1, .int x0)]) hx hb dX11_init_111 hl (k := 0) rfl rfl (by decide) rfl (fun ls hl2 => ?_)
  replace hl := hl2
  clear hl2
  refine lv_goto (tgt := 92) hx hb dX11_init_114 (by decide) ?_
  refine lv_iload_n hx hb dX11_init_92 rfl (lv_at hl 0 rfl) ?_
  refine lv_bipush (v := 32) hx hb dX11_init_93 (by decide) ?_
  refine lv_icmp_ge (tgt := 117) hx hb dX11_init_95 (by decide) (fun h => absurd h (by decide)) (fun _ => ?_)
  refine lv_aload_n hx hb dX11_init_98 rfl (lv_at hl 1 rfl) ?_
  obtain ⟨g_582, hf⟩ := grd_some hf
  obtain ⟨kg_582, sg_582⟩ := okO_at g_582
  obtain ⟨k_583, ek_583, hf⟩ := lnk_some hf
  refine va_get (D := (dC, dI)) (ci := 11) (v := .ref (a k_583)) (C := RX11) (T := TX11) (N := 13) hx hb hts iwd_X11_init_X11 hown hK hP h0 (Wd_ob kg_582 sg_582 (by decide)) rfl 3 (by decide) (hts _ md_X11_init_7) (fun _ h9 => h9) (fl_q rfl ek_583) dX11_init_99 ?_
  refine lv_iload_n hx hb dX11_init_102 rfl (lv_at hl 0 rfl) ?_
  obtain ⟨g_584, hf⟩ := grd_some hf
  obtain ⟨g_585, hf⟩ := grd_some hf
  refine de_new (ci := 8) (fs := [.int 0, .long 0, .long 0, .int 0, .int 0, .int 0, .null, .int 0, .null, .null, .null, .int 0, .long 0, .int 0, .int 0, .int 0, .null, .null, .null]) (C := RX8) (T := TX8) (N := 19) hf hk hx hb hts iwd_X11_init_X8 tyX8 tyX8_ok hown (hts _ md_X11_init_6) (hts _ md_X11_init_29) (hts _ md_X11_init_30) hK hP hD hS hA rfl rfl df_X8 (Nat.le_of_ble_eq_true rfl) (Nat.le_of_ble_eq_true rfl) dX11_init_103 (fun a sh n z_586 k_587 H_588 hf hax hk hnn hP hD hS => ?_)
  refine W.eq (g2 := F0 m 106 ls [.ref (a k_587), .int 31, .ref (a k_583)]) (by rw [hax k_583 (okN_at g_585)]) ?_
  replace hl : lv_has ls 3 [(2, .int 31), (0, .ref (a h0)), (1, .int x0)] := by rw [hax h0 (okN_at g_584)]; exact hl
  rw [← hax CBK (Or.inr rfl)] at hSK
  replace hag := hag_new hag hax hnn
  clear hax hnn
  refine W.widen (k := 330) (n := 246270) (Nat.le_of_ble_eq_true rfl) (Nat.le_of_ble_eq_true rfl) ?_
  refine lv_dup hx hb dX11_init_106 rfl ?_
  obtain ⟨g_589, hf⟩ := grd_some hf
  obtain ⟨g_590, hf⟩ := grd_some hf
  obtain ⟨g_591, hf⟩ := grd_some hf
  obtain ⟨shq, nq, z_592, _u, hfc, hf⟩ := cala_some hf
  have hFc := de_free hD hS hA
  refine va_callv (va_runIN (As := []) (rest := [.ref (a k_587), .int 31, .ref (a k_583)]) ⟨hx, hb, hml, hown, hts⟩ (da_X8_init l dC dI cy a sh n H_588.size F z_586 k_587 hk hfc) ⟨va_cnB 0 hts ggX11_init_X8_init rfl rfl rfl (NK_m_X11_59 hN) (hts _ md_X11_init_30) ⟨by decide, by decide, by decide +kernel⟩ ⟨Nat.le_of_ble_eq_true rfl, Nat.le_of_ble_eq_true rfl⟩, rfl, (hts _ md_X11_init_151)⟩ ⟨fun a U g mk q => by obtain ⟨q0, q1, qP, qK, qD, qN⟩ := q; exact ⟨q0, q1, qP, va_K.moved (u := U) (U := U.calling g mk a) (Vm.Alike.refl U.vm) qK, qD, qN.same rfl⟩, fun U hU hW => ⟨rfl, by rw [hU], by rw [hU]; exact hP, va_K.moved hW.alike hK, hD.weaken (fun _ _ _ _ => trivial), hN.warm hW⟩⟩ rfl rfl hl.1 rfl (lv_room (Nat.le_of_ble_eq_true rfl)) dX11_init_107 ⟨Nat.le_of_ble_eq_true rfl, Nat.le_of_ble_eq_true rfl⟩) hS (fun q _ h => hFc q h) hFc (fun a t H_593 locs ht hvm hw hB hz1 hk1 hS2 => ?_)
  obtain ⟨⟨hax, hnn⟩, hk⟩ := hw
  obtain ⟨hP1, -, hD1⟩ := hB
  rw [ht] at hP1
  replace hD := hD1.weaken (fun _ _ _ h => hFc _ h)
  replace hP := hP1
  replace hS := hS2
  obtain ⟨sh, esh⟩ : ∃ w, w = shq := ⟨_, rfl⟩
  subst esh
  replace hl : lv_has ls 3 [(2, .int 31), (0, .ref (a h0)), (1, .int x0)] := by rw [hax h0 (okN_at g_589)]; exact hl
  rw [← hax CBK (Or.inr rfl)] at hSK
  replace hag := hag_new hag hax hnn
  obtain ⟨n, enq⟩ : ∃ w, w = nq := ⟨_, rfl⟩
  subst enq
  refine W.eq (g2 := F0 m 110 ls [.ref (a k_587), .int 31, .ref (a k_583)]) (by rw [hax k_587 (okN_at g_590), hax k_583 (okN_at g_591)]) ?_
  clear hax hnn hP1 hD1 hS2 hFc hfc hz1 hk1 hvm ht
  refine W.widen (k := 336) (n := 246318) (Nat.le_of_ble_eq_true rfl) (Nat.le_of_ble_eq_true rfl) ?_
  obtain ⟨g_594, hf⟩ := grd_some hf
  obtain ⟨kg_594, sg_594, ig_594⟩ := okA_at g_594
  obtain ⟨g_595, hf⟩ := grd_some hf
  obtain ⟨kg_595, sg_595⟩ := okO_at g_595
  refine va_astq hx hb hK hP hD hS k_583 5 k_587 8 (Wd_aq kg_594 sg_594 (by decide)) rfl (Wd_ob kg_595 sg_595 (by decide)) rfl ig_594 dX11_init_110 (fun H_596 locs hP2 hD2 hS2 => ?_)
  rw [Wd_tq sg_594 (by decide)] at hP2 hD2
  obtain ⟨z_597, ez_597⟩ : ∃ w, w = sq z_592 k_583 (31 : Int32).toNatClampNeg (some k_587) := ⟨_, rfl⟩
  rw [← ez_597] at hP2 hD2
  replace hf := lt_at ez_597 hf
  replace hk : lk z_597 n := by rw [ez_597]; exact lk_sq1 hk (Or.inl kg_595)
  clear ez_597
  replace hP := hP2
  replace hD := hD2
  replace hS := hS2
  clear hP2 hD2 hS2
  refine lv_iinc (v := 32) (lv' := [(2, .int 32), (0, .ref (a h0)), (1, .int x0)]) hx hb dX11_init_111 hl (k := 0) rfl rfl (by decide) rfl (fun ls hl2 => ?_)
  replace hl := hl2
  clear hl2
  refine lv_goto (tgt := 92) hx hb dX11_init_114 (by decide) ?_
  refine lv_iload_n hx hb dX11_init_92 rfl (lv_at hl 0 rfl) ?_
  refine lv_bipush (v := 32) hx hb dX11_init_93 (by decide) ?_
  refine lv_icmp_ge (tgt := 117) hx hb dX11_init_95 (by decide) (fun _ => ?_) (fun h => absurd (by decide) h)
  refine lv_aload_n hx hb dX11_init_117 rfl (lv_at hl 1 rfl) ?_
  obtain ⟨g_598, hf⟩ := grd_some hf
  obtain ⟨kg_598, sg_598⟩ := okO_at g_598
  obtain ⟨k_599, ek_599, hf⟩ := lnk_some hf
  refine va_get (D := (dC, dI)) (ci := 11) (v := .ref (a k_599)) (C := RX11) (T := TX11) (N := 13) hx hb hts iwd_X11_init_X11 hown hK hP h0 (Wd_ob kg_598 sg_598 (by decide)) rfl 6 (by decide) (hts _ md_X11_init_11) (fun _ h9 => h9) (fl_q rfl ek_599) dX11_init_118 ?_
  obtain ⟨g_600, hf⟩ := grd_some hf
  obtain ⟨kg_600, sg_600⟩ := okO_at g_600
  obtain ⟨k_601, ek_601, hf⟩ := lnk_some hf
  refine va_get (D := (dC, dI)) (ci := 7) (v := .ref (a k_601)) (C := RX7) (T := TX7) (N := 16) hx hb hts iwd_X11_init_X7 hown hK hP k_599 (Wd_ob kg_600 sg_600 (by decide)) rfl 4 (by decide) (hts _ md_X11_init_31) (fun _ h9 => h9) (fl_q rfl ek_601) dX11_init_121 ?_
  refine lv_iconst (v := 0) hx hb dX11_init_124 (by decide) ?_
  obtain ⟨g_602, hf⟩ := grd_some hf
  obtain ⟨kg_602, sg_602, ig_602⟩ := okA_at g_602
  obtain ⟨k_603, ek_603, hf⟩ := lnk_some hf
  refine va_aldq (C := RX5) hx hb hK hP k_601 4 (Wd_aq kg_602 sg_602 (by decide)) rfl ig_602 dX11_init_125 ?_
  refine W.eq (g2 := F0 m 126 ls [.ref (a k_603)]) (by rw [ek_603]; rfl) ?_
  refine lv_astore_n (lv' := [(2, .ref (a k_603)), (0, .ref (a h0)), (1, .int x0)]) hx hb dX11_init_126 rfl hl (by decide) rfl (fun ls hl2 => ?_)
  replace hl := hl2
  clear hl2
  refine lv_aload_n hx hb dX11_init_127 rfl (lv_at hl 0 rfl) ?_
  refine va_gets hx hb hSK.1.1 hS hown (hts _ md_X11_init_32) (fun _ h => h) dX11_init_128 ?_
  obtain ⟨g_605, hf⟩ := grd_some hf
  obtain ⟨kg_605, sg_605⟩ := okO_at g_605
  obtain ⟨z_604, _u, hfc, hf⟩ := cal_some hf
  have hFc := de_free hD hS hA
  refine va_callv (va_runV (As := [.ref (a CBK)]) (rest := []) ⟨hx, hb, hml, hown, hts⟩ (de_X5_lay l dC dI cy a sh n H_596.size F sk z_597 k_603 CBK hfc) (cwV 1 hts gX11_init_X5_lay rfl rfl rfl (by decide +kernel) ⟨Nat.le_of_ble_eq_true rfl, Nat.le_of_ble_eq_true rfl⟩) ⟨fun a U g mk q => by obtain ⟨q0, q1, qP, qK, qD, qN, qS⟩ := q; exact ⟨q0, q1, qP, va_K.moved (u := U) (U := U.calling g mk a) (Vm.Alike.refl U.vm) qK, qD, qN.same rfl, SKs.moved (u := U) (U := U.calling g mk a) (Vm.Alike.refl U.vm) qS⟩, va_recv hK hP (ci := 5) (q0 := k_603) rfl (Wd_ob kg_605 sg_605 (by decide)), fun U hU hW => ⟨rfl, by rw [hU], by rw [hU]; exact hP, va_K.moved hW.alike hK, hD.weaken (fun _ _ _ _ => trivial), hN.warm hW, by rw [hU]; exact ((hSK.kept hS.2.1).narrow hFc).moved hW.alike⟩⟩ rfl rfl hl.1 rfl (lv_room (Nat.le_of_ble_eq_true rfl)) dX11_init_131 ⟨Nat.le_of_ble_eq_true rfl, Nat.le_of_ble_eq_true rfl⟩) hS (fun q _ h => hFc q h) hFc (fun u t H_606 locs ht hvm hw hB hz1 hk1 hS2 => ?_)
  obtain ⟨hP1, -, hD1⟩ := hB
  rw [ht] at hP1
  replace hD := hD1.weaken (fun _ _ _ h => hFc _ h)
  replace hP := hP1
  replace hS := hS2
  clear hP1 hD1 hS2 hFc hfc hz1 hk1 hvm ht
  clear hk
  refine lv_aload_n hx hb dX11_init_134 rfl (lv_at hl 1 rfl) ?_
  obtain ⟨k_607, ek_607, hf⟩ := lnk_some hf
  refine va_get (D := (dC, dI)) (ci := 11) (v := .ref (a k_607)) (C := RX11) (T := TX11) (N := 13) hx hb hts iwd_X11_init_X11 hown hK hP h0 (Wd_ob kg_598 sg_598 (by decide)) rfl 7 (by decide) (hts _ md_X11_init_15) (fun _ h9 => h9) (fl_q rfl ek_607) dX11_init_135 ?_
  refine lv_aload_n hx hb dX11_init_138 rfl (lv_at hl 0 rfl) ?_
  obtain ⟨g_610, hf⟩ := grd_some hf
  obtain ⟨kg_610, sg_610⟩ := okO_at g_610
  obtain ⟨z_608, r_609, hfc, hf⟩ := cal_some hf
  have hFc := de_free hD hS hA
  refine va_calli (va_runV (As := [.ref (a k_603)]) (rest := []) ⟨hx, hb, hml, hown, hts⟩ (de_X6_read l dC dI cy a sh n H_606.size F sk z_604 k_607 k_603 hfc) (cwV 1 hts gX11_init_X6_read rfl rfl rfl (by decide +kernel) ⟨Nat.le_of_ble_eq_true rfl, Nat.le_of_ble_eq_true rfl⟩) ⟨fun a U g mk q => by obtain ⟨q0, q1, qP, qK, qD, qN, qS⟩ := q; exact ⟨q0, q1, qP, va_K.moved (u := U) (U := U.calling g mk a) (Vm.Alike.refl U.vm) qK, qD, qN.same rfl, SKs.moved (u := U) (U := U.calling g mk a) (Vm.Alike.refl U.vm) qS⟩, va_recv hK hP (ci := 6) (q0 := k_607) rfl (Wd_ob kg_610 sg_610 (by decide)), fun U hU hW => ⟨rfl, by rw [hU], by rw [hU]; exact hP, va_K.moved hW.alike hK, hD.weaken (fun _ _ _ _ => trivial), hN.warm hW, by rw [hU]; exact ((hSK.kept hS.2.1).narrow hFc).moved hW.alike⟩⟩ rfl rfl hl.1 rfl (lv_room (Nat.le_of_ble_eq_true rfl)) dX11_init_139 ⟨Nat.le_of_ble_eq_true rfl, Nat.le_of_ble_eq_true rfl⟩) hS (fun q _ h => hFc q h) hFc (fun rr u t H_611 locs ht hvm hw hB hz1 hk1 hS2 => ?_)
  rw [hw]
  clear hw
  obtain ⟨hP1, -, hD1⟩ := hB
  rw [ht] at hP1
  replace hD := hD1.weaken (fun _ _ _ h => hFc _ h)
  replace hP := hP1
  replace hS := hS2
  clear hP1 hD1 hS2 hFc hfc hz1 hk1 hvm ht
  clear hk
  refine lv_pop hx hb dX11_init_142 rfl ?_
  refine lv_aload_n hx hb dX11_init_143 rfl (lv_at hl 0 rfl) ?_
  refine lv_aload_n hx hb dX11_init_144 rfl (lv_at hl 1 rfl) ?_
  obtain ⟨k_612, ek_612, hf⟩ := lnk_some hf
  refine va_get (D := (dC, dI)) (ci := 11) (v := .ref (a k_612)) (C := RX11) (T := TX11) (N := 13) hx hb hts iwd_X11_init_X11 hown hK hP h0 (Wd_ob kg_598 sg_598 (by decide)) rfl 6 (by decide) (hts _ md_X11_init_11) (fun _ h9 => h9) (fl_q rfl ek_612) dX11_init_145 ?_
  obtain ⟨z_613, _u, hfc, hf⟩ := cal_some hf
  have hFc := de_free hD hS hA
  refine va_callv (va_runV (As := [.ref (a k_612)]) (rest := []) ⟨hx, hb, hml, hown, hts⟩ (de_X5_measure l dC dI cy a sh n H_611.size F z_608 k_603 k_612 hfc) (cwV 1 hts gX11_init_X5_measure rfl rfl rfl (by decide +kernel) ⟨Nat.le_of_ble_eq_true rfl, Nat.le_of_ble_eq_true rfl⟩) ⟨fun a U g mk q => by obtain ⟨q0, q1, qP, qK, qD, qN⟩ := q; exact ⟨q0, q1, qP, va_K.moved (u := U) (U := U.calling g mk a) (Vm.Alike.refl U.vm) qK, qD, qN.same rfl⟩, va_recv hK hP (ci := 5) (q0 := k_603) rfl (Wd_ob kg_605 sg_605 (by decide)), fun U hU hW => ⟨rfl, by rw [hU], by rw [hU]; exact hP, va_K.moved hW.alike hK, hD.weaken (fun _ _ _ _ => trivial), hN.warm hW⟩⟩ rfl rfl hl.1 rfl (lv_room (Nat.le_of_ble_eq_true rfl)) dX11_init_148 ⟨Nat.le_of_ble_eq_true rfl, Nat.le_of_ble_eq_true rfl⟩) hS (fun q _ h => hFc q h) hFc (fun u t H_614 locs ht hvm hw hB hz1 hk1 hS2 => ?_)
  obtain ⟨hP1, -, hD1⟩ := hB
  rw [ht] at hP1
  replace hD := hD1.weaken (fun _ _ _ h => hFc _ h)
  replace hP := hP1
  replace hS := hS2
  clear hP1 hD1 hS2 hFc hfc hz1 hk1 hvm ht
  clear hk
  obtain ⟨h5, h6, h8, h9⟩ := rta_some hf
  rw [h5, h6, h8]
  exact W.vret hx hb hr (fun t ht hW => ⟨⟨a, rfl, hag, by rw [ht]; exact hP, va_K.moved hW.alike hK, hD⟩, hS.F ht⟩) hS.2.2 dX11_init_151

theorem md_J7_copyOf_9075b_7 : (.arrayClass .byte : Cond) ∈ wsJ7_copyOf_9075b := List.mem_of_getElem? (i := 7) rfl
theorem md_J7_copyOf_9075b_8 : (.methodLink RJ7 304 Lib.Math.min.name : Cond) ∈ wsJ7_copyOf_9075b := List.mem_of_getElem? (i := 8) rfl
theorem md_J7_copyOf_9075b_9 : (.static Lib.Math.min.name : Cond) ∈ wsJ7_copyOf_9075b := List.mem_of_getElem? (i := 9) rfl
theorem md_J7_copyOf_9075b_10 : (.initialized "java/lang/Math" : Cond) ∈ wsJ7_copyOf_9075b := List.mem_of_getElem? (i := 10) rfl
theorem md_J7_copyOf_9075b_11 : (.code Lib.Math.min.name Lib.Math.min.code 2 (some .int) : Cond) ∈ wsJ7_copyOf_9075b := List.mem_of_getElem? (i := 11) rfl
theorem md_J7_copyOf_9075b_12 : (.methodLink RJ7 150 arraycopyName : Cond) ∈ wsJ7_copyOf_9075b := List.mem_of_getElem? (i := 12) rfl
theorem md_J7_copyOf_9075b_13 : (.native arraycopyName : Cond) ∈ wsJ7_copyOf_9075b := List.mem_of_getElem? (i := 13) rfl
theorem md_J7_copyOf_9075b_14 : (.static arraycopyName : Cond) ∈ wsJ7_copyOf_9075b := List.mem_of_getElem? (i := 14) rfl
theorem md_J7_copyOf_9075b_15 : (.initialized "java/lang/System" : Cond) ∈ wsJ7_copyOf_9075b := List.mem_of_getElem? (i := 15) rfl
theorem md_J7_copyOf_9075b_1 : (.methodLink RJ7 310 ⟨"[B", "clone", "()Ljava/lang/Object;"⟩ : Cond) ∈ wsJ7_copyOf_9075b := List.mem_of_getElem? (i := 1) rfl
theorem md_J7_copyOf_9075b_2 : (.sameMethod "[B" "java/lang/Object" "clone" "()Ljava/lang/Object;" : Cond) ∈ wsJ7_copyOf_9075b := List.mem_of_getElem? (i := 2) rfl
theorem md_J7_copyOf_9075b_3 : (.native ⟨"java/lang/Object", "clone", "()Ljava/lang/Object;"⟩ : Cond) ∈ wsJ7_copyOf_9075b := List.mem_of_getElem? (i := 3) rfl
theorem md_J7_copyOf_9075b_4 : (.instanceMethod ⟨"java/lang/Object", "clone", "()Ljava/lang/Object;"⟩ : Cond) ∈ wsJ7_copyOf_9075b := List.mem_of_getElem? (i := 4) rfl
theorem md_J7_copyOf_9075b_5 : (.selects "[B" ⟨"[B", "clone", "()Ljava/lang/Object;"⟩ ⟨"java/lang/Object", "clone", "()Ljava/lang/Object;"⟩ : Cond) ∈ wsJ7_copyOf_9075b := List.mem_of_getElem? (i := 5) rfl
theorem md_J7_copyOf_9075b_6 : (.classLink RJ7 311 "[B" : Cond) ∈ wsJ7_copyOf_9075b := List.mem_of_getElem? (i := 6) rfl
set_option maxHeartbeats 4000000 in
set_option maxRecDepth 100000 in
theorem da_J7_copyOf_9075b (l : Launch) (dC : Nat → ClassId) (dI : Nat → Nat → Nat) (cy : Nat → ClassId) (a0 : Nat → Nat) (sh0 : Nat → Nat × Nat) (n0 sz : Nat) (F : Nat) (z0 : St) (x0 : Nat) (x1 : Int32) (hk0 : lk z0 n0) {sh8 : Nat → Nat × Nat} {n8 : Nat} {z8 : St} {r8 : Option Nat} (hf : fa_J7_copyOf_9075b F sh0 n0 z0 x0 x1 = some (sh8, n8, z8, r8)) : Met l yJ7_copyOf_9075b wsJ7_copyOf_9075b ({ frames := 1, cells := 1, slots := 2048, locals := 40 }) (va_Pc [.ref (a0 x0), .int x1] (fun U => U.heap.size = sz ∧ va_P (dC, dI) vwCl (Wd cy a0 sh0 n0 z0) U.heap ∧ va_K (dC, dI) vwCl (TYS cy) U ∧ va_D (fun _ => True) (Wd cy a0 sh0 n0 z0) ∧ NK U ∧ va_Nw (.castable "[B" "java/lang/Cloneable") U)) (va_Qq (fun (r9 : Option Nat) (u : Nat → Nat) => r9 = r8.map u ∧ ((∀ k, k < n0 ∨ k = CBK → u k = a0 k) ∧ n0 ≤ n8) ∧ lk z8 n8) (fun u t => va_P (dC, dI) vwCl (Wd cy u sh8 n8 z8) t.heap ∧ va_K (dC, dI) vwCl (TYS cy) t ∧ va_D (va_A (Wd cy a0 sh0 n0 z0) sz) (Wd cy u sh8 n8 z8)) (va_A (Wd cy a0 sh0 n0 z0) sz)) 1 2048 (va_A (Wd cy a0 sh0 n0 z0) sz) := by
  refine Met.ofW (cc := cJ7_copyOf_9075b) (maxL := 3) (ret := (some (.array .byte))) (by decide) rfl ?_
  intro p e s m args below meth c s₁ B hml hv
  obtain ⟨rfl, hsz, hP, hK, hD0, hN, hC⟩ := hv
  have hx := B.exec
  have hb := B.bytes
  have hr := B.returns
  have hts := atoms_spec (ws := wsJ7_copyOf_9075b) B.pre
  have hown : s.vm.findClass RJ7 = some m.cls := findClass_of_methodNamed B.named
  have hlocks := B.notSynchronized
  subst hsz
  have hD := hD0.self (sz := s.heap.size)
  clear hD0
  generalize hAe : va_A (Wd cy a0 sh0 n0 z0) s.heap.size = A at hD ⊢
  have hA : ∀ q : Nat, s.heap.size ≤ q → A q := fun q h => by rw [← hAe]; exact Or.inr h
  clear hAe
  have hS : va_S A s.heap s.heap [] := va_S.rf
  have hl := lv_entry ([.ref (a0 x0), .int x1]) (n := 3) (Nat.le_of_ble_eq_true rfl)
  rw [lg_entry_eq]
  generalize (lg_sl ([.ref (a0 x0), .int x1]) ++ List.replicate (3 - (lg_sl ([.ref (a0 x0), .int x1])).length) Slot.unset).toArray = ls at hl ⊢
  replace hl : lv_has ls 3 [(0, .ref (a0 x0)), (1, .int x1)] := hl
  unfold fa_J7_copyOf_9075b at hf
  refine da_start (fn := fun sh n z => fa_J7_copyOf_9075b F sh n z x0 x1) (av := fun a => [(0, .ref (a x0)), (1, .int x1)]) (sk := fun q => True) hf hk0 hS hD hP hl trivial (fun a sh n z H locs hf hag hk hS hD hP hl hSK => ?_)
  unfold fa_J7_copyOf_9075b at hf
  try dsimp only at hf hl hSK
  refine lv_iload_n hx hb dJ7_copyOf_9075b_0 rfl (lv_at hl 1 rfl) ?_
  refine lv_aload_n hx hb dJ7_copyOf_9075b_1 rfl (lv_at hl 0 rfl) ?_
  obtain ⟨g_1, hf⟩ := grd_some hf
  obtain ⟨kg_1, sg_1⟩ := okO_at g_1
  refine va_alen (v := Int32.ofNat (sh x0).2) hx hb hK hP x0 0 (Wd_ab kg_1 sg_1) rfl rfl dJ7_copyOf_9075b_2 ?_
  refine lv_icmp_ne (tgt := 14) hx hb dJ7_copyOf_9075b_3 (by decide) (fun c_2 => ?_) (fun c_2 => ?_)
  · skip
    rw [if_neg c_2] at hf
    refine lv_iload_n hx hb dJ7_copyOf_9075b_14 rfl (lv_at hl 1 rfl) ?_
    obtain ⟨g_3, hf⟩ := grd_some hf
    obtain ⟨g_4, hf⟩ := grd_some hf
    refine de_newa (atype := .byte) (ty := .byte) (t := 0) (N := x1.toNatClampNeg) (a0 := (x1.toNatClampNeg, .inl (fun _ => 0))) hf hk hx hb (hts _ md_J7_copyOf_9075b_7) rfl hK hP hD hS hA rfl rfl (fun _ => rfl) (okL_at g_3).1 rfl (by have := (okL_at g_3).2; show _ * 1 ≤ _; omega) (Nat.le_of_ble_eq_true rfl) (by have := (okL_at g_3).2; show 0 + _ ≤ 2048; omega) dJ7_copyOf_9075b_15 (fun a sh n z_5 k_6 H_7 hf hax hk hnn hP hD hS => ?_)
    replace hl : lv_has ls 3 [(0, .ref (a x0)), (1, .int x1)] := by rw [hax x0 (okN_at g_4)]; exact hl
    replace hag := hag_new hag hax hnn
    clear hax hnn
    refine W.widen (k := 1) (n := 2048) (Nat.le_of_ble_eq_true rfl) (by have := (okL_at g_3).2; show 0 + _ ≤ 2048; omega) ?_
    refine lv_astore_n (lv' := [(2, .ref (a k_6)), (0, .ref (a x0)), (1, .int x1)]) hx hb dJ7_copyOf_9075b_17 rfl hl (by decide) rfl (fun ls hl2 => ?_)
    replace hl := hl2
    clear hl2
    refine lv_aload_n hx hb dJ7_copyOf_9075b_18 rfl (lv_at hl 1 rfl) ?_
    refine lv_iconst (v := 0) hx hb dJ7_copyOf_9075b_19 (by decide) ?_
    refine lv_aload_n hx hb dJ7_copyOf_9075b_20 rfl (lv_at hl 0 rfl) ?_
    refine lv_iconst (v := 0) hx hb dJ7_copyOf_9075b_21 (by decide) ?_
    refine lv_aload_n hx hb dJ7_copyOf_9075b_22 rfl (lv_at hl 1 rfl) ?_
    obtain ⟨g_8, hf⟩ := grd_some hf
    obtain ⟨kg_8, sg_8⟩ := okO_at g_8
    refine va_alen (v := Int32.ofNat (sh x0).2) hx hb hK hP x0 0 (Wd_ab kg_8 sg_8) rfl rfl dJ7_copyOf_9075b_23 ?_
    refine lv_iload_n hx hb dJ7_copyOf_9075b_24 rfl (lv_at hl 2 rfl) ?_
    refine va_mmin hx hb (hml.trans hl.1.symm) hown (hts _ md_J7_copyOf_9075b_8) (hts _ md_J7_copyOf_9075b_9) (hts _ md_J7_copyOf_9075b_10) (hts _ md_J7_copyOf_9075b_11) (Nat.le_of_ble_eq_true rfl) (Nat.le_of_ble_eq_true rfl) (Nat.le_of_ble_eq_true rfl) (Nat.le_of_ble_eq_true rfl) dJ7_copyOf_9075b_25 ?_
    refine lv_topi (fun v_9 ev_9 => ?_)
    replace hf := lt_at ev_9 hf
    clear ev_9
    obtain ⟨g_10, hf⟩ := grd_some hf
    obtain ⟨kg_10, sg_10⟩ := okO_at g_10
    obtain ⟨g_11, hf⟩ := grd_some hf
    obtain ⟨ag_11, bg_11, cg_11, dg_11, eg_11⟩ := okC_at g_11
    obtain ⟨g_12, hf⟩ := grd_some hf
    refine va_copyi (ty := .byte) hx hb (hml.trans hl.1.symm) hown (hts _ md_J7_copyOf_9075b_12) (hts _ md_J7_copyOf_9075b_13) (hts _ md_J7_copyOf_9075b_14) (hts _ md_J7_copyOf_9075b_15) hK hP hD hS x0 k_6 0 0 (Wd_ab kg_8 sg_8) (Wd_ab kg_10 sg_10) rfl rfl rfl ag_11 bg_11 cg_11 dg_11 eg_11 (fun i hi => okBy_at g_12 _ (Nat.lt_of_lt_of_le (Nat.add_lt_add_left hi _) dg_11)) (Nat.le_of_ble_eq_true rfl) (Nat.le_of_ble_eq_true rfl) dJ7_copyOf_9075b_28 (fun H_13 locs hP2 hD2 hS2 => ?_)
    rw [Wd_scb sg_10] at hP2 hD2
    obtain ⟨z_14, ez_14⟩ : ∃ w, w = scb z_5 k_6 (z_5.1 x0) (0 : Int32).toNatClampNeg (0 : Int32).toNatClampNeg v_9.toNatClampNeg := ⟨_, rfl⟩
    rw [← ez_14] at hP2 hD2
    replace hf := lt_at ez_14 hf
    replace hk : lk z_14 n := by rw [ez_14]; exact hk
    clear ez_14
    replace hP := hP2
    replace hD := hD2
    replace hS := hS2
    clear hP2 hD2 hS2
    refine lv_aload_n hx hb dJ7_copyOf_9075b_31 rfl (lv_at hl 0 rfl) ?_
    obtain ⟨h5, h6, h8, h9⟩ := rta_some hf
    rw [h5, h6, h8, h9]
    exact W.aret (v := .ref (a k_6)) hx hb hr (Or.inr ⟨_, rfl⟩) (Or.inr ⟨_, rfl⟩) (fun t ht hW => ⟨⟨(some (a k_6)), a, rfl, ⟨rfl, ⟨hag, hk⟩⟩, by rw [ht]; exact hP, va_K.moved hW.alike hK, hD⟩, hS.F ht⟩) hS.2.2 dJ7_copyOf_9075b_32
  · skip
    rw [if_pos c_2] at hf
    refine lv_aload_n hx hb dJ7_copyOf_9075b_6 rfl (lv_at hl 0 rfl) ?_
    obtain ⟨g_15, hf⟩ := grd_some hf
    obtain ⟨g_16, hf⟩ := grd_some hf
    replace g_16 := of_decide_eq_true g_16
    obtain ⟨g_17, hf⟩ := grd_some hf
    refine de_clone hf hk kg_1 sg_1 g_15 hx hb (hml.trans hl.1.symm) hown (hts _ md_J7_copyOf_9075b_1) (hts _ md_J7_copyOf_9075b_2) (hts _ md_J7_copyOf_9075b_3) (hts _ md_J7_copyOf_9075b_4) (hts _ md_J7_copyOf_9075b_5) hC hK hP hD hS hA (Nat.le_of_ble_eq_true rfl) (Nat.le_of_ble_eq_true rfl) (Nat.le_of_ble_eq_true rfl) (by show 0 + _ ≤ 2048; omega) dJ7_copyOf_9075b_7 (fun a shq n z_18 k_19 H_20 hf hax hk hnn hkn hsq hP hD hS => ?_)
    replace hl : lv_has ls 3 [(0, .ref (a x0)), (1, .int x1)] := by rw [hax x0 (okN_at g_17)]; exact hl
    replace hag := hag_new hag hax hnn
    clear hax hnn
    refine W.widen (k := 1) (n := 2048) (Nat.le_of_ble_eq_true rfl) (by show 0 + _ ≤ 2048; omega) ?_
    refine va_castA hx hb hown (hts _ md_J7_copyOf_9075b_6) hP k_19 (Wd_ab hkn hsq) ((hK.2 0 (cy 0, .byte) rfl).2) dJ7_copyOf_9075b_10 ?_
    obtain ⟨sh, esh⟩ : ∃ w, w = shq := ⟨_, rfl⟩
    subst esh
    obtain ⟨h5, h6, h8, h9⟩ := rta_some hf
    rw [h5, h6, h8, h9]
    exact W.aret (v := .ref (a k_19)) hx hb hr (Or.inr ⟨_, rfl⟩) (Or.inr ⟨_, rfl⟩) (fun t ht hW => ⟨⟨(some (a k_19)), a, rfl, ⟨rfl, ⟨hag, hk⟩⟩, by rw [ht]; exact hP, va_K.moved hW.alike hK, hD⟩, hS.F ht⟩) hS.2.2 dJ7_copyOf_9075b_13

theorem md_X11_publish_1 : (.fieldLink RX11 112 "ResourceLedger" "blockLength" "I" : Cond) ∈ wsX11_publish := List.mem_of_getElem? (i := 1) rfl
theorem iwd_X11_publish_X11 : ∀ w ∈ wsX110, w ∈ wsX11_publish := fun _ h => List.mem_cons_of_mem _ (List.mem_append_left _ (List.mem_append_right _ h))
theorem md_X11_publish_2 : (.fieldLink RX11 15 "ResourceLedger" "block" "[LResourceLedger$Transaction;" : Cond) ∈ wsX11_publish := List.mem_of_getElem? (i := 2) rfl
theorem md_X11_publish_3 : (.fieldLink RX11 9 "ResourceLedger" "tape" "[B" : Cond) ∈ wsX11_publish := List.mem_of_getElem? (i := 3) rfl
theorem md_X11_publish_4 : (.fieldLink RX11 80 "ResourceLedger" "tapeLength" "I" : Cond) ∈ wsX11_publish := List.mem_of_getElem? (i := 4) rfl
theorem md_X11_publish_5 : (.fieldLink RX11 127 "ResourceLedger$Transaction" "bytes" "[B" : Cond) ∈ wsX11_publish := List.mem_of_getElem? (i := 5) rfl
theorem iwd_X11_publish_X8 : ∀ w ∈ wsX80, w ∈ wsX11_publish := fun _ h => List.mem_cons_of_mem _ (List.mem_append_right _ h)
set_option maxHeartbeats 4000000 in
set_option maxRecDepth 100000 in
theorem da_X11_publish (l : Launch) (dC : Nat → ClassId) (dI : Nat → Nat → Nat) (cy : Nat → ClassId) (a0 : Nat → Nat) (sh0 : Nat → Nat × Nat) (n0 sz : Nat) (F : Nat) (z0 : St) (h0 : Nat) (x0 : Int64) (x1 : Int64) (x2 : Int32) (hk0 : lk z0 n0) {sh8 : Nat → Nat × Nat} {n8 : Nat} {z8 : St} {r8 : Int32} (hf : fa_X11_publish F sh0 n0 z0 h0 x0 x1 x2 = some (sh8, n8, z8, r8)) : Met l yX11_publish wsX11_publish ({ frames := 2, cells := 1, slots := 2048, locals := 62 }) (va_Pc [.ref (a0 h0), .long x0, .long x1, .int x2] (fun U => U.heap.size = sz ∧ va_P (dC, dI) vwCl (Wd cy a0 sh0 n0 z0) U.heap ∧ va_K (dC, dI) vwCl (TYS cy) U ∧ va_D (fun _ => True) (Wd cy a0 sh0 n0 z0) ∧ NK U ∧ va_Nw (.castable "[B" "java/lang/Cloneable") U)) (va_Qi (fun (r9 : Int32) (u : Nat → Nat) => r9 = r8 ∧ ((∀ k, k < n0 ∨ k = CBK → u k = a0 k) ∧ n0 ≤ n8)) (fun u t => va_P (dC, dI) vwCl (Wd cy u sh8 n8 z8) t.heap ∧ va_K (dC, dI) vwCl (TYS cy) t ∧ va_D (va_A (Wd cy a0 sh0 n0 z0) sz) (Wd cy u sh8 n8 z8)) (va_A (Wd cy a0 sh0 n0 z0) sz)) 1 2048 (va_A (Wd cy a0 sh0 n0 z0) sz) := by
  refine Met.ofW (cc := cX11_publish) (maxL := 7) (ret := (some .int)) (by decide) rfl ?_
  intro p e s m args below meth c s₁ B hml hv
  obtain ⟨rfl, hsz, hP, hK, hD0, hN, hC⟩ := hv
  have hx := B.exec
  have hb := B.bytes
  have hr := B.returns
  have hts := atoms_spec (ws := wsX11_publish) B.pre
  have hown : s.vm.findClass RX11 = some m.cls := findClass_of_methodNamed B.named
  have hlocks := B.notSynchronized
  subst hsz
  have hD := hD0.self (sz := s.heap.size)
  clear hD0
  generalize hAe : va_A (Wd cy a0 sh0 n0 z0) s.heap.size = A at hD ⊢
  have hA : ∀ q : Nat, s.heap.size ≤ q → A q := fun q h => by rw [← hAe]; exact Or.inr h
  clear hAe
  have hS : va_S A s.heap s.heap [] := va_S.rf
  have hl := lv_entry ([.ref (a0 h0), .long x0, .long x1, .int x2]) (n := 7) (Nat.le_of_ble_eq_true rfl)
  rw [lg_entry_eq]
  generalize (lg_sl ([.ref (a0 h0), .long x0, .long x1, .int x2]) ++ List.replicate (7 - (lg_sl ([.ref (a0 h0), .long x0, .long x1, .int x2])).length) Slot.unset).toArray = ls at hl ⊢
  replace hl : lv_has ls 7 [(0, .ref (a0 h0)), (1, .long x0), (3, .long x1), (5, .int x2)] := hl
  unfold fa_X11_publish at hf
  refine da_start (fn := fun sh n z => fa_X11_publish F sh n z h0 x0 x1 x2) (av := fun a => [(0, .ref (a h0)), (1, .long x0), (3, .long x1), (5, .int x2)]) (sk := fun q => True) hf hk0 hS hD hP hl trivial (fun a sh n z H locs hf hag hk hS hD hP hl hSK => ?_)
  unfold fa_X11_publish at hf
  try dsimp only at hf hl hSK
  refine lv_iload hx hb dX11_publish_0 (lv_at hl 3 rfl) ?_
  refine lv_bipush (v := 10) hx hb dX11_publish_2 (by decide) ?_
  refine lv_icmp_lt (tgt := 15) hx hb dX11_publish_4 (by decide) (fun c_1 => ?_) (fun c_1 => ?_)
  · skip
    rw [if_pos c_1] at hf
    refine lv_iconst (v := (-1)) hx hb dX11_publish_15 (by decide) ?_
    obtain ⟨h5, h6, h8, h9⟩ := rta_some hf
    rw [h5, h6, h8, h9]
    refine W.widen (k := 1) (n := 2048) (Nat.le_of_ble_eq_true rfl) (Nat.le_of_ble_eq_true rfl) ?_
    exact W.iret (v := (-1)) hx hb hr (fun t ht hW => ⟨⟨(-1), a, rfl, ⟨rfl, hag⟩, by rw [ht]; exact hP, va_K.moved hW.alike hK, hD⟩, hS.F ht⟩) hS.2.2 dX11_publish_16
  · skip
    rw [if_neg c_1] at hf
    refine lv_iload hx hb dX11_publish_7 (lv_at hl 3 rfl) ?_
    refine lv_sipush (v := 20000) hx hb dX11_publish_9 (by decide) ?_
    refine lv_icmp_le (tgt := 17) hx hb dX11_publish_12 (by decide) (fun c_2 => ?_) (fun c_2 => ?_)
    · skip
      rw [if_pos c_2] at hf
      refine lv_aload_n hx hb dX11_publish_17 rfl (lv_at hl 0 rfl) ?_
      obtain ⟨g_3, hf⟩ := grd_some hf
      obtain ⟨kg_3, sg_3⟩ := okO_at g_3
      refine va_get (D := (dC, dI)) (ci := 11) (v := .int (z.1 h0 4)) (C := RX11) (T := TX11) (N := 13) hx hb hts iwd_X11_publish_X11 hown hK hP h0 (Wd_ob kg_3 sg_3 (by decide)) rfl 4 (by decide) (hts _ md_X11_publish_1) (fun _ h9 => h9) (fl_at (t := 0) rfl) dX11_publish_18 ?_
      refine lv_bipush (v := 32) hx hb dX11_publish_21 (by decide) ?_
      refine lv_icmp_lt (tgt := 29) hx hb dX11_publish_23 (by decide) (fun c_4 => ?_) (fun c_4 => ?_)
      · skip
        rw [if_pos c_4] at hf
        refine lv_aload_n hx hb dX11_publish_29 rfl (lv_at hl 0 rfl) ?_
        obtain ⟨k_5, ek_5, hf⟩ := lnk_some hf
        refine va_get (D := (dC, dI)) (ci := 11) (v := .ref (a k_5)) (C := RX11) (T := TX11) (N := 13) hx hb hts iwd_X11_publish_X11 hown hK hP h0 (Wd_ob kg_3 sg_3 (by decide)) rfl 3 (by decide) (hts _ md_X11_publish_2) (fun _ h9 => h9) (fl_q rfl ek_5) dX11_publish_30 ?_
        refine lv_aload_n hx hb dX11_publish_33 rfl (lv_at hl 0 rfl) ?_
        refine va_get (D := (dC, dI)) (ci := 11) (v := .int (z.1 h0 4)) (C := RX11) (T := TX11) (N := 13) hx hb hts iwd_X11_publish_X11 hown hK hP h0 (Wd_ob kg_3 sg_3 (by decide)) rfl 4 (by decide) (hts _ md_X11_publish_1) (fun _ h9 => h9) (fl_at (t := 0) rfl) dX11_publish_34 ?_
        obtain ⟨g_6, hf⟩ := grd_some hf
        obtain ⟨kg_6, sg_6, ig_6⟩ := okA_at g_6
        obtain ⟨k_7, ek_7, hf⟩ := lnk_some hf
        refine va_aldq (C := RX8) hx hb hK hP k_5 5 (Wd_aq kg_6 sg_6 (by decide)) rfl ig_6 dX11_publish_37 ?_
        refine W.eq (g2 := F0 m 38 ls [.ref (a k_7)]) (by rw [ek_7]; rfl) ?_
        refine lv_astore (lv' := [(6, .ref (a k_7)), (0, .ref (a h0)), (1, .long x0), (3, .long x1), (5, .int x2)]) hx hb dX11_publish_38 hl (by decide) rfl (fun ls hl2 => ?_)
        replace hl := hl2
        clear hl2
        refine lv_aload hx hb dX11_publish_40 (lv_at hl 0 rfl) ?_
        refine lv_lload_n hx hb dX11_publish_42 rfl (lv_at hl 2 rfl) ?_
        refine lv_lload_n hx hb dX11_publish_43 rfl (lv_at hl 3 rfl) ?_
        refine lv_iload hx hb dX11_publish_44 (lv_at hl 4 rfl) ?_
        obtain ⟨g_9, hf⟩ := grd_some hf
        obtain ⟨kg_9, sg_9⟩ := okO_at g_9
        obtain ⟨z_8, _u, hfc, hf⟩ := cal_some hf
        replace hk := lk_X8_lay hk hfc
        have hFc := de_free hD hS hA
        refine va_callv (va_runV (As := [.long x0, .long x1, .int x2]) (rest := []) ⟨hx, hb, hml, hown, hts⟩ (de_X8_lay l dC dI cy a sh n H.size F z k_7 x0 x1 x2 hfc) (cwV 3 hts gX11_publish_X8_lay rfl rfl rfl (by decide +kernel) ⟨Nat.le_of_ble_eq_true rfl, Nat.le_of_ble_eq_true rfl⟩) ⟨fun a U g mk q => by obtain ⟨q0, q1, qP, qK, qD, qN⟩ := q; exact ⟨q0, q1, qP, va_K.moved (u := U) (U := U.calling g mk a) (Vm.Alike.refl U.vm) qK, qD, qN.same rfl⟩, va_recv hK hP (ci := 8) (q0 := k_7) rfl (Wd_ob kg_9 sg_9 (by decide)), fun U hU hW => ⟨rfl, by rw [hU], by rw [hU]; exact hP, va_K.moved hW.alike hK, hD.weaken (fun _ _ _ _ => trivial), hN.warm hW⟩⟩ rfl rfl hl.1 rfl (lv_room (Nat.le_of_ble_eq_true rfl)) dX11_publish_46 ⟨Nat.le_of_ble_eq_true rfl, Nat.le_of_ble_eq_true rfl⟩) hS (fun q _ h => hFc q h) hFc (fun u t H_10 locs ht hvm hw hB hz1 hk1 hS2 => ?_)
        obtain ⟨hP1, -, hD1⟩ := hB
        rw [ht] at hP1
        replace hD := hD1.weaken (fun _ _ _ h => hFc _ h)
        replace hP := hP1
        replace hS := hS2
        clear hP1 hD1 hS2 hFc hfc hz1 hk1 hvm ht
        refine lv_aload hx hb dX11_publish_49 (lv_at hl 0 rfl) ?_
        refine lv_aload_n hx hb dX11_publish_51 rfl (lv_at hl 1 rfl) ?_
        obtain ⟨k_11, ek_11, hf⟩ := lnk_some hf
        refine va_get (D := (dC, dI)) (ci := 11) (v := .ref (a k_11)) (C := RX11) (T := TX11) (N := 13) hx hb hts iwd_X11_publish_X11 hown hK hP h0 (Wd_ob kg_3 sg_3 (by decide)) rfl 0 (by decide) (hts _ md_X11_publish_3) (fun _ h9 => h9) (fl_q rfl ek_11) dX11_publish_52 ?_
        refine lv_aload_n hx hb dX11_publish_55 rfl (lv_at hl 1 rfl) ?_
        refine va_get (D := (dC, dI)) (ci := 11) (v := .int (z_8.1 h0 1)) (C := RX11) (T := TX11) (N := 13) hx hb hts iwd_X11_publish_X11 hown hK hP h0 (Wd_ob kg_3 sg_3 (by decide)) rfl 1 (by decide) (hts _ md_X11_publish_4) (fun _ h9 => h9) (fl_at (t := 0) rfl) dX11_publish_56 ?_
        obtain ⟨g_12, hf⟩ := grd_some hf
        obtain ⟨g_13, hf⟩ := grd_some hf
        obtain ⟨shq, nq, z_14, r_15, hfc, hf⟩ := cala_some hf
        have hFc := de_free hD hS hA
        refine va_callq (va_runS (As := [.ref (a k_11), .int (z_8.1 h0 1)]) (rest := [.ref (a k_7)]) ⟨hx, hb, hml, hown, hts⟩ (da_J7_copyOf_9075b l dC dI cy a sh n H_10.size F z_8 k_11 (z_8.1 h0 1) hk hfc) (va_cwS 2 hts gX11_publish_J7_copyOf_9075b rfl rfl rfl (by decide +kernel) ⟨Nat.le_of_ble_eq_true rfl, Nat.le_of_ble_eq_true rfl⟩) ⟨fun a U g mk q => by obtain ⟨q0, q1, qP, qK, qD, qN, qC⟩ := q; exact ⟨q0, q1, qP, va_K.moved (u := U) (U := U.calling g mk a) (Vm.Alike.refl U.vm) qK, qD, qN.same rfl, va_Nw.same rfl (u := U) (U := U.calling g mk a) rfl qC⟩, fun U hU hW => ⟨rfl, by rw [hU], by rw [hU]; exact hP, va_K.moved hW.alike hK, hD.weaken (fun _ _ _ _ => trivial), hN.warm hW, va_Nw.warmC hW hC⟩⟩ rfl rfl hl.1 rfl (lv_room (Nat.le_of_ble_eq_true rfl)) dX11_publish_59 ⟨Nat.le_of_ble_eq_true rfl, Nat.le_of_ble_eq_true rfl⟩) hS (fun q _ h => hFc q h) hFc (fun rr a t H_16 locs ht hvm hw hB hz1 hk1 hS2 => ?_)
        obtain ⟨hw0, hw⟩ := hw
        rw [hw0]
        obtain ⟨⟨hax, hnn⟩, hk⟩ := hw
        obtain ⟨hP1, -, hD1⟩ := hB
        rw [ht] at hP1
        replace hD := hD1.weaken (fun _ _ _ h => hFc _ h)
        replace hP := hP1
        replace hS := hS2
        obtain ⟨sh, esh⟩ : ∃ w, w = shq := ⟨_, rfl⟩
        subst esh
        replace hl : lv_has ls 7 [(6, .ref (a k_7)), (0, .ref (a h0)), (1, .long x0), (3, .long x1), (5, .int x2)] := by rw [hax k_7 (okN_at g_12), hax h0 (okN_at g_13)]; exact hl
        replace hag := hag_new hag hax hnn
        obtain ⟨n, enq⟩ : ∃ w, w = nq := ⟨_, rfl⟩
        subst enq
        rcases r_15 with _ | k_17
        · exact absurd hf (by simp [lnk])
        replace hf : _ = some _ := hf
        refine W.eq (g2 := F0 m 62 ls [.ref (a k_17), .ref (a k_7)]) (by rw [hax k_7 (okN_at g_12)]; rfl) ?_
        clear hax hnn hP1 hD1 hS2 hFc hfc hz1 hk1 hvm ht
        refine W.widen (k := 1) (n := 2048) (Nat.le_of_ble_eq_true rfl) (Nat.le_of_ble_eq_true rfl) ?_
        obtain ⟨g_18, hf⟩ := grd_some hf
        obtain ⟨g_19, hf⟩ := grd_some hf
        obtain ⟨kg_19, sg_19⟩ := okO_at g_19
        refine va_put (D := (dC, dI)) (ci := 8) (v := .ref (a k_17)) (ty := .array .byte) (C := RX8) (T := TX8) (N := 19) hx hb hts iwd_X11_publish_X8 tyX8 tyX8_ok nmX8 hown hK hP hD hS k_7 (Wd_ob kg_19 sg_19 (by decide)) rfl 6 (by decide) (hts _ md_X11_publish_5) (fun _ h9 => h9) rfl (by decide +kernel) rfl rfl (by rw [fl_len]; decide) dX11_publish_62 (fun H_20 locs hP2 hD2 hS2 => ?_)
        rw [Wd_sq1 sg_19 (by decide) rfl] at hP2 hD2
        obtain ⟨z_21, ez_21⟩ : ∃ w, w = sq z_14 k_7 6 (some k_17) := ⟨_, rfl⟩
        rw [← ez_21] at hP2 hD2
        replace hf := lt_at ez_21 hf
        replace hk : lk z_21 n := by rw [ez_21]; exact lk_sq1 hk (okN_at g_18)
        clear ez_21
        replace hP := hP2
        replace hD := hD2
        replace hS := hS2
        clear hP2 hD2 hS2
        refine lv_aload_n hx hb dX11_publish_65 rfl (lv_at hl 1 rfl) ?_
        refine lv_iconst (v := 0) hx hb dX11_publish_66 (by decide) ?_
        obtain ⟨g_22, hf⟩ := grd_some hf
        obtain ⟨kg_22, sg_22⟩ := okO_at g_22
        refine va_put (D := (dC, dI)) (ci := 11) (v := .int 0) (ty := .int) (C := RX11) (T := TX11) (N := 13) hx hb hts iwd_X11_publish_X11 tyX11 tyX11_ok nmX11 hown hK hP hD hS h0 (Wd_ob kg_22 sg_22 (by decide)) rfl 1 (by decide) (hts _ md_X11_publish_4) (fun _ h9 => h9) rfl (by decide +kernel) rfl rfl (by rw [fl_len]; decide) dX11_publish_67 (fun H_23 locs hP2 hD2 hS2 => ?_)
        rw [Wd_si sg_22 (by decide) rfl] at hP2 hD2
        obtain ⟨z_24, ez_24⟩ : ∃ w, w = si z_21 h0 1 0 := ⟨_, rfl⟩
        rw [← ez_24] at hP2 hD2
        replace hf := lt_at ez_24 hf
        replace hk : lk z_24 n := by rw [ez_24]; exact lk_si hk
        clear ez_24
        replace hP := hP2
        replace hD := hD2
        replace hS := hS2
        clear hP2 hD2 hS2
        refine lv_aload_n hx hb dX11_publish_70 rfl (lv_at hl 1 rfl) ?_
        refine lv_dup hx hb dX11_publish_71 rfl ?_
        refine va_get (D := (dC, dI)) (ci := 11) (v := .int (z_24.1 h0 4)) (C := RX11) (T := TX11) (N := 13) hx hb hts iwd_X11_publish_X11 hown hK hP h0 (Wd_ob kg_22 sg_22 (by decide)) rfl 4 (by decide) (hts _ md_X11_publish_1) (fun _ h9 => h9) (fl_at (t := 0) rfl) dX11_publish_72 ?_
        refine lv_topi (fun v_25 ev_25 => ?_)
        replace hf := lt_at ev_25 hf
        clear ev_25
        refine lv_dup_x1 hx hb dX11_publish_75 rfl rfl ?_
        refine lv_iconst (v := 1) hx hb dX11_publish_76 (by decide) ?_
        refine lv_iadd hx hb dX11_publish_77 ?_
        refine va_put (D := (dC, dI)) (ci := 11) (v := .int (v_25 + 1)) (ty := .int) (C := RX11) (T := TX11) (N := 13) hx hb hts iwd_X11_publish_X11 tyX11 tyX11_ok nmX11 hown hK hP hD hS h0 (Wd_ob kg_22 sg_22 (by decide)) rfl 4 (by decide) (hts _ md_X11_publish_1) (fun _ h9 => h9) rfl (by decide +kernel) rfl rfl (by rw [fl_len]; decide) dX11_publish_78 (fun H_26 locs hP2 hD2 hS2 => ?_)
        rw [Wd_si sg_22 (by decide) rfl] at hP2 hD2
        obtain ⟨z_27, ez_27⟩ : ∃ w, w = si z_24 h0 4 (v_25 + 1) := ⟨_, rfl⟩
        rw [← ez_27] at hP2 hD2
        replace hf := lt_at ez_27 hf
        replace hk : lk z_27 n := by rw [ez_27]; exact lk_si hk
        clear ez_27
        replace hP := hP2
        replace hD := hD2
        replace hS := hS2
        clear hP2 hD2 hS2
        obtain ⟨h5, h6, h8, h9⟩ := rta_some hf
        rw [h5, h6, h8, h9]
        exact W.iret (v := v_25) hx hb hr (fun t ht hW => ⟨⟨v_25, a, rfl, ⟨rfl, hag⟩, by rw [ht]; exact hP, va_K.moved hW.alike hK, hD⟩, hS.F ht⟩) hS.2.2 dX11_publish_81
      · skip
        rw [if_neg c_4] at hf
        refine lv_bipush (v := (-3)) hx hb dX11_publish_26 (by decide) ?_
        obtain ⟨h5, h6, h8, h9⟩ := rta_some hf
        rw [h5, h6, h8, h9]
        refine W.widen (k := 1) (n := 2048) (Nat.le_of_ble_eq_true rfl) (Nat.le_of_ble_eq_true rfl) ?_
        exact W.iret (v := (-3)) hx hb hr (fun t ht hW => ⟨⟨(-3), a, rfl, ⟨rfl, hag⟩, by rw [ht]; exact hP, va_K.moved hW.alike hK, hD⟩, hS.F ht⟩) hS.2.2 dX11_publish_28
    · skip
      rw [if_neg c_2] at hf
      refine lv_iconst (v := (-1)) hx hb dX11_publish_15 (by decide) ?_
      obtain ⟨h5, h6, h8, h9⟩ := rta_some hf
      rw [h5, h6, h8, h9]
      refine W.widen (k := 1) (n := 2048) (Nat.le_of_ble_eq_true rfl) (Nat.le_of_ble_eq_true rfl) ?_
      exact W.iret (v := (-1)) hx hb hr (fun t ht hW => ⟨⟨(-1), a, rfl, ⟨rfl, hag⟩, by rw [ht]; exact hP, va_K.moved hW.alike hK, hD⟩, hS.F ht⟩) hS.2.2 dX11_publish_16
