theorem alc_t {sh : Nat → Nat × Nat} {n : Nat} {z : St} {c : Nat × Nat} (h : n < CBK) : alc sh n z c (fun sh' n' z' k' => some (sh', n', z', k')) = some (shx sh n c, n + 1, zx z n, n) := by
  unfold alc
  rw [decide_eq_true h]
  rfl
set_option maxHeartbeats 8000000 in
set_option maxRecDepth 100000 in
/-- the law answers true, if there is an invariant that its two new objects meet -/
theorem law_of {p : Program} {e : Env} {s : State} {m : MethodId} {below : List Frame} {meth : Method} {c : Code} (l : Launch) {b L : Nat} {xs : Nat → Int32} (hL : L ≤ 4097) (C0 : lw_At p s m meth c b L xs) (I : Nat → (Nat → Nat × Nat) → Nat → St → Prop) (F : Nat) {shA shB : Nat → Nat × Nat} {nA nB : Nat} {zA zB : St} (hI : LawOk I 0 nA) (hc1 : fa_X11_init F (shx sh00 0 (11, 0)) (0 + 1) (zx z00 0) 0 (cellv L xs) = some (shA, nA, zA, ())) (hkA : lk zA nA) (hnA : nA < CBK) (hc2 : fa_X18_init F (shx shA nA (18, 0)) (nA + 1) (zx zA nA) nA (cellv L xs) = some (shB, nB, zB, ())) (hI1 : I 0 shB nB zB) : W p l e room_1 s m #[Value.ref b] below meth c s.heap [] 0 0 (lw_Z below #[Value.ref b] s) (entryFrame m ([Value.ref b] : List Value).toArray 4) := by
  obtain ⟨dC, dI, cy, sk, cb, hK, hN, hC, hSK0⟩ := law_world2 C0
  obtain ⟨hx, hb, hr, hml, hown, hts, hX, hbl, hlocks, hgv⟩ := id C0
  clear hgv
  have hLs : L < 2 ^ 31 := Nat.lt_of_le_of_lt hL (by decide)
  generalize hAe : (fun q : Nat => s.heap.size ≤ q) = A at hSK0
  have hA : ∀ q : Nat, s.heap.size ≤ q → A q := fun q h => by rw [← hAe]; exact h
  have hAs : ∀ q : Nat, A q → s.heap.size ≤ q := fun q h => by rw [← hAe] at h; exact h
  have hbA : ¬ A b := fun h => Nat.not_le.mpr hbl (hAs b h)
  have hS : va_S A s.heap s.heap [] := va_S.rf
  obtain ⟨a, ea⟩ : ∃ w : Nat → Nat, w = fun _ => cb := ⟨_, rfl⟩
  have hcb : a CBK = cb := by rw [ea]
  clear ea
  have hSK := hSK0
  rw [← hcb] at hSK
  have hP : va_P (dC, dI) vwCl (Wd cy a sh00 0 z00) s.heap := fun k q h => by simp [Wd] at h
  have hD : va_D A (Wd cy a sh00 0 z00) := ⟨fun i j p q h => by simp [Wd] at h, fun k q h => by simp [Wd] at h⟩
  have hk : lk z00 0 := fun k j q h => by cases h
  have hl := lv_entry ([.ref b]) (n := 4) (Nat.le_of_ble_eq_true rfl)
  rw [lg_entry_eq]
  generalize (lg_sl ([.ref b]) ++ List.replicate (4 - (lg_sl ([.ref b])).length) Slot.unset).toArray = ls at hl ⊢
  replace hl : lv_has ls 4 [(0, .ref b)] := hl
  refine de_new (f := fun sh' n' z' k' => some (sh', n', z', k')) (y := (shx sh00 0 (11, 0), 0 + 1, zx z00 0, 0)) (ci := 11) (fs := [.null, .int 0, .int 0, .null, .int 0, .int 0, .null, .null, .null, .null, .null, .null, .int 0]) (C := RX11) (T := TX11) (N := 13) (alc_t (by decide)) hk hx hb hts itX11 tyX11 tyX11_ok hown (hts _ n_L_law_0) (hts _ n_L_law_1) (hts _ n_L_law_2) hK hP hD hS hA rfl rfl df_X11 (Nat.le_of_ble_eq_true rfl) (Nat.le_of_ble_eq_true rfl) dL_law_0 (fun a sh' n' z' k' H_1 hfe hax hk hnn hP hD hS => ?_)
  obtain ⟨e1, e2⟩ := Prod.mk.inj (Option.some.inj hfe)
  obtain ⟨e2, e3⟩ := Prod.mk.inj e2
  obtain ⟨e3, e4⟩ := Prod.mk.inj e3
  rw [e4]
  rw [e1, e2, e3] at hP hD
  rw [e2, e3] at hk
  replace hl : lv_has ls 4 [(0, .ref b)] := hl
  replace hcb := (hax CBK (Or.inr rfl)).trans hcb
  rw [← hax CBK (Or.inr rfl)] at hSK
  clear hax hnn hfe e1 e2 e3 e4
  refine W.widen (k := 1) (n := 13) (Nat.le_of_ble_eq_true rfl) (Nat.le_of_ble_eq_true rfl) ?_
  refine lv_dup hx hb dL_law_3 rfl ?_
  refine lv_aload_n hx hb dL_law_4 rfl (lv_at hl 0 rfl) ?_
  refine lv_iconst (v := 0) hx hb dL_law_5 (by decide) ?_
  have hFc : ∀ q, va_A [] H_1.size q → A q := fun q h => Or.elim h (fun ⟨k, e, h⟩ => by simp at h) (fun h => hA q (Nat.le_trans hS.1 h))
  refine va_calli (va_runS (As := [.ref b, .int 0]) (rest := [.ref (a 0), .ref (a 0)]) ⟨hx, hb, hml, hown, hts⟩ (c_L_cell2 l b L H_1.size xs) (va_cwS 2 hts gT_L_cell rfl rfl rfl (by decide +kernel) ⟨Nat.le_of_ble_eq_true rfl, Nat.le_of_ble_eq_true rfl⟩) ⟨fun a U g mk q => by obtain ⟨q0, q1, q2, q3, q4⟩ := q; exact ⟨q0, q1, va_X.calling q2, q3, q4⟩, fun U hU hW => ⟨rfl, by rw [hU], by rw [hU]; exact va_X.warm (va_X.keptS hX hbl hbA hS) hW, by rw [hU]; exact Nat.lt_of_lt_of_le hbl hS.1, hLs⟩⟩ rfl rfl hl.1 rfl (lv_room (Nat.le_of_ble_eq_true rfl)) dL_law_6 ⟨Nat.le_of_ble_eq_true rfl, Nat.le_of_ble_eq_true rfl⟩) hS (fun q _ h => hFc q h) hFc (fun rr u t H_2 locs ht hvm hw hB hz1 hk1 hS2 => ?_)
  rw [hw]
  replace hP := hP.kept (H1 := H_2) (fun k q hq => hk1 q.1 (hP k q hq).lt (fun h => absurd ((hP k q hq).lt) (Nat.not_lt.mpr (Or.elim h (fun ⟨k, e, h⟩ => by simp at h) id))))
  replace hS := hS2
  clear hFc hk1 hz1 hvm ht hw hS2
  refine W.widen (k := 1) (n := 13) (Nat.le_of_ble_eq_true rfl) (Nat.le_of_ble_eq_true rfl) ?_
  have hFc := de_free hD hS hA
  refine va_callv (va_runI (As := [.int (cellv L xs)]) (rest := [.ref (a 0)]) ⟨hx, hb, hml, hown, hts⟩ (da_X11_init l dC dI cy a _ _ H_2.size F sk _ 0 (cellv L xs) hk hc1) (cwI 1 hts gtL_X11_init rfl rfl rfl (hts _ n_L_law_2) (hts _ n_L_law_11) (hts _ n_L_law_12) rfl (by decide +kernel) ⟨Nat.le_of_ble_eq_true rfl, Nat.le_of_ble_eq_true rfl⟩) ⟨fun a U g mk q => by obtain ⟨q0, q1, qP, qK, qD, qN, qS⟩ := q; exact ⟨q0, q1, qP, va_K.moved (u := U) (U := U.calling g mk a) (Vm.Alike.refl U.vm) qK, qD, qN.same rfl, SKs.moved (u := U) (U := U.calling g mk a) (Vm.Alike.refl U.vm) qS⟩, fun U hU hW => ⟨rfl, by rw [hU], by rw [hU]; exact hP, va_K.moved hW.alike hK, hD.weaken (fun _ _ _ _ => trivial), hN.warm hW, by rw [hU]; exact ((hSK.kept hS.2.1).narrow hFc).moved hW.alike⟩⟩ rfl rfl hl.1 rfl (lv_room (Nat.le_of_ble_eq_true rfl)) dL_law_9 ⟨Nat.le_of_ble_eq_true rfl, Nat.le_of_ble_eq_true rfl⟩) hS (fun q _ h => hFc q h) hFc (fun a t H_3 locs ht hvm hw hB hz1 hk1 hS2 => ?_)
  obtain ⟨hax, hnn⟩ := hw
  obtain ⟨hP1, -, hD1⟩ := hB
  rw [ht] at hP1
  replace hD := hD1.weaken (fun _ _ _ h => hFc _ h)
  replace hP := hP1
  replace hS := hS2
  have h0A : 0 < nA := hnn
  replace hl : lv_has ls 4 [(0, .ref b)] := hl
  replace hcb := (hax CBK (Or.inr rfl)).trans hcb
  rw [← hax CBK (Or.inr rfl)] at hSK
  refine W.eq (g2 := F0 m 12 ls [.ref (a 0)]) (by rw [hax 0 (Or.inl (by decide))]) ?_
  clear hax hnn hP1 hD1 hS2 hFc hz1 hk1 hvm ht
  refine W.widen (k := 337) (n := 246331) (Nat.le_of_ble_eq_true rfl) (Nat.le_of_ble_eq_true rfl) ?_
  refine lv_astore_n (lv' := [(1, .ref (a 0)), (0, .ref b)]) hx hb dL_law_12 rfl hl (by decide) rfl (fun ls hl2 => ?_)
  replace hl := hl2
  clear hl2
  refine de_new (f := fun sh' n' z' k' => some (sh', n', z', k')) (y := (shx shA nA (18, 0), nA + 1, zx zA nA, nA)) (ci := 18) (fs := [.null, .null, .null, .int 0, .null, .int 0, .null, .null, .null, .int 0, .null, .null, .null, .null, .int 0, .null, .null, .null, .null, .null, .long 0, .long 0, .int 0, .int 0, .long 0, .int 0, .int 0, .int 0, .long 0, .int 0, .null, .null, .null, .null, .null, .null, .int 0, .null, .null, .null, .null, .null, .null, .null, .null, .int 0, .int 0, .int 0, .null, .null, .int 0, .int 0, .int 0, .int 0, .null, .null, .null, .null, .null, .null, .null, .null, .null, .null, .null, .null, .null, .null, .null, .null, .null, .null, .null, .null, .null, .int 0, .null, .null]) (C := RX18) (T := TX18) (N := 78) (alc_t hnA) hkA hx hb hts itX18 tyX18 tyX18_ok hown (hts _ n_L_law_3) (hts _ n_L_law_4) (hts _ n_L_law_5) hK hP hD hS hA rfl rfl df_X18 (Nat.le_of_ble_eq_true rfl) (Nat.le_of_ble_eq_true rfl) dL_law_13 (fun a sh' n' z' k' H_4 hfe hax hk hnn hP hD hS => ?_)
  obtain ⟨e1, e2⟩ := Prod.mk.inj (Option.some.inj hfe)
  obtain ⟨e2, e3⟩ := Prod.mk.inj e2
  obtain ⟨e3, e4⟩ := Prod.mk.inj e3
  rw [e4]
  rw [e1, e2, e3] at hP hD
  rw [e2, e3] at hk
  replace hl : lv_has ls 4 [(1, .ref (a 0)), (0, .ref b)] := by rw [hax 0 (Or.inl h0A)]; exact hl
  replace hcb := (hax CBK (Or.inr rfl)).trans hcb
  rw [← hax CBK (Or.inr rfl)] at hSK
  clear hax hnn hfe e1 e2 e3 e4
  refine W.widen (k := 338) (n := 246409) (Nat.le_of_ble_eq_true rfl) (Nat.le_of_ble_eq_true rfl) ?_
  refine lv_dup hx hb dL_law_16 rfl ?_
  refine lv_aload_n hx hb dL_law_17 rfl (lv_at hl 1 rfl) ?_
  refine lv_iconst (v := 0) hx hb dL_law_18 (by decide) ?_
  have hFc : ∀ q, va_A [] H_4.size q → A q := fun q h => Or.elim h (fun ⟨k, e, h⟩ => by simp at h) (fun h => hA q (Nat.le_trans hS.1 h))
  refine va_calli (va_runS (As := [.ref b, .int 0]) (rest := [.ref (a nA), .ref (a nA)]) ⟨hx, hb, hml, hown, hts⟩ (c_L_cell2 l b L H_4.size xs) (va_cwS 2 hts gT_L_cell rfl rfl rfl (by decide +kernel) ⟨Nat.le_of_ble_eq_true rfl, Nat.le_of_ble_eq_true rfl⟩) ⟨fun a U g mk q => by obtain ⟨q0, q1, q2, q3, q4⟩ := q; exact ⟨q0, q1, va_X.calling q2, q3, q4⟩, fun U hU hW => ⟨rfl, by rw [hU], by rw [hU]; exact va_X.warm (va_X.keptS hX hbl hbA hS) hW, by rw [hU]; exact Nat.lt_of_lt_of_le hbl hS.1, hLs⟩⟩ rfl rfl hl.1 rfl (lv_room (Nat.le_of_ble_eq_true rfl)) dL_law_19 ⟨Nat.le_of_ble_eq_true rfl, Nat.le_of_ble_eq_true rfl⟩) hS (fun q _ h => hFc q h) hFc (fun rr u t H_5 locs ht hvm hw hB hz1 hk1 hS2 => ?_)
  rw [hw]
  replace hP := hP.kept (H1 := H_5) (fun k q hq => hk1 q.1 (hP k q hq).lt (fun h => absurd ((hP k q hq).lt) (Nat.not_lt.mpr (Or.elim h (fun ⟨k, e, h⟩ => by simp at h) id))))
  replace hS := hS2
  clear hFc hk1 hz1 hvm ht hw hS2
  refine W.widen (k := 338) (n := 246409) (Nat.le_of_ble_eq_true rfl) (Nat.le_of_ble_eq_true rfl) ?_
  have hFc := de_free hD hS hA
  refine va_callv (va_runI (As := [.int (cellv L xs)]) (rest := [.ref (a nA)]) ⟨hx, hb, hml, hown, hts⟩ (da_X18_init l dC dI cy a _ _ H_5.size F _ nA (cellv L xs) hk hc2) (cwI 1 hts gtL_X18_init rfl rfl rfl (hts _ n_L_law_5) (hts _ n_L_law_346) (hts _ n_L_law_347) rfl (by decide +kernel) ⟨Nat.le_of_ble_eq_true rfl, Nat.le_of_ble_eq_true rfl⟩) ⟨fun a U g mk q => by obtain ⟨q0, q1, qP, qK, qD, qN⟩ := q; exact ⟨q0, q1, qP, va_K.moved (u := U) (U := U.calling g mk a) (Vm.Alike.refl U.vm) qK, qD, qN.same rfl⟩, fun U hU hW => ⟨rfl, by rw [hU], by rw [hU]; exact hP, va_K.moved hW.alike hK, hD.weaken (fun _ _ _ _ => trivial), hN.warm hW⟩⟩ rfl rfl hl.1 rfl (lv_room (Nat.le_of_ble_eq_true rfl)) dL_law_22 ⟨Nat.le_of_ble_eq_true rfl, Nat.le_of_ble_eq_true rfl⟩) hS (fun q _ h => hFc q h) hFc (fun a t H_6 locs ht hvm hw hB hz1 hk1 hS2 => ?_)
  obtain ⟨⟨hax, hnn⟩, hk⟩ := hw
  obtain ⟨hP1, -, hD1⟩ := hB
  rw [ht] at hP1
  replace hD := hD1.weaken (fun _ _ _ h => hFc _ h)
  replace hP := hP1
  replace hS := hS2
  replace hl : lv_has ls 4 [(1, .ref (a 0)), (0, .ref b)] := by rw [hax 0 (Or.inl (Nat.lt_succ_of_lt h0A))]; exact hl
  replace hcb := (hax CBK (Or.inr rfl)).trans hcb
  rw [← hax CBK (Or.inr rfl)] at hSK
  refine W.eq (g2 := F0 m 25 ls [.ref (a nA)]) (by rw [hax nA (Or.inl (Nat.lt_succ_self nA))]) ?_
  clear hax hnn hP1 hD1 hS2 hFc hz1 hk1 hvm ht
  refine W.widen (k := 513) (n := 693214) (Nat.le_of_ble_eq_true rfl) (Nat.le_of_ble_eq_true rfl) ?_
  refine lv_astore_n (lv' := [(2, .ref (a nA)), (1, .ref (a 0)), (0, .ref b)]) hx hb dL_law_25 rfl hl (by decide) rfl (fun ls hl2 => ?_)
  replace hl := hl2
  clear hl2
  refine lv_iconst (v := 1) hx hb dL_law_26 (by decide) ?_
  refine lv_istore_n (lv' := [(3, .int 1), (2, .ref (a nA)), (1, .ref (a 0)), (0, .ref b)]) hx hb dL_law_27 rfl hl (by decide) rfl (fun ls hl2 => ?_)
  replace hl := hl2
  clear hl2
  refine W.widen (k := CL0 + 0) (n := SL0 + 2048 * 0) (Nat.le_of_ble_eq_true rfl) (Nat.le_of_ble_eq_true rfl) ?_
  exact law_loop l hL C0 dC dI cy sk cb hK hN hC A hA hAs hSK0 I 0 nA hI 512 0 rfl a _ _ _ ls H_6 locs hI1 hcb (lv_sub hl [3, 2, 1, 0] rfl) hP hD hS
