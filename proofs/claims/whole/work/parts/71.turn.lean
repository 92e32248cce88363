def CL0 : Nat := 513
def SL0 : Nat := 693214
theorem lw_le {ii L : Nat} (h : ii < 2 ^ 20) (hL : L ≤ 4097) (hc : ¬ (Int32.ofNat L - 8) < nI ii) : ii + 8 ≤ L := by
  have hsub : (Int32.ofNat L - 8).toInt = (L : Int) - 8 := pk_sub_toInt (a := L) (b := 8) (by omega) (by decide)
  rw [Int32.lt_iff_toInt_lt, hsub, nI_toInt (by omega)] at hc
  omega
theorem lw_rs : 1743838 ≤ room_1.slots := Nat.le_of_ble_eq_true rfl
theorem lw_rc : 1026 ≤ room_1.cells := Nat.le_of_ble_eq_true rfl
theorem lw_room {q mc ms : Nat} (hq : q ≤ 512) (h1 : mc ≤ 1) (h2 : ms ≤ 2048) : CL0 + q + mc ≤ room_1.cells ∧ SL0 + 2048 * q + ms ≤ room_1.slots := by
  have hrs := lw_rs
  have hrc := lw_rc
  show 513 + q + mc ≤ room_1.cells ∧ 693214 + 2048 * q + ms ≤ room_1.slots
  omega
theorem tbd_0_18 {x : Int32} (h0 : ¬ x = 0) (h1 : ¬ x = 1) (h2 : ¬ x = 2) (h3 : ¬ x = 3) (h4 : ¬ x = 4) (h5 : ¬ x = 5) (h6 : ¬ x = 6) (h7 : ¬ x = 7) (h8 : ¬ x = 8) (h9 : ¬ x = 9) (h10 : ¬ x = 10) (h11 : ¬ x = 11) (h12 : ¬ x = 12) (h13 : ¬ x = 13) (h14 : ¬ x = 14) (h15 : ¬ x = 15) (h16 : ¬ x = 16) (h17 : ¬ x = 17) (h18 : ¬ x = 18) : x.toInt < 0 ∨ 18 < x.toInt := by
  have a0 : x.toInt ≠ 0 := tbd_ne h0
  have a1 : x.toInt ≠ 1 := tbd_ne h1
  have a2 : x.toInt ≠ 2 := tbd_ne h2
  have a3 : x.toInt ≠ 3 := tbd_ne h3
  have a4 : x.toInt ≠ 4 := tbd_ne h4
  have a5 : x.toInt ≠ 5 := tbd_ne h5
  have a6 : x.toInt ≠ 6 := tbd_ne h6
  have a7 : x.toInt ≠ 7 := tbd_ne h7
  have a8 : x.toInt ≠ 8 := tbd_ne h8
  have a9 : x.toInt ≠ 9 := tbd_ne h9
  have a10 : x.toInt ≠ 10 := tbd_ne h10
  have a11 : x.toInt ≠ 11 := tbd_ne h11
  have a12 : x.toInt ≠ 12 := tbd_ne h12
  have a13 : x.toInt ≠ 13 := tbd_ne h13
  have a14 : x.toInt ≠ 14 := tbd_ne h14
  have a15 : x.toInt ≠ 15 := tbd_ne h15
  have a16 : x.toInt ≠ 16 := tbd_ne h16
  have a17 : x.toInt ≠ 17 := tbd_ne h17
  have a18 : x.toInt ≠ 18 := tbd_ne h18
  omega
/-- an invariant of both objects (cells kx and km): every call ends on both sides with one answer, and keeps it -/
def LawOk (I : Nat → (Nat → Nat × Nat) → Nat → St → Prop) (kx km : Nat) : Prop := (∀ q sh n z, I q sh n z → lk z n ∧ okO sh n kx 11 = true ∧ okO sh n km 18 = true ∧ I (q + 1) sh n z) ∧ (∀ q sh n z (y0 : Int64) (y1 : Int32), q ≤ 512 → I q sh n z → ∃ F z1 z2 r, fn_X11_type F sh n z kx y0 y1 = some (z1, r) ∧ fn_X18_type F sh n z1 km y0 y1 = some (z2, r) ∧ I (q + 1) sh n z2) ∧ (∀ q sh n z (y0 : Int64) (y1 : Int64), q ≤ 512 → I q sh n z → ∃ F z1 z2 r, fn_X11_mint F sh n z kx y0 y1 = some (z1, r) ∧ fn_X18_mint F sh n z1 km y0 y1 = some (z2, r) ∧ I (q + 1) sh n z2) ∧ (∀ q sh n z, q ≤ 512 → I q sh n z → ∃ F z1 z2 r, fn_X11_begin F sh n z kx = some (z1, r) ∧ fn_X18_begin F sh n z1 km = some (z2, r) ∧ I (q + 1) sh n z2) ∧ (∀ q sh n z (y0 : Int64) (y1 : Int64) (y2 : Int32), q ≤ 512 → I q sh n z → ∃ F sh1 n1 z1 z2 r, fa_X11_publish F sh n z kx y0 y1 y2 = some (sh1, n1, z1, r) ∧ fn_X18_publish F sh1 n1 z1 km y0 y1 y2 = some (z2, r) ∧ I (q + 1) sh1 n1 z2) ∧ (∀ q sh n z (y0 : Int64) (y1 : Int64) (y2 : Int32) (y3 : Int32) (y4 : Int32), q ≤ 512 → I q sh n z → ∃ F z1 z2 r, fn_X11_call F sh n z kx y0 y1 y2 y3 y4 = some (z1, r) ∧ fn_X18_call F sh n z1 km y0 y1 y2 y3 y4 = some (z2, r) ∧ I (q + 1) sh n z2) ∧ (∀ q sh n z (y0 : Int32) (y1 : Int64) (y2 : Int64), q ≤ 512 → I q sh n z → ∃ F z1 z2 r, fn_X11_argument F sh n z kx y0 y1 y2 = some (z1, r) ∧ fn_X18_argument F sh n z1 km y0 y1 y2 = some (z2, r) ∧ I (q + 1) sh n z2) ∧ (∀ q sh n z (y0 : Int64), q ≤ 512 → I q sh n z → ∃ F z1 z2 r, fn_X11_weave F sh n z kx y0 = some (z1, r) ∧ fn_X18_weave F sh n z1 km y0 = some (z2, r) ∧ I (q + 1) sh n z2) ∧ (∀ q sh n z, q ≤ 512 → I q sh n z → ∃ F z1 z2 r, fn_X11_unweave F sh n z kx = some (z1, r) ∧ fn_X18_unweave F sh n z1 km = some (z2, r) ∧ I (q + 1) sh n z2) ∧ (∀ q sh n z, q ≤ 512 → I q sh n z → ∃ F z1 z2 r, fn_X11_execute F sh n z kx = some (z1, r) ∧ fn_X18_execute F sh n z1 km = some (z2, r) ∧ I (q + 1) sh n z2) ∧ (∀ q sh n z (y0 : Int32) (y1 : Int32), q ≤ 512 → I q sh n z → ∃ F z1 z2 r, fn_X11_told F sh n z kx y0 y1 = some (z1, r) ∧ fn_X18_told F sh n z1 km y0 y1 = some (z2, r) ∧ I (q + 1) sh n z2) ∧ (∀ q sh n z (y0 : Int32), q ≤ 512 → I q sh n z → ∃ F z1 z2 r, fn_X11_code F sh n z kx y0 = some (z1, r) ∧ fn_X18_code F sh n z1 km y0 = some (z2, r) ∧ I (q + 1) sh n z2) ∧ (∀ q sh n z (y0 : Int32) (y1 : Int32) (y2 : Int32), q ≤ 512 → I q sh n z → ∃ F z1 z2 r, fn_X11_result F sh n z kx y0 y1 y2 = some (z1, r) ∧ fn_X18_result F sh n z1 km y0 y1 y2 = some (z2, r) ∧ I (q + 1) sh n z2) ∧ (∀ q sh n z (y0 : Int64) (y1 : Int32), q ≤ 512 → I q sh n z → ∃ F z1 z2 r, fn_X11_account F sh n z kx y0 y1 = some (z1, r) ∧ fn_X18_account F sh n z1 km y0 y1 = some (z2, r) ∧ I (q + 1) sh n z2) ∧ (∀ q sh n z (y0 : Int32), q ≤ 512 → I q sh n z → ∃ F z1 z2 r, fn_X11_coins F sh n z kx y0 = some (z1, r) ∧ fn_X18_coins F sh n z1 km y0 = some (z2, r) ∧ I (q + 1) sh n z2) ∧ (∀ q sh n z (y0 : Int32), q ≤ 512 → I q sh n z → ∃ F z1 z2 r, fn_X11_places F sh n z kx y0 = some (z1, r) ∧ fn_X18_places F sh n z1 km y0 = some (z2, r) ∧ I (q + 1) sh n z2) ∧ (∀ q sh n z (y0 : Int64) (y1 : Int32) (y2 : Int32), q ≤ 512 → I q sh n z → ∃ F z1 z2 r, fn_X11_resource F sh n z kx y0 y1 y2 = some (z1, r) ∧ fn_X18_resource F sh n z1 km y0 y1 y2 = some (z2, r) ∧ I (q + 1) sh n z2) ∧ (∀ q sh n z (y0 : Int32), q ≤ 512 → I q sh n z → ∃ F z1 z2 r, fn_X11_byteOf F sh n z kx y0 = some (z1, r) ∧ fn_X18_byteOf F sh n z1 km y0 = some (z2, r) ∧ I (q + 1) sh n z2) ∧ (∀ q sh n z (y0 : Int32), q ≤ 512 → I q sh n z → ∃ F z1 z2 r, fn_X11_root F sh n z kx y0 = some (z1, r) ∧ fn_X18_root F sh n z1 km y0 = some (z2, r) ∧ I (q + 1) sh n z2) ∧ (∀ q sh n z, q ≤ 512 → I q sh n z → ∃ F z1 z2 r, fn_X11_slips F sh n z kx = some (z1, r) ∧ fn_X18_slips F sh n z1 km = some (z2, r) ∧ I (q + 1) sh n z2)
set_option maxHeartbeats 8000000 in
set_option maxRecDepth 100000 in
theorem law_turn {p : Program} {e : Env} {s : State} {m : MethodId} {below : List Frame} {meth : Method} {c : Code} (l : Launch) {b L : Nat} {xs : Nat → Int32} (hL : L ≤ 4097) (C0 : lw_At p s m meth c b L xs) (dC : Nat → ClassId) (dI : Nat → Nat → Nat) (cy : Nat → ClassId) (sk : Nat → Nat) (cb : Nat) (hK : va_K (dC, dI) vwCl (TYS cy) s) (hN : NK s) (hC : va_Nw (.castable "[B" "java/lang/Cloneable") s) (A : Nat → Prop) (hA : ∀ q : Nat, s.heap.size ≤ q → A q) (hAs : ∀ q : Nat, A q → s.heap.size ≤ q) (hSK0 : SKs sk cb A s s.heap) (I : Nat → (Nat → Nat × Nat) → Nat → St → Prop) (kx km : Nat) (hI : LawOk I kx km) (q : Nat) (hq : q ≤ 512) (next : q < 512 → ∀ (a : Nat → Nat) (sh : Nat → Nat × Nat) (n : Nat) (z : St) (ls : Array Slot) (H : Heap) (locs : List Loc), I (q + 1) sh n z → a CBK = cb → lv_has ls 4 [(0, .ref b), (1, .ref (a kx)), (2, .ref (a km)), (3, .int (nI (1 + 8 * (q + 1))))] → va_P (dC, dI) vwCl (Wd cy a sh n z) H → va_D A (Wd cy a sh n z) → va_S A s.heap H locs → W p l e room_1 s m #[Value.ref b] below meth c H locs (CL0 + (q + 1)) (SL0 + 2048 * (q + 1)) (lw_Z below #[Value.ref b] s) (F0 m 28 ls [])) : ∀ (a : Nat → Nat) (sh : Nat → Nat × Nat) (n : Nat) (z : St) (ls : Array Slot) (H : Heap) (locs : List Loc), I q sh n z → a CBK = cb → lv_has ls 4 [(0, .ref b), (1, .ref (a kx)), (2, .ref (a km)), (3, .int (nI (1 + 8 * q)))] → va_P (dC, dI) vwCl (Wd cy a sh n z) H → va_D A (Wd cy a sh n z) → va_S A s.heap H locs → W p l e room_1 s m #[Value.ref b] below meth c H locs (CL0 + q) (SL0 + 2048 * q) (lw_Z below #[Value.ref b] s) (F0 m 28 ls []) := by
  obtain ⟨hx, hb, hr, hml, hown, hts, hX, hbl, hlocks, hgv⟩ := id C0
  clear hgv
  have hLs : L < 2 ^ 31 := Nat.lt_of_le_of_lt hL (by decide)
  have hbA : ¬ A b := fun h => Nat.not_le.mpr hbl (hAs b h)
  intro a sh n z ls H locs hI0 hcb hl hP hD hS
  have hSK := hSK0
  rw [← hcb] at hSK
  obtain ⟨hk, okx, okm, hI9⟩ := hI.1 _ _ _ _ hI0
  obtain ⟨kgkx, sgkx⟩ := okO_at okx
  obtain ⟨kgkm, sgkm⟩ := okO_at okm
  have hwc : CL0 = 513 := rfl
  have hws : SL0 = 693214 := rfl
  have hii0 : 1 + 8 * q < 2 ^ 20 := by omega
  obtain ⟨ii, eii⟩ : ∃ w, w = 1 + 8 * q := ⟨_, rfl⟩
  rw [← eii] at hl hii0
  replace next : q < 512 → ∀ (a : Nat → Nat) (sh : Nat → Nat × Nat) (n : Nat) (z : St) (ls : Array Slot) (H : Heap) (locs : List Loc), I (q + 1) sh n z → a CBK = cb → lv_has ls 4 [(0, .ref b), (1, .ref (a kx)), (2, .ref (a km)), (3, .int (nI (ii + 8)))] → va_P (dC, dI) vwCl (Wd cy a sh n z) H → va_D A (Wd cy a sh n z) → va_S A s.heap H locs → W p l e room_1 s m #[Value.ref b] below meth c H locs (CL0 + (q + 1)) (SL0 + 2048 * (q + 1)) (lw_Z below #[Value.ref b] s) (F0 m 28 ls []) := by
    rw [show ii + 8 = 1 + 8 * (q + 1) by omega]
    exact next
  refine lv_iload_n hx hb dL_law_28 rfl (lv_at hl 3 rfl) ?_
  refine lv_aload_n hx hb dL_law_29 rfl (lv_at hl 0 rfl) ?_
  refine va_slen hx hb hX hbl hbA hS dL_law_30 ?_
  refine lv_bipush (v := 8) hx hb dL_law_31 (by decide) ?_
  refine lv_isub hx hb dL_law_33 ?_
  refine lv_icmp_gt (tgt := 1064) hx hb dL_law_34 (by decide) (fun c_1 => ?_) (fun c_1 => ?_)
  · refine lv_iconst (v := 1) hx hb dL_law_1064 (by decide) ?_
    refine va_forget (fun q hq => hAs _ (hS.2.2 q hq)) ?_
    have hrs := lw_rs
    have hrc := lw_rc
    refine W.widen (k := room_1.cells) (n := room_1.slots) (by omega) (by omega) ?_
    exact lw_ret hx hb hr hlocks dL_law_1065
  have hii : ii + 8 ≤ L := lw_le hii0 hL c_1
  refine lv_aload_n hx hb dL_law_37 rfl (lv_at hl 0 rfl) ?_
  refine lv_iload_n hx hb dL_law_38 rfl (lv_at hl 3 rfl) ?_
  refine va_sld hx hb hX hbl hbA hS (vp_in_nI (n := ii) (by omega) hLs) dL_law_39 ?_
  refine W.eq (g2 := F0 m 40 ls [.int (xs (ii))]) (by rw [nI_clamp (n := ii) (by omega)]) ?_
  refine lv_bipush (v := 31) hx hb dL_law_40 (by decide) ?_
  refine lv_iand hx hb dL_law_42 ?_
  obtain ⟨sw, esw⟩ : ∃ w, w = ((xs (ii)) &&& 31) := ⟨_, rfl⟩
  rw [← esw]
  clear esw
  by_cases c_2 : sw = 0
  · skip
    refine lv_tableIn (tgt := 132) hx hb dL_law_43 (by rw [c_2]; decide) (by rw [c_2]; decide) (by rw [c_2]; rfl) (by decide) ?_
    refine lv_aload_n hx hb dL_law_132 rfl (lv_at hl 1 rfl) ?_
    refine lv_aload_n hx hb dL_law_133 rfl (lv_at hl 0 rfl) ?_
    refine lv_iload_n hx hb dL_law_134 rfl (lv_at hl 3 rfl) ?_
    refine lv_iconst (v := 1) hx hb dL_law_135 (by decide) ?_
    refine lv_iadd hx hb dL_law_136 ?_
    refine W.eq (g2 := F0 m 137 ls [.int (nI (ii + 1)), .ref b, .ref (a kx)]) (by rw [show nI (ii + 1) = nI ii + 1 from (nI_add ii 1).symm]) ?_
    refine va_sld hx hb hX hbl hbA hS (vp_in_nI (n := ii + 1) (by omega) hLs) dL_law_137 ?_
    refine W.eq (g2 := F0 m 138 ls [.int (xs (ii + 1)), .ref (a kx)]) (by rw [nI_clamp (n := ii + 1) (by omega)]) ?_
    refine lv_i2l (v := ((xs (ii + 1)) : Int32).toInt64) hx hb dL_law_138 rfl ?_
    refine lv_bipush (v := 32) hx hb dL_law_139 (by decide) ?_
    refine lv_lshl (v := ((((xs (ii + 1)) : Int32).toInt64) <<< ((32 : Int32).toInt64 &&& 63))) hx hb dL_law_141 rfl ?_
    refine lv_aload_n hx hb dL_law_142 rfl (lv_at hl 0 rfl) ?_
    refine lv_iload_n hx hb dL_law_143 rfl (lv_at hl 3 rfl) ?_
    refine lv_iconst (v := 2) hx hb dL_law_144 (by decide) ?_
    refine lv_iadd hx hb dL_law_145 ?_
    refine W.eq (g2 := F0 m 146 ls [.int (nI (ii + 2)), .ref b, .long (((((xs (ii + 1)) : Int32).toInt64) <<< ((32 : Int32).toInt64 &&& 63))), .ref (a kx)]) (by rw [show nI (ii + 2) = nI ii + 2 from (nI_add ii 2).symm]) ?_
    refine va_sld hx hb hX hbl hbA hS (vp_in_nI (n := ii + 2) (by omega) hLs) dL_law_146 ?_
    refine W.eq (g2 := F0 m 147 ls [.int (xs (ii + 2)), .long (((((xs (ii + 1)) : Int32).toInt64) <<< ((32 : Int32).toInt64 &&& 63))), .ref (a kx)]) (by rw [nI_clamp (n := ii + 2) (by omega)]) ?_
    refine lv_i2l (v := ((xs (ii + 2)) : Int32).toInt64) hx hb dL_law_147 rfl ?_
    refine lv_ldc2 hx hb hown (hts _ n_L_law_6) dL_law_148 ?_
    refine lv_land hx hb dL_law_151 ?_
    refine lv_lor hx hb dL_law_152 ?_
    refine lv_aload_n hx hb dL_law_153 rfl (lv_at hl 0 rfl) ?_
    refine lv_iload_n hx hb dL_law_154 rfl (lv_at hl 3 rfl) ?_
    refine lv_iconst (v := 3) hx hb dL_law_155 (by decide) ?_
    refine lv_iadd hx hb dL_law_156 ?_
    refine W.eq (g2 := F0 m 157 ls [.int (nI (ii + 3)), .ref b, .long ((((((xs (ii + 1)) : Int32).toInt64) <<< ((32 : Int32).toInt64 &&& 63))) ||| ((((xs (ii + 2)) : Int32).toInt64) &&& 4294967295)), .ref (a kx)]) (by rw [show nI (ii + 3) = nI ii + 3 from (nI_add ii 3).symm]) ?_
    refine va_sld hx hb hX hbl hbA hS (vp_in_nI (n := ii + 3) (by omega) hLs) dL_law_157 ?_
    refine W.eq (g2 := F0 m 158 ls [.int (xs (ii + 3)), .long ((((((xs (ii + 1)) : Int32).toInt64) <<< ((32 : Int32).toInt64 &&& 63))) ||| ((((xs (ii + 2)) : Int32).toInt64) &&& 4294967295)), .ref (a kx)]) (by rw [nI_clamp (n := ii + 3) (by omega)]) ?_
    obtain ⟨F, z1, z2, rA, hc1, hc2, hIz⟩ := hI.2.1 _ _ _ _ ((((((xs (ii + 1)) : Int32).toInt64) <<< ((32 : Int32).toInt64 &&& 63))) ||| ((((xs (ii + 2)) : Int32).toInt64) &&& 4294967295)) (xs (ii + 3)) hq hI0
    have hFc := de_free hD hS hA
    refine va_calli (va_runV (As := [.long ((((((xs (ii + 1)) : Int32).toInt64) <<< ((32 : Int32).toInt64 &&& 63))) ||| ((((xs (ii + 2)) : Int32).toInt64) &&& 4294967295)), .int (xs (ii + 3))]) (rest := []) ⟨hx, hb, hml, hown, hts⟩ (de_X11_type l dC dI cy a sh n H.size F z kx ((((((xs (ii + 1)) : Int32).toInt64) <<< ((32 : Int32).toInt64 &&& 63))) ||| ((((xs (ii + 2)) : Int32).toInt64) &&& 4294967295)) (xs (ii + 3)) hc1) (cwV 2 hts gT_X11_type rfl rfl rfl (by decide +kernel) ⟨Nat.le_of_ble_eq_true rfl, Nat.le_of_ble_eq_true rfl⟩) ⟨fun a U g mk q => by obtain ⟨q0, q1, qP, qK, qD, qN⟩ := q; exact ⟨q0, q1, qP, va_K.moved (u := U) (U := U.calling g mk a) (Vm.Alike.refl U.vm) qK, qD, qN.same rfl⟩, va_recv hK hP (ci := 11) (q0 := kx) rfl (Wd_ob kgkx sgkx (by decide)), fun U hU hW => ⟨rfl, by rw [hU], by rw [hU]; exact hP, va_K.moved hW.alike hK, hD.weaken (fun _ _ _ _ => trivial), hN.warm hW⟩⟩ rfl rfl hl.1 rfl (lv_room (Nat.le_of_ble_eq_true rfl)) dL_law_158 (lw_room hq (Nat.le_of_ble_eq_true rfl) (Nat.le_of_ble_eq_true rfl))) hS (fun q _ h => hFc q h) hFc (fun rr u t H_3 locs ht hvm hw hB hz1 hk1 hS2 => ?_)
    rw [hw]
    clear hw
    obtain ⟨hP1, -, hD1⟩ := hB
    rw [ht] at hP1
    replace hD := hD1.weaken (fun _ _ _ h => hFc _ h)
    replace hP := hP1
    replace hS := hS2
    clear hP1 hD1 hS2 hFc hz1 hk1 hvm ht
    refine lv_aload_n hx hb dL_law_161 rfl (lv_at hl 2 rfl) ?_
    refine lv_aload_n hx hb dL_law_162 rfl (lv_at hl 0 rfl) ?_
    refine lv_iload_n hx hb dL_law_163 rfl (lv_at hl 3 rfl) ?_
    refine lv_iconst (v := 1) hx hb dL_law_164 (by decide) ?_
    refine lv_iadd hx hb dL_law_165 ?_
    refine W.eq (g2 := F0 m 166 ls [.int (nI (ii + 1)), .ref b, .ref (a km), .int rA]) (by rw [show nI (ii + 1) = nI ii + 1 from (nI_add ii 1).symm]) ?_
    refine va_sld hx hb hX hbl hbA hS (vp_in_nI (n := ii + 1) (by omega) hLs) dL_law_166 ?_
    refine W.eq (g2 := F0 m 167 ls [.int (xs (ii + 1)), .ref (a km), .int rA]) (by rw [nI_clamp (n := ii + 1) (by omega)]) ?_
    refine lv_i2l (v := ((xs (ii + 1)) : Int32).toInt64) hx hb dL_law_167 rfl ?_
    refine lv_bipush (v := 32) hx hb dL_law_168 (by decide) ?_
    refine lv_lshl (v := ((((xs (ii + 1)) : Int32).toInt64) <<< ((32 : Int32).toInt64 &&& 63))) hx hb dL_law_170 rfl ?_
    refine lv_aload_n hx hb dL_law_171 rfl (lv_at hl 0 rfl) ?_
    refine lv_iload_n hx hb dL_law_172 rfl (lv_at hl 3 rfl) ?_
    refine lv_iconst (v := 2) hx hb dL_law_173 (by decide) ?_
    refine lv_iadd hx hb dL_law_174 ?_
    refine W.eq (g2 := F0 m 175 ls [.int (nI (ii + 2)), .ref b, .long (((((xs (ii + 1)) : Int32).toInt64) <<< ((32 : Int32).toInt64 &&& 63))), .ref (a km), .int rA]) (by rw [show nI (ii + 2) = nI ii + 2 from (nI_add ii 2).symm]) ?_
    refine va_sld hx hb hX hbl hbA hS (vp_in_nI (n := ii + 2) (by omega) hLs) dL_law_175 ?_
    refine W.eq (g2 := F0 m 176 ls [.int (xs (ii + 2)), .long (((((xs (ii + 1)) : Int32).toInt64) <<< ((32 : Int32).toInt64 &&& 63))), .ref (a km), .int rA]) (by rw [nI_clamp (n := ii + 2) (by omega)]) ?_
    refine lv_i2l (v := ((xs (ii + 2)) : Int32).toInt64) hx hb dL_law_176 rfl ?_
    refine lv_ldc2 hx hb hown (hts _ n_L_law_6) dL_law_177 ?_
    refine lv_land hx hb dL_law_180 ?_
    refine lv_lor hx hb dL_law_181 ?_
    refine lv_aload_n hx hb dL_law_182 rfl (lv_at hl 0 rfl) ?_
    refine lv_iload_n hx hb dL_law_183 rfl (lv_at hl 3 rfl) ?_
    refine lv_iconst (v := 3) hx hb dL_law_184 (by decide) ?_
    refine lv_iadd hx hb dL_law_185 ?_
    refine W.eq (g2 := F0 m 186 ls [.int (nI (ii + 3)), .ref b, .long ((((((xs (ii + 1)) : Int32).toInt64) <<< ((32 : Int32).toInt64 &&& 63))) ||| ((((xs (ii + 2)) : Int32).toInt64) &&& 4294967295)), .ref (a km), .int rA]) (by rw [show nI (ii + 3) = nI ii + 3 from (nI_add ii 3).symm]) ?_
    refine va_sld hx hb hX hbl hbA hS (vp_in_nI (n := ii + 3) (by omega) hLs) dL_law_186 ?_
    refine W.eq (g2 := F0 m 187 ls [.int (xs (ii + 3)), .long ((((((xs (ii + 1)) : Int32).toInt64) <<< ((32 : Int32).toInt64 &&& 63))) ||| ((((xs (ii + 2)) : Int32).toInt64) &&& 4294967295)), .ref (a km), .int rA]) (by rw [nI_clamp (n := ii + 3) (by omega)]) ?_
    have hFc := de_free hD hS hA
    refine va_calli (va_runV (As := [.long ((((((xs (ii + 1)) : Int32).toInt64) <<< ((32 : Int32).toInt64 &&& 63))) ||| ((((xs (ii + 2)) : Int32).toInt64) &&& 4294967295)), .int (xs (ii + 3))]) (rest := [.int rA]) ⟨hx, hb, hml, hown, hts⟩ (de_X18_type l dC dI cy a sh n H_3.size F z1 km ((((((xs (ii + 1)) : Int32).toInt64) <<< ((32 : Int32).toInt64 &&& 63))) ||| ((((xs (ii + 2)) : Int32).toInt64) &&& 4294967295)) (xs (ii + 3)) hc2) (cwV 2 hts gT_X18_type rfl rfl rfl (by decide +kernel) ⟨Nat.le_of_ble_eq_true rfl, Nat.le_of_ble_eq_true rfl⟩) ⟨fun a U g mk q => by obtain ⟨q0, q1, qP, qK, qD, qN⟩ := q; exact ⟨q0, q1, qP, va_K.moved (u := U) (U := U.calling g mk a) (Vm.Alike.refl U.vm) qK, qD, qN.same rfl⟩, va_recv hK hP (ci := 18) (q0 := km) rfl (Wd_ob kgkm sgkm (by decide)), fun U hU hW => ⟨rfl, by rw [hU], by rw [hU]; exact hP, va_K.moved hW.alike hK, hD.weaken (fun _ _ _ _ => trivial), hN.warm hW⟩⟩ rfl rfl hl.1 rfl (lv_room (Nat.le_of_ble_eq_true rfl)) dL_law_187 (lw_room hq (Nat.le_of_ble_eq_true rfl) (Nat.le_of_ble_eq_true rfl))) hS (fun q _ h => hFc q h) hFc (fun rr u t H_4 locs ht hvm hw hB hz1 hk1 hS2 => ?_)
    rw [hw]
    clear hw
    obtain ⟨hP1, -, hD1⟩ := hB
    rw [ht] at hP1
    replace hD := hD1.weaken (fun _ _ _ h => hFc _ h)
    replace hP := hP1
    replace hS := hS2
    clear hP1 hD1 hS2 hFc hz1 hk1 hvm ht
    refine lv_icmp_eq (tgt := 1058) hx hb dL_law_190 (by decide) (fun _ => ?_) (fun h => absurd rfl h)
    refine lv_iinc (v := nI (ii + 8)) (lv' := [(3, .int (nI (ii + 8))), (0, .ref b), (1, .ref (a kx)), (2, .ref (a km))]) hx hb dL_law_1058 hl (k := 3) rfl (by rw [show nI (ii + 8) = nI ii + 8 from (nI_add ii 8).symm]; rfl) (by decide) rfl (fun ls hl2 => ?_)
    replace hl := hl2
    clear hl2
    refine lv_goto (tgt := 28) hx hb dL_law_1061 (by decide) ?_
    refine W.widen (k := CL0 + (q + 1)) (n := SL0 + 2048 * (q + 1)) (by omega) (by omega) ?_
    exact next (by omega) a sh n z2 ls H_4 locs hIz hcb (lv_sub hl [1, 2, 3, 0] rfl) hP hD hS
  by_cases c_5 : sw = 1
  · skip
    refine lv_tableIn (tgt := 195) hx hb dL_law_43 (by rw [c_5]; decide) (by rw [c_5]; decide) (by rw [c_5]; rfl) (by decide) ?_
    refine lv_aload_n hx hb dL_law_195 rfl (lv_at hl 1 rfl) ?_
    refine lv_aload_n hx hb dL_law_196 rfl (lv_at hl 0 rfl) ?_
    refine lv_iload_n hx hb dL_law_197 rfl (lv_at hl 3 rfl) ?_
    refine lv_iconst (v := 1) hx hb dL_law_198 (by decide) ?_
    refine lv_iadd hx hb dL_law_199 ?_
    refine W.eq (g2 := F0 m 200 ls [.int (nI (ii + 1)), .ref b, .ref (a kx)]) (by rw [show nI (ii + 1) = nI ii + 1 from (nI_add ii 1).symm]) ?_
    refine va_sld hx hb hX hbl hbA hS (vp_in_nI (n := ii + 1) (by omega) hLs) dL_law_200 ?_
    refine W.eq (g2 := F0 m 201 ls [.int (xs (ii + 1)), .ref (a kx)]) (by rw [nI_clamp (n := ii + 1) (by omega)]) ?_
    refine lv_i2l (v := ((xs (ii + 1)) : Int32).toInt64) hx hb dL_law_201 rfl ?_
    refine lv_bipush (v := 32) hx hb dL_law_202 (by decide) ?_
    refine lv_lshl (v := ((((xs (ii + 1)) : Int32).toInt64) <<< ((32 : Int32).toInt64 &&& 63))) hx hb dL_law_204 rfl ?_
    refine lv_aload_n hx hb dL_law_205 rfl (lv_at hl 0 rfl) ?_
    refine lv_iload_n hx hb dL_law_206 rfl (lv_at hl 3 rfl) ?_
    refine lv_iconst (v := 2) hx hb dL_law_207 (by decide) ?_
    refine lv_iadd hx hb dL_law_208 ?_
    refine W.eq (g2 := F0 m 209 ls [.int (nI (ii + 2)), .ref b, .long (((((xs (ii + 1)) : Int32).toInt64) <<< ((32 : Int32).toInt64 &&& 63))), .ref (a kx)]) (by rw [show nI (ii + 2) = nI ii + 2 from (nI_add ii 2).symm]) ?_
    refine va_sld hx hb hX hbl hbA hS (vp_in_nI (n := ii + 2) (by omega) hLs) dL_law_209 ?_
    refine W.eq (g2 := F0 m 210 ls [.int (xs (ii + 2)), .long (((((xs (ii + 1)) : Int32).toInt64) <<< ((32 : Int32).toInt64 &&& 63))), .ref (a kx)]) (by rw [nI_clamp (n := ii + 2) (by omega)]) ?_
    refine lv_i2l (v := ((xs (ii + 2)) : Int32).toInt64) hx hb dL_law_210 rfl ?_
    refine lv_ldc2 hx hb hown (hts _ n_L_law_6) dL_law_211 ?_
    refine lv_land hx hb dL_law_214 ?_
    refine lv_lor hx hb dL_law_215 ?_
    refine lv_aload_n hx hb dL_law_216 rfl (lv_at hl 0 rfl) ?_
    refine lv_iload_n hx hb dL_law_217 rfl (lv_at hl 3 rfl) ?_
    refine lv_iconst (v := 3) hx hb dL_law_218 (by decide) ?_
    refine lv_iadd hx hb dL_law_219 ?_
    refine W.eq (g2 := F0 m 220 ls [.int (nI (ii + 3)), .ref b, .long ((((((xs (ii + 1)) : Int32).toInt64) <<< ((32 : Int32).toInt64 &&& 63))) ||| ((((xs (ii + 2)) : Int32).toInt64) &&& 4294967295)), .ref (a kx)]) (by rw [show nI (ii + 3) = nI ii + 3 from (nI_add ii 3).symm]) ?_
    refine va_sld hx hb hX hbl hbA hS (vp_in_nI (n := ii + 3) (by omega) hLs) dL_law_220 ?_
    refine W.eq (g2 := F0 m 221 ls [.int (xs (ii + 3)), .long ((((((xs (ii + 1)) : Int32).toInt64) <<< ((32 : Int32).toInt64 &&& 63))) ||| ((((xs (ii + 2)) : Int32).toInt64) &&& 4294967295)), .ref (a kx)]) (by rw [nI_clamp (n := ii + 3) (by omega)]) ?_
    refine lv_i2l (v := ((xs (ii + 3)) : Int32).toInt64) hx hb dL_law_221 rfl ?_
    refine lv_bipush (v := 32) hx hb dL_law_222 (by decide) ?_
    refine lv_lshl (v := ((((xs (ii + 3)) : Int32).toInt64) <<< ((32 : Int32).toInt64 &&& 63))) hx hb dL_law_224 rfl ?_
    refine lv_aload_n hx hb dL_law_225 rfl (lv_at hl 0 rfl) ?_
    refine lv_iload_n hx hb dL_law_226 rfl (lv_at hl 3 rfl) ?_
    refine lv_iconst (v := 4) hx hb dL_law_227 (by decide) ?_
    refine lv_iadd hx hb dL_law_228 ?_
    refine W.eq (g2 := F0 m 229 ls [.int (nI (ii + 4)), .ref b, .long (((((xs (ii + 3)) : Int32).toInt64) <<< ((32 : Int32).toInt64 &&& 63))), .long ((((((xs (ii + 1)) : Int32).toInt64) <<< ((32 : Int32).toInt64 &&& 63))) ||| ((((xs (ii + 2)) : Int32).toInt64) &&& 4294967295)), .ref (a kx)]) (by rw [show nI (ii + 4) = nI ii + 4 from (nI_add ii 4).symm]) ?_
    refine va_sld hx hb hX hbl hbA hS (vp_in_nI (n := ii + 4) (by omega) hLs) dL_law_229 ?_
    refine W.eq (g2 := F0 m 230 ls [.int (xs (ii + 4)), .long (((((xs (ii + 3)) : Int32).toInt64) <<< ((32 : Int32).toInt64 &&& 63))), .long ((((((xs (ii + 1)) : Int32).toInt64) <<< ((32 : Int32).toInt64 &&& 63))) ||| ((((xs (ii + 2)) : Int32).toInt64) &&& 4294967295)), .ref (a kx)]) (by rw [nI_clamp (n := ii + 4) (by omega)]) ?_
    refine lv_i2l (v := ((xs (ii + 4)) : Int32).toInt64) hx hb dL_law_230 rfl ?_
    refine lv_ldc2 hx hb hown (hts _ n_L_law_6) dL_law_231 ?_
    refine lv_land hx hb dL_law_234 ?_
    refine lv_lor hx hb dL_law_235 ?_
    obtain ⟨F, z1, z2, rA, hc1, hc2, hIz⟩ := hI.2.2.1 _ _ _ _ ((((((xs (ii + 1)) : Int32).toInt64) <<< ((32 : Int32).toInt64 &&& 63))) ||| ((((xs (ii + 2)) : Int32).toInt64) &&& 4294967295)) ((((((xs (ii + 3)) : Int32).toInt64) <<< ((32 : Int32).toInt64 &&& 63))) ||| ((((xs (ii + 4)) : Int32).toInt64) &&& 4294967295)) hq hI0
    have hFc := de_free hD hS hA
    refine va_calli (va_runV (As := [.long ((((((xs (ii + 1)) : Int32).toInt64) <<< ((32 : Int32).toInt64 &&& 63))) ||| ((((xs (ii + 2)) : Int32).toInt64) &&& 4294967295)), .long ((((((xs (ii + 3)) : Int32).toInt64) <<< ((32 : Int32).toInt64 &&& 63))) ||| ((((xs (ii + 4)) : Int32).toInt64) &&& 4294967295))]) (rest := []) ⟨hx, hb, hml, hown, hts⟩ (de_X11_mint l dC dI cy a sh n H.size F z kx ((((((xs (ii + 1)) : Int32).toInt64) <<< ((32 : Int32).toInt64 &&& 63))) ||| ((((xs (ii + 2)) : Int32).toInt64) &&& 4294967295)) ((((((xs (ii + 3)) : Int32).toInt64) <<< ((32 : Int32).toInt64 &&& 63))) ||| ((((xs (ii + 4)) : Int32).toInt64) &&& 4294967295)) hc1) (cwV 2 hts gT_X11_mint rfl rfl rfl (by decide +kernel) ⟨Nat.le_of_ble_eq_true rfl, Nat.le_of_ble_eq_true rfl⟩) ⟨fun a U g mk q => by obtain ⟨q0, q1, qP, qK, qD, qN⟩ := q; exact ⟨q0, q1, qP, va_K.moved (u := U) (U := U.calling g mk a) (Vm.Alike.refl U.vm) qK, qD, qN.same rfl⟩, va_recv hK hP (ci := 11) (q0 := kx) rfl (Wd_ob kgkx sgkx (by decide)), fun U hU hW => ⟨rfl, by rw [hU], by rw [hU]; exact hP, va_K.moved hW.alike hK, hD.weaken (fun _ _ _ _ => trivial), hN.warm hW⟩⟩ rfl rfl hl.1 rfl (lv_room (Nat.le_of_ble_eq_true rfl)) dL_law_236 (lw_room hq (Nat.le_of_ble_eq_true rfl) (Nat.le_of_ble_eq_true rfl))) hS (fun q _ h => hFc q h) hFc (fun rr u t H_6 locs ht hvm hw hB hz1 hk1 hS2 => ?_)
    rw [hw]
    clear hw
    obtain ⟨hP1, -, hD1⟩ := hB
    rw [ht] at hP1
    replace hD := hD1.weaken (fun _ _ _ h => hFc _ h)
    replace hP := hP1
    replace hS := hS2
    clear hP1 hD1 hS2 hFc hz1 hk1 hvm ht
    refine lv_aload_n hx hb dL_law_239 rfl (lv_at hl 2 rfl) ?_
    refine lv_aload_n hx hb dL_law_240 rfl (lv_at hl 0 rfl) ?_
    refine lv_iload_n hx hb dL_law_241 rfl (lv_at hl 3 rfl) ?_
    refine lv_iconst (v := 1) hx hb dL_law_242 (by decide) ?_
    refine lv_iadd hx hb dL_law_243 ?_
    refine W.eq (g2 := F0 m 244 ls [.int (nI (ii + 1)), .ref b, .ref (a km), .int rA]) (by rw [show nI (ii + 1) = nI ii + 1 from (nI_add ii 1).symm]) ?_
    refine va_sld hx hb hX hbl hbA hS (vp_in_nI (n := ii + 1) (by omega) hLs) dL_law_244 ?_
    refine W.eq (g2 := F0 m 245 ls [.int (xs (ii + 1)), .ref (a km), .int rA]) (by rw [nI_clamp (n := ii + 1) (by omega)]) ?_
    refine lv_i2l (v := ((xs (ii + 1)) : Int32).toInt64) hx hb dL_law_245 rfl ?_
    refine lv_bipush (v := 32) hx hb dL_law_246 (by decide) ?_
    refine lv_lshl (v := ((((xs (ii + 1)) : Int32).toInt64) <<< ((32 : Int32).toInt64 &&& 63))) hx hb dL_law_248 rfl ?_
    refine lv_aload_n hx hb dL_law_249 rfl (lv_at hl 0 rfl) ?_
    refine lv_iload_n hx hb dL_law_250 rfl (lv_at hl 3 rfl) ?_
    refine lv_iconst (v := 2) hx hb dL_law_251 (by decide) ?_
    refine lv_iadd hx hb dL_law_252 ?_
    refine W.eq (g2 := F0 m 253 ls [.int (nI (ii + 2)), .ref b, .long (((((xs (ii + 1)) : Int32).toInt64) <<< ((32 : Int32).toInt64 &&& 63))), .ref (a km), .int rA]) (by rw [show nI (ii + 2) = nI ii + 2 from (nI_add ii 2).symm]) ?_
    refine va_sld hx hb hX hbl hbA hS (vp_in_nI (n := ii + 2) (by omega) hLs) dL_law_253 ?_
    refine W.eq (g2 := F0 m 254 ls [.int (xs (ii + 2)), .long (((((xs (ii + 1)) : Int32).toInt64) <<< ((32 : Int32).toInt64 &&& 63))), .ref (a km), .int rA]) (by rw [nI_clamp (n := ii + 2) (by omega)]) ?_
    refine lv_i2l (v := ((xs (ii + 2)) : Int32).toInt64) hx hb dL_law_254 rfl ?_
    refine lv_ldc2 hx hb hown (hts _ n_L_law_6) dL_law_255 ?_
    refine lv_land hx hb dL_law_258 ?_
    refine lv_lor hx hb dL_law_259 ?_
    refine lv_aload_n hx hb dL_law_260 rfl (lv_at hl 0 rfl) ?_
    refine lv_iload_n hx hb dL_law_261 rfl (lv_at hl 3 rfl) ?_
    refine lv_iconst (v := 3) hx hb dL_law_262 (by decide) ?_
    refine lv_iadd hx hb dL_law_263 ?_
    refine W.eq (g2 := F0 m 264 ls [.int (nI (ii + 3)), .ref b, .long ((((((xs (ii + 1)) : Int32).toInt64) <<< ((32 : Int32).toInt64 &&& 63))) ||| ((((xs (ii + 2)) : Int32).toInt64) &&& 4294967295)), .ref (a km), .int rA]) (by rw [show nI (ii + 3) = nI ii + 3 from (nI_add ii 3).symm]) ?_
    refine va_sld hx hb hX hbl hbA hS (vp_in_nI (n := ii + 3) (by omega) hLs) dL_law_264 ?_
    refine W.eq (g2 := F0 m 265 ls [.int (xs (ii + 3)), .long ((((((xs (ii + 1)) : Int32).toInt64) <<< ((32 : Int32).toInt64 &&& 63))) ||| ((((xs (ii + 2)) : Int32).toInt64) &&& 4294967295)), .ref (a km), .int rA]) (by rw [nI_clamp (n := ii + 3) (by omega)]) ?_
    refine lv_i2l (v := ((xs (ii + 3)) : Int32).toInt64) hx hb dL_law_265 rfl ?_
    refine lv_bipush (v := 32) hx hb dL_law_266 (by decide) ?_
    refine lv_lshl (v := ((((xs (ii + 3)) : Int32).toInt64) <<< ((32 : Int32).toInt64 &&& 63))) hx hb dL_law_268 rfl ?_
    refine lv_aload_n hx hb dL_law_269 rfl (lv_at hl 0 rfl) ?_
    refine lv_iload_n hx hb dL_law_270 rfl (lv_at hl 3 rfl) ?_
    refine lv_iconst (v := 4) hx hb dL_law_271 (by decide) ?_
    refine lv_iadd hx hb dL_law_272 ?_
    refine W.eq (g2 := F0 m 273 ls [.int (nI (ii + 4)), .ref b, .long (((((xs (ii + 3)) : Int32).toInt64) <<< ((32 : Int32).toInt64 &&& 63))), .long ((((((xs (ii + 1)) : Int32).toInt64) <<< ((32 : Int32).toInt64 &&& 63))) ||| ((((xs (ii + 2)) : Int32).toInt64) &&& 4294967295)), .ref (a km), .int rA]) (by rw [show nI (ii + 4) = nI ii + 4 from (nI_add ii 4).symm]) ?_
    refine va_sld hx hb hX hbl hbA hS (vp_in_nI (n := ii + 4) (by omega) hLs) dL_law_273 ?_
    refine W.eq (g2 := F0 m 274 ls [.int (xs (ii + 4)), .long (((((xs (ii + 3)) : Int32).toInt64) <<< ((32 : Int32).toInt64 &&& 63))), .long ((((((xs (ii + 1)) : Int32).toInt64) <<< ((32 : Int32).toInt64 &&& 63))) ||| ((((xs (ii + 2)) : Int32).toInt64) &&& 4294967295)), .ref (a km), .int rA]) (by rw [nI_clamp (n := ii + 4) (by omega)]) ?_
    refine lv_i2l (v := ((xs (ii + 4)) : Int32).toInt64) hx hb dL_law_274 rfl ?_
    refine lv_ldc2 hx hb hown (hts _ n_L_law_6) dL_law_275 ?_
    refine lv_land hx hb dL_law_278 ?_
    refine lv_lor hx hb dL_law_279 ?_
    have hFc := de_free hD hS hA
    refine va_calli (va_runV (As := [.long ((((((xs (ii + 1)) : Int32).toInt64) <<< ((32 : Int32).toInt64 &&& 63))) ||| ((((xs (ii + 2)) : Int32).toInt64) &&& 4294967295)), .long ((((((xs (ii + 3)) : Int32).toInt64) <<< ((32 : Int32).toInt64 &&& 63))) ||| ((((xs (ii + 4)) : Int32).toInt64) &&& 4294967295))]) (rest := [.int rA]) ⟨hx, hb, hml, hown, hts⟩ (de_X18_mint l dC dI cy a sh n H_6.size F z1 km ((((((xs (ii + 1)) : Int32).toInt64) <<< ((32 : Int32).toInt64 &&& 63))) ||| ((((xs (ii + 2)) : Int32).toInt64) &&& 4294967295)) ((((((xs (ii + 3)) : Int32).toInt64) <<< ((32 : Int32).toInt64 &&& 63))) ||| ((((xs (ii + 4)) : Int32).toInt64) &&& 4294967295)) hc2) (cwV 2 hts gT_X18_mint rfl rfl rfl (by decide +kernel) ⟨Nat.le_of_ble_eq_true rfl, Nat.le_of_ble_eq_true rfl⟩) ⟨fun a U g mk q => by obtain ⟨q0, q1, qP, qK, qD, qN⟩ := q; exact ⟨q0, q1, qP, va_K.moved (u := U) (U := U.calling g mk a) (Vm.Alike.refl U.vm) qK, qD, qN.same rfl⟩, va_recv hK hP (ci := 18) (q0 := km) rfl (Wd_ob kgkm sgkm (by decide)), fun U hU hW => ⟨rfl, by rw [hU], by rw [hU]; exact hP, va_K.moved hW.alike hK, hD.weaken (fun _ _ _ _ => trivial), hN.warm hW⟩⟩ rfl rfl hl.1 rfl (lv_room (Nat.le_of_ble_eq_true rfl)) dL_law_280 (lw_room hq (Nat.le_of_ble_eq_true rfl) (Nat.le_of_ble_eq_true rfl))) hS (fun q _ h => hFc q h) hFc (fun rr u t H_7 locs ht hvm hw hB hz1 hk1 hS2 => ?_)
    rw [hw]
    clear hw
    obtain ⟨hP1, -, hD1⟩ := hB
    rw [ht] at hP1
    replace hD := hD1.weaken (fun _ _ _ h => hFc _ h)
    replace hP := hP1
    replace hS := hS2
    clear hP1 hD1 hS2 hFc hz1 hk1 hvm ht
    refine lv_icmp_eq (tgt := 1058) hx hb dL_law_283 (by decide) (fun _ => ?_) (fun h => absurd rfl h)
    refine lv_iinc (v := nI (ii + 8)) (lv' := [(3, .int (nI (ii + 8))), (0, .ref b), (1, .ref (a kx)), (2, .ref (a km))]) hx hb dL_law_1058 hl (k := 3) rfl (by rw [show nI (ii + 8) = nI ii + 8 from (nI_add ii 8).symm]; rfl) (by decide) rfl (fun ls hl2 => ?_)
    replace hl := hl2
    clear hl2
    refine lv_goto (tgt := 28) hx hb dL_law_1061 (by decide) ?_
    refine W.widen (k := CL0 + (q + 1)) (n := SL0 + 2048 * (q + 1)) (by omega) (by omega) ?_
    exact next (by omega) a sh n z2 ls H_7 locs hIz hcb (lv_sub hl [1, 2, 3, 0] rfl) hP hD hS
  by_cases c_8 : sw = 2
  · skip
    refine lv_tableIn (tgt := 288) hx hb dL_law_43 (by rw [c_8]; decide) (by rw [c_8]; decide) (by rw [c_8]; rfl) (by decide) ?_
    refine lv_aload_n hx hb dL_law_288 rfl (lv_at hl 1 rfl) ?_
    obtain ⟨F, z1, z2, rA, hc1, hc2, hIz⟩ := hI.2.2.2.1 _ _ _ _  hq hI0
    have hFc := de_free hD hS hA
    refine va_calli (va_runV (As := []) (rest := []) ⟨hx, hb, hml, hown, hts⟩ (de_X11_begin l dC dI cy a sh n H.size F z kx hc1) (cwV 0 hts gT_X11_begin rfl rfl rfl (by decide +kernel) ⟨Nat.le_of_ble_eq_true rfl, Nat.le_of_ble_eq_true rfl⟩) ⟨fun a U g mk q => by obtain ⟨q0, q1, qP, qK, qD, qN⟩ := q; exact ⟨q0, q1, qP, va_K.moved (u := U) (U := U.calling g mk a) (Vm.Alike.refl U.vm) qK, qD, qN.same rfl⟩, va_recv hK hP (ci := 11) (q0 := kx) rfl (Wd_ob kgkx sgkx (by decide)), fun U hU hW => ⟨rfl, by rw [hU], by rw [hU]; exact hP, va_K.moved hW.alike hK, hD.weaken (fun _ _ _ _ => trivial), hN.warm hW⟩⟩ rfl rfl hl.1 rfl (lv_room (Nat.le_of_ble_eq_true rfl)) dL_law_289 (lw_room hq (Nat.le_of_ble_eq_true rfl) (Nat.le_of_ble_eq_true rfl))) hS (fun q _ h => hFc q h) hFc (fun rr u t H_9 locs ht hvm hw hB hz1 hk1 hS2 => ?_)
    rw [hw]
    clear hw
    obtain ⟨hP1, -, hD1⟩ := hB
    rw [ht] at hP1
    replace hD := hD1.weaken (fun _ _ _ h => hFc _ h)
    replace hP := hP1
    replace hS := hS2
    clear hP1 hD1 hS2 hFc hz1 hk1 hvm ht
    refine lv_aload_n hx hb dL_law_292 rfl (lv_at hl 2 rfl) ?_
    have hFc := de_free hD hS hA
    refine va_calli (va_runV (As := []) (rest := [.int rA]) ⟨hx, hb, hml, hown, hts⟩ (de_X18_begin l dC dI cy a sh n H_9.size F z1 km hc2) (cwV 0 hts gT_X18_begin rfl rfl rfl (by decide +kernel) ⟨Nat.le_of_ble_eq_true rfl, Nat.le_of_ble_eq_true rfl⟩) ⟨fun a U g mk q => by obtain ⟨q0, q1, qP, qK, qD, qN⟩ := q; exact ⟨q0, q1, qP, va_K.moved (u := U) (U := U.calling g mk a) (Vm.Alike.refl U.vm) qK, qD, qN.same rfl⟩, va_recv hK hP (ci := 18) (q0 := km) rfl (Wd_ob kgkm sgkm (by decide)), fun U hU hW => ⟨rfl, by rw [hU], by rw [hU]; exact hP, va_K.moved hW.alike hK, hD.weaken (fun _ _ _ _ => trivial), hN.warm hW⟩⟩ rfl rfl hl.1 rfl (lv_room (Nat.le_of_ble_eq_true rfl)) dL_law_293 (lw_room hq (Nat.le_of_ble_eq_true rfl) (Nat.le_of_ble_eq_true rfl))) hS (fun q _ h => hFc q h) hFc (fun rr u t H_10 locs ht hvm hw hB hz1 hk1 hS2 => ?_)
    rw [hw]
    clear hw
    obtain ⟨hP1, -, hD1⟩ := hB
    rw [ht] at hP1
    replace hD := hD1.weaken (fun _ _ _ h => hFc _ h)
    replace hP := hP1
    replace hS := hS2
    clear hP1 hD1 hS2 hFc hz1 hk1 hvm ht
    refine lv_icmp_eq (tgt := 1058) hx hb dL_law_296 (by decide) (fun _ => ?_) (fun h => absurd rfl h)
    refine lv_iinc (v := nI (ii + 8)) (lv' := [(3, .int (nI (ii + 8))), (0, .ref b), (1, .ref (a kx)), (2, .ref (a km))]) hx hb dL_law_1058 hl (k := 3) rfl (by rw [show nI (ii + 8) = nI ii + 8 from (nI_add ii 8).symm]; rfl) (by decide) rfl (fun ls hl2 => ?_)
    replace hl := hl2
    clear hl2
    refine lv_goto (tgt := 28) hx hb dL_law_1061 (by decide) ?_
    refine W.widen (k := CL0 + (q + 1)) (n := SL0 + 2048 * (q + 1)) (by omega) (by omega) ?_
    exact next (by omega) a sh n z2 ls H_10 locs hIz hcb (lv_sub hl [1, 2, 3, 0] rfl) hP hD hS
  by_cases c_11 : sw = 3
  · skip
    refine lv_tableIn (tgt := 301) hx hb dL_law_43 (by rw [c_11]; decide) (by rw [c_11]; decide) (by rw [c_11]; rfl) (by decide) ?_
    refine lv_aload_n hx hb dL_law_301 rfl (lv_at hl 1 rfl) ?_
    refine lv_aload_n hx hb dL_law_302 rfl (lv_at hl 0 rfl) ?_
    refine lv_iload_n hx hb dL_law_303 rfl (lv_at hl 3 rfl) ?_
    refine lv_iconst (v := 1) hx hb dL_law_304 (by decide) ?_
    refine lv_iadd hx hb dL_law_305 ?_
    refine W.eq (g2 := F0 m 306 ls [.int (nI (ii + 1)), .ref b, .ref (a kx)]) (by rw [show nI (ii + 1) = nI ii + 1 from (nI_add ii 1).symm]) ?_
    refine va_sld hx hb hX hbl hbA hS (vp_in_nI (n := ii + 1) (by omega) hLs) dL_law_306 ?_
    refine W.eq (g2 := F0 m 307 ls [.int (xs (ii + 1)), .ref (a kx)]) (by rw [nI_clamp (n := ii + 1) (by omega)]) ?_
    refine lv_i2l (v := ((xs (ii + 1)) : Int32).toInt64) hx hb dL_law_307 rfl ?_
    refine lv_bipush (v := 32) hx hb dL_law_308 (by decide) ?_
    refine lv_lshl (v := ((((xs (ii + 1)) : Int32).toInt64) <<< ((32 : Int32).toInt64 &&& 63))) hx hb dL_law_310 rfl ?_
    refine lv_aload_n hx hb dL_law_311 rfl (lv_at hl 0 rfl) ?_
    refine lv_iload_n hx hb dL_law_312 rfl (lv_at hl 3 rfl) ?_
    refine lv_iconst (v := 2) hx hb dL_law_313 (by decide) ?_
    refine lv_iadd hx hb dL_law_314 ?_
    refine W.eq (g2 := F0 m 315 ls [.int (nI (ii + 2)), .ref b, .long (((((xs (ii + 1)) : Int32).toInt64) <<< ((32 : Int32).toInt64 &&& 63))), .ref (a kx)]) (by rw [show nI (ii + 2) = nI ii + 2 from (nI_add ii 2).symm]) ?_
    refine va_sld hx hb hX hbl hbA hS (vp_in_nI (n := ii + 2) (by omega) hLs) dL_law_315 ?_
    refine W.eq (g2 := F0 m 316 ls [.int (xs (ii + 2)), .long (((((xs (ii + 1)) : Int32).toInt64) <<< ((32 : Int32).toInt64 &&& 63))), .ref (a kx)]) (by rw [nI_clamp (n := ii + 2) (by omega)]) ?_
    refine lv_i2l (v := ((xs (ii + 2)) : Int32).toInt64) hx hb dL_law_316 rfl ?_
    refine lv_ldc2 hx hb hown (hts _ n_L_law_6) dL_law_317 ?_
    refine lv_land hx hb dL_law_320 ?_
    refine lv_lor hx hb dL_law_321 ?_
    refine lv_aload_n hx hb dL_law_322 rfl (lv_at hl 0 rfl) ?_
    refine lv_iload_n hx hb dL_law_323 rfl (lv_at hl 3 rfl) ?_
    refine lv_iconst (v := 3) hx hb dL_law_324 (by decide) ?_
    refine lv_iadd hx hb dL_law_325 ?_
    refine W.eq (g2 := F0 m 326 ls [.int (nI (ii + 3)), .ref b, .long ((((((xs (ii + 1)) : Int32).toInt64) <<< ((32 : Int32).toInt64 &&& 63))) ||| ((((xs (ii + 2)) : Int32).toInt64) &&& 4294967295)), .ref (a kx)]) (by rw [show nI (ii + 3) = nI ii + 3 from (nI_add ii 3).symm]) ?_
    refine va_sld hx hb hX hbl hbA hS (vp_in_nI (n := ii + 3) (by omega) hLs) dL_law_326 ?_
    refine W.eq (g2 := F0 m 327 ls [.int (xs (ii + 3)), .long ((((((xs (ii + 1)) : Int32).toInt64) <<< ((32 : Int32).toInt64 &&& 63))) ||| ((((xs (ii + 2)) : Int32).toInt64) &&& 4294967295)), .ref (a kx)]) (by rw [nI_clamp (n := ii + 3) (by omega)]) ?_
    refine lv_i2l (v := ((xs (ii + 3)) : Int32).toInt64) hx hb dL_law_327 rfl ?_
    refine lv_bipush (v := 32) hx hb dL_law_328 (by decide) ?_
    refine lv_lshl (v := ((((xs (ii + 3)) : Int32).toInt64) <<< ((32 : Int32).toInt64 &&& 63))) hx hb dL_law_330 rfl ?_
    refine lv_aload_n hx hb dL_law_331 rfl (lv_at hl 0 rfl) ?_
    refine lv_iload_n hx hb dL_law_332 rfl (lv_at hl 3 rfl) ?_
    refine lv_iconst (v := 4) hx hb dL_law_333 (by decide) ?_
    refine lv_iadd hx hb dL_law_334 ?_
    refine W.eq (g2 := F0 m 335 ls [.int (nI (ii + 4)), .ref b, .long (((((xs (ii + 3)) : Int32).toInt64) <<< ((32 : Int32).toInt64 &&& 63))), .long ((((((xs (ii + 1)) : Int32).toInt64) <<< ((32 : Int32).toInt64 &&& 63))) ||| ((((xs (ii + 2)) : Int32).toInt64) &&& 4294967295)), .ref (a kx)]) (by rw [show nI (ii + 4) = nI ii + 4 from (nI_add ii 4).symm]) ?_
    refine va_sld hx hb hX hbl hbA hS (vp_in_nI (n := ii + 4) (by omega) hLs) dL_law_335 ?_
    refine W.eq (g2 := F0 m 336 ls [.int (xs (ii + 4)), .long (((((xs (ii + 3)) : Int32).toInt64) <<< ((32 : Int32).toInt64 &&& 63))), .long ((((((xs (ii + 1)) : Int32).toInt64) <<< ((32 : Int32).toInt64 &&& 63))) ||| ((((xs (ii + 2)) : Int32).toInt64) &&& 4294967295)), .ref (a kx)]) (by rw [nI_clamp (n := ii + 4) (by omega)]) ?_
    refine lv_i2l (v := ((xs (ii + 4)) : Int32).toInt64) hx hb dL_law_336 rfl ?_
    refine lv_ldc2 hx hb hown (hts _ n_L_law_6) dL_law_337 ?_
    refine lv_land hx hb dL_law_340 ?_
    refine lv_lor hx hb dL_law_341 ?_
    refine lv_aload_n hx hb dL_law_342 rfl (lv_at hl 0 rfl) ?_
    refine lv_iload_n hx hb dL_law_343 rfl (lv_at hl 3 rfl) ?_
    refine lv_iconst (v := 5) hx hb dL_law_344 (by decide) ?_
    refine lv_iadd hx hb dL_law_345 ?_
    refine W.eq (g2 := F0 m 346 ls [.int (nI (ii + 5)), .ref b, .long ((((((xs (ii + 3)) : Int32).toInt64) <<< ((32 : Int32).toInt64 &&& 63))) ||| ((((xs (ii + 4)) : Int32).toInt64) &&& 4294967295)), .long ((((((xs (ii + 1)) : Int32).toInt64) <<< ((32 : Int32).toInt64 &&& 63))) ||| ((((xs (ii + 2)) : Int32).toInt64) &&& 4294967295)), .ref (a kx)]) (by rw [show nI (ii + 5) = nI ii + 5 from (nI_add ii 5).symm]) ?_
    refine va_sld hx hb hX hbl hbA hS (vp_in_nI (n := ii + 5) (by omega) hLs) dL_law_346 ?_
    refine W.eq (g2 := F0 m 347 ls [.int (xs (ii + 5)), .long ((((((xs (ii + 3)) : Int32).toInt64) <<< ((32 : Int32).toInt64 &&& 63))) ||| ((((xs (ii + 4)) : Int32).toInt64) &&& 4294967295)), .long ((((((xs (ii + 1)) : Int32).toInt64) <<< ((32 : Int32).toInt64 &&& 63))) ||| ((((xs (ii + 2)) : Int32).toInt64) &&& 4294967295)), .ref (a kx)]) (by rw [nI_clamp (n := ii + 5) (by omega)]) ?_
    obtain ⟨F, shq, nq, z1, z2, rA, hc1, hc2, hIz⟩ := hI.2.2.2.2.1 _ _ _ _ ((((((xs (ii + 1)) : Int32).toInt64) <<< ((32 : Int32).toInt64 &&& 63))) ||| ((((xs (ii + 2)) : Int32).toInt64) &&& 4294967295)) ((((((xs (ii + 3)) : Int32).toInt64) <<< ((32 : Int32).toInt64 &&& 63))) ||| ((((xs (ii + 4)) : Int32).toInt64) &&& 4294967295)) (xs (ii + 5)) hq hI0
    have hFc := de_free hD hS hA
    refine va_calli (va_runV (As := [.long ((((((xs (ii + 1)) : Int32).toInt64) <<< ((32 : Int32).toInt64 &&& 63))) ||| ((((xs (ii + 2)) : Int32).toInt64) &&& 4294967295)), .long ((((((xs (ii + 3)) : Int32).toInt64) <<< ((32 : Int32).toInt64 &&& 63))) ||| ((((xs (ii + 4)) : Int32).toInt64) &&& 4294967295)), .int (xs (ii + 5))]) (rest := []) ⟨hx, hb, hml, hown, hts⟩ (da_X11_publish l dC dI cy a sh n H.size F z kx ((((((xs (ii + 1)) : Int32).toInt64) <<< ((32 : Int32).toInt64 &&& 63))) ||| ((((xs (ii + 2)) : Int32).toInt64) &&& 4294967295)) ((((((xs (ii + 3)) : Int32).toInt64) <<< ((32 : Int32).toInt64 &&& 63))) ||| ((((xs (ii + 4)) : Int32).toInt64) &&& 4294967295)) (xs (ii + 5)) hk hc1) (cwV 3 hts gT_X11_publish rfl rfl rfl (by decide +kernel) ⟨Nat.le_of_ble_eq_true rfl, Nat.le_of_ble_eq_true rfl⟩) ⟨fun a U g mk q => by obtain ⟨q0, q1, qP, qK, qD, qN, qC⟩ := q; exact ⟨q0, q1, qP, va_K.moved (u := U) (U := U.calling g mk a) (Vm.Alike.refl U.vm) qK, qD, qN.same rfl, va_Nw.same rfl (u := U) (U := U.calling g mk a) rfl qC⟩, va_recv hK hP (ci := 11) (q0 := kx) rfl (Wd_ob kgkx sgkx (by decide)), fun U hU hW => ⟨rfl, by rw [hU], by rw [hU]; exact hP, va_K.moved hW.alike hK, hD.weaken (fun _ _ _ _ => trivial), hN.warm hW, va_Nw.warmC hW hC⟩⟩ rfl rfl hl.1 rfl (lv_room (Nat.le_of_ble_eq_true rfl)) dL_law_347 (lw_room hq (Nat.le_of_ble_eq_true rfl) (Nat.le_of_ble_eq_true rfl))) hS (fun q _ h => hFc q h) hFc (fun rr a t H_12 locs ht hvm hw hB hz1 hk1 hS2 => ?_)
    obtain ⟨hw0, hax, hnn⟩ := hw
    rw [hw0]
    obtain ⟨hP1, -, hD1⟩ := hB
    rw [ht] at hP1
    replace hD := hD1.weaken (fun _ _ _ h => hFc _ h)
    replace hP := hP1
    replace hS := hS2
    replace hcb := (hax CBK (Or.inr rfl)).trans hcb
    have ekx := hax kx (Or.inl kgkx)
    have ekm := hax km (Or.inl kgkm)
    obtain ⟨sh, esh⟩ : ∃ w, w = shq := ⟨_, rfl⟩
    subst esh
    obtain ⟨n, enq⟩ : ∃ w, w = nq := ⟨_, rfl⟩
    subst enq
    obtain ⟨hk, okx, okm, -⟩ := hI.1 _ _ _ _ hIz
    obtain ⟨kgkx, sgkx⟩ := okO_at okx
    obtain ⟨kgkm, sgkm⟩ := okO_at okm
    replace hl : lv_has ls 4 [(0, .ref b), (1, .ref (a kx)), (2, .ref (a km)), (3, .int (nI ii))] := by rw [ekx, ekm]; exact hl
    have hSK := hSK
    rw [← hax CBK (Or.inr rfl)] at hSK
    clear hP1 hD1 hS2 hFc hz1 hk1 hvm ht
    refine lv_aload_n hx hb dL_law_350 rfl (lv_at hl 2 rfl) ?_
    refine lv_aload_n hx hb dL_law_351 rfl (lv_at hl 0 rfl) ?_
    refine lv_iload_n hx hb dL_law_352 rfl (lv_at hl 3 rfl) ?_
    refine lv_iconst (v := 1) hx hb dL_law_353 (by decide) ?_
    refine lv_iadd hx hb dL_law_354 ?_
    refine W.eq (g2 := F0 m 355 ls [.int (nI (ii + 1)), .ref b, .ref (a km), .int rA]) (by rw [show nI (ii + 1) = nI ii + 1 from (nI_add ii 1).symm]) ?_
    refine va_sld hx hb hX hbl hbA hS (vp_in_nI (n := ii + 1) (by omega) hLs) dL_law_355 ?_
    refine W.eq (g2 := F0 m 356 ls [.int (xs (ii + 1)), .ref (a km), .int rA]) (by rw [nI_clamp (n := ii + 1) (by omega)]) ?_
    refine lv_i2l (v := ((xs (ii + 1)) : Int32).toInt64) hx hb dL_law_356 rfl ?_
    refine lv_bipush (v := 32) hx hb dL_law_357 (by decide) ?_
    refine lv_lshl (v := ((((xs (ii + 1)) : Int32).toInt64) <<< ((32 : Int32).toInt64 &&& 63))) hx hb dL_law_359 rfl ?_
    refine lv_aload_n hx hb dL_law_360 rfl (lv_at hl 0 rfl) ?_
    refine lv_iload_n hx hb dL_law_361 rfl (lv_at hl 3 rfl) ?_
    refine lv_iconst (v := 2) hx hb dL_law_362 (by decide) ?_
    refine lv_iadd hx hb dL_law_363 ?_
    refine W.eq (g2 := F0 m 364 ls [.int (nI (ii + 2)), .ref b, .long (((((xs (ii + 1)) : Int32).toInt64) <<< ((32 : Int32).toInt64 &&& 63))), .ref (a km), .int rA]) (by rw [show nI (ii + 2) = nI ii + 2 from (nI_add ii 2).symm]) ?_
    refine va_sld hx hb hX hbl hbA hS (vp_in_nI (n := ii + 2) (by omega) hLs) dL_law_364 ?_
    refine W.eq (g2 := F0 m 365 ls [.int (xs (ii + 2)), .long (((((xs (ii + 1)) : Int32).toInt64) <<< ((32 : Int32).toInt64 &&& 63))), .ref (a km), .int rA]) (by rw [nI_clamp (n := ii + 2) (by omega)]) ?_
    refine lv_i2l (v := ((xs (ii + 2)) : Int32).toInt64) hx hb dL_law_365 rfl ?_
    refine lv_ldc2 hx hb hown (hts _ n_L_law_6) dL_law_366 ?_
    refine lv_land hx hb dL_law_369 ?_
    refine lv_lor hx hb dL_law_370 ?_
    refine lv_aload_n hx hb dL_law_371 rfl (lv_at hl 0 rfl) ?_
    refine lv_iload_n hx hb dL_law_372 rfl (lv_at hl 3 rfl) ?_
    refine lv_iconst (v := 3) hx hb dL_law_373 (by decide) ?_
    refine lv_iadd hx hb dL_law_374 ?_
    refine W.eq (g2 := F0 m 375 ls [.int (nI (ii + 3)), .ref b, .long ((((((xs (ii + 1)) : Int32).toInt64) <<< ((32 : Int32).toInt64 &&& 63))) ||| ((((xs (ii + 2)) : Int32).toInt64) &&& 4294967295)), .ref (a km), .int rA]) (by rw [show nI (ii + 3) = nI ii + 3 from (nI_add ii 3).symm]) ?_
    refine va_sld hx hb hX hbl hbA hS (vp_in_nI (n := ii + 3) (by omega) hLs) dL_law_375 ?_
    refine W.eq (g2 := F0 m 376 ls [.int (xs (ii + 3)), .long ((((((xs (ii + 1)) : Int32).toInt64) <<< ((32 : Int32).toInt64 &&& 63))) ||| ((((xs (ii + 2)) : Int32).toInt64) &&& 4294967295)), .ref (a km), .int rA]) (by rw [nI_clamp (n := ii + 3) (by omega)]) ?_
    refine lv_i2l (v := ((xs (ii + 3)) : Int32).toInt64) hx hb dL_law_376 rfl ?_
    refine lv_bipush (v := 32) hx hb dL_law_377 (by decide) ?_
    refine lv_lshl (v := ((((xs (ii + 3)) : Int32).toInt64) <<< ((32 : Int32).toInt64 &&& 63))) hx hb dL_law_379 rfl ?_
    refine lv_aload_n hx hb dL_law_380 rfl (lv_at hl 0 rfl) ?_
    refine lv_iload_n hx hb dL_law_381 rfl (lv_at hl 3 rfl) ?_
    refine lv_iconst (v := 4) hx hb dL_law_382 (by decide) ?_
    refine lv_iadd hx hb dL_law_383 ?_
    refine W.eq (g2 := F0 m 384 ls [.int (nI (ii + 4)), .ref b, .long (((((xs (ii + 3)) : Int32).toInt64) <<< ((32 : Int32).toInt64 &&& 63))), .long ((((((xs (ii + 1)) : Int32).toInt64) <<< ((32 : Int32).toInt64 &&& 63))) ||| ((((xs (ii + 2)) : Int32).toInt64) &&& 4294967295)), .ref (a km), .int rA]) (by rw [show nI (ii + 4) = nI ii + 4 from (nI_add ii 4).symm]) ?_
    refine va_sld hx hb hX hbl hbA hS (vp_in_nI (n := ii + 4) (by omega) hLs) dL_law_384 ?_
    refine W.eq (g2 := F0 m 385 ls [.int (xs (ii + 4)), .long (((((xs (ii + 3)) : Int32).toInt64) <<< ((32 : Int32).toInt64 &&& 63))), .long ((((((xs (ii + 1)) : Int32).toInt64) <<< ((32 : Int32).toInt64 &&& 63))) ||| ((((xs (ii + 2)) : Int32).toInt64) &&& 4294967295)), .ref (a km), .int rA]) (by rw [nI_clamp (n := ii + 4) (by omega)]) ?_
    refine lv_i2l (v := ((xs (ii + 4)) : Int32).toInt64) hx hb dL_law_385 rfl ?_
    refine lv_ldc2 hx hb hown (hts _ n_L_law_6) dL_law_386 ?_
    refine lv_land hx hb dL_law_389 ?_
    refine lv_lor hx hb dL_law_390 ?_
    refine lv_aload_n hx hb dL_law_391 rfl (lv_at hl 0 rfl) ?_
    refine lv_iload_n hx hb dL_law_392 rfl (lv_at hl 3 rfl) ?_
    refine lv_iconst (v := 5) hx hb dL_law_393 (by decide) ?_
    refine lv_iadd hx hb dL_law_394 ?_
    refine W.eq (g2 := F0 m 395 ls [.int (nI (ii + 5)), .ref b, .long ((((((xs (ii + 3)) : Int32).toInt64) <<< ((32 : Int32).toInt64 &&& 63))) ||| ((((xs (ii + 4)) : Int32).toInt64) &&& 4294967295)), .long ((((((xs (ii + 1)) : Int32).toInt64) <<< ((32 : Int32).toInt64 &&& 63))) ||| ((((xs (ii + 2)) : Int32).toInt64) &&& 4294967295)), .ref (a km), .int rA]) (by rw [show nI (ii + 5) = nI ii + 5 from (nI_add ii 5).symm]) ?_
    refine va_sld hx hb hX hbl hbA hS (vp_in_nI (n := ii + 5) (by omega) hLs) dL_law_395 ?_
    refine W.eq (g2 := F0 m 396 ls [.int (xs (ii + 5)), .long ((((((xs (ii + 3)) : Int32).toInt64) <<< ((32 : Int32).toInt64 &&& 63))) ||| ((((xs (ii + 4)) : Int32).toInt64) &&& 4294967295)), .long ((((((xs (ii + 1)) : Int32).toInt64) <<< ((32 : Int32).toInt64 &&& 63))) ||| ((((xs (ii + 2)) : Int32).toInt64) &&& 4294967295)), .ref (a km), .int rA]) (by rw [nI_clamp (n := ii + 5) (by omega)]) ?_
    have hFc := de_free hD hS hA
    refine va_calli (va_runV (As := [.long ((((((xs (ii + 1)) : Int32).toInt64) <<< ((32 : Int32).toInt64 &&& 63))) ||| ((((xs (ii + 2)) : Int32).toInt64) &&& 4294967295)), .long ((((((xs (ii + 3)) : Int32).toInt64) <<< ((32 : Int32).toInt64 &&& 63))) ||| ((((xs (ii + 4)) : Int32).toInt64) &&& 4294967295)), .int (xs (ii + 5))]) (rest := [.int rA]) ⟨hx, hb, hml, hown, hts⟩ (de_X18_publish l dC dI cy a sh n H_12.size F z1 km ((((((xs (ii + 1)) : Int32).toInt64) <<< ((32 : Int32).toInt64 &&& 63))) ||| ((((xs (ii + 2)) : Int32).toInt64) &&& 4294967295)) ((((((xs (ii + 3)) : Int32).toInt64) <<< ((32 : Int32).toInt64 &&& 63))) ||| ((((xs (ii + 4)) : Int32).toInt64) &&& 4294967295)) (xs (ii + 5)) hc2) (cwV 3 hts gT_X18_publish rfl rfl rfl (by decide +kernel) ⟨Nat.le_of_ble_eq_true rfl, Nat.le_of_ble_eq_true rfl⟩) ⟨fun a U g mk q => by obtain ⟨q0, q1, qP, qK, qD, qN⟩ := q; exact ⟨q0, q1, qP, va_K.moved (u := U) (U := U.calling g mk a) (Vm.Alike.refl U.vm) qK, qD, qN.same rfl⟩, va_recv hK hP (ci := 18) (q0 := km) rfl (Wd_ob kgkm sgkm (by decide)), fun U hU hW => ⟨rfl, by rw [hU], by rw [hU]; exact hP, va_K.moved hW.alike hK, hD.weaken (fun _ _ _ _ => trivial), hN.warm hW⟩⟩ rfl rfl hl.1 rfl (lv_room (Nat.le_of_ble_eq_true rfl)) dL_law_396 (lw_room hq (Nat.le_of_ble_eq_true rfl) (Nat.le_of_ble_eq_true rfl))) hS (fun q _ h => hFc q h) hFc (fun rr u t H_13 locs ht hvm hw hB hz1 hk1 hS2 => ?_)
    rw [hw]
    clear hw
    obtain ⟨hP1, -, hD1⟩ := hB
    rw [ht] at hP1
    replace hD := hD1.weaken (fun _ _ _ h => hFc _ h)
    replace hP := hP1
    replace hS := hS2
    clear hP1 hD1 hS2 hFc hz1 hk1 hvm ht
    refine lv_icmp_eq (tgt := 1058) hx hb dL_law_399 (by decide) (fun _ => ?_) (fun h => absurd rfl h)
    refine lv_iinc (v := nI (ii + 8)) (lv' := [(3, .int (nI (ii + 8))), (0, .ref b), (1, .ref (a kx)), (2, .ref (a km))]) hx hb dL_law_1058 hl (k := 3) rfl (by rw [show nI (ii + 8) = nI ii + 8 from (nI_add ii 8).symm]; rfl) (by decide) rfl (fun ls hl2 => ?_)
    replace hl := hl2
    clear hl2
    refine lv_goto (tgt := 28) hx hb dL_law_1061 (by decide) ?_
    refine W.widen (k := CL0 + (q + 1)) (n := SL0 + 2048 * (q + 1)) (by omega) (by omega) ?_
    exact next (by omega) a sh n z2 ls H_13 locs hIz hcb (lv_sub hl [1, 2, 3, 0] rfl) hP hD hS
  by_cases c_14 : sw = 4
  · skip
    refine lv_tableIn (tgt := 404) hx hb dL_law_43 (by rw [c_14]; decide) (by rw [c_14]; decide) (by rw [c_14]; rfl) (by decide) ?_
    refine lv_aload_n hx hb dL_law_404 rfl (lv_at hl 1 rfl) ?_
    refine lv_aload_n hx hb dL_law_405 rfl (lv_at hl 0 rfl) ?_
    refine lv_iload_n hx hb dL_law_406 rfl (lv_at hl 3 rfl) ?_
    refine lv_iconst (v := 1) hx hb dL_law_407 (by decide) ?_
    refine lv_iadd hx hb dL_law_408 ?_
    refine W.eq (g2 := F0 m 409 ls [.int (nI (ii + 1)), .ref b, .ref (a kx)]) (by rw [show nI (ii + 1) = nI ii + 1 from (nI_add ii 1).symm]) ?_
    refine va_sld hx hb hX hbl hbA hS (vp_in_nI (n := ii + 1) (by omega) hLs) dL_law_409 ?_
    refine W.eq (g2 := F0 m 410 ls [.int (xs (ii + 1)), .ref (a kx)]) (by rw [nI_clamp (n := ii + 1) (by omega)]) ?_
    refine lv_i2l (v := ((xs (ii + 1)) : Int32).toInt64) hx hb dL_law_410 rfl ?_
    refine lv_bipush (v := 32) hx hb dL_law_411 (by decide) ?_
    refine lv_lshl (v := ((((xs (ii + 1)) : Int32).toInt64) <<< ((32 : Int32).toInt64 &&& 63))) hx hb dL_law_413 rfl ?_
    refine lv_aload_n hx hb dL_law_414 rfl (lv_at hl 0 rfl) ?_
    refine lv_iload_n hx hb dL_law_415 rfl (lv_at hl 3 rfl) ?_
    refine lv_iconst (v := 2) hx hb dL_law_416 (by decide) ?_
    refine lv_iadd hx hb dL_law_417 ?_
    refine W.eq (g2 := F0 m 418 ls [.int (nI (ii + 2)), .ref b, .long (((((xs (ii + 1)) : Int32).toInt64) <<< ((32 : Int32).toInt64 &&& 63))), .ref (a kx)]) (by rw [show nI (ii + 2) = nI ii + 2 from (nI_add ii 2).symm]) ?_
    refine va_sld hx hb hX hbl hbA hS (vp_in_nI (n := ii + 2) (by omega) hLs) dL_law_418 ?_
    refine W.eq (g2 := F0 m 419 ls [.int (xs (ii + 2)), .long (((((xs (ii + 1)) : Int32).toInt64) <<< ((32 : Int32).toInt64 &&& 63))), .ref (a kx)]) (by rw [nI_clamp (n := ii + 2) (by omega)]) ?_
    refine lv_i2l (v := ((xs (ii + 2)) : Int32).toInt64) hx hb dL_law_419 rfl ?_
    refine lv_ldc2 hx hb hown (hts _ n_L_law_6) dL_law_420 ?_
    refine lv_land hx hb dL_law_423 ?_
    refine lv_lor hx hb dL_law_424 ?_
    refine lv_aload_n hx hb dL_law_425 rfl (lv_at hl 0 rfl) ?_
    refine lv_iload_n hx hb dL_law_426 rfl (lv_at hl 3 rfl) ?_
    refine lv_iconst (v := 3) hx hb dL_law_427 (by decide) ?_
    refine lv_iadd hx hb dL_law_428 ?_
    refine W.eq (g2 := F0 m 429 ls [.int (nI (ii + 3)), .ref b, .long ((((((xs (ii + 1)) : Int32).toInt64) <<< ((32 : Int32).toInt64 &&& 63))) ||| ((((xs (ii + 2)) : Int32).toInt64) &&& 4294967295)), .ref (a kx)]) (by rw [show nI (ii + 3) = nI ii + 3 from (nI_add ii 3).symm]) ?_
    refine va_sld hx hb hX hbl hbA hS (vp_in_nI (n := ii + 3) (by omega) hLs) dL_law_429 ?_
    refine W.eq (g2 := F0 m 430 ls [.int (xs (ii + 3)), .long ((((((xs (ii + 1)) : Int32).toInt64) <<< ((32 : Int32).toInt64 &&& 63))) ||| ((((xs (ii + 2)) : Int32).toInt64) &&& 4294967295)), .ref (a kx)]) (by rw [nI_clamp (n := ii + 3) (by omega)]) ?_
    refine lv_i2l (v := ((xs (ii + 3)) : Int32).toInt64) hx hb dL_law_430 rfl ?_
    refine lv_bipush (v := 32) hx hb dL_law_431 (by decide) ?_
    refine lv_lshl (v := ((((xs (ii + 3)) : Int32).toInt64) <<< ((32 : Int32).toInt64 &&& 63))) hx hb dL_law_433 rfl ?_
    refine lv_aload_n hx hb dL_law_434 rfl (lv_at hl 0 rfl) ?_
    refine lv_iload_n hx hb dL_law_435 rfl (lv_at hl 3 rfl) ?_
    refine lv_iconst (v := 4) hx hb dL_law_436 (by decide) ?_
    refine lv_iadd hx hb dL_law_437 ?_
    refine W.eq (g2 := F0 m 438 ls [.int (nI (ii + 4)), .ref b, .long (((((xs (ii + 3)) : Int32).toInt64) <<< ((32 : Int32).toInt64 &&& 63))), .long ((((((xs (ii + 1)) : Int32).toInt64) <<< ((32 : Int32).toInt64 &&& 63))) ||| ((((xs (ii + 2)) : Int32).toInt64) &&& 4294967295)), .ref (a kx)]) (by rw [show nI (ii + 4) = nI ii + 4 from (nI_add ii 4).symm]) ?_
    refine va_sld hx hb hX hbl hbA hS (vp_in_nI (n := ii + 4) (by omega) hLs) dL_law_438 ?_
    refine W.eq (g2 := F0 m 439 ls [.int (xs (ii + 4)), .long (((((xs (ii + 3)) : Int32).toInt64) <<< ((32 : Int32).toInt64 &&& 63))), .long ((((((xs (ii + 1)) : Int32).toInt64) <<< ((32 : Int32).toInt64 &&& 63))) ||| ((((xs (ii + 2)) : Int32).toInt64) &&& 4294967295)), .ref (a kx)]) (by rw [nI_clamp (n := ii + 4) (by omega)]) ?_
    refine lv_i2l (v := ((xs (ii + 4)) : Int32).toInt64) hx hb dL_law_439 rfl ?_
    refine lv_ldc2 hx hb hown (hts _ n_L_law_6) dL_law_440 ?_
    refine lv_land hx hb dL_law_443 ?_
    refine lv_lor hx hb dL_law_444 ?_
    refine lv_aload_n hx hb dL_law_445 rfl (lv_at hl 0 rfl) ?_
    refine lv_iload_n hx hb dL_law_446 rfl (lv_at hl 3 rfl) ?_
    refine lv_iconst (v := 5) hx hb dL_law_447 (by decide) ?_
    refine lv_iadd hx hb dL_law_448 ?_
    refine W.eq (g2 := F0 m 449 ls [.int (nI (ii + 5)), .ref b, .long ((((((xs (ii + 3)) : Int32).toInt64) <<< ((32 : Int32).toInt64 &&& 63))) ||| ((((xs (ii + 4)) : Int32).toInt64) &&& 4294967295)), .long ((((((xs (ii + 1)) : Int32).toInt64) <<< ((32 : Int32).toInt64 &&& 63))) ||| ((((xs (ii + 2)) : Int32).toInt64) &&& 4294967295)), .ref (a kx)]) (by rw [show nI (ii + 5) = nI ii + 5 from (nI_add ii 5).symm]) ?_
    refine va_sld hx hb hX hbl hbA hS (vp_in_nI (n := ii + 5) (by omega) hLs) dL_law_449 ?_
    refine W.eq (g2 := F0 m 450 ls [.int (xs (ii + 5)), .long ((((((xs (ii + 3)) : Int32).toInt64) <<< ((32 : Int32).toInt64 &&& 63))) ||| ((((xs (ii + 4)) : Int32).toInt64) &&& 4294967295)), .long ((((((xs (ii + 1)) : Int32).toInt64) <<< ((32 : Int32).toInt64 &&& 63))) ||| ((((xs (ii + 2)) : Int32).toInt64) &&& 4294967295)), .ref (a kx)]) (by rw [nI_clamp (n := ii + 5) (by omega)]) ?_
    refine lv_aload_n hx hb dL_law_450 rfl (lv_at hl 0 rfl) ?_
    refine lv_iload_n hx hb dL_law_451 rfl (lv_at hl 3 rfl) ?_
    refine lv_bipush (v := 6) hx hb dL_law_452 (by decide) ?_
    refine lv_iadd hx hb dL_law_454 ?_
    refine W.eq (g2 := F0 m 455 ls [.int (nI (ii + 6)), .ref b, .int (xs (ii + 5)), .long ((((((xs (ii + 3)) : Int32).toInt64) <<< ((32 : Int32).toInt64 &&& 63))) ||| ((((xs (ii + 4)) : Int32).toInt64) &&& 4294967295)), .long ((((((xs (ii + 1)) : Int32).toInt64) <<< ((32 : Int32).toInt64 &&& 63))) ||| ((((xs (ii + 2)) : Int32).toInt64) &&& 4294967295)), .ref (a kx)]) (by rw [show nI (ii + 6) = nI ii + 6 from (nI_add ii 6).symm]) ?_
    refine va_sld hx hb hX hbl hbA hS (vp_in_nI (n := ii + 6) (by omega) hLs) dL_law_455 ?_
    refine W.eq (g2 := F0 m 456 ls [.int (xs (ii + 6)), .int (xs (ii + 5)), .long ((((((xs (ii + 3)) : Int32).toInt64) <<< ((32 : Int32).toInt64 &&& 63))) ||| ((((xs (ii + 4)) : Int32).toInt64) &&& 4294967295)), .long ((((((xs (ii + 1)) : Int32).toInt64) <<< ((32 : Int32).toInt64 &&& 63))) ||| ((((xs (ii + 2)) : Int32).toInt64) &&& 4294967295)), .ref (a kx)]) (by rw [nI_clamp (n := ii + 6) (by omega)]) ?_
    refine lv_aload_n hx hb dL_law_456 rfl (lv_at hl 0 rfl) ?_
    refine lv_iload_n hx hb dL_law_457 rfl (lv_at hl 3 rfl) ?_
    refine lv_bipush (v := 7) hx hb dL_law_458 (by decide) ?_
    refine lv_iadd hx hb dL_law_460 ?_
    refine W.eq (g2 := F0 m 461 ls [.int (nI (ii + 7)), .ref b, .int (xs (ii + 6)), .int (xs (ii + 5)), .long ((((((xs (ii + 3)) : Int32).toInt64) <<< ((32 : Int32).toInt64 &&& 63))) ||| ((((xs (ii + 4)) : Int32).toInt64) &&& 4294967295)), .long ((((((xs (ii + 1)) : Int32).toInt64) <<< ((32 : Int32).toInt64 &&& 63))) ||| ((((xs (ii + 2)) : Int32).toInt64) &&& 4294967295)), .ref (a kx)]) (by rw [show nI (ii + 7) = nI ii + 7 from (nI_add ii 7).symm]) ?_
    refine va_sld hx hb hX hbl hbA hS (vp_in_nI (n := ii + 7) (by omega) hLs) dL_law_461 ?_
    refine W.eq (g2 := F0 m 462 ls [.int (xs (ii + 7)), .int (xs (ii + 6)), .int (xs (ii + 5)), .long ((((((xs (ii + 3)) : Int32).toInt64) <<< ((32 : Int32).toInt64 &&& 63))) ||| ((((xs (ii + 4)) : Int32).toInt64) &&& 4294967295)), .long ((((((xs (ii + 1)) : Int32).toInt64) <<< ((32 : Int32).toInt64 &&& 63))) ||| ((((xs (ii + 2)) : Int32).toInt64) &&& 4294967295)), .ref (a kx)]) (by rw [nI_clamp (n := ii + 7) (by omega)]) ?_
    obtain ⟨F, z1, z2, rA, hc1, hc2, hIz⟩ := hI.2.2.2.2.2.1 _ _ _ _ ((((((xs (ii + 1)) : Int32).toInt64) <<< ((32 : Int32).toInt64 &&& 63))) ||| ((((xs (ii + 2)) : Int32).toInt64) &&& 4294967295)) ((((((xs (ii + 3)) : Int32).toInt64) <<< ((32 : Int32).toInt64 &&& 63))) ||| ((((xs (ii + 4)) : Int32).toInt64) &&& 4294967295)) (xs (ii + 5)) (xs (ii + 6)) (xs (ii + 7)) hq hI0
    have hFc := de_free hD hS hA
    refine va_calli (va_runV (As := [.long ((((((xs (ii + 1)) : Int32).toInt64) <<< ((32 : Int32).toInt64 &&& 63))) ||| ((((xs (ii + 2)) : Int32).toInt64) &&& 4294967295)), .long ((((((xs (ii + 3)) : Int32).toInt64) <<< ((32 : Int32).toInt64 &&& 63))) ||| ((((xs (ii + 4)) : Int32).toInt64) &&& 4294967295)), .int (xs (ii + 5)), .int (xs (ii + 6)), .int (xs (ii + 7))]) (rest := []) ⟨hx, hb, hml, hown, hts⟩ (de_X11_call l dC dI cy a sh n H.size F z kx ((((((xs (ii + 1)) : Int32).toInt64) <<< ((32 : Int32).toInt64 &&& 63))) ||| ((((xs (ii + 2)) : Int32).toInt64) &&& 4294967295)) ((((((xs (ii + 3)) : Int32).toInt64) <<< ((32 : Int32).toInt64 &&& 63))) ||| ((((xs (ii + 4)) : Int32).toInt64) &&& 4294967295)) (xs (ii + 5)) (xs (ii + 6)) (xs (ii + 7)) hc1) (cwV 5 hts gT_X11_call rfl rfl rfl (by decide +kernel) ⟨Nat.le_of_ble_eq_true rfl, Nat.le_of_ble_eq_true rfl⟩) ⟨fun a U g mk q => by obtain ⟨q0, q1, qP, qK, qD, qN⟩ := q; exact ⟨q0, q1, qP, va_K.moved (u := U) (U := U.calling g mk a) (Vm.Alike.refl U.vm) qK, qD, qN.same rfl⟩, va_recv hK hP (ci := 11) (q0 := kx) rfl (Wd_ob kgkx sgkx (by decide)), fun U hU hW => ⟨rfl, by rw [hU], by rw [hU]; exact hP, va_K.moved hW.alike hK, hD.weaken (fun _ _ _ _ => trivial), hN.warm hW⟩⟩ rfl rfl hl.1 rfl (lv_room (Nat.le_of_ble_eq_true rfl)) dL_law_462 (lw_room hq (Nat.le_of_ble_eq_true rfl) (Nat.le_of_ble_eq_true rfl))) hS (fun q _ h => hFc q h) hFc (fun rr u t H_15 locs ht hvm hw hB hz1 hk1 hS2 => ?_)
    rw [hw]
    clear hw
    obtain ⟨hP1, -, hD1⟩ := hB
    rw [ht] at hP1
    replace hD := hD1.weaken (fun _ _ _ h => hFc _ h)
    replace hP := hP1
    replace hS := hS2
    clear hP1 hD1 hS2 hFc hz1 hk1 hvm ht
    refine lv_aload_n hx hb dL_law_465 rfl (lv_at hl 2 rfl) ?_
    refine lv_aload_n hx hb dL_law_466 rfl (lv_at hl 0 rfl) ?_
    refine lv_iload_n hx hb dL_law_467 rfl (lv_at hl 3 rfl) ?_
    refine lv_iconst (v := 1) hx hb dL_law_468 (by decide) ?_
    refine lv_iadd hx hb dL_law_469 ?_
    refine W.eq (g2 := F0 m 470 ls [.int (nI (ii + 1)), .ref b, .ref (a km), .int rA]) (by rw [show nI (ii + 1) = nI ii + 1 from (nI_add ii 1).symm]) ?_
    refine va_sld hx hb hX hbl hbA hS (vp_in_nI (n := ii + 1) (by omega) hLs) dL_law_470 ?_
    refine W.eq (g2 := F0 m 471 ls [.int (xs (ii + 1)), .ref (a km), .int rA]) (by rw [nI_clamp (n := ii + 1) (by omega)]) ?_
    refine lv_i2l (v := ((xs (ii + 1)) : Int32).toInt64) hx hb dL_law_471 rfl ?_
    refine lv_bipush (v := 32) hx hb dL_law_472 (by decide) ?_
    refine lv_lshl (v := ((((xs (ii + 1)) : Int32).toInt64) <<< ((32 : Int32).toInt64 &&& 63))) hx hb dL_law_474 rfl ?_
    refine lv_aload_n hx hb dL_law_475 rfl (lv_at hl 0 rfl) ?_
    refine lv_iload_n hx hb dL_law_476 rfl (lv_at hl 3 rfl) ?_
    refine lv_iconst (v := 2) hx hb dL_law_477 (by decide) ?_
    refine lv_iadd hx hb dL_law_478 ?_
    refine W.eq (g2 := F0 m 479 ls [.int (nI (ii + 2)), .ref b, .long (((((xs (ii + 1)) : Int32).toInt64) <<< ((32 : Int32).toInt64 &&& 63))), .ref (a km), .int rA]) (by rw [show nI (ii + 2) = nI ii + 2 from (nI_add ii 2).symm]) ?_
    refine va_sld hx hb hX hbl hbA hS (vp_in_nI (n := ii + 2) (by omega) hLs) dL_law_479 ?_
    refine W.eq (g2 := F0 m 480 ls [.int (xs (ii + 2)), .long (((((xs (ii + 1)) : Int32).toInt64) <<< ((32 : Int32).toInt64 &&& 63))), .ref (a km), .int rA]) (by rw [nI_clamp (n := ii + 2) (by omega)]) ?_
    refine lv_i2l (v := ((xs (ii + 2)) : Int32).toInt64) hx hb dL_law_480 rfl ?_
    refine lv_ldc2 hx hb hown (hts _ n_L_law_6) dL_law_481 ?_
    refine lv_land hx hb dL_law_484 ?_
    refine lv_lor hx hb dL_law_485 ?_
    refine lv_aload_n hx hb dL_law_486 rfl (lv_at hl 0 rfl) ?_
    refine lv_iload_n hx hb dL_law_487 rfl (lv_at hl 3 rfl) ?_
    refine lv_iconst (v := 3) hx hb dL_law_488 (by decide) ?_
    refine lv_iadd hx hb dL_law_489 ?_
    refine W.eq (g2 := F0 m 490 ls [.int (nI (ii + 3)), .ref b, .long ((((((xs (ii + 1)) : Int32).toInt64) <<< ((32 : Int32).toInt64 &&& 63))) ||| ((((xs (ii + 2)) : Int32).toInt64) &&& 4294967295)), .ref (a km), .int rA]) (by rw [show nI (ii + 3) = nI ii + 3 from (nI_add ii 3).symm]) ?_
    refine va_sld hx hb hX hbl hbA hS (vp_in_nI (n := ii + 3) (by omega) hLs) dL_law_490 ?_
    refine W.eq (g2 := F0 m 491 ls [.int (xs (ii + 3)), .long ((((((xs (ii + 1)) : Int32).toInt64) <<< ((32 : Int32).toInt64 &&& 63))) ||| ((((xs (ii + 2)) : Int32).toInt64) &&& 4294967295)), .ref (a km), .int rA]) (by rw [nI_clamp (n := ii + 3) (by omega)]) ?_
    refine lv_i2l (v := ((xs (ii + 3)) : Int32).toInt64) hx hb dL_law_491 rfl ?_
    refine lv_bipush (v := 32) hx hb dL_law_492 (by decide) ?_
    refine lv_lshl (v := ((((xs (ii + 3)) : Int32).toInt64) <<< ((32 : Int32).toInt64 &&& 63))) hx hb dL_law_494 rfl ?_
    refine lv_aload_n hx hb dL_law_495 rfl (lv_at hl 0 rfl) ?_
    refine lv_iload_n hx hb dL_law_496 rfl (lv_at hl 3 rfl) ?_
    refine lv_iconst (v := 4) hx hb dL_law_497 (by decide) ?_
    refine lv_iadd hx hb dL_law_498 ?_
    refine W.eq (g2 := F0 m 499 ls [.int (nI (ii + 4)), .ref b, .long (((((xs (ii + 3)) : Int32).toInt64) <<< ((32 : Int32).toInt64 &&& 63))), .long ((((((xs (ii + 1)) : Int32).toInt64) <<< ((32 : Int32).toInt64 &&& 63))) ||| ((((xs (ii + 2)) : Int32).toInt64) &&& 4294967295)), .ref (a km), .int rA]) (by rw [show nI (ii + 4) = nI ii + 4 from (nI_add ii 4).symm]) ?_
    refine va_sld hx hb hX hbl hbA hS (vp_in_nI (n := ii + 4) (by omega) hLs) dL_law_499 ?_
    refine W.eq (g2 := F0 m 500 ls [.int (xs (ii + 4)), .long (((((xs (ii + 3)) : Int32).toInt64) <<< ((32 : Int32).toInt64 &&& 63))), .long ((((((xs (ii + 1)) : Int32).toInt64) <<< ((32 : Int32).toInt64 &&& 63))) ||| ((((xs (ii + 2)) : Int32).toInt64) &&& 4294967295)), .ref (a km), .int rA]) (by rw [nI_clamp (n := ii + 4) (by omega)]) ?_
    refine lv_i2l (v := ((xs (ii + 4)) : Int32).toInt64) hx hb dL_law_500 rfl ?_
    refine lv_ldc2 hx hb hown (hts _ n_L_law_6) dL_law_501 ?_
    refine lv_land hx hb dL_law_504 ?_
    refine lv_lor hx hb dL_law_505 ?_
    refine lv_aload_n hx hb dL_law_506 rfl (lv_at hl 0 rfl) ?_
    refine lv_iload_n hx hb dL_law_507 rfl (lv_at hl 3 rfl) ?_
    refine lv_iconst (v := 5) hx hb dL_law_508 (by decide) ?_
    refine lv_iadd hx hb dL_law_509 ?_
    refine W.eq (g2 := F0 m 510 ls [.int (nI (ii + 5)), .ref b, .long ((((((xs (ii + 3)) : Int32).toInt64) <<< ((32 : Int32).toInt64 &&& 63))) ||| ((((xs (ii + 4)) : Int32).toInt64) &&& 4294967295)), .long ((((((xs (ii + 1)) : Int32).toInt64) <<< ((32 : Int32).toInt64 &&& 63))) ||| ((((xs (ii + 2)) : Int32).toInt64) &&& 4294967295)), .ref (a km), .int rA]) (by rw [show nI (ii + 5) = nI ii + 5 from (nI_add ii 5).symm]) ?_
    refine va_sld hx hb hX hbl hbA hS (vp_in_nI (n := ii + 5) (by omega) hLs) dL_law_510 ?_
    refine W.eq (g2 := F0 m 511 ls [.int (xs (ii + 5)), .long ((((((xs (ii + 3)) : Int32).toInt64) <<< ((32 : Int32).toInt64 &&& 63))) ||| ((((xs (ii + 4)) : Int32).toInt64) &&& 4294967295)), .long ((((((xs (ii + 1)) : Int32).toInt64) <<< ((32 : Int32).toInt64 &&& 63))) ||| ((((xs (ii + 2)) : Int32).toInt64) &&& 4294967295)), .ref (a km), .int rA]) (by rw [nI_clamp (n := ii + 5) (by omega)]) ?_
    refine lv_aload_n hx hb dL_law_511 rfl (lv_at hl 0 rfl) ?_
    refine lv_iload_n hx hb dL_law_512 rfl (lv_at hl 3 rfl) ?_
    refine lv_bipush (v := 6) hx hb dL_law_513 (by decide) ?_
    refine lv_iadd hx hb dL_law_515 ?_
    refine W.eq (g2 := F0 m 516 ls [.int (nI (ii + 6)), .ref b, .int (xs (ii + 5)), .long ((((((xs (ii + 3)) : Int32).toInt64) <<< ((32 : Int32).toInt64 &&& 63))) ||| ((((xs (ii + 4)) : Int32).toInt64) &&& 4294967295)), .long ((((((xs (ii + 1)) : Int32).toInt64) <<< ((32 : Int32).toInt64 &&& 63))) ||| ((((xs (ii + 2)) : Int32).toInt64) &&& 4294967295)), .ref (a km), .int rA]) (by rw [show nI (ii + 6) = nI ii + 6 from (nI_add ii 6).symm]) ?_
    refine va_sld hx hb hX hbl hbA hS (vp_in_nI (n := ii + 6) (by omega) hLs) dL_law_516 ?_
    refine W.eq (g2 := F0 m 517 ls [.int (xs (ii + 6)), .int (xs (ii + 5)), .long ((((((xs (ii + 3)) : Int32).toInt64) <<< ((32 : Int32).toInt64 &&& 63))) ||| ((((xs (ii + 4)) : Int32).toInt64) &&& 4294967295)), .long ((((((xs (ii + 1)) : Int32).toInt64) <<< ((32 : Int32).toInt64 &&& 63))) ||| ((((xs (ii + 2)) : Int32).toInt64) &&& 4294967295)), .ref (a km), .int rA]) (by rw [nI_clamp (n := ii + 6) (by omega)]) ?_
    refine lv_aload_n hx hb dL_law_517 rfl (lv_at hl 0 rfl) ?_
    refine lv_iload_n hx hb dL_law_518 rfl (lv_at hl 3 rfl) ?_
    refine lv_bipush (v := 7) hx hb dL_law_519 (by decide) ?_
    refine lv_iadd hx hb dL_law_521 ?_
    refine W.eq (g2 := F0 m 522 ls [.int (nI (ii + 7)), .ref b, .int (xs (ii + 6)), .int (xs (ii + 5)), .long ((((((xs (ii + 3)) : Int32).toInt64) <<< ((32 : Int32).toInt64 &&& 63))) ||| ((((xs (ii + 4)) : Int32).toInt64) &&& 4294967295)), .long ((((((xs (ii + 1)) : Int32).toInt64) <<< ((32 : Int32).toInt64 &&& 63))) ||| ((((xs (ii + 2)) : Int32).toInt64) &&& 4294967295)), .ref (a km), .int rA]) (by rw [show nI (ii + 7) = nI ii + 7 from (nI_add ii 7).symm]) ?_
    refine va_sld hx hb hX hbl hbA hS (vp_in_nI (n := ii + 7) (by omega) hLs) dL_law_522 ?_
    refine W.eq (g2 := F0 m 523 ls [.int (xs (ii + 7)), .int (xs (ii + 6)), .int (xs (ii + 5)), .long ((((((xs (ii + 3)) : Int32).toInt64) <<< ((32 : Int32).toInt64 &&& 63))) ||| ((((xs (ii + 4)) : Int32).toInt64) &&& 4294967295)), .long ((((((xs (ii + 1)) : Int32).toInt64) <<< ((32 : Int32).toInt64 &&& 63))) ||| ((((xs (ii + 2)) : Int32).toInt64) &&& 4294967295)), .ref (a km), .int rA]) (by rw [nI_clamp (n := ii + 7) (by omega)]) ?_
    have hFc := de_free hD hS hA
    refine va_calli (va_runV (As := [.long ((((((xs (ii + 1)) : Int32).toInt64) <<< ((32 : Int32).toInt64 &&& 63))) ||| ((((xs (ii + 2)) : Int32).toInt64) &&& 4294967295)), .long ((((((xs (ii + 3)) : Int32).toInt64) <<< ((32 : Int32).toInt64 &&& 63))) ||| ((((xs (ii + 4)) : Int32).toInt64) &&& 4294967295)), .int (xs (ii + 5)), .int (xs (ii + 6)), .int (xs (ii + 7))]) (rest := [.int rA]) ⟨hx, hb, hml, hown, hts⟩ (de_X18_call l dC dI cy a sh n H_15.size F z1 km ((((((xs (ii + 1)) : Int32).toInt64) <<< ((32 : Int32).toInt64 &&& 63))) ||| ((((xs (ii + 2)) : Int32).toInt64) &&& 4294967295)) ((((((xs (ii + 3)) : Int32).toInt64) <<< ((32 : Int32).toInt64 &&& 63))) ||| ((((xs (ii + 4)) : Int32).toInt64) &&& 4294967295)) (xs (ii + 5)) (xs (ii + 6)) (xs (ii + 7)) hc2) (cwV 5 hts gT_X18_call rfl rfl rfl (by decide +kernel) ⟨Nat.le_of_ble_eq_true rfl, Nat.le_of_ble_eq_true rfl⟩) ⟨fun a U g mk q => by obtain ⟨q0, q1, qP, qK, qD, qN⟩ := q; exact ⟨q0, q1, qP, va_K.moved (u := U) (U := U.calling g mk a) (Vm.Alike.refl U.vm) qK, qD, qN.same rfl⟩, va_recv hK hP (ci := 18) (q0 := km) rfl (Wd_ob kgkm sgkm (by decide)), fun U hU hW => ⟨rfl, by rw [hU], by rw [hU]; exact hP, va_K.moved hW.alike hK, hD.weaken (fun _ _ _ _ => trivial), hN.warm hW⟩⟩ rfl rfl hl.1 rfl (lv_room (Nat.le_of_ble_eq_true rfl)) dL_law_523 (lw_room hq (Nat.le_of_ble_eq_true rfl) (Nat.le_of_ble_eq_true rfl))) hS (fun q _ h => hFc q h) hFc (fun rr u t H_16 locs ht hvm hw hB hz1 hk1 hS2 => ?_)
    rw [hw]
    clear hw
    obtain ⟨hP1, -, hD1⟩ := hB
    rw [ht] at hP1
    replace hD := hD1.weaken (fun _ _ _ h => hFc _ h)
    replace hP := hP1
    replace hS := hS2
    clear hP1 hD1 hS2 hFc hz1 hk1 hvm ht
    refine lv_icmp_eq (tgt := 1058) hx hb dL_law_526 (by decide) (fun _ => ?_) (fun h => absurd rfl h)
    refine lv_iinc (v := nI (ii + 8)) (lv' := [(3, .int (nI (ii + 8))), (0, .ref b), (1, .ref (a kx)), (2, .ref (a km))]) hx hb dL_law_1058 hl (k := 3) rfl (by rw [show nI (ii + 8) = nI ii + 8 from (nI_add ii 8).symm]; rfl) (by decide) rfl (fun ls hl2 => ?_)
    replace hl := hl2
    clear hl2
    refine lv_goto (tgt := 28) hx hb dL_law_1061 (by decide) ?_
    refine W.widen (k := CL0 + (q + 1)) (n := SL0 + 2048 * (q + 1)) (by omega) (by omega) ?_
    exact next (by omega) a sh n z2 ls H_16 locs hIz hcb (lv_sub hl [1, 2, 3, 0] rfl) hP hD hS
  by_cases c_17 : sw = 5
  · skip
    refine lv_tableIn (tgt := 531) hx hb dL_law_43 (by rw [c_17]; decide) (by rw [c_17]; decide) (by rw [c_17]; rfl) (by decide) ?_
    refine lv_aload_n hx hb dL_law_531 rfl (lv_at hl 1 rfl) ?_
    refine lv_aload_n hx hb dL_law_532 rfl (lv_at hl 0 rfl) ?_
    refine lv_iload_n hx hb dL_law_533 rfl (lv_at hl 3 rfl) ?_
    refine lv_iconst (v := 1) hx hb dL_law_534 (by decide) ?_
    refine lv_iadd hx hb dL_law_535 ?_
    refine W.eq (g2 := F0 m 536 ls [.int (nI (ii + 1)), .ref b, .ref (a kx)]) (by rw [show nI (ii + 1) = nI ii + 1 from (nI_add ii 1).symm]) ?_
    refine va_sld hx hb hX hbl hbA hS (vp_in_nI (n := ii + 1) (by omega) hLs) dL_law_536 ?_
    refine W.eq (g2 := F0 m 537 ls [.int (xs (ii + 1)), .ref (a kx)]) (by rw [nI_clamp (n := ii + 1) (by omega)]) ?_
    refine lv_aload_n hx hb dL_law_537 rfl (lv_at hl 0 rfl) ?_
    refine lv_iload_n hx hb dL_law_538 rfl (lv_at hl 3 rfl) ?_
    refine lv_iconst (v := 2) hx hb dL_law_539 (by decide) ?_
    refine lv_iadd hx hb dL_law_540 ?_
    refine W.eq (g2 := F0 m 541 ls [.int (nI (ii + 2)), .ref b, .int (xs (ii + 1)), .ref (a kx)]) (by rw [show nI (ii + 2) = nI ii + 2 from (nI_add ii 2).symm]) ?_
    refine va_sld hx hb hX hbl hbA hS (vp_in_nI (n := ii + 2) (by omega) hLs) dL_law_541 ?_
    refine W.eq (g2 := F0 m 542 ls [.int (xs (ii + 2)), .int (xs (ii + 1)), .ref (a kx)]) (by rw [nI_clamp (n := ii + 2) (by omega)]) ?_
    refine lv_i2l (v := ((xs (ii + 2)) : Int32).toInt64) hx hb dL_law_542 rfl ?_
    refine lv_bipush (v := 32) hx hb dL_law_543 (by decide) ?_
    refine lv_lshl (v := ((((xs (ii + 2)) : Int32).toInt64) <<< ((32 : Int32).toInt64 &&& 63))) hx hb dL_law_545 rfl ?_
    refine lv_aload_n hx hb dL_law_546 rfl (lv_at hl 0 rfl) ?_
    refine lv_iload_n hx hb dL_law_547 rfl (lv_at hl 3 rfl) ?_
    refine lv_iconst (v := 3) hx hb dL_law_548 (by decide) ?_
    refine lv_iadd hx hb dL_law_549 ?_
    refine W.eq (g2 := F0 m 550 ls [.int (nI (ii + 3)), .ref b, .long (((((xs (ii + 2)) : Int32).toInt64) <<< ((32 : Int32).toInt64 &&& 63))), .int (xs (ii + 1)), .ref (a kx)]) (by rw [show nI (ii + 3) = nI ii + 3 from (nI_add ii 3).symm]) ?_
    refine va_sld hx hb hX hbl hbA hS (vp_in_nI (n := ii + 3) (by omega) hLs) dL_law_550 ?_
    refine W.eq (g2 := F0 m 551 ls [.int (xs (ii + 3)), .long (((((xs (ii + 2)) : Int32).toInt64) <<< ((32 : Int32).toInt64 &&& 63))), .int (xs (ii + 1)), .ref (a kx)]) (by rw [nI_clamp (n := ii + 3) (by omega)]) ?_
    refine lv_i2l (v := ((xs (ii + 3)) : Int32).toInt64) hx hb dL_law_551 rfl ?_
    refine lv_ldc2 hx hb hown (hts _ n_L_law_6) dL_law_552 ?_
    refine lv_land hx hb dL_law_555 ?_
    refine lv_lor hx hb dL_law_556 ?_
    refine lv_aload_n hx hb dL_law_557 rfl (lv_at hl 0 rfl) ?_
    refine lv_iload_n hx hb dL_law_558 rfl (lv_at hl 3 rfl) ?_
    refine lv_iconst (v := 4) hx hb dL_law_559 (by decide) ?_
    refine lv_iadd hx hb dL_law_560 ?_
    refine W.eq (g2 := F0 m 561 ls [.int (nI (ii + 4)), .ref b, .long ((((((xs (ii + 2)) : Int32).toInt64) <<< ((32 : Int32).toInt64 &&& 63))) ||| ((((xs (ii + 3)) : Int32).toInt64) &&& 4294967295)), .int (xs (ii + 1)), .ref (a kx)]) (by rw [show nI (ii + 4) = nI ii + 4 from (nI_add ii 4).symm]) ?_
    refine va_sld hx hb hX hbl hbA hS (vp_in_nI (n := ii + 4) (by omega) hLs) dL_law_561 ?_
    refine W.eq (g2 := F0 m 562 ls [.int (xs (ii + 4)), .long ((((((xs (ii + 2)) : Int32).toInt64) <<< ((32 : Int32).toInt64 &&& 63))) ||| ((((xs (ii + 3)) : Int32).toInt64) &&& 4294967295)), .int (xs (ii + 1)), .ref (a kx)]) (by rw [nI_clamp (n := ii + 4) (by omega)]) ?_
    refine lv_i2l (v := ((xs (ii + 4)) : Int32).toInt64) hx hb dL_law_562 rfl ?_
    refine lv_bipush (v := 32) hx hb dL_law_563 (by decide) ?_
    refine lv_lshl (v := ((((xs (ii + 4)) : Int32).toInt64) <<< ((32 : Int32).toInt64 &&& 63))) hx hb dL_law_565 rfl ?_
    refine lv_aload_n hx hb dL_law_566 rfl (lv_at hl 0 rfl) ?_
    refine lv_iload_n hx hb dL_law_567 rfl (lv_at hl 3 rfl) ?_
    refine lv_iconst (v := 5) hx hb dL_law_568 (by decide) ?_
    refine lv_iadd hx hb dL_law_569 ?_
    refine W.eq (g2 := F0 m 570 ls [.int (nI (ii + 5)), .ref b, .long (((((xs (ii + 4)) : Int32).toInt64) <<< ((32 : Int32).toInt64 &&& 63))), .long ((((((xs (ii + 2)) : Int32).toInt64) <<< ((32 : Int32).toInt64 &&& 63))) ||| ((((xs (ii + 3)) : Int32).toInt64) &&& 4294967295)), .int (xs (ii + 1)), .ref (a kx)]) (by rw [show nI (ii + 5) = nI ii + 5 from (nI_add ii 5).symm]) ?_
    refine va_sld hx hb hX hbl hbA hS (vp_in_nI (n := ii + 5) (by omega) hLs) dL_law_570 ?_
    refine W.eq (g2 := F0 m 571 ls [.int (xs (ii + 5)), .long (((((xs (ii + 4)) : Int32).toInt64) <<< ((32 : Int32).toInt64 &&& 63))), .long ((((((xs (ii + 2)) : Int32).toInt64) <<< ((32 : Int32).toInt64 &&& 63))) ||| ((((xs (ii + 3)) : Int32).toInt64) &&& 4294967295)), .int (xs (ii + 1)), .ref (a kx)]) (by rw [nI_clamp (n := ii + 5) (by omega)]) ?_
    refine lv_i2l (v := ((xs (ii + 5)) : Int32).toInt64) hx hb dL_law_571 rfl ?_
    refine lv_ldc2 hx hb hown (hts _ n_L_law_6) dL_law_572 ?_
    refine lv_land hx hb dL_law_575 ?_
    refine lv_lor hx hb dL_law_576 ?_
    obtain ⟨F, z1, z2, rA, hc1, hc2, hIz⟩ := hI.2.2.2.2.2.2.1 _ _ _ _ (xs (ii + 1)) ((((((xs (ii + 2)) : Int32).toInt64) <<< ((32 : Int32).toInt64 &&& 63))) ||| ((((xs (ii + 3)) : Int32).toInt64) &&& 4294967295)) ((((((xs (ii + 4)) : Int32).toInt64) <<< ((32 : Int32).toInt64 &&& 63))) ||| ((((xs (ii + 5)) : Int32).toInt64) &&& 4294967295)) hq hI0
    have hFc := de_free hD hS hA
    refine va_calli (va_runV (As := [.int (xs (ii + 1)), .long ((((((xs (ii + 2)) : Int32).toInt64) <<< ((32 : Int32).toInt64 &&& 63))) ||| ((((xs (ii + 3)) : Int32).toInt64) &&& 4294967295)), .long ((((((xs (ii + 4)) : Int32).toInt64) <<< ((32 : Int32).toInt64 &&& 63))) ||| ((((xs (ii + 5)) : Int32).toInt64) &&& 4294967295))]) (rest := []) ⟨hx, hb, hml, hown, hts⟩ (de_X11_argument l dC dI cy a sh n H.size F z kx (xs (ii + 1)) ((((((xs (ii + 2)) : Int32).toInt64) <<< ((32 : Int32).toInt64 &&& 63))) ||| ((((xs (ii + 3)) : Int32).toInt64) &&& 4294967295)) ((((((xs (ii + 4)) : Int32).toInt64) <<< ((32 : Int32).toInt64 &&& 63))) ||| ((((xs (ii + 5)) : Int32).toInt64) &&& 4294967295)) hc1) (cwV 3 hts gT_X11_argument rfl rfl rfl (by decide +kernel) ⟨Nat.le_of_ble_eq_true rfl, Nat.le_of_ble_eq_true rfl⟩) ⟨fun a U g mk q => by obtain ⟨q0, q1, qP, qK, qD, qN⟩ := q; exact ⟨q0, q1, qP, va_K.moved (u := U) (U := U.calling g mk a) (Vm.Alike.refl U.vm) qK, qD, qN.same rfl⟩, va_recv hK hP (ci := 11) (q0 := kx) rfl (Wd_ob kgkx sgkx (by decide)), fun U hU hW => ⟨rfl, by rw [hU], by rw [hU]; exact hP, va_K.moved hW.alike hK, hD.weaken (fun _ _ _ _ => trivial), hN.warm hW⟩⟩ rfl rfl hl.1 rfl (lv_room (Nat.le_of_ble_eq_true rfl)) dL_law_577 (lw_room hq (Nat.le_of_ble_eq_true rfl) (Nat.le_of_ble_eq_true rfl))) hS (fun q _ h => hFc q h) hFc (fun rr u t H_18 locs ht hvm hw hB hz1 hk1 hS2 => ?_)
    rw [hw]
    clear hw
    obtain ⟨hP1, -, hD1⟩ := hB
    rw [ht] at hP1
    replace hD := hD1.weaken (fun _ _ _ h => hFc _ h)
    replace hP := hP1
    replace hS := hS2
    clear hP1 hD1 hS2 hFc hz1 hk1 hvm ht
    refine lv_aload_n hx hb dL_law_580 rfl (lv_at hl 2 rfl) ?_
    refine lv_aload_n hx hb dL_law_581 rfl (lv_at hl 0 rfl) ?_
    refine lv_iload_n hx hb dL_law_582 rfl (lv_at hl 3 rfl) ?_
    refine lv_iconst (v := 1) hx hb dL_law_583 (by decide) ?_
    refine lv_iadd hx hb dL_law_584 ?_
    refine W.eq (g2 := F0 m 585 ls [.int (nI (ii + 1)), .ref b, .ref (a km), .int rA]) (by rw [show nI (ii + 1) = nI ii + 1 from (nI_add ii 1).symm]) ?_
    refine va_sld hx hb hX hbl hbA hS (vp_in_nI (n := ii + 1) (by omega) hLs) dL_law_585 ?_
    refine W.eq (g2 := F0 m 586 ls [.int (xs (ii + 1)), .ref (a km), .int rA]) (by rw [nI_clamp (n := ii + 1) (by omega)]) ?_
    refine lv_aload_n hx hb dL_law_586 rfl (lv_at hl 0 rfl) ?_
    refine lv_iload_n hx hb dL_law_587 rfl (lv_at hl 3 rfl) ?_
    refine lv_iconst (v := 2) hx hb dL_law_588 (by decide) ?_
    refine lv_iadd hx hb dL_law_589 ?_
    refine W.eq (g2 := F0 m 590 ls [.int (nI (ii + 2)), .ref b, .int (xs (ii + 1)), .ref (a km), .int rA]) (by rw [show nI (ii + 2) = nI ii + 2 from (nI_add ii 2).symm]) ?_
    refine va_sld hx hb hX hbl hbA hS (vp_in_nI (n := ii + 2) (by omega) hLs) dL_law_590 ?_
    refine W.eq (g2 := F0 m 591 ls [.int (xs (ii + 2)), .int (xs (ii + 1)), .ref (a km), .int rA]) (by rw [nI_clamp (n := ii + 2) (by omega)]) ?_
    refine lv_i2l (v := ((xs (ii + 2)) : Int32).toInt64) hx hb dL_law_591 rfl ?_
    refine lv_bipush (v := 32) hx hb dL_law_592 (by decide) ?_
    refine lv_lshl (v := ((((xs (ii + 2)) : Int32).toInt64) <<< ((32 : Int32).toInt64 &&& 63))) hx hb dL_law_594 rfl ?_
    refine lv_aload_n hx hb dL_law_595 rfl (lv_at hl 0 rfl) ?_
    refine lv_iload_n hx hb dL_law_596 rfl (lv_at hl 3 rfl) ?_
    refine lv_iconst (v := 3) hx hb dL_law_597 (by decide) ?_
    refine lv_iadd hx hb dL_law_598 ?_
    refine W.eq (g2 := F0 m 599 ls [.int (nI (ii + 3)), .ref b, .long (((((xs (ii + 2)) : Int32).toInt64) <<< ((32 : Int32).toInt64 &&& 63))), .int (xs (ii + 1)), .ref (a km), .int rA]) (by rw [show nI (ii + 3) = nI ii + 3 from (nI_add ii 3).symm]) ?_
    refine va_sld hx hb hX hbl hbA hS (vp_in_nI (n := ii + 3) (by omega) hLs) dL_law_599 ?_
    refine W.eq (g2 := F0 m 600 ls [.int (xs (ii + 3)), .long (((((xs (ii + 2)) : Int32).toInt64) <<< ((32 : Int32).toInt64 &&& 63))), .int (xs (ii + 1)), .ref (a km), .int rA]) (by rw [nI_clamp (n := ii + 3) (by omega)]) ?_
    refine lv_i2l (v := ((xs (ii + 3)) : Int32).toInt64) hx hb dL_law_600 rfl ?_
    refine lv_ldc2 hx hb hown (hts _ n_L_law_6) dL_law_601 ?_
    refine lv_land hx hb dL_law_604 ?_
    refine lv_lor hx hb dL_law_605 ?_
    refine lv_aload_n hx hb dL_law_606 rfl (lv_at hl 0 rfl) ?_
    refine lv_iload_n hx hb dL_law_607 rfl (lv_at hl 3 rfl) ?_
    refine lv_iconst (v := 4) hx hb dL_law_608 (by decide) ?_
    refine lv_iadd hx hb dL_law_609 ?_
    refine W.eq (g2 := F0 m 610 ls [.int (nI (ii + 4)), .ref b, .long ((((((xs (ii + 2)) : Int32).toInt64) <<< ((32 : Int32).toInt64 &&& 63))) ||| ((((xs (ii + 3)) : Int32).toInt64) &&& 4294967295)), .int (xs (ii + 1)), .ref (a km), .int rA]) (by rw [show nI (ii + 4) = nI ii + 4 from (nI_add ii 4).symm]) ?_
    refine va_sld hx hb hX hbl hbA hS (vp_in_nI (n := ii + 4) (by omega) hLs) dL_law_610 ?_
    refine W.eq (g2 := F0 m 611 ls [.int (xs (ii + 4)), .long ((((((xs (ii + 2)) : Int32).toInt64) <<< ((32 : Int32).toInt64 &&& 63))) ||| ((((xs (ii + 3)) : Int32).toInt64) &&& 4294967295)), .int (xs (ii + 1)), .ref (a km), .int rA]) (by rw [nI_clamp (n := ii + 4) (by omega)]) ?_
    refine lv_i2l (v := ((xs (ii + 4)) : Int32).toInt64) hx hb dL_law_611 rfl ?_
    refine lv_bipush (v := 32) hx hb dL_law_612 (by decide) ?_
    refine lv_lshl (v := ((((xs (ii + 4)) : Int32).toInt64) <<< ((32 : Int32).toInt64 &&& 63))) hx hb dL_law_614 rfl ?_
    refine lv_aload_n hx hb dL_law_615 rfl (lv_at hl 0 rfl) ?_
    refine lv_iload_n hx hb dL_law_616 rfl (lv_at hl 3 rfl) ?_
    refine lv_iconst (v := 5) hx hb dL_law_617 (by decide) ?_
    refine lv_iadd hx hb dL_law_618 ?_
    refine W.eq (g2 := F0 m 619 ls [.int (nI (ii + 5)), .ref b, .long (((((xs (ii + 4)) : Int32).toInt64) <<< ((32 : Int32).toInt64 &&& 63))), .long ((((((xs (ii + 2)) : Int32).toInt64) <<< ((32 : Int32).toInt64 &&& 63))) ||| ((((xs (ii + 3)) : Int32).toInt64) &&& 4294967295)), .int (xs (ii + 1)), .ref (a km), .int rA]) (by rw [show nI (ii + 5) = nI ii + 5 from (nI_add ii 5).symm]) ?_
    refine va_sld hx hb hX hbl hbA hS (vp_in_nI (n := ii + 5) (by omega) hLs) dL_law_619 ?_
    refine W.eq (g2 := F0 m 620 ls [.int (xs (ii + 5)), .long (((((xs (ii + 4)) : Int32).toInt64) <<< ((32 : Int32).toInt64 &&& 63))), .long ((((((xs (ii + 2)) : Int32).toInt64) <<< ((32 : Int32).toInt64 &&& 63))) ||| ((((xs (ii + 3)) : Int32).toInt64) &&& 4294967295)), .int (xs (ii + 1)), .ref (a km), .int rA]) (by rw [nI_clamp (n := ii + 5) (by omega)]) ?_
    refine lv_i2l (v := ((xs (ii + 5)) : Int32).toInt64) hx hb dL_law_620 rfl ?_
    refine lv_ldc2 hx hb hown (hts _ n_L_law_6) dL_law_621 ?_
    refine lv_land hx hb dL_law_624 ?_
    refine lv_lor hx hb dL_law_625 ?_
    have hFc := de_free hD hS hA
    refine va_calli (va_runV (As := [.int (xs (ii + 1)), .long ((((((xs (ii + 2)) : Int32).toInt64) <<< ((32 : Int32).toInt64 &&& 63))) ||| ((((xs (ii + 3)) : Int32).toInt64) &&& 4294967295)), .long ((((((xs (ii + 4)) : Int32).toInt64) <<< ((32 : Int32).toInt64 &&& 63))) ||| ((((xs (ii + 5)) : Int32).toInt64) &&& 4294967295))]) (rest := [.int rA]) ⟨hx, hb, hml, hown, hts⟩ (de_X18_argument l dC dI cy a sh n H_18.size F z1 km (xs (ii + 1)) ((((((xs (ii + 2)) : Int32).toInt64) <<< ((32 : Int32).toInt64 &&& 63))) ||| ((((xs (ii + 3)) : Int32).toInt64) &&& 4294967295)) ((((((xs (ii + 4)) : Int32).toInt64) <<< ((32 : Int32).toInt64 &&& 63))) ||| ((((xs (ii + 5)) : Int32).toInt64) &&& 4294967295)) hc2) (cwV 3 hts gT_X18_argument rfl rfl rfl (by decide +kernel) ⟨Nat.le_of_ble_eq_true rfl, Nat.le_of_ble_eq_true rfl⟩) ⟨fun a U g mk q => by obtain ⟨q0, q1, qP, qK, qD, qN⟩ := q; exact ⟨q0, q1, qP, va_K.moved (u := U) (U := U.calling g mk a) (Vm.Alike.refl U.vm) qK, qD, qN.same rfl⟩, va_recv hK hP (ci := 18) (q0 := km) rfl (Wd_ob kgkm sgkm (by decide)), fun U hU hW => ⟨rfl, by rw [hU], by rw [hU]; exact hP, va_K.moved hW.alike hK, hD.weaken (fun _ _ _ _ => trivial), hN.warm hW⟩⟩ rfl rfl hl.1 rfl (lv_room (Nat.le_of_ble_eq_true rfl)) dL_law_626 (lw_room hq (Nat.le_of_ble_eq_true rfl) (Nat.le_of_ble_eq_true rfl))) hS (fun q _ h => hFc q h) hFc (fun rr u t H_19 locs ht hvm hw hB hz1 hk1 hS2 => ?_)
    rw [hw]
    clear hw
    obtain ⟨hP1, -, hD1⟩ := hB
    rw [ht] at hP1
    replace hD := hD1.weaken (fun _ _ _ h => hFc _ h)
    replace hP := hP1
    replace hS := hS2
    clear hP1 hD1 hS2 hFc hz1 hk1 hvm ht
    refine lv_icmp_eq (tgt := 1058) hx hb dL_law_629 (by decide) (fun _ => ?_) (fun h => absurd rfl h)
    refine lv_iinc (v := nI (ii + 8)) (lv' := [(3, .int (nI (ii + 8))), (0, .ref b), (1, .ref (a kx)), (2, .ref (a km))]) hx hb dL_law_1058 hl (k := 3) rfl (by rw [show nI (ii + 8) = nI ii + 8 from (nI_add ii 8).symm]; rfl) (by decide) rfl (fun ls hl2 => ?_)
    replace hl := hl2
    clear hl2
    refine lv_goto (tgt := 28) hx hb dL_law_1061 (by decide) ?_
    refine W.widen (k := CL0 + (q + 1)) (n := SL0 + 2048 * (q + 1)) (by omega) (by omega) ?_
    exact next (by omega) a sh n z2 ls H_19 locs hIz hcb (lv_sub hl [1, 2, 3, 0] rfl) hP hD hS
  by_cases c_20 : sw = 6
  · skip
    refine lv_tableIn (tgt := 634) hx hb dL_law_43 (by rw [c_20]; decide) (by rw [c_20]; decide) (by rw [c_20]; rfl) (by decide) ?_
    refine lv_aload_n hx hb dL_law_634 rfl (lv_at hl 1 rfl) ?_
    refine lv_aload_n hx hb dL_law_635 rfl (lv_at hl 0 rfl) ?_
    refine lv_iload_n hx hb dL_law_636 rfl (lv_at hl 3 rfl) ?_
    refine lv_iconst (v := 1) hx hb dL_law_637 (by decide) ?_
    refine lv_iadd hx hb dL_law_638 ?_
    refine W.eq (g2 := F0 m 639 ls [.int (nI (ii + 1)), .ref b, .ref (a kx)]) (by rw [show nI (ii + 1) = nI ii + 1 from (nI_add ii 1).symm]) ?_
    refine va_sld hx hb hX hbl hbA hS (vp_in_nI (n := ii + 1) (by omega) hLs) dL_law_639 ?_
    refine W.eq (g2 := F0 m 640 ls [.int (xs (ii + 1)), .ref (a kx)]) (by rw [nI_clamp (n := ii + 1) (by omega)]) ?_
    refine lv_i2l (v := ((xs (ii + 1)) : Int32).toInt64) hx hb dL_law_640 rfl ?_
    refine lv_bipush (v := 32) hx hb dL_law_641 (by decide) ?_
    refine lv_lshl (v := ((((xs (ii + 1)) : Int32).toInt64) <<< ((32 : Int32).toInt64 &&& 63))) hx hb dL_law_643 rfl ?_
    refine lv_aload_n hx hb dL_law_644 rfl (lv_at hl 0 rfl) ?_
    refine lv_iload_n hx hb dL_law_645 rfl (lv_at hl 3 rfl) ?_
    refine lv_iconst (v := 2) hx hb dL_law_646 (by decide) ?_
    refine lv_iadd hx hb dL_law_647 ?_
    refine W.eq (g2 := F0 m 648 ls [.int (nI (ii + 2)), .ref b, .long (((((xs (ii + 1)) : Int32).toInt64) <<< ((32 : Int32).toInt64 &&& 63))), .ref (a kx)]) (by rw [show nI (ii + 2) = nI ii + 2 from (nI_add ii 2).symm]) ?_
    refine va_sld hx hb hX hbl hbA hS (vp_in_nI (n := ii + 2) (by omega) hLs) dL_law_648 ?_
    refine W.eq (g2 := F0 m 649 ls [.int (xs (ii + 2)), .long (((((xs (ii + 1)) : Int32).toInt64) <<< ((32 : Int32).toInt64 &&& 63))), .ref (a kx)]) (by rw [nI_clamp (n := ii + 2) (by omega)]) ?_
    refine lv_i2l (v := ((xs (ii + 2)) : Int32).toInt64) hx hb dL_law_649 rfl ?_
    refine lv_ldc2 hx hb hown (hts _ n_L_law_6) dL_law_650 ?_
    refine lv_land hx hb dL_law_653 ?_
    refine lv_lor hx hb dL_law_654 ?_
    obtain ⟨F, z1, z2, rA, hc1, hc2, hIz⟩ := hI.2.2.2.2.2.2.2.1 _ _ _ _ ((((((xs (ii + 1)) : Int32).toInt64) <<< ((32 : Int32).toInt64 &&& 63))) ||| ((((xs (ii + 2)) : Int32).toInt64) &&& 4294967295)) hq hI0
    have hFc := de_free hD hS hA
    refine va_calli (va_runV (As := [.long ((((((xs (ii + 1)) : Int32).toInt64) <<< ((32 : Int32).toInt64 &&& 63))) ||| ((((xs (ii + 2)) : Int32).toInt64) &&& 4294967295))]) (rest := []) ⟨hx, hb, hml, hown, hts⟩ (de_X11_weave l dC dI cy a sh n H.size F z kx ((((((xs (ii + 1)) : Int32).toInt64) <<< ((32 : Int32).toInt64 &&& 63))) ||| ((((xs (ii + 2)) : Int32).toInt64) &&& 4294967295)) hc1) (cwV 1 hts gT_X11_weave rfl rfl rfl (by decide +kernel) ⟨Nat.le_of_ble_eq_true rfl, Nat.le_of_ble_eq_true rfl⟩) ⟨fun a U g mk q => by obtain ⟨q0, q1, qP, qK, qD, qN⟩ := q; exact ⟨q0, q1, qP, va_K.moved (u := U) (U := U.calling g mk a) (Vm.Alike.refl U.vm) qK, qD, qN.same rfl⟩, va_recv hK hP (ci := 11) (q0 := kx) rfl (Wd_ob kgkx sgkx (by decide)), fun U hU hW => ⟨rfl, by rw [hU], by rw [hU]; exact hP, va_K.moved hW.alike hK, hD.weaken (fun _ _ _ _ => trivial), hN.warm hW⟩⟩ rfl rfl hl.1 rfl (lv_room (Nat.le_of_ble_eq_true rfl)) dL_law_655 (lw_room hq (Nat.le_of_ble_eq_true rfl) (Nat.le_of_ble_eq_true rfl))) hS (fun q _ h => hFc q h) hFc (fun rr u t H_21 locs ht hvm hw hB hz1 hk1 hS2 => ?_)
    rw [hw]
    clear hw
    obtain ⟨hP1, -, hD1⟩ := hB
    rw [ht] at hP1
    replace hD := hD1.weaken (fun _ _ _ h => hFc _ h)
    replace hP := hP1
    replace hS := hS2
    clear hP1 hD1 hS2 hFc hz1 hk1 hvm ht
    refine lv_aload_n hx hb dL_law_658 rfl (lv_at hl 2 rfl) ?_
    refine lv_aload_n hx hb dL_law_659 rfl (lv_at hl 0 rfl) ?_
    refine lv_iload_n hx hb dL_law_660 rfl (lv_at hl 3 rfl) ?_
    refine lv_iconst (v := 1) hx hb dL_law_661 (by decide) ?_
    refine lv_iadd hx hb dL_law_662 ?_
    refine W.eq (g2 := F0 m 663 ls [.int (nI (ii + 1)), .ref b, .ref (a km), .int rA]) (by rw [show nI (ii + 1) = nI ii + 1 from (nI_add ii 1).symm]) ?_
    refine va_sld hx hb hX hbl hbA hS (vp_in_nI (n := ii + 1) (by omega) hLs) dL_law_663 ?_
    refine W.eq (g2 := F0 m 664 ls [.int (xs (ii + 1)), .ref (a km), .int rA]) (by rw [nI_clamp (n := ii + 1) (by omega)]) ?_
    refine lv_i2l (v := ((xs (ii + 1)) : Int32).toInt64) hx hb dL_law_664 rfl ?_
    refine lv_bipush (v := 32) hx hb dL_law_665 (by decide) ?_
    refine lv_lshl (v := ((((xs (ii + 1)) : Int32).toInt64) <<< ((32 : Int32).toInt64 &&& 63))) hx hb dL_law_667 rfl ?_
    refine lv_aload_n hx hb dL_law_668 rfl (lv_at hl 0 rfl) ?_
    refine lv_iload_n hx hb dL_law_669 rfl (lv_at hl 3 rfl) ?_
    refine lv_iconst (v := 2) hx hb dL_law_670 (by decide) ?_
    refine lv_iadd hx hb dL_law_671 ?_
    refine W.eq (g2 := F0 m 672 ls [.int (nI (ii + 2)), .ref b, .long (((((xs (ii + 1)) : Int32).toInt64) <<< ((32 : Int32).toInt64 &&& 63))), .ref (a km), .int rA]) (by rw [show nI (ii + 2) = nI ii + 2 from (nI_add ii 2).symm]) ?_
    refine va_sld hx hb hX hbl hbA hS (vp_in_nI (n := ii + 2) (by omega) hLs) dL_law_672 ?_
    refine W.eq (g2 := F0 m 673 ls [.int (xs (ii + 2)), .long (((((xs (ii + 1)) : Int32).toInt64) <<< ((32 : Int32).toInt64 &&& 63))), .ref (a km), .int rA]) (by rw [nI_clamp (n := ii + 2) (by omega)]) ?_
    refine lv_i2l (v := ((xs (ii + 2)) : Int32).toInt64) hx hb dL_law_673 rfl ?_
    refine lv_ldc2 hx hb hown (hts _ n_L_law_6) dL_law_674 ?_
    refine lv_land hx hb dL_law_677 ?_
    refine lv_lor hx hb dL_law_678 ?_
    have hFc := de_free hD hS hA
    refine va_calli (va_runV (As := [.long ((((((xs (ii + 1)) : Int32).toInt64) <<< ((32 : Int32).toInt64 &&& 63))) ||| ((((xs (ii + 2)) : Int32).toInt64) &&& 4294967295))]) (rest := [.int rA]) ⟨hx, hb, hml, hown, hts⟩ (de_X18_weave l dC dI cy a sh n H_21.size F z1 km ((((((xs (ii + 1)) : Int32).toInt64) <<< ((32 : Int32).toInt64 &&& 63))) ||| ((((xs (ii + 2)) : Int32).toInt64) &&& 4294967295)) hc2) (cwV 1 hts gT_X18_weave rfl rfl rfl (by decide +kernel) ⟨Nat.le_of_ble_eq_true rfl, Nat.le_of_ble_eq_true rfl⟩) ⟨fun a U g mk q => by obtain ⟨q0, q1, qP, qK, qD, qN⟩ := q; exact ⟨q0, q1, qP, va_K.moved (u := U) (U := U.calling g mk a) (Vm.Alike.refl U.vm) qK, qD, qN.same rfl⟩, va_recv hK hP (ci := 18) (q0 := km) rfl (Wd_ob kgkm sgkm (by decide)), fun U hU hW => ⟨rfl, by rw [hU], by rw [hU]; exact hP, va_K.moved hW.alike hK, hD.weaken (fun _ _ _ _ => trivial), hN.warm hW⟩⟩ rfl rfl hl.1 rfl (lv_room (Nat.le_of_ble_eq_true rfl)) dL_law_679 (lw_room hq (Nat.le_of_ble_eq_true rfl) (Nat.le_of_ble_eq_true rfl))) hS (fun q _ h => hFc q h) hFc (fun rr u t H_22 locs ht hvm hw hB hz1 hk1 hS2 => ?_)
    rw [hw]
    clear hw
    obtain ⟨hP1, -, hD1⟩ := hB
    rw [ht] at hP1
    replace hD := hD1.weaken (fun _ _ _ h => hFc _ h)
    replace hP := hP1
    replace hS := hS2
    clear hP1 hD1 hS2 hFc hz1 hk1 hvm ht
    refine lv_icmp_eq (tgt := 1058) hx hb dL_law_682 (by decide) (fun _ => ?_) (fun h => absurd rfl h)
    refine lv_iinc (v := nI (ii + 8)) (lv' := [(3, .int (nI (ii + 8))), (0, .ref b), (1, .ref (a kx)), (2, .ref (a km))]) hx hb dL_law_1058 hl (k := 3) rfl (by rw [show nI (ii + 8) = nI ii + 8 from (nI_add ii 8).symm]; rfl) (by decide) rfl (fun ls hl2 => ?_)
    replace hl := hl2
    clear hl2
    refine lv_goto (tgt := 28) hx hb dL_law_1061 (by decide) ?_
    refine W.widen (k := CL0 + (q + 1)) (n := SL0 + 2048 * (q + 1)) (by omega) (by omega) ?_
    exact next (by omega) a sh n z2 ls H_22 locs hIz hcb (lv_sub hl [1, 2, 3, 0] rfl) hP hD hS
  by_cases c_23 : sw = 7
  · skip
    refine lv_tableIn (tgt := 687) hx hb dL_law_43 (by rw [c_23]; decide) (by rw [c_23]; decide) (by rw [c_23]; rfl) (by decide) ?_
    refine lv_aload_n hx hb dL_law_687 rfl (lv_at hl 1 rfl) ?_
    obtain ⟨F, z1, z2, rA, hc1, hc2, hIz⟩ := hI.2.2.2.2.2.2.2.2.1 _ _ _ _  hq hI0
    have hFc := de_free hD hS hA
    refine va_calli (va_runV (As := []) (rest := []) ⟨hx, hb, hml, hown, hts⟩ (de_X11_unweave l dC dI cy a sh n H.size F z kx hc1) (cwV 0 hts gT_X11_unweave rfl rfl rfl (by decide +kernel) ⟨Nat.le_of_ble_eq_true rfl, Nat.le_of_ble_eq_true rfl⟩) ⟨fun a U g mk q => by obtain ⟨q0, q1, qP, qK, qD, qN⟩ := q; exact ⟨q0, q1, qP, va_K.moved (u := U) (U := U.calling g mk a) (Vm.Alike.refl U.vm) qK, qD, qN.same rfl⟩, va_recv hK hP (ci := 11) (q0 := kx) rfl (Wd_ob kgkx sgkx (by decide)), fun U hU hW => ⟨rfl, by rw [hU], by rw [hU]; exact hP, va_K.moved hW.alike hK, hD.weaken (fun _ _ _ _ => trivial), hN.warm hW⟩⟩ rfl rfl hl.1 rfl (lv_room (Nat.le_of_ble_eq_true rfl)) dL_law_688 (lw_room hq (Nat.le_of_ble_eq_true rfl) (Nat.le_of_ble_eq_true rfl))) hS (fun q _ h => hFc q h) hFc (fun rr u t H_24 locs ht hvm hw hB hz1 hk1 hS2 => ?_)
    rw [hw]
    clear hw
    obtain ⟨hP1, -, hD1⟩ := hB
    rw [ht] at hP1
    replace hD := hD1.weaken (fun _ _ _ h => hFc _ h)
    replace hP := hP1
    replace hS := hS2
    clear hP1 hD1 hS2 hFc hz1 hk1 hvm ht
    refine lv_aload_n hx hb dL_law_691 rfl (lv_at hl 2 rfl) ?_
    have hFc := de_free hD hS hA
    refine va_calli (va_runV (As := []) (rest := [.int rA]) ⟨hx, hb, hml, hown, hts⟩ (de_X18_unweave l dC dI cy a sh n H_24.size F z1 km hc2) (cwV 0 hts gT_X18_unweave rfl rfl rfl (by decide +kernel) ⟨Nat.le_of_ble_eq_true rfl, Nat.le_of_ble_eq_true rfl⟩) ⟨fun a U g mk q => by obtain ⟨q0, q1, qP, qK, qD, qN⟩ := q; exact ⟨q0, q1, qP, va_K.moved (u := U) (U := U.calling g mk a) (Vm.Alike.refl U.vm) qK, qD, qN.same rfl⟩, va_recv hK hP (ci := 18) (q0 := km) rfl (Wd_ob kgkm sgkm (by decide)), fun U hU hW => ⟨rfl, by rw [hU], by rw [hU]; exact hP, va_K.moved hW.alike hK, hD.weaken (fun _ _ _ _ => trivial), hN.warm hW⟩⟩ rfl rfl hl.1 rfl (lv_room (Nat.le_of_ble_eq_true rfl)) dL_law_692 (lw_room hq (Nat.le_of_ble_eq_true rfl) (Nat.le_of_ble_eq_true rfl))) hS (fun q _ h => hFc q h) hFc (fun rr u t H_25 locs ht hvm hw hB hz1 hk1 hS2 => ?_)
    rw [hw]
    clear hw
    obtain ⟨hP1, -, hD1⟩ := hB
    rw [ht] at hP1
    replace hD := hD1.weaken (fun _ _ _ h => hFc _ h)
    replace hP := hP1
    replace hS := hS2
    clear hP1 hD1 hS2 hFc hz1 hk1 hvm ht
    refine lv_icmp_eq (tgt := 1058) hx hb dL_law_695 (by decide) (fun _ => ?_) (fun h => absurd rfl h)
    refine lv_iinc (v := nI (ii + 8)) (lv' := [(3, .int (nI (ii + 8))), (0, .ref b), (1, .ref (a kx)), (2, .ref (a km))]) hx hb dL_law_1058 hl (k := 3) rfl (by rw [show nI (ii + 8) = nI ii + 8 from (nI_add ii 8).symm]; rfl) (by decide) rfl (fun ls hl2 => ?_)
    replace hl := hl2
    clear hl2
    refine lv_goto (tgt := 28) hx hb dL_law_1061 (by decide) ?_
    refine W.widen (k := CL0 + (q + 1)) (n := SL0 + 2048 * (q + 1)) (by omega) (by omega) ?_
    exact next (by omega) a sh n z2 ls H_25 locs hIz hcb (lv_sub hl [1, 2, 3, 0] rfl) hP hD hS
  by_cases c_26 : sw = 8
  · skip
    refine lv_tableIn (tgt := 700) hx hb dL_law_43 (by rw [c_26]; decide) (by rw [c_26]; decide) (by rw [c_26]; rfl) (by decide) ?_
    refine lv_aload_n hx hb dL_law_700 rfl (lv_at hl 1 rfl) ?_
    obtain ⟨F, z1, z2, rA, hc1, hc2, hIz⟩ := hI.2.2.2.2.2.2.2.2.2.1 _ _ _ _  hq hI0
    have hFc := de_free hD hS hA
    refine va_calli (va_runV (As := []) (rest := []) ⟨hx, hb, hml, hown, hts⟩ (de_X11_execute l dC dI cy a sh n H.size F sk z kx hc1) (cwV 0 hts gT_X11_execute rfl rfl rfl (by decide +kernel) ⟨Nat.le_of_ble_eq_true rfl, Nat.le_of_ble_eq_true rfl⟩) ⟨fun a U g mk q => by obtain ⟨q0, q1, qP, qK, qD, qN, qS⟩ := q; exact ⟨q0, q1, qP, va_K.moved (u := U) (U := U.calling g mk a) (Vm.Alike.refl U.vm) qK, qD, qN.same rfl, SKs.moved (u := U) (U := U.calling g mk a) (Vm.Alike.refl U.vm) qS⟩, va_recv hK hP (ci := 11) (q0 := kx) rfl (Wd_ob kgkx sgkx (by decide)), fun U hU hW => ⟨rfl, by rw [hU], by rw [hU]; exact hP, va_K.moved hW.alike hK, hD.weaken (fun _ _ _ _ => trivial), hN.warm hW, by rw [hU]; exact ((hSK.kept hS.2.1).narrow hFc).moved hW.alike⟩⟩ rfl rfl hl.1 rfl (lv_room (Nat.le_of_ble_eq_true rfl)) dL_law_701 (lw_room hq (Nat.le_of_ble_eq_true rfl) (Nat.le_of_ble_eq_true rfl))) hS (fun q _ h => hFc q h) hFc (fun rr u t H_27 locs ht hvm hw hB hz1 hk1 hS2 => ?_)
    rw [hw]
    clear hw
    obtain ⟨hP1, -, hD1⟩ := hB
    rw [ht] at hP1
    replace hD := hD1.weaken (fun _ _ _ h => hFc _ h)
    replace hP := hP1
    replace hS := hS2
    clear hP1 hD1 hS2 hFc hz1 hk1 hvm ht
    refine lv_aload_n hx hb dL_law_704 rfl (lv_at hl 2 rfl) ?_
    have hFc := de_free hD hS hA
    refine va_calli (va_runV (As := []) (rest := [.int rA]) ⟨hx, hb, hml, hown, hts⟩ (de_X18_execute l dC dI cy a sh n H_27.size F sk z1 km hc2) (cwV 0 hts gT_X18_execute rfl rfl rfl (by decide +kernel) ⟨Nat.le_of_ble_eq_true rfl, Nat.le_of_ble_eq_true rfl⟩) ⟨fun a U g mk q => by obtain ⟨q0, q1, qP, qK, qD, qN, qS⟩ := q; exact ⟨q0, q1, qP, va_K.moved (u := U) (U := U.calling g mk a) (Vm.Alike.refl U.vm) qK, qD, qN.same rfl, SKs.moved (u := U) (U := U.calling g mk a) (Vm.Alike.refl U.vm) qS⟩, va_recv hK hP (ci := 18) (q0 := km) rfl (Wd_ob kgkm sgkm (by decide)), fun U hU hW => ⟨rfl, by rw [hU], by rw [hU]; exact hP, va_K.moved hW.alike hK, hD.weaken (fun _ _ _ _ => trivial), hN.warm hW, by rw [hU]; exact ((hSK.kept hS.2.1).narrow hFc).moved hW.alike⟩⟩ rfl rfl hl.1 rfl (lv_room (Nat.le_of_ble_eq_true rfl)) dL_law_705 (lw_room hq (Nat.le_of_ble_eq_true rfl) (Nat.le_of_ble_eq_true rfl))) hS (fun q _ h => hFc q h) hFc (fun rr u t H_28 locs ht hvm hw hB hz1 hk1 hS2 => ?_)
    rw [hw]
    clear hw
    obtain ⟨hP1, -, hD1⟩ := hB
    rw [ht] at hP1
    replace hD := hD1.weaken (fun _ _ _ h => hFc _ h)
    replace hP := hP1
    replace hS := hS2
    clear hP1 hD1 hS2 hFc hz1 hk1 hvm ht
    refine lv_icmp_eq (tgt := 1058) hx hb dL_law_708 (by decide) (fun _ => ?_) (fun h => absurd rfl h)
    refine lv_iinc (v := nI (ii + 8)) (lv' := [(3, .int (nI (ii + 8))), (0, .ref b), (1, .ref (a kx)), (2, .ref (a km))]) hx hb dL_law_1058 hl (k := 3) rfl (by rw [show nI (ii + 8) = nI ii + 8 from (nI_add ii 8).symm]; rfl) (by decide) rfl (fun ls hl2 => ?_)
    replace hl := hl2
    clear hl2
    refine lv_goto (tgt := 28) hx hb dL_law_1061 (by decide) ?_
    refine W.widen (k := CL0 + (q + 1)) (n := SL0 + 2048 * (q + 1)) (by omega) (by omega) ?_
    exact next (by omega) a sh n z2 ls H_28 locs hIz hcb (lv_sub hl [1, 2, 3, 0] rfl) hP hD hS
  by_cases c_29 : sw = 9
  · skip
    refine lv_tableIn (tgt := 713) hx hb dL_law_43 (by rw [c_29]; decide) (by rw [c_29]; decide) (by rw [c_29]; rfl) (by decide) ?_
    refine lv_aload_n hx hb dL_law_713 rfl (lv_at hl 1 rfl) ?_
    refine lv_aload_n hx hb dL_law_714 rfl (lv_at hl 0 rfl) ?_
    refine lv_iload_n hx hb dL_law_715 rfl (lv_at hl 3 rfl) ?_
    refine lv_iconst (v := 1) hx hb dL_law_716 (by decide) ?_
    refine lv_iadd hx hb dL_law_717 ?_
    refine W.eq (g2 := F0 m 718 ls [.int (nI (ii + 1)), .ref b, .ref (a kx)]) (by rw [show nI (ii + 1) = nI ii + 1 from (nI_add ii 1).symm]) ?_
    refine va_sld hx hb hX hbl hbA hS (vp_in_nI (n := ii + 1) (by omega) hLs) dL_law_718 ?_
    refine W.eq (g2 := F0 m 719 ls [.int (xs (ii + 1)), .ref (a kx)]) (by rw [nI_clamp (n := ii + 1) (by omega)]) ?_
    refine lv_aload_n hx hb dL_law_719 rfl (lv_at hl 0 rfl) ?_
    refine lv_iload_n hx hb dL_law_720 rfl (lv_at hl 3 rfl) ?_
    refine lv_iconst (v := 2) hx hb dL_law_721 (by decide) ?_
    refine lv_iadd hx hb dL_law_722 ?_
    refine W.eq (g2 := F0 m 723 ls [.int (nI (ii + 2)), .ref b, .int (xs (ii + 1)), .ref (a kx)]) (by rw [show nI (ii + 2) = nI ii + 2 from (nI_add ii 2).symm]) ?_
    refine va_sld hx hb hX hbl hbA hS (vp_in_nI (n := ii + 2) (by omega) hLs) dL_law_723 ?_
    refine W.eq (g2 := F0 m 724 ls [.int (xs (ii + 2)), .int (xs (ii + 1)), .ref (a kx)]) (by rw [nI_clamp (n := ii + 2) (by omega)]) ?_
    obtain ⟨F, z1, z2, rA, hc1, hc2, hIz⟩ := hI.2.2.2.2.2.2.2.2.2.2.1 _ _ _ _ (xs (ii + 1)) (xs (ii + 2)) hq hI0
    have hFc := de_free hD hS hA
    refine va_calli (va_runV (As := [.int (xs (ii + 1)), .int (xs (ii + 2))]) (rest := []) ⟨hx, hb, hml, hown, hts⟩ (de_X11_told l dC dI cy a sh n H.size F z kx (xs (ii + 1)) (xs (ii + 2)) hc1) (cwV 2 hts gT_X11_told rfl rfl rfl (by decide +kernel) ⟨Nat.le_of_ble_eq_true rfl, Nat.le_of_ble_eq_true rfl⟩) ⟨fun a U g mk q => by obtain ⟨q0, q1, qP, qK, qD, qN⟩ := q; exact ⟨q0, q1, qP, va_K.moved (u := U) (U := U.calling g mk a) (Vm.Alike.refl U.vm) qK, qD, qN.same rfl⟩, va_recv hK hP (ci := 11) (q0 := kx) rfl (Wd_ob kgkx sgkx (by decide)), fun U hU hW => ⟨rfl, by rw [hU], by rw [hU]; exact hP, va_K.moved hW.alike hK, hD.weaken (fun _ _ _ _ => trivial), hN.warm hW⟩⟩ rfl rfl hl.1 rfl (lv_room (Nat.le_of_ble_eq_true rfl)) dL_law_724 (lw_room hq (Nat.le_of_ble_eq_true rfl) (Nat.le_of_ble_eq_true rfl))) hS (fun q _ h => hFc q h) hFc (fun rr u t H_30 locs ht hvm hw hB hz1 hk1 hS2 => ?_)
    rw [hw]
    clear hw
    obtain ⟨hP1, -, hD1⟩ := hB
    rw [ht] at hP1
    replace hD := hD1.weaken (fun _ _ _ h => hFc _ h)
    replace hP := hP1
    replace hS := hS2
    clear hP1 hD1 hS2 hFc hz1 hk1 hvm ht
    refine lv_aload_n hx hb dL_law_727 rfl (lv_at hl 2 rfl) ?_
    refine lv_aload_n hx hb dL_law_728 rfl (lv_at hl 0 rfl) ?_
    refine lv_iload_n hx hb dL_law_729 rfl (lv_at hl 3 rfl) ?_
    refine lv_iconst (v := 1) hx hb dL_law_730 (by decide) ?_
    refine lv_iadd hx hb dL_law_731 ?_
    refine W.eq (g2 := F0 m 732 ls [.int (nI (ii + 1)), .ref b, .ref (a km), .int rA]) (by rw [show nI (ii + 1) = nI ii + 1 from (nI_add ii 1).symm]) ?_
    refine va_sld hx hb hX hbl hbA hS (vp_in_nI (n := ii + 1) (by omega) hLs) dL_law_732 ?_
    refine W.eq (g2 := F0 m 733 ls [.int (xs (ii + 1)), .ref (a km), .int rA]) (by rw [nI_clamp (n := ii + 1) (by omega)]) ?_
    refine lv_aload_n hx hb dL_law_733 rfl (lv_at hl 0 rfl) ?_
    refine lv_iload_n hx hb dL_law_734 rfl (lv_at hl 3 rfl) ?_
    refine lv_iconst (v := 2) hx hb dL_law_735 (by decide) ?_
    refine lv_iadd hx hb dL_law_736 ?_
    refine W.eq (g2 := F0 m 737 ls [.int (nI (ii + 2)), .ref b, .int (xs (ii + 1)), .ref (a km), .int rA]) (by rw [show nI (ii + 2) = nI ii + 2 from (nI_add ii 2).symm]) ?_
    refine va_sld hx hb hX hbl hbA hS (vp_in_nI (n := ii + 2) (by omega) hLs) dL_law_737 ?_
    refine W.eq (g2 := F0 m 738 ls [.int (xs (ii + 2)), .int (xs (ii + 1)), .ref (a km), .int rA]) (by rw [nI_clamp (n := ii + 2) (by omega)]) ?_
    have hFc := de_free hD hS hA
    refine va_calli (va_runV (As := [.int (xs (ii + 1)), .int (xs (ii + 2))]) (rest := [.int rA]) ⟨hx, hb, hml, hown, hts⟩ (de_X18_told l dC dI cy a sh n H_30.size F z1 km (xs (ii + 1)) (xs (ii + 2)) hc2) (cwV 2 hts gT_X18_told rfl rfl rfl (by decide +kernel) ⟨Nat.le_of_ble_eq_true rfl, Nat.le_of_ble_eq_true rfl⟩) ⟨fun a U g mk q => by obtain ⟨q0, q1, qP, qK, qD, qN⟩ := q; exact ⟨q0, q1, qP, va_K.moved (u := U) (U := U.calling g mk a) (Vm.Alike.refl U.vm) qK, qD, qN.same rfl⟩, va_recv hK hP (ci := 18) (q0 := km) rfl (Wd_ob kgkm sgkm (by decide)), fun U hU hW => ⟨rfl, by rw [hU], by rw [hU]; exact hP, va_K.moved hW.alike hK, hD.weaken (fun _ _ _ _ => trivial), hN.warm hW⟩⟩ rfl rfl hl.1 rfl (lv_room (Nat.le_of_ble_eq_true rfl)) dL_law_738 (lw_room hq (Nat.le_of_ble_eq_true rfl) (Nat.le_of_ble_eq_true rfl))) hS (fun q _ h => hFc q h) hFc (fun rr u t H_31 locs ht hvm hw hB hz1 hk1 hS2 => ?_)
    rw [hw]
    clear hw
    obtain ⟨hP1, -, hD1⟩ := hB
    rw [ht] at hP1
    replace hD := hD1.weaken (fun _ _ _ h => hFc _ h)
    replace hP := hP1
    replace hS := hS2
    clear hP1 hD1 hS2 hFc hz1 hk1 hvm ht
    refine lv_icmp_eq (tgt := 1058) hx hb dL_law_741 (by decide) (fun _ => ?_) (fun h => absurd rfl h)
    refine lv_iinc (v := nI (ii + 8)) (lv' := [(3, .int (nI (ii + 8))), (0, .ref b), (1, .ref (a kx)), (2, .ref (a km))]) hx hb dL_law_1058 hl (k := 3) rfl (by rw [show nI (ii + 8) = nI ii + 8 from (nI_add ii 8).symm]; rfl) (by decide) rfl (fun ls hl2 => ?_)
    replace hl := hl2
    clear hl2
    refine lv_goto (tgt := 28) hx hb dL_law_1061 (by decide) ?_
    refine W.widen (k := CL0 + (q + 1)) (n := SL0 + 2048 * (q + 1)) (by omega) (by omega) ?_
    exact next (by omega) a sh n z2 ls H_31 locs hIz hcb (lv_sub hl [1, 2, 3, 0] rfl) hP hD hS
  by_cases c_32 : sw = 10
  · skip
    refine lv_tableIn (tgt := 746) hx hb dL_law_43 (by rw [c_32]; decide) (by rw [c_32]; decide) (by rw [c_32]; rfl) (by decide) ?_
    refine lv_aload_n hx hb dL_law_746 rfl (lv_at hl 1 rfl) ?_
    refine lv_aload_n hx hb dL_law_747 rfl (lv_at hl 0 rfl) ?_
    refine lv_iload_n hx hb dL_law_748 rfl (lv_at hl 3 rfl) ?_
    refine lv_iconst (v := 1) hx hb dL_law_749 (by decide) ?_
    refine lv_iadd hx hb dL_law_750 ?_
    refine W.eq (g2 := F0 m 751 ls [.int (nI (ii + 1)), .ref b, .ref (a kx)]) (by rw [show nI (ii + 1) = nI ii + 1 from (nI_add ii 1).symm]) ?_
    refine va_sld hx hb hX hbl hbA hS (vp_in_nI (n := ii + 1) (by omega) hLs) dL_law_751 ?_
    refine W.eq (g2 := F0 m 752 ls [.int (xs (ii + 1)), .ref (a kx)]) (by rw [nI_clamp (n := ii + 1) (by omega)]) ?_
    obtain ⟨F, z1, z2, rA, hc1, hc2, hIz⟩ := hI.2.2.2.2.2.2.2.2.2.2.2.1 _ _ _ _ (xs (ii + 1)) hq hI0
    have hFc := de_free hD hS hA
    refine va_calll (va_runV (As := [.int (xs (ii + 1))]) (rest := []) ⟨hx, hb, hml, hown, hts⟩ (de_X11_code l dC dI cy a sh n H.size F z kx (xs (ii + 1)) hc1) (cwV 1 hts gT_X11_code rfl rfl rfl (by decide +kernel) ⟨Nat.le_of_ble_eq_true rfl, Nat.le_of_ble_eq_true rfl⟩) ⟨fun a U g mk q => by obtain ⟨q0, q1, qP, qK, qD, qN⟩ := q; exact ⟨q0, q1, qP, va_K.moved (u := U) (U := U.calling g mk a) (Vm.Alike.refl U.vm) qK, qD, qN.same rfl⟩, va_recv hK hP (ci := 11) (q0 := kx) rfl (Wd_ob kgkx sgkx (by decide)), fun U hU hW => ⟨rfl, by rw [hU], by rw [hU]; exact hP, va_K.moved hW.alike hK, hD.weaken (fun _ _ _ _ => trivial), hN.warm hW⟩⟩ rfl rfl hl.1 rfl (lv_room (Nat.le_of_ble_eq_true rfl)) dL_law_752 (lw_room hq (Nat.le_of_ble_eq_true rfl) (Nat.le_of_ble_eq_true rfl))) hS (fun q _ h => hFc q h) hFc (fun rr u t H_33 locs ht hvm hw hB hz1 hk1 hS2 => ?_)
    rw [hw]
    clear hw
    obtain ⟨hP1, -, hD1⟩ := hB
    rw [ht] at hP1
    replace hD := hD1.weaken (fun _ _ _ h => hFc _ h)
    replace hP := hP1
    replace hS := hS2
    clear hP1 hD1 hS2 hFc hz1 hk1 hvm ht
    refine lv_aload_n hx hb dL_law_755 rfl (lv_at hl 2 rfl) ?_
    refine lv_aload_n hx hb dL_law_756 rfl (lv_at hl 0 rfl) ?_
    refine lv_iload_n hx hb dL_law_757 rfl (lv_at hl 3 rfl) ?_
    refine lv_iconst (v := 1) hx hb dL_law_758 (by decide) ?_
    refine lv_iadd hx hb dL_law_759 ?_
    refine W.eq (g2 := F0 m 760 ls [.int (nI (ii + 1)), .ref b, .ref (a km), .long rA]) (by rw [show nI (ii + 1) = nI ii + 1 from (nI_add ii 1).symm]) ?_
    refine va_sld hx hb hX hbl hbA hS (vp_in_nI (n := ii + 1) (by omega) hLs) dL_law_760 ?_
    refine W.eq (g2 := F0 m 761 ls [.int (xs (ii + 1)), .ref (a km), .long rA]) (by rw [nI_clamp (n := ii + 1) (by omega)]) ?_
    have hFc := de_free hD hS hA
    refine va_calll (va_runV (As := [.int (xs (ii + 1))]) (rest := [.long rA]) ⟨hx, hb, hml, hown, hts⟩ (de_X18_code l dC dI cy a sh n H_33.size F z1 km (xs (ii + 1)) hc2) (cwV 1 hts gT_X18_code rfl rfl rfl (by decide +kernel) ⟨Nat.le_of_ble_eq_true rfl, Nat.le_of_ble_eq_true rfl⟩) ⟨fun a U g mk q => by obtain ⟨q0, q1, qP, qK, qD, qN⟩ := q; exact ⟨q0, q1, qP, va_K.moved (u := U) (U := U.calling g mk a) (Vm.Alike.refl U.vm) qK, qD, qN.same rfl⟩, va_recv hK hP (ci := 18) (q0 := km) rfl (Wd_ob kgkm sgkm (by decide)), fun U hU hW => ⟨rfl, by rw [hU], by rw [hU]; exact hP, va_K.moved hW.alike hK, hD.weaken (fun _ _ _ _ => trivial), hN.warm hW⟩⟩ rfl rfl hl.1 rfl (lv_room (Nat.le_of_ble_eq_true rfl)) dL_law_761 (lw_room hq (Nat.le_of_ble_eq_true rfl) (Nat.le_of_ble_eq_true rfl))) hS (fun q _ h => hFc q h) hFc (fun rr u t H_34 locs ht hvm hw hB hz1 hk1 hS2 => ?_)
    rw [hw]
    clear hw
    obtain ⟨hP1, -, hD1⟩ := hB
    rw [ht] at hP1
    replace hD := hD1.weaken (fun _ _ _ h => hFc _ h)
    replace hP := hP1
    replace hS := hS2
    clear hP1 hD1 hS2 hFc hz1 hk1 hvm ht
    refine W.lcmp hx hb dL_law_764 ?_
    refine lv_if_eq (tgt := 1058) hx hb dL_law_765 (by decide) (fun _ => ?_) (fun h => absurd ((lg_cmp_eq _ _).mpr rfl) h)
    refine lv_iinc (v := nI (ii + 8)) (lv' := [(3, .int (nI (ii + 8))), (0, .ref b), (1, .ref (a kx)), (2, .ref (a km))]) hx hb dL_law_1058 hl (k := 3) rfl (by rw [show nI (ii + 8) = nI ii + 8 from (nI_add ii 8).symm]; rfl) (by decide) rfl (fun ls hl2 => ?_)
    replace hl := hl2
    clear hl2
    refine lv_goto (tgt := 28) hx hb dL_law_1061 (by decide) ?_
    refine W.widen (k := CL0 + (q + 1)) (n := SL0 + 2048 * (q + 1)) (by omega) (by omega) ?_
    exact next (by omega) a sh n z2 ls H_34 locs hIz hcb (lv_sub hl [1, 2, 3, 0] rfl) hP hD hS
  by_cases c_35 : sw = 11
  · skip
    refine lv_tableIn (tgt := 770) hx hb dL_law_43 (by rw [c_35]; decide) (by rw [c_35]; decide) (by rw [c_35]; rfl) (by decide) ?_
    refine lv_aload_n hx hb dL_law_770 rfl (lv_at hl 1 rfl) ?_
    refine lv_aload_n hx hb dL_law_771 rfl (lv_at hl 0 rfl) ?_
    refine lv_iload_n hx hb dL_law_772 rfl (lv_at hl 3 rfl) ?_
    refine lv_iconst (v := 1) hx hb dL_law_773 (by decide) ?_
    refine lv_iadd hx hb dL_law_774 ?_
    refine W.eq (g2 := F0 m 775 ls [.int (nI (ii + 1)), .ref b, .ref (a kx)]) (by rw [show nI (ii + 1) = nI ii + 1 from (nI_add ii 1).symm]) ?_
    refine va_sld hx hb hX hbl hbA hS (vp_in_nI (n := ii + 1) (by omega) hLs) dL_law_775 ?_
    refine W.eq (g2 := F0 m 776 ls [.int (xs (ii + 1)), .ref (a kx)]) (by rw [nI_clamp (n := ii + 1) (by omega)]) ?_
    refine lv_aload_n hx hb dL_law_776 rfl (lv_at hl 0 rfl) ?_
    refine lv_iload_n hx hb dL_law_777 rfl (lv_at hl 3 rfl) ?_
    refine lv_iconst (v := 2) hx hb dL_law_778 (by decide) ?_
    refine lv_iadd hx hb dL_law_779 ?_
    refine W.eq (g2 := F0 m 780 ls [.int (nI (ii + 2)), .ref b, .int (xs (ii + 1)), .ref (a kx)]) (by rw [show nI (ii + 2) = nI ii + 2 from (nI_add ii 2).symm]) ?_
    refine va_sld hx hb hX hbl hbA hS (vp_in_nI (n := ii + 2) (by omega) hLs) dL_law_780 ?_
    refine W.eq (g2 := F0 m 781 ls [.int (xs (ii + 2)), .int (xs (ii + 1)), .ref (a kx)]) (by rw [nI_clamp (n := ii + 2) (by omega)]) ?_
    refine lv_aload_n hx hb dL_law_781 rfl (lv_at hl 0 rfl) ?_
    refine lv_iload_n hx hb dL_law_782 rfl (lv_at hl 3 rfl) ?_
    refine lv_iconst (v := 3) hx hb dL_law_783 (by decide) ?_
    refine lv_iadd hx hb dL_law_784 ?_
    refine W.eq (g2 := F0 m 785 ls [.int (nI (ii + 3)), .ref b, .int (xs (ii + 2)), .int (xs (ii + 1)), .ref (a kx)]) (by rw [show nI (ii + 3) = nI ii + 3 from (nI_add ii 3).symm]) ?_
    refine va_sld hx hb hX hbl hbA hS (vp_in_nI (n := ii + 3) (by omega) hLs) dL_law_785 ?_
    refine W.eq (g2 := F0 m 786 ls [.int (xs (ii + 3)), .int (xs (ii + 2)), .int (xs (ii + 1)), .ref (a kx)]) (by rw [nI_clamp (n := ii + 3) (by omega)]) ?_
    obtain ⟨F, z1, z2, rA, hc1, hc2, hIz⟩ := hI.2.2.2.2.2.2.2.2.2.2.2.2.1 _ _ _ _ (xs (ii + 1)) (xs (ii + 2)) (xs (ii + 3)) hq hI0
    have hFc := de_free hD hS hA
    refine va_calll (va_runV (As := [.int (xs (ii + 1)), .int (xs (ii + 2)), .int (xs (ii + 3))]) (rest := []) ⟨hx, hb, hml, hown, hts⟩ (de_X11_result l dC dI cy a sh n H.size F z kx (xs (ii + 1)) (xs (ii + 2)) (xs (ii + 3)) hc1) (cwV 3 hts gT_X11_result rfl rfl rfl (by decide +kernel) ⟨Nat.le_of_ble_eq_true rfl, Nat.le_of_ble_eq_true rfl⟩) ⟨fun a U g mk q => by obtain ⟨q0, q1, qP, qK, qD, qN⟩ := q; exact ⟨q0, q1, qP, va_K.moved (u := U) (U := U.calling g mk a) (Vm.Alike.refl U.vm) qK, qD, qN.same rfl⟩, va_recv hK hP (ci := 11) (q0 := kx) rfl (Wd_ob kgkx sgkx (by decide)), fun U hU hW => ⟨rfl, by rw [hU], by rw [hU]; exact hP, va_K.moved hW.alike hK, hD.weaken (fun _ _ _ _ => trivial), hN.warm hW⟩⟩ rfl rfl hl.1 rfl (lv_room (Nat.le_of_ble_eq_true rfl)) dL_law_786 (lw_room hq (Nat.le_of_ble_eq_true rfl) (Nat.le_of_ble_eq_true rfl))) hS (fun q _ h => hFc q h) hFc (fun rr u t H_36 locs ht hvm hw hB hz1 hk1 hS2 => ?_)
    rw [hw]
    clear hw
    obtain ⟨hP1, -, hD1⟩ := hB
    rw [ht] at hP1
    replace hD := hD1.weaken (fun _ _ _ h => hFc _ h)
    replace hP := hP1
    replace hS := hS2
    clear hP1 hD1 hS2 hFc hz1 hk1 hvm ht
    refine lv_aload_n hx hb dL_law_789 rfl (lv_at hl 2 rfl) ?_
    refine lv_aload_n hx hb dL_law_790 rfl (lv_at hl 0 rfl) ?_
    refine lv_iload_n hx hb dL_law_791 rfl (lv_at hl 3 rfl) ?_
    refine lv_iconst (v := 1) hx hb dL_law_792 (by decide) ?_
    refine lv_iadd hx hb dL_law_793 ?_
    refine W.eq (g2 := F0 m 794 ls [.int (nI (ii + 1)), .ref b, .ref (a km), .long rA]) (by rw [show nI (ii + 1) = nI ii + 1 from (nI_add ii 1).symm]) ?_
    refine va_sld hx hb hX hbl hbA hS (vp_in_nI (n := ii + 1) (by omega) hLs) dL_law_794 ?_
    refine W.eq (g2 := F0 m 795 ls [.int (xs (ii + 1)), .ref (a km), .long rA]) (by rw [nI_clamp (n := ii + 1) (by omega)]) ?_
    refine lv_aload_n hx hb dL_law_795 rfl (lv_at hl 0 rfl) ?_
    refine lv_iload_n hx hb dL_law_796 rfl (lv_at hl 3 rfl) ?_
    refine lv_iconst (v := 2) hx hb dL_law_797 (by decide) ?_
    refine lv_iadd hx hb dL_law_798 ?_
    refine W.eq (g2 := F0 m 799 ls [.int (nI (ii + 2)), .ref b, .int (xs (ii + 1)), .ref (a km), .long rA]) (by rw [show nI (ii + 2) = nI ii + 2 from (nI_add ii 2).symm]) ?_
    refine va_sld hx hb hX hbl hbA hS (vp_in_nI (n := ii + 2) (by omega) hLs) dL_law_799 ?_
    refine W.eq (g2 := F0 m 800 ls [.int (xs (ii + 2)), .int (xs (ii + 1)), .ref (a km), .long rA]) (by rw [nI_clamp (n := ii + 2) (by omega)]) ?_
    refine lv_aload_n hx hb dL_law_800 rfl (lv_at hl 0 rfl) ?_
    refine lv_iload_n hx hb dL_law_801 rfl (lv_at hl 3 rfl) ?_
    refine lv_iconst (v := 3) hx hb dL_law_802 (by decide) ?_
    refine lv_iadd hx hb dL_law_803 ?_
    refine W.eq (g2 := F0 m 804 ls [.int (nI (ii + 3)), .ref b, .int (xs (ii + 2)), .int (xs (ii + 1)), .ref (a km), .long rA]) (by rw [show nI (ii + 3) = nI ii + 3 from (nI_add ii 3).symm]) ?_
    refine va_sld hx hb hX hbl hbA hS (vp_in_nI (n := ii + 3) (by omega) hLs) dL_law_804 ?_
    refine W.eq (g2 := F0 m 805 ls [.int (xs (ii + 3)), .int (xs (ii + 2)), .int (xs (ii + 1)), .ref (a km), .long rA]) (by rw [nI_clamp (n := ii + 3) (by omega)]) ?_
    have hFc := de_free hD hS hA
    refine va_calll (va_runV (As := [.int (xs (ii + 1)), .int (xs (ii + 2)), .int (xs (ii + 3))]) (rest := [.long rA]) ⟨hx, hb, hml, hown, hts⟩ (de_X18_result l dC dI cy a sh n H_36.size F z1 km (xs (ii + 1)) (xs (ii + 2)) (xs (ii + 3)) hc2) (cwV 3 hts gT_X18_result rfl rfl rfl (by decide +kernel) ⟨Nat.le_of_ble_eq_true rfl, Nat.le_of_ble_eq_true rfl⟩) ⟨fun a U g mk q => by obtain ⟨q0, q1, qP, qK, qD, qN⟩ := q; exact ⟨q0, q1, qP, va_K.moved (u := U) (U := U.calling g mk a) (Vm.Alike.refl U.vm) qK, qD, qN.same rfl⟩, va_recv hK hP (ci := 18) (q0 := km) rfl (Wd_ob kgkm sgkm (by decide)), fun U hU hW => ⟨rfl, by rw [hU], by rw [hU]; exact hP, va_K.moved hW.alike hK, hD.weaken (fun _ _ _ _ => trivial), hN.warm hW⟩⟩ rfl rfl hl.1 rfl (lv_room (Nat.le_of_ble_eq_true rfl)) dL_law_805 (lw_room hq (Nat.le_of_ble_eq_true rfl) (Nat.le_of_ble_eq_true rfl))) hS (fun q _ h => hFc q h) hFc (fun rr u t H_37 locs ht hvm hw hB hz1 hk1 hS2 => ?_)
    rw [hw]
    clear hw
    obtain ⟨hP1, -, hD1⟩ := hB
    rw [ht] at hP1
    replace hD := hD1.weaken (fun _ _ _ h => hFc _ h)
    replace hP := hP1
    replace hS := hS2
    clear hP1 hD1 hS2 hFc hz1 hk1 hvm ht
    refine W.lcmp hx hb dL_law_808 ?_
    refine lv_if_eq (tgt := 1058) hx hb dL_law_809 (by decide) (fun _ => ?_) (fun h => absurd ((lg_cmp_eq _ _).mpr rfl) h)
    refine lv_iinc (v := nI (ii + 8)) (lv' := [(3, .int (nI (ii + 8))), (0, .ref b), (1, .ref (a kx)), (2, .ref (a km))]) hx hb dL_law_1058 hl (k := 3) rfl (by rw [show nI (ii + 8) = nI ii + 8 from (nI_add ii 8).symm]; rfl) (by decide) rfl (fun ls hl2 => ?_)
    replace hl := hl2
    clear hl2
    refine lv_goto (tgt := 28) hx hb dL_law_1061 (by decide) ?_
    refine W.widen (k := CL0 + (q + 1)) (n := SL0 + 2048 * (q + 1)) (by omega) (by omega) ?_
    exact next (by omega) a sh n z2 ls H_37 locs hIz hcb (lv_sub hl [1, 2, 3, 0] rfl) hP hD hS
  by_cases c_38 : sw = 12
  · skip
    refine lv_tableIn (tgt := 814) hx hb dL_law_43 (by rw [c_38]; decide) (by rw [c_38]; decide) (by rw [c_38]; rfl) (by decide) ?_
    refine lv_aload_n hx hb dL_law_814 rfl (lv_at hl 1 rfl) ?_
    refine lv_aload_n hx hb dL_law_815 rfl (lv_at hl 0 rfl) ?_
    refine lv_iload_n hx hb dL_law_816 rfl (lv_at hl 3 rfl) ?_
    refine lv_iconst (v := 1) hx hb dL_law_817 (by decide) ?_
    refine lv_iadd hx hb dL_law_818 ?_
    refine W.eq (g2 := F0 m 819 ls [.int (nI (ii + 1)), .ref b, .ref (a kx)]) (by rw [show nI (ii + 1) = nI ii + 1 from (nI_add ii 1).symm]) ?_
    refine va_sld hx hb hX hbl hbA hS (vp_in_nI (n := ii + 1) (by omega) hLs) dL_law_819 ?_
    refine W.eq (g2 := F0 m 820 ls [.int (xs (ii + 1)), .ref (a kx)]) (by rw [nI_clamp (n := ii + 1) (by omega)]) ?_
    refine lv_i2l (v := ((xs (ii + 1)) : Int32).toInt64) hx hb dL_law_820 rfl ?_
    refine lv_bipush (v := 32) hx hb dL_law_821 (by decide) ?_
    refine lv_lshl (v := ((((xs (ii + 1)) : Int32).toInt64) <<< ((32 : Int32).toInt64 &&& 63))) hx hb dL_law_823 rfl ?_
    refine lv_aload_n hx hb dL_law_824 rfl (lv_at hl 0 rfl) ?_
    refine lv_iload_n hx hb dL_law_825 rfl (lv_at hl 3 rfl) ?_
    refine lv_iconst (v := 2) hx hb dL_law_826 (by decide) ?_
    refine lv_iadd hx hb dL_law_827 ?_
    refine W.eq (g2 := F0 m 828 ls [.int (nI (ii + 2)), .ref b, .long (((((xs (ii + 1)) : Int32).toInt64) <<< ((32 : Int32).toInt64 &&& 63))), .ref (a kx)]) (by rw [show nI (ii + 2) = nI ii + 2 from (nI_add ii 2).symm]) ?_
    refine va_sld hx hb hX hbl hbA hS (vp_in_nI (n := ii + 2) (by omega) hLs) dL_law_828 ?_
    refine W.eq (g2 := F0 m 829 ls [.int (xs (ii + 2)), .long (((((xs (ii + 1)) : Int32).toInt64) <<< ((32 : Int32).toInt64 &&& 63))), .ref (a kx)]) (by rw [nI_clamp (n := ii + 2) (by omega)]) ?_
    refine lv_i2l (v := ((xs (ii + 2)) : Int32).toInt64) hx hb dL_law_829 rfl ?_
    refine lv_ldc2 hx hb hown (hts _ n_L_law_6) dL_law_830 ?_
    refine lv_land hx hb dL_law_833 ?_
    refine lv_lor hx hb dL_law_834 ?_
    refine lv_aload_n hx hb dL_law_835 rfl (lv_at hl 0 rfl) ?_
    refine lv_iload_n hx hb dL_law_836 rfl (lv_at hl 3 rfl) ?_
    refine lv_iconst (v := 3) hx hb dL_law_837 (by decide) ?_
    refine lv_iadd hx hb dL_law_838 ?_
    refine W.eq (g2 := F0 m 839 ls [.int (nI (ii + 3)), .ref b, .long ((((((xs (ii + 1)) : Int32).toInt64) <<< ((32 : Int32).toInt64 &&& 63))) ||| ((((xs (ii + 2)) : Int32).toInt64) &&& 4294967295)), .ref (a kx)]) (by rw [show nI (ii + 3) = nI ii + 3 from (nI_add ii 3).symm]) ?_
    refine va_sld hx hb hX hbl hbA hS (vp_in_nI (n := ii + 3) (by omega) hLs) dL_law_839 ?_
    refine W.eq (g2 := F0 m 840 ls [.int (xs (ii + 3)), .long ((((((xs (ii + 1)) : Int32).toInt64) <<< ((32 : Int32).toInt64 &&& 63))) ||| ((((xs (ii + 2)) : Int32).toInt64) &&& 4294967295)), .ref (a kx)]) (by rw [nI_clamp (n := ii + 3) (by omega)]) ?_
    obtain ⟨F, z1, z2, rA, hc1, hc2, hIz⟩ := hI.2.2.2.2.2.2.2.2.2.2.2.2.2.1 _ _ _ _ ((((((xs (ii + 1)) : Int32).toInt64) <<< ((32 : Int32).toInt64 &&& 63))) ||| ((((xs (ii + 2)) : Int32).toInt64) &&& 4294967295)) (xs (ii + 3)) hq hI0
    have hFc := de_free hD hS hA
    refine va_calll (va_runV (As := [.long ((((((xs (ii + 1)) : Int32).toInt64) <<< ((32 : Int32).toInt64 &&& 63))) ||| ((((xs (ii + 2)) : Int32).toInt64) &&& 4294967295)), .int (xs (ii + 3))]) (rest := []) ⟨hx, hb, hml, hown, hts⟩ (de_X11_account l dC dI cy a sh n H.size F z kx ((((((xs (ii + 1)) : Int32).toInt64) <<< ((32 : Int32).toInt64 &&& 63))) ||| ((((xs (ii + 2)) : Int32).toInt64) &&& 4294967295)) (xs (ii + 3)) hc1) (cwV 2 hts gT_X11_account rfl rfl rfl (by decide +kernel) ⟨Nat.le_of_ble_eq_true rfl, Nat.le_of_ble_eq_true rfl⟩) ⟨fun a U g mk q => by obtain ⟨q0, q1, qP, qK, qD, qN⟩ := q; exact ⟨q0, q1, qP, va_K.moved (u := U) (U := U.calling g mk a) (Vm.Alike.refl U.vm) qK, qD, qN.same rfl⟩, va_recv hK hP (ci := 11) (q0 := kx) rfl (Wd_ob kgkx sgkx (by decide)), fun U hU hW => ⟨rfl, by rw [hU], by rw [hU]; exact hP, va_K.moved hW.alike hK, hD.weaken (fun _ _ _ _ => trivial), hN.warm hW⟩⟩ rfl rfl hl.1 rfl (lv_room (Nat.le_of_ble_eq_true rfl)) dL_law_840 (lw_room hq (Nat.le_of_ble_eq_true rfl) (Nat.le_of_ble_eq_true rfl))) hS (fun q _ h => hFc q h) hFc (fun rr u t H_39 locs ht hvm hw hB hz1 hk1 hS2 => ?_)
    rw [hw]
    clear hw
    obtain ⟨hP1, -, hD1⟩ := hB
    rw [ht] at hP1
    replace hD := hD1.weaken (fun _ _ _ h => hFc _ h)
    replace hP := hP1
    replace hS := hS2
    clear hP1 hD1 hS2 hFc hz1 hk1 hvm ht
    refine lv_aload_n hx hb dL_law_843 rfl (lv_at hl 2 rfl) ?_
    refine lv_aload_n hx hb dL_law_844 rfl (lv_at hl 0 rfl) ?_
    refine lv_iload_n hx hb dL_law_845 rfl (lv_at hl 3 rfl) ?_
    refine lv_iconst (v := 1) hx hb dL_law_846 (by decide) ?_
    refine lv_iadd hx hb dL_law_847 ?_
    refine W.eq (g2 := F0 m 848 ls [.int (nI (ii + 1)), .ref b, .ref (a km), .long rA]) (by rw [show nI (ii + 1) = nI ii + 1 from (nI_add ii 1).symm]) ?_
    refine va_sld hx hb hX hbl hbA hS (vp_in_nI (n := ii + 1) (by omega) hLs) dL_law_848 ?_
    refine W.eq (g2 := F0 m 849 ls [.int (xs (ii + 1)), .ref (a km), .long rA]) (by rw [nI_clamp (n := ii + 1) (by omega)]) ?_
    refine lv_i2l (v := ((xs (ii + 1)) : Int32).toInt64) hx hb dL_law_849 rfl ?_
    refine lv_bipush (v := 32) hx hb dL_law_850 (by decide) ?_
    refine lv_lshl (v := ((((xs (ii + 1)) : Int32).toInt64) <<< ((32 : Int32).toInt64 &&& 63))) hx hb dL_law_852 rfl ?_
    refine lv_aload_n hx hb dL_law_853 rfl (lv_at hl 0 rfl) ?_
    refine lv_iload_n hx hb dL_law_854 rfl (lv_at hl 3 rfl) ?_
    refine lv_iconst (v := 2) hx hb dL_law_855 (by decide) ?_
    refine lv_iadd hx hb dL_law_856 ?_
    refine W.eq (g2 := F0 m 857 ls [.int (nI (ii + 2)), .ref b, .long (((((xs (ii + 1)) : Int32).toInt64) <<< ((32 : Int32).toInt64 &&& 63))), .ref (a km), .long rA]) (by rw [show nI (ii + 2) = nI ii + 2 from (nI_add ii 2).symm]) ?_
    refine va_sld hx hb hX hbl hbA hS (vp_in_nI (n := ii + 2) (by omega) hLs) dL_law_857 ?_
    refine W.eq (g2 := F0 m 858 ls [.int (xs (ii + 2)), .long (((((xs (ii + 1)) : Int32).toInt64) <<< ((32 : Int32).toInt64 &&& 63))), .ref (a km), .long rA]) (by rw [nI_clamp (n := ii + 2) (by omega)]) ?_
    refine lv_i2l (v := ((xs (ii + 2)) : Int32).toInt64) hx hb dL_law_858 rfl ?_
    refine lv_ldc2 hx hb hown (hts _ n_L_law_6) dL_law_859 ?_
    refine lv_land hx hb dL_law_862 ?_
    refine lv_lor hx hb dL_law_863 ?_
    refine lv_aload_n hx hb dL_law_864 rfl (lv_at hl 0 rfl) ?_
    refine lv_iload_n hx hb dL_law_865 rfl (lv_at hl 3 rfl) ?_
    refine lv_iconst (v := 3) hx hb dL_law_866 (by decide) ?_
    refine lv_iadd hx hb dL_law_867 ?_
    refine W.eq (g2 := F0 m 868 ls [.int (nI (ii + 3)), .ref b, .long ((((((xs (ii + 1)) : Int32).toInt64) <<< ((32 : Int32).toInt64 &&& 63))) ||| ((((xs (ii + 2)) : Int32).toInt64) &&& 4294967295)), .ref (a km), .long rA]) (by rw [show nI (ii + 3) = nI ii + 3 from (nI_add ii 3).symm]) ?_
    refine va_sld hx hb hX hbl hbA hS (vp_in_nI (n := ii + 3) (by omega) hLs) dL_law_868 ?_
    refine W.eq (g2 := F0 m 869 ls [.int (xs (ii + 3)), .long ((((((xs (ii + 1)) : Int32).toInt64) <<< ((32 : Int32).toInt64 &&& 63))) ||| ((((xs (ii + 2)) : Int32).toInt64) &&& 4294967295)), .ref (a km), .long rA]) (by rw [nI_clamp (n := ii + 3) (by omega)]) ?_
    have hFc := de_free hD hS hA
    refine va_calll (va_runV (As := [.long ((((((xs (ii + 1)) : Int32).toInt64) <<< ((32 : Int32).toInt64 &&& 63))) ||| ((((xs (ii + 2)) : Int32).toInt64) &&& 4294967295)), .int (xs (ii + 3))]) (rest := [.long rA]) ⟨hx, hb, hml, hown, hts⟩ (de_X18_account l dC dI cy a sh n H_39.size F z1 km ((((((xs (ii + 1)) : Int32).toInt64) <<< ((32 : Int32).toInt64 &&& 63))) ||| ((((xs (ii + 2)) : Int32).toInt64) &&& 4294967295)) (xs (ii + 3)) hc2) (cwV 2 hts gT_X18_account rfl rfl rfl (by decide +kernel) ⟨Nat.le_of_ble_eq_true rfl, Nat.le_of_ble_eq_true rfl⟩) ⟨fun a U g mk q => by obtain ⟨q0, q1, qP, qK, qD, qN⟩ := q; exact ⟨q0, q1, qP, va_K.moved (u := U) (U := U.calling g mk a) (Vm.Alike.refl U.vm) qK, qD, qN.same rfl⟩, va_recv hK hP (ci := 18) (q0 := km) rfl (Wd_ob kgkm sgkm (by decide)), fun U hU hW => ⟨rfl, by rw [hU], by rw [hU]; exact hP, va_K.moved hW.alike hK, hD.weaken (fun _ _ _ _ => trivial), hN.warm hW⟩⟩ rfl rfl hl.1 rfl (lv_room (Nat.le_of_ble_eq_true rfl)) dL_law_869 (lw_room hq (Nat.le_of_ble_eq_true rfl) (Nat.le_of_ble_eq_true rfl))) hS (fun q _ h => hFc q h) hFc (fun rr u t H_40 locs ht hvm hw hB hz1 hk1 hS2 => ?_)
    rw [hw]
    clear hw
    obtain ⟨hP1, -, hD1⟩ := hB
    rw [ht] at hP1
    replace hD := hD1.weaken (fun _ _ _ h => hFc _ h)
    replace hP := hP1
    replace hS := hS2
    clear hP1 hD1 hS2 hFc hz1 hk1 hvm ht
    refine W.lcmp hx hb dL_law_872 ?_
    refine lv_if_eq (tgt := 1058) hx hb dL_law_873 (by decide) (fun _ => ?_) (fun h => absurd ((lg_cmp_eq _ _).mpr rfl) h)
    refine lv_iinc (v := nI (ii + 8)) (lv' := [(3, .int (nI (ii + 8))), (0, .ref b), (1, .ref (a kx)), (2, .ref (a km))]) hx hb dL_law_1058 hl (k := 3) rfl (by rw [show nI (ii + 8) = nI ii + 8 from (nI_add ii 8).symm]; rfl) (by decide) rfl (fun ls hl2 => ?_)
    replace hl := hl2
    clear hl2
    refine lv_goto (tgt := 28) hx hb dL_law_1061 (by decide) ?_
    refine W.widen (k := CL0 + (q + 1)) (n := SL0 + 2048 * (q + 1)) (by omega) (by omega) ?_
    exact next (by omega) a sh n z2 ls H_40 locs hIz hcb (lv_sub hl [1, 2, 3, 0] rfl) hP hD hS
  by_cases c_41 : sw = 13
  · skip
    refine lv_tableIn (tgt := 878) hx hb dL_law_43 (by rw [c_41]; decide) (by rw [c_41]; decide) (by rw [c_41]; rfl) (by decide) ?_
    refine lv_aload_n hx hb dL_law_878 rfl (lv_at hl 1 rfl) ?_
    refine lv_aload_n hx hb dL_law_879 rfl (lv_at hl 0 rfl) ?_
    refine lv_iload_n hx hb dL_law_880 rfl (lv_at hl 3 rfl) ?_
    refine lv_iconst (v := 1) hx hb dL_law_881 (by decide) ?_
    refine lv_iadd hx hb dL_law_882 ?_
    refine W.eq (g2 := F0 m 883 ls [.int (nI (ii + 1)), .ref b, .ref (a kx)]) (by rw [show nI (ii + 1) = nI ii + 1 from (nI_add ii 1).symm]) ?_
    refine va_sld hx hb hX hbl hbA hS (vp_in_nI (n := ii + 1) (by omega) hLs) dL_law_883 ?_
    refine W.eq (g2 := F0 m 884 ls [.int (xs (ii + 1)), .ref (a kx)]) (by rw [nI_clamp (n := ii + 1) (by omega)]) ?_
    obtain ⟨F, z1, z2, rA, hc1, hc2, hIz⟩ := hI.2.2.2.2.2.2.2.2.2.2.2.2.2.2.1 _ _ _ _ (xs (ii + 1)) hq hI0
    have hFc := de_free hD hS hA
    refine va_calll (va_runV (As := [.int (xs (ii + 1))]) (rest := []) ⟨hx, hb, hml, hown, hts⟩ (de_X11_coins l dC dI cy a sh n H.size F z kx (xs (ii + 1)) hc1) (cwV 1 hts gT_X11_coins rfl rfl rfl (by decide +kernel) ⟨Nat.le_of_ble_eq_true rfl, Nat.le_of_ble_eq_true rfl⟩) ⟨fun a U g mk q => by obtain ⟨q0, q1, qP, qK, qD, qN⟩ := q; exact ⟨q0, q1, qP, va_K.moved (u := U) (U := U.calling g mk a) (Vm.Alike.refl U.vm) qK, qD, qN.same rfl⟩, va_recv hK hP (ci := 11) (q0 := kx) rfl (Wd_ob kgkx sgkx (by decide)), fun U hU hW => ⟨rfl, by rw [hU], by rw [hU]; exact hP, va_K.moved hW.alike hK, hD.weaken (fun _ _ _ _ => trivial), hN.warm hW⟩⟩ rfl rfl hl.1 rfl (lv_room (Nat.le_of_ble_eq_true rfl)) dL_law_884 (lw_room hq (Nat.le_of_ble_eq_true rfl) (Nat.le_of_ble_eq_true rfl))) hS (fun q _ h => hFc q h) hFc (fun rr u t H_42 locs ht hvm hw hB hz1 hk1 hS2 => ?_)
    rw [hw]
    clear hw
    obtain ⟨hP1, -, hD1⟩ := hB
    rw [ht] at hP1
    replace hD := hD1.weaken (fun _ _ _ h => hFc _ h)
    replace hP := hP1
    replace hS := hS2
    clear hP1 hD1 hS2 hFc hz1 hk1 hvm ht
    refine lv_aload_n hx hb dL_law_887 rfl (lv_at hl 2 rfl) ?_
    refine lv_aload_n hx hb dL_law_888 rfl (lv_at hl 0 rfl) ?_
    refine lv_iload_n hx hb dL_law_889 rfl (lv_at hl 3 rfl) ?_
    refine lv_iconst (v := 1) hx hb dL_law_890 (by decide) ?_
    refine lv_iadd hx hb dL_law_891 ?_
    refine W.eq (g2 := F0 m 892 ls [.int (nI (ii + 1)), .ref b, .ref (a km), .long rA]) (by rw [show nI (ii + 1) = nI ii + 1 from (nI_add ii 1).symm]) ?_
    refine va_sld hx hb hX hbl hbA hS (vp_in_nI (n := ii + 1) (by omega) hLs) dL_law_892 ?_
    refine W.eq (g2 := F0 m 893 ls [.int (xs (ii + 1)), .ref (a km), .long rA]) (by rw [nI_clamp (n := ii + 1) (by omega)]) ?_
    have hFc := de_free hD hS hA
    refine va_calll (va_runV (As := [.int (xs (ii + 1))]) (rest := [.long rA]) ⟨hx, hb, hml, hown, hts⟩ (de_X18_coins l dC dI cy a sh n H_42.size F z1 km (xs (ii + 1)) hc2) (cwV 1 hts gT_X18_coins rfl rfl rfl (by decide +kernel) ⟨Nat.le_of_ble_eq_true rfl, Nat.le_of_ble_eq_true rfl⟩) ⟨fun a U g mk q => by obtain ⟨q0, q1, qP, qK, qD, qN⟩ := q; exact ⟨q0, q1, qP, va_K.moved (u := U) (U := U.calling g mk a) (Vm.Alike.refl U.vm) qK, qD, qN.same rfl⟩, va_recv hK hP (ci := 18) (q0 := km) rfl (Wd_ob kgkm sgkm (by decide)), fun U hU hW => ⟨rfl, by rw [hU], by rw [hU]; exact hP, va_K.moved hW.alike hK, hD.weaken (fun _ _ _ _ => trivial), hN.warm hW⟩⟩ rfl rfl hl.1 rfl (lv_room (Nat.le_of_ble_eq_true rfl)) dL_law_893 (lw_room hq (Nat.le_of_ble_eq_true rfl) (Nat.le_of_ble_eq_true rfl))) hS (fun q _ h => hFc q h) hFc (fun rr u t H_43 locs ht hvm hw hB hz1 hk1 hS2 => ?_)
    rw [hw]
    clear hw
    obtain ⟨hP1, -, hD1⟩ := hB
    rw [ht] at hP1
    replace hD := hD1.weaken (fun _ _ _ h => hFc _ h)
    replace hP := hP1
    replace hS := hS2
    clear hP1 hD1 hS2 hFc hz1 hk1 hvm ht
    refine W.lcmp hx hb dL_law_896 ?_
    refine lv_if_eq (tgt := 1058) hx hb dL_law_897 (by decide) (fun _ => ?_) (fun h => absurd ((lg_cmp_eq _ _).mpr rfl) h)
    refine lv_iinc (v := nI (ii + 8)) (lv' := [(3, .int (nI (ii + 8))), (0, .ref b), (1, .ref (a kx)), (2, .ref (a km))]) hx hb dL_law_1058 hl (k := 3) rfl (by rw [show nI (ii + 8) = nI ii + 8 from (nI_add ii 8).symm]; rfl) (by decide) rfl (fun ls hl2 => ?_)
    replace hl := hl2
    clear hl2
    refine lv_goto (tgt := 28) hx hb dL_law_1061 (by decide) ?_
    refine W.widen (k := CL0 + (q + 1)) (n := SL0 + 2048 * (q + 1)) (by omega) (by omega) ?_
    exact next (by omega) a sh n z2 ls H_43 locs hIz hcb (lv_sub hl [1, 2, 3, 0] rfl) hP hD hS
  by_cases c_44 : sw = 14
  · skip
    refine lv_tableIn (tgt := 902) hx hb dL_law_43 (by rw [c_44]; decide) (by rw [c_44]; decide) (by rw [c_44]; rfl) (by decide) ?_
    refine lv_aload_n hx hb dL_law_902 rfl (lv_at hl 1 rfl) ?_
    refine lv_aload_n hx hb dL_law_903 rfl (lv_at hl 0 rfl) ?_
    refine lv_iload_n hx hb dL_law_904 rfl (lv_at hl 3 rfl) ?_
    refine lv_iconst (v := 1) hx hb dL_law_905 (by decide) ?_
    refine lv_iadd hx hb dL_law_906 ?_
    refine W.eq (g2 := F0 m 907 ls [.int (nI (ii + 1)), .ref b, .ref (a kx)]) (by rw [show nI (ii + 1) = nI ii + 1 from (nI_add ii 1).symm]) ?_
    refine va_sld hx hb hX hbl hbA hS (vp_in_nI (n := ii + 1) (by omega) hLs) dL_law_907 ?_
    refine W.eq (g2 := F0 m 908 ls [.int (xs (ii + 1)), .ref (a kx)]) (by rw [nI_clamp (n := ii + 1) (by omega)]) ?_
    obtain ⟨F, z1, z2, rA, hc1, hc2, hIz⟩ := hI.2.2.2.2.2.2.2.2.2.2.2.2.2.2.2.1 _ _ _ _ (xs (ii + 1)) hq hI0
    have hFc := de_free hD hS hA
    refine va_calli (va_runV (As := [.int (xs (ii + 1))]) (rest := []) ⟨hx, hb, hml, hown, hts⟩ (de_X11_places l dC dI cy a sh n H.size F z kx (xs (ii + 1)) hc1) (cwV 1 hts gT_X11_places rfl rfl rfl (by decide +kernel) ⟨Nat.le_of_ble_eq_true rfl, Nat.le_of_ble_eq_true rfl⟩) ⟨fun a U g mk q => by obtain ⟨q0, q1, qP, qK, qD, qN⟩ := q; exact ⟨q0, q1, qP, va_K.moved (u := U) (U := U.calling g mk a) (Vm.Alike.refl U.vm) qK, qD, qN.same rfl⟩, va_recv hK hP (ci := 11) (q0 := kx) rfl (Wd_ob kgkx sgkx (by decide)), fun U hU hW => ⟨rfl, by rw [hU], by rw [hU]; exact hP, va_K.moved hW.alike hK, hD.weaken (fun _ _ _ _ => trivial), hN.warm hW⟩⟩ rfl rfl hl.1 rfl (lv_room (Nat.le_of_ble_eq_true rfl)) dL_law_908 (lw_room hq (Nat.le_of_ble_eq_true rfl) (Nat.le_of_ble_eq_true rfl))) hS (fun q _ h => hFc q h) hFc (fun rr u t H_45 locs ht hvm hw hB hz1 hk1 hS2 => ?_)
    rw [hw]
    clear hw
    obtain ⟨hP1, -, hD1⟩ := hB
    rw [ht] at hP1
    replace hD := hD1.weaken (fun _ _ _ h => hFc _ h)
    replace hP := hP1
    replace hS := hS2
    clear hP1 hD1 hS2 hFc hz1 hk1 hvm ht
    refine lv_aload_n hx hb dL_law_911 rfl (lv_at hl 2 rfl) ?_
    refine lv_aload_n hx hb dL_law_912 rfl (lv_at hl 0 rfl) ?_
    refine lv_iload_n hx hb dL_law_913 rfl (lv_at hl 3 rfl) ?_
    refine lv_iconst (v := 1) hx hb dL_law_914 (by decide) ?_
    refine lv_iadd hx hb dL_law_915 ?_
    refine W.eq (g2 := F0 m 916 ls [.int (nI (ii + 1)), .ref b, .ref (a km), .int rA]) (by rw [show nI (ii + 1) = nI ii + 1 from (nI_add ii 1).symm]) ?_
    refine va_sld hx hb hX hbl hbA hS (vp_in_nI (n := ii + 1) (by omega) hLs) dL_law_916 ?_
    refine W.eq (g2 := F0 m 917 ls [.int (xs (ii + 1)), .ref (a km), .int rA]) (by rw [nI_clamp (n := ii + 1) (by omega)]) ?_
    have hFc := de_free hD hS hA
    refine va_calli (va_runV (As := [.int (xs (ii + 1))]) (rest := [.int rA]) ⟨hx, hb, hml, hown, hts⟩ (de_X18_places l dC dI cy a sh n H_45.size F z1 km (xs (ii + 1)) hc2) (cwV 1 hts gT_X18_places rfl rfl rfl (by decide +kernel) ⟨Nat.le_of_ble_eq_true rfl, Nat.le_of_ble_eq_true rfl⟩) ⟨fun a U g mk q => by obtain ⟨q0, q1, qP, qK, qD, qN⟩ := q; exact ⟨q0, q1, qP, va_K.moved (u := U) (U := U.calling g mk a) (Vm.Alike.refl U.vm) qK, qD, qN.same rfl⟩, va_recv hK hP (ci := 18) (q0 := km) rfl (Wd_ob kgkm sgkm (by decide)), fun U hU hW => ⟨rfl, by rw [hU], by rw [hU]; exact hP, va_K.moved hW.alike hK, hD.weaken (fun _ _ _ _ => trivial), hN.warm hW⟩⟩ rfl rfl hl.1 rfl (lv_room (Nat.le_of_ble_eq_true rfl)) dL_law_917 (lw_room hq (Nat.le_of_ble_eq_true rfl) (Nat.le_of_ble_eq_true rfl))) hS (fun q _ h => hFc q h) hFc (fun rr u t H_46 locs ht hvm hw hB hz1 hk1 hS2 => ?_)
    rw [hw]
    clear hw
    obtain ⟨hP1, -, hD1⟩ := hB
    rw [ht] at hP1
    replace hD := hD1.weaken (fun _ _ _ h => hFc _ h)
    replace hP := hP1
    replace hS := hS2
    clear hP1 hD1 hS2 hFc hz1 hk1 hvm ht
    refine lv_icmp_eq (tgt := 1058) hx hb dL_law_920 (by decide) (fun _ => ?_) (fun h => absurd rfl h)
    refine lv_iinc (v := nI (ii + 8)) (lv' := [(3, .int (nI (ii + 8))), (0, .ref b), (1, .ref (a kx)), (2, .ref (a km))]) hx hb dL_law_1058 hl (k := 3) rfl (by rw [show nI (ii + 8) = nI ii + 8 from (nI_add ii 8).symm]; rfl) (by decide) rfl (fun ls hl2 => ?_)
    replace hl := hl2
    clear hl2
    refine lv_goto (tgt := 28) hx hb dL_law_1061 (by decide) ?_
    refine W.widen (k := CL0 + (q + 1)) (n := SL0 + 2048 * (q + 1)) (by omega) (by omega) ?_
    exact next (by omega) a sh n z2 ls H_46 locs hIz hcb (lv_sub hl [1, 2, 3, 0] rfl) hP hD hS
  by_cases c_47 : sw = 15
  · skip
    refine lv_tableIn (tgt := 925) hx hb dL_law_43 (by rw [c_47]; decide) (by rw [c_47]; decide) (by rw [c_47]; rfl) (by decide) ?_
    refine lv_aload_n hx hb dL_law_925 rfl (lv_at hl 1 rfl) ?_
    refine lv_aload_n hx hb dL_law_926 rfl (lv_at hl 0 rfl) ?_
    refine lv_iload_n hx hb dL_law_927 rfl (lv_at hl 3 rfl) ?_
    refine lv_iconst (v := 1) hx hb dL_law_928 (by decide) ?_
    refine lv_iadd hx hb dL_law_929 ?_
    refine W.eq (g2 := F0 m 930 ls [.int (nI (ii + 1)), .ref b, .ref (a kx)]) (by rw [show nI (ii + 1) = nI ii + 1 from (nI_add ii 1).symm]) ?_
    refine va_sld hx hb hX hbl hbA hS (vp_in_nI (n := ii + 1) (by omega) hLs) dL_law_930 ?_
    refine W.eq (g2 := F0 m 931 ls [.int (xs (ii + 1)), .ref (a kx)]) (by rw [nI_clamp (n := ii + 1) (by omega)]) ?_
    refine lv_i2l (v := ((xs (ii + 1)) : Int32).toInt64) hx hb dL_law_931 rfl ?_
    refine lv_bipush (v := 32) hx hb dL_law_932 (by decide) ?_
    refine lv_lshl (v := ((((xs (ii + 1)) : Int32).toInt64) <<< ((32 : Int32).toInt64 &&& 63))) hx hb dL_law_934 rfl ?_
    refine lv_aload_n hx hb dL_law_935 rfl (lv_at hl 0 rfl) ?_
    refine lv_iload_n hx hb dL_law_936 rfl (lv_at hl 3 rfl) ?_
    refine lv_iconst (v := 2) hx hb dL_law_937 (by decide) ?_
    refine lv_iadd hx hb dL_law_938 ?_
    refine W.eq (g2 := F0 m 939 ls [.int (nI (ii + 2)), .ref b, .long (((((xs (ii + 1)) : Int32).toInt64) <<< ((32 : Int32).toInt64 &&& 63))), .ref (a kx)]) (by rw [show nI (ii + 2) = nI ii + 2 from (nI_add ii 2).symm]) ?_
    refine va_sld hx hb hX hbl hbA hS (vp_in_nI (n := ii + 2) (by omega) hLs) dL_law_939 ?_
    refine W.eq (g2 := F0 m 940 ls [.int (xs (ii + 2)), .long (((((xs (ii + 1)) : Int32).toInt64) <<< ((32 : Int32).toInt64 &&& 63))), .ref (a kx)]) (by rw [nI_clamp (n := ii + 2) (by omega)]) ?_
    refine lv_i2l (v := ((xs (ii + 2)) : Int32).toInt64) hx hb dL_law_940 rfl ?_
    refine lv_ldc2 hx hb hown (hts _ n_L_law_6) dL_law_941 ?_
    refine lv_land hx hb dL_law_944 ?_
    refine lv_lor hx hb dL_law_945 ?_
    refine lv_aload_n hx hb dL_law_946 rfl (lv_at hl 0 rfl) ?_
    refine lv_iload_n hx hb dL_law_947 rfl (lv_at hl 3 rfl) ?_
    refine lv_iconst (v := 3) hx hb dL_law_948 (by decide) ?_
    refine lv_iadd hx hb dL_law_949 ?_
    refine W.eq (g2 := F0 m 950 ls [.int (nI (ii + 3)), .ref b, .long ((((((xs (ii + 1)) : Int32).toInt64) <<< ((32 : Int32).toInt64 &&& 63))) ||| ((((xs (ii + 2)) : Int32).toInt64) &&& 4294967295)), .ref (a kx)]) (by rw [show nI (ii + 3) = nI ii + 3 from (nI_add ii 3).symm]) ?_
    refine va_sld hx hb hX hbl hbA hS (vp_in_nI (n := ii + 3) (by omega) hLs) dL_law_950 ?_
    refine W.eq (g2 := F0 m 951 ls [.int (xs (ii + 3)), .long ((((((xs (ii + 1)) : Int32).toInt64) <<< ((32 : Int32).toInt64 &&& 63))) ||| ((((xs (ii + 2)) : Int32).toInt64) &&& 4294967295)), .ref (a kx)]) (by rw [nI_clamp (n := ii + 3) (by omega)]) ?_
    refine lv_aload_n hx hb dL_law_951 rfl (lv_at hl 0 rfl) ?_
    refine lv_iload_n hx hb dL_law_952 rfl (lv_at hl 3 rfl) ?_
    refine lv_iconst (v := 4) hx hb dL_law_953 (by decide) ?_
    refine lv_iadd hx hb dL_law_954 ?_
    refine W.eq (g2 := F0 m 955 ls [.int (nI (ii + 4)), .ref b, .int (xs (ii + 3)), .long ((((((xs (ii + 1)) : Int32).toInt64) <<< ((32 : Int32).toInt64 &&& 63))) ||| ((((xs (ii + 2)) : Int32).toInt64) &&& 4294967295)), .ref (a kx)]) (by rw [show nI (ii + 4) = nI ii + 4 from (nI_add ii 4).symm]) ?_
    refine va_sld hx hb hX hbl hbA hS (vp_in_nI (n := ii + 4) (by omega) hLs) dL_law_955 ?_
    refine W.eq (g2 := F0 m 956 ls [.int (xs (ii + 4)), .int (xs (ii + 3)), .long ((((((xs (ii + 1)) : Int32).toInt64) <<< ((32 : Int32).toInt64 &&& 63))) ||| ((((xs (ii + 2)) : Int32).toInt64) &&& 4294967295)), .ref (a kx)]) (by rw [nI_clamp (n := ii + 4) (by omega)]) ?_
    obtain ⟨F, z1, z2, rA, hc1, hc2, hIz⟩ := hI.2.2.2.2.2.2.2.2.2.2.2.2.2.2.2.2.1 _ _ _ _ ((((((xs (ii + 1)) : Int32).toInt64) <<< ((32 : Int32).toInt64 &&& 63))) ||| ((((xs (ii + 2)) : Int32).toInt64) &&& 4294967295)) (xs (ii + 3)) (xs (ii + 4)) hq hI0
    have hFc := de_free hD hS hA
    refine va_calli (va_runV (As := [.long ((((((xs (ii + 1)) : Int32).toInt64) <<< ((32 : Int32).toInt64 &&& 63))) ||| ((((xs (ii + 2)) : Int32).toInt64) &&& 4294967295)), .int (xs (ii + 3)), .int (xs (ii + 4))]) (rest := []) ⟨hx, hb, hml, hown, hts⟩ (de_X11_resource l dC dI cy a sh n H.size F z kx ((((((xs (ii + 1)) : Int32).toInt64) <<< ((32 : Int32).toInt64 &&& 63))) ||| ((((xs (ii + 2)) : Int32).toInt64) &&& 4294967295)) (xs (ii + 3)) (xs (ii + 4)) hc1) (cwV 3 hts gT_X11_resource rfl rfl rfl (by decide +kernel) ⟨Nat.le_of_ble_eq_true rfl, Nat.le_of_ble_eq_true rfl⟩) ⟨fun a U g mk q => by obtain ⟨q0, q1, qP, qK, qD, qN⟩ := q; exact ⟨q0, q1, qP, va_K.moved (u := U) (U := U.calling g mk a) (Vm.Alike.refl U.vm) qK, qD, qN.same rfl⟩, va_recv hK hP (ci := 11) (q0 := kx) rfl (Wd_ob kgkx sgkx (by decide)), fun U hU hW => ⟨rfl, by rw [hU], by rw [hU]; exact hP, va_K.moved hW.alike hK, hD.weaken (fun _ _ _ _ => trivial), hN.warm hW⟩⟩ rfl rfl hl.1 rfl (lv_room (Nat.le_of_ble_eq_true rfl)) dL_law_956 (lw_room hq (Nat.le_of_ble_eq_true rfl) (Nat.le_of_ble_eq_true rfl))) hS (fun q _ h => hFc q h) hFc (fun rr u t H_48 locs ht hvm hw hB hz1 hk1 hS2 => ?_)
    rw [hw]
    clear hw
    obtain ⟨hP1, -, hD1⟩ := hB
    rw [ht] at hP1
    replace hD := hD1.weaken (fun _ _ _ h => hFc _ h)
    replace hP := hP1
    replace hS := hS2
    clear hP1 hD1 hS2 hFc hz1 hk1 hvm ht
    refine lv_aload_n hx hb dL_law_959 rfl (lv_at hl 2 rfl) ?_
    refine lv_aload_n hx hb dL_law_960 rfl (lv_at hl 0 rfl) ?_
    refine lv_iload_n hx hb dL_law_961 rfl (lv_at hl 3 rfl) ?_
    refine lv_iconst (v := 1) hx hb dL_law_962 (by decide) ?_
    refine lv_iadd hx hb dL_law_963 ?_
    refine W.eq (g2 := F0 m 964 ls [.int (nI (ii + 1)), .ref b, .ref (a km), .int rA]) (by rw [show nI (ii + 1) = nI ii + 1 from (nI_add ii 1).symm]) ?_
    refine va_sld hx hb hX hbl hbA hS (vp_in_nI (n := ii + 1) (by omega) hLs) dL_law_964 ?_
    refine W.eq (g2 := F0 m 965 ls [.int (xs (ii + 1)), .ref (a km), .int rA]) (by rw [nI_clamp (n := ii + 1) (by omega)]) ?_
    refine lv_i2l (v := ((xs (ii + 1)) : Int32).toInt64) hx hb dL_law_965 rfl ?_
    refine lv_bipush (v := 32) hx hb dL_law_966 (by decide) ?_
    refine lv_lshl (v := ((((xs (ii + 1)) : Int32).toInt64) <<< ((32 : Int32).toInt64 &&& 63))) hx hb dL_law_968 rfl ?_
    refine lv_aload_n hx hb dL_law_969 rfl (lv_at hl 0 rfl) ?_
    refine lv_iload_n hx hb dL_law_970 rfl (lv_at hl 3 rfl) ?_
    refine lv_iconst (v := 2) hx hb dL_law_971 (by decide) ?_
    refine lv_iadd hx hb dL_law_972 ?_
    refine W.eq (g2 := F0 m 973 ls [.int (nI (ii + 2)), .ref b, .long (((((xs (ii + 1)) : Int32).toInt64) <<< ((32 : Int32).toInt64 &&& 63))), .ref (a km), .int rA]) (by rw [show nI (ii + 2) = nI ii + 2 from (nI_add ii 2).symm]) ?_
    refine va_sld hx hb hX hbl hbA hS (vp_in_nI (n := ii + 2) (by omega) hLs) dL_law_973 ?_
    refine W.eq (g2 := F0 m 974 ls [.int (xs (ii + 2)), .long (((((xs (ii + 1)) : Int32).toInt64) <<< ((32 : Int32).toInt64 &&& 63))), .ref (a km), .int rA]) (by rw [nI_clamp (n := ii + 2) (by omega)]) ?_
    refine lv_i2l (v := ((xs (ii + 2)) : Int32).toInt64) hx hb dL_law_974 rfl ?_
    refine lv_ldc2 hx hb hown (hts _ n_L_law_6) dL_law_975 ?_
    refine lv_land hx hb dL_law_978 ?_
    refine lv_lor hx hb dL_law_979 ?_
    refine lv_aload_n hx hb dL_law_980 rfl (lv_at hl 0 rfl) ?_
    refine lv_iload_n hx hb dL_law_981 rfl (lv_at hl 3 rfl) ?_
    refine lv_iconst (v := 3) hx hb dL_law_982 (by decide) ?_
    refine lv_iadd hx hb dL_law_983 ?_
    refine W.eq (g2 := F0 m 984 ls [.int (nI (ii + 3)), .ref b, .long ((((((xs (ii + 1)) : Int32).toInt64) <<< ((32 : Int32).toInt64 &&& 63))) ||| ((((xs (ii + 2)) : Int32).toInt64) &&& 4294967295)), .ref (a km), .int rA]) (by rw [show nI (ii + 3) = nI ii + 3 from (nI_add ii 3).symm]) ?_
    refine va_sld hx hb hX hbl hbA hS (vp_in_nI (n := ii + 3) (by omega) hLs) dL_law_984 ?_
    refine W.eq (g2 := F0 m 985 ls [.int (xs (ii + 3)), .long ((((((xs (ii + 1)) : Int32).toInt64) <<< ((32 : Int32).toInt64 &&& 63))) ||| ((((xs (ii + 2)) : Int32).toInt64) &&& 4294967295)), .ref (a km), .int rA]) (by rw [nI_clamp (n := ii + 3) (by omega)]) ?_
    refine lv_aload_n hx hb dL_law_985 rfl (lv_at hl 0 rfl) ?_
    refine lv_iload_n hx hb dL_law_986 rfl (lv_at hl 3 rfl) ?_
    refine lv_iconst (v := 4) hx hb dL_law_987 (by decide) ?_
    refine lv_iadd hx hb dL_law_988 ?_
    refine W.eq (g2 := F0 m 989 ls [.int (nI (ii + 4)), .ref b, .int (xs (ii + 3)), .long ((((((xs (ii + 1)) : Int32).toInt64) <<< ((32 : Int32).toInt64 &&& 63))) ||| ((((xs (ii + 2)) : Int32).toInt64) &&& 4294967295)), .ref (a km), .int rA]) (by rw [show nI (ii + 4) = nI ii + 4 from (nI_add ii 4).symm]) ?_
    refine va_sld hx hb hX hbl hbA hS (vp_in_nI (n := ii + 4) (by omega) hLs) dL_law_989 ?_
    refine W.eq (g2 := F0 m 990 ls [.int (xs (ii + 4)), .int (xs (ii + 3)), .long ((((((xs (ii + 1)) : Int32).toInt64) <<< ((32 : Int32).toInt64 &&& 63))) ||| ((((xs (ii + 2)) : Int32).toInt64) &&& 4294967295)), .ref (a km), .int rA]) (by rw [nI_clamp (n := ii + 4) (by omega)]) ?_
    have hFc := de_free hD hS hA
    refine va_calli (va_runV (As := [.long ((((((xs (ii + 1)) : Int32).toInt64) <<< ((32 : Int32).toInt64 &&& 63))) ||| ((((xs (ii + 2)) : Int32).toInt64) &&& 4294967295)), .int (xs (ii + 3)), .int (xs (ii + 4))]) (rest := [.int rA]) ⟨hx, hb, hml, hown, hts⟩ (de_X18_resource l dC dI cy a sh n H_48.size F z1 km ((((((xs (ii + 1)) : Int32).toInt64) <<< ((32 : Int32).toInt64 &&& 63))) ||| ((((xs (ii + 2)) : Int32).toInt64) &&& 4294967295)) (xs (ii + 3)) (xs (ii + 4)) hc2) (cwV 3 hts gT_X18_resource rfl rfl rfl (by decide +kernel) ⟨Nat.le_of_ble_eq_true rfl, Nat.le_of_ble_eq_true rfl⟩) ⟨fun a U g mk q => by obtain ⟨q0, q1, qP, qK, qD, qN⟩ := q; exact ⟨q0, q1, qP, va_K.moved (u := U) (U := U.calling g mk a) (Vm.Alike.refl U.vm) qK, qD, qN.same rfl⟩, va_recv hK hP (ci := 18) (q0 := km) rfl (Wd_ob kgkm sgkm (by decide)), fun U hU hW => ⟨rfl, by rw [hU], by rw [hU]; exact hP, va_K.moved hW.alike hK, hD.weaken (fun _ _ _ _ => trivial), hN.warm hW⟩⟩ rfl rfl hl.1 rfl (lv_room (Nat.le_of_ble_eq_true rfl)) dL_law_990 (lw_room hq (Nat.le_of_ble_eq_true rfl) (Nat.le_of_ble_eq_true rfl))) hS (fun q _ h => hFc q h) hFc (fun rr u t H_49 locs ht hvm hw hB hz1 hk1 hS2 => ?_)
    rw [hw]
    clear hw
    obtain ⟨hP1, -, hD1⟩ := hB
    rw [ht] at hP1
    replace hD := hD1.weaken (fun _ _ _ h => hFc _ h)
    replace hP := hP1
    replace hS := hS2
    clear hP1 hD1 hS2 hFc hz1 hk1 hvm ht
    refine lv_icmp_eq (tgt := 1058) hx hb dL_law_993 (by decide) (fun _ => ?_) (fun h => absurd rfl h)
    refine lv_iinc (v := nI (ii + 8)) (lv' := [(3, .int (nI (ii + 8))), (0, .ref b), (1, .ref (a kx)), (2, .ref (a km))]) hx hb dL_law_1058 hl (k := 3) rfl (by rw [show nI (ii + 8) = nI ii + 8 from (nI_add ii 8).symm]; rfl) (by decide) rfl (fun ls hl2 => ?_)
    replace hl := hl2
    clear hl2
    refine lv_goto (tgt := 28) hx hb dL_law_1061 (by decide) ?_
    refine W.widen (k := CL0 + (q + 1)) (n := SL0 + 2048 * (q + 1)) (by omega) (by omega) ?_
    exact next (by omega) a sh n z2 ls H_49 locs hIz hcb (lv_sub hl [1, 2, 3, 0] rfl) hP hD hS
  by_cases c_50 : sw = 16
  · skip
    refine lv_tableIn (tgt := 998) hx hb dL_law_43 (by rw [c_50]; decide) (by rw [c_50]; decide) (by rw [c_50]; rfl) (by decide) ?_
    refine lv_aload_n hx hb dL_law_998 rfl (lv_at hl 1 rfl) ?_
    refine lv_aload_n hx hb dL_law_999 rfl (lv_at hl 0 rfl) ?_
    refine lv_iload_n hx hb dL_law_1000 rfl (lv_at hl 3 rfl) ?_
    refine lv_iconst (v := 1) hx hb dL_law_1001 (by decide) ?_
    refine lv_iadd hx hb dL_law_1002 ?_
    refine W.eq (g2 := F0 m 1003 ls [.int (nI (ii + 1)), .ref b, .ref (a kx)]) (by rw [show nI (ii + 1) = nI ii + 1 from (nI_add ii 1).symm]) ?_
    refine va_sld hx hb hX hbl hbA hS (vp_in_nI (n := ii + 1) (by omega) hLs) dL_law_1003 ?_
    refine W.eq (g2 := F0 m 1004 ls [.int (xs (ii + 1)), .ref (a kx)]) (by rw [nI_clamp (n := ii + 1) (by omega)]) ?_
    obtain ⟨F, z1, z2, rA, hc1, hc2, hIz⟩ := hI.2.2.2.2.2.2.2.2.2.2.2.2.2.2.2.2.2.1 _ _ _ _ (xs (ii + 1)) hq hI0
    have hFc := de_free hD hS hA
    refine va_calli (va_runV (As := [.int (xs (ii + 1))]) (rest := []) ⟨hx, hb, hml, hown, hts⟩ (de_X11_byteOf l dC dI cy a sh n H.size F z kx (xs (ii + 1)) hc1) (cwV 1 hts gT_X11_byteOf rfl rfl rfl (by decide +kernel) ⟨Nat.le_of_ble_eq_true rfl, Nat.le_of_ble_eq_true rfl⟩) ⟨fun a U g mk q => by obtain ⟨q0, q1, qP, qK, qD, qN⟩ := q; exact ⟨q0, q1, qP, va_K.moved (u := U) (U := U.calling g mk a) (Vm.Alike.refl U.vm) qK, qD, qN.same rfl⟩, va_recv hK hP (ci := 11) (q0 := kx) rfl (Wd_ob kgkx sgkx (by decide)), fun U hU hW => ⟨rfl, by rw [hU], by rw [hU]; exact hP, va_K.moved hW.alike hK, hD.weaken (fun _ _ _ _ => trivial), hN.warm hW⟩⟩ rfl rfl hl.1 rfl (lv_room (Nat.le_of_ble_eq_true rfl)) dL_law_1004 (lw_room hq (Nat.le_of_ble_eq_true rfl) (Nat.le_of_ble_eq_true rfl))) hS (fun q _ h => hFc q h) hFc (fun rr u t H_51 locs ht hvm hw hB hz1 hk1 hS2 => ?_)
    rw [hw]
    clear hw
    obtain ⟨hP1, -, hD1⟩ := hB
    rw [ht] at hP1
    replace hD := hD1.weaken (fun _ _ _ h => hFc _ h)
    replace hP := hP1
    replace hS := hS2
    clear hP1 hD1 hS2 hFc hz1 hk1 hvm ht
    refine lv_aload_n hx hb dL_law_1007 rfl (lv_at hl 2 rfl) ?_
    refine lv_aload_n hx hb dL_law_1008 rfl (lv_at hl 0 rfl) ?_
    refine lv_iload_n hx hb dL_law_1009 rfl (lv_at hl 3 rfl) ?_
    refine lv_iconst (v := 1) hx hb dL_law_1010 (by decide) ?_
    refine lv_iadd hx hb dL_law_1011 ?_
    refine W.eq (g2 := F0 m 1012 ls [.int (nI (ii + 1)), .ref b, .ref (a km), .int rA]) (by rw [show nI (ii + 1) = nI ii + 1 from (nI_add ii 1).symm]) ?_
    refine va_sld hx hb hX hbl hbA hS (vp_in_nI (n := ii + 1) (by omega) hLs) dL_law_1012 ?_
    refine W.eq (g2 := F0 m 1013 ls [.int (xs (ii + 1)), .ref (a km), .int rA]) (by rw [nI_clamp (n := ii + 1) (by omega)]) ?_
    have hFc := de_free hD hS hA
    refine va_calli (va_runV (As := [.int (xs (ii + 1))]) (rest := [.int rA]) ⟨hx, hb, hml, hown, hts⟩ (de_X18_byteOf l dC dI cy a sh n H_51.size F z1 km (xs (ii + 1)) hc2) (cwV 1 hts gT_X18_byteOf rfl rfl rfl (by decide +kernel) ⟨Nat.le_of_ble_eq_true rfl, Nat.le_of_ble_eq_true rfl⟩) ⟨fun a U g mk q => by obtain ⟨q0, q1, qP, qK, qD, qN⟩ := q; exact ⟨q0, q1, qP, va_K.moved (u := U) (U := U.calling g mk a) (Vm.Alike.refl U.vm) qK, qD, qN.same rfl⟩, va_recv hK hP (ci := 18) (q0 := km) rfl (Wd_ob kgkm sgkm (by decide)), fun U hU hW => ⟨rfl, by rw [hU], by rw [hU]; exact hP, va_K.moved hW.alike hK, hD.weaken (fun _ _ _ _ => trivial), hN.warm hW⟩⟩ rfl rfl hl.1 rfl (lv_room (Nat.le_of_ble_eq_true rfl)) dL_law_1013 (lw_room hq (Nat.le_of_ble_eq_true rfl) (Nat.le_of_ble_eq_true rfl))) hS (fun q _ h => hFc q h) hFc (fun rr u t H_52 locs ht hvm hw hB hz1 hk1 hS2 => ?_)
    rw [hw]
    clear hw
    obtain ⟨hP1, -, hD1⟩ := hB
    rw [ht] at hP1
    replace hD := hD1.weaken (fun _ _ _ h => hFc _ h)
    replace hP := hP1
    replace hS := hS2
    clear hP1 hD1 hS2 hFc hz1 hk1 hvm ht
    refine lv_icmp_eq (tgt := 1058) hx hb dL_law_1016 (by decide) (fun _ => ?_) (fun h => absurd rfl h)
    refine lv_iinc (v := nI (ii + 8)) (lv' := [(3, .int (nI (ii + 8))), (0, .ref b), (1, .ref (a kx)), (2, .ref (a km))]) hx hb dL_law_1058 hl (k := 3) rfl (by rw [show nI (ii + 8) = nI ii + 8 from (nI_add ii 8).symm]; rfl) (by decide) rfl (fun ls hl2 => ?_)
    replace hl := hl2
    clear hl2
    refine lv_goto (tgt := 28) hx hb dL_law_1061 (by decide) ?_
    refine W.widen (k := CL0 + (q + 1)) (n := SL0 + 2048 * (q + 1)) (by omega) (by omega) ?_
    exact next (by omega) a sh n z2 ls H_52 locs hIz hcb (lv_sub hl [1, 2, 3, 0] rfl) hP hD hS
  by_cases c_53 : sw = 17
  · skip
    refine lv_tableIn (tgt := 1021) hx hb dL_law_43 (by rw [c_53]; decide) (by rw [c_53]; decide) (by rw [c_53]; rfl) (by decide) ?_
    refine lv_aload_n hx hb dL_law_1021 rfl (lv_at hl 1 rfl) ?_
    refine lv_aload_n hx hb dL_law_1022 rfl (lv_at hl 0 rfl) ?_
    refine lv_iload_n hx hb dL_law_1023 rfl (lv_at hl 3 rfl) ?_
    refine lv_iconst (v := 1) hx hb dL_law_1024 (by decide) ?_
    refine lv_iadd hx hb dL_law_1025 ?_
    refine W.eq (g2 := F0 m 1026 ls [.int (nI (ii + 1)), .ref b, .ref (a kx)]) (by rw [show nI (ii + 1) = nI ii + 1 from (nI_add ii 1).symm]) ?_
    refine va_sld hx hb hX hbl hbA hS (vp_in_nI (n := ii + 1) (by omega) hLs) dL_law_1026 ?_
    refine W.eq (g2 := F0 m 1027 ls [.int (xs (ii + 1)), .ref (a kx)]) (by rw [nI_clamp (n := ii + 1) (by omega)]) ?_
    obtain ⟨F, z1, z2, rA, hc1, hc2, hIz⟩ := hI.2.2.2.2.2.2.2.2.2.2.2.2.2.2.2.2.2.2.1 _ _ _ _ (xs (ii + 1)) hq hI0
    have hFc := de_free hD hS hA
    refine va_calll (va_runV (As := [.int (xs (ii + 1))]) (rest := []) ⟨hx, hb, hml, hown, hts⟩ (de_X11_root l dC dI cy a sh n H.size F sk z kx (xs (ii + 1)) hc1) (cwV 1 hts gT_X11_root rfl rfl rfl (by decide +kernel) ⟨Nat.le_of_ble_eq_true rfl, Nat.le_of_ble_eq_true rfl⟩) ⟨fun a U g mk q => by obtain ⟨q0, q1, qP, qK, qD, qN, qS⟩ := q; exact ⟨q0, q1, qP, va_K.moved (u := U) (U := U.calling g mk a) (Vm.Alike.refl U.vm) qK, qD, qN.same rfl, SKs.moved (u := U) (U := U.calling g mk a) (Vm.Alike.refl U.vm) qS⟩, va_recv hK hP (ci := 11) (q0 := kx) rfl (Wd_ob kgkx sgkx (by decide)), fun U hU hW => ⟨rfl, by rw [hU], by rw [hU]; exact hP, va_K.moved hW.alike hK, hD.weaken (fun _ _ _ _ => trivial), hN.warm hW, by rw [hU]; exact ((hSK.kept hS.2.1).narrow hFc).moved hW.alike⟩⟩ rfl rfl hl.1 rfl (lv_room (Nat.le_of_ble_eq_true rfl)) dL_law_1027 (lw_room hq (Nat.le_of_ble_eq_true rfl) (Nat.le_of_ble_eq_true rfl))) hS (fun q _ h => hFc q h) hFc (fun rr u t H_54 locs ht hvm hw hB hz1 hk1 hS2 => ?_)
    rw [hw]
    clear hw
    obtain ⟨hP1, -, hD1⟩ := hB
    rw [ht] at hP1
    replace hD := hD1.weaken (fun _ _ _ h => hFc _ h)
    replace hP := hP1
    replace hS := hS2
    clear hP1 hD1 hS2 hFc hz1 hk1 hvm ht
    refine lv_aload_n hx hb dL_law_1030 rfl (lv_at hl 2 rfl) ?_
    refine lv_aload_n hx hb dL_law_1031 rfl (lv_at hl 0 rfl) ?_
    refine lv_iload_n hx hb dL_law_1032 rfl (lv_at hl 3 rfl) ?_
    refine lv_iconst (v := 1) hx hb dL_law_1033 (by decide) ?_
    refine lv_iadd hx hb dL_law_1034 ?_
    refine W.eq (g2 := F0 m 1035 ls [.int (nI (ii + 1)), .ref b, .ref (a km), .long rA]) (by rw [show nI (ii + 1) = nI ii + 1 from (nI_add ii 1).symm]) ?_
    refine va_sld hx hb hX hbl hbA hS (vp_in_nI (n := ii + 1) (by omega) hLs) dL_law_1035 ?_
    refine W.eq (g2 := F0 m 1036 ls [.int (xs (ii + 1)), .ref (a km), .long rA]) (by rw [nI_clamp (n := ii + 1) (by omega)]) ?_
    have hFc := de_free hD hS hA
    refine va_calll (va_runV (As := [.int (xs (ii + 1))]) (rest := [.long rA]) ⟨hx, hb, hml, hown, hts⟩ (de_X18_root l dC dI cy a sh n H_54.size F sk z1 km (xs (ii + 1)) hc2) (cwV 1 hts gT_X18_root rfl rfl rfl (by decide +kernel) ⟨Nat.le_of_ble_eq_true rfl, Nat.le_of_ble_eq_true rfl⟩) ⟨fun a U g mk q => by obtain ⟨q0, q1, qP, qK, qD, qN, qS⟩ := q; exact ⟨q0, q1, qP, va_K.moved (u := U) (U := U.calling g mk a) (Vm.Alike.refl U.vm) qK, qD, qN.same rfl, SKs.moved (u := U) (U := U.calling g mk a) (Vm.Alike.refl U.vm) qS⟩, va_recv hK hP (ci := 18) (q0 := km) rfl (Wd_ob kgkm sgkm (by decide)), fun U hU hW => ⟨rfl, by rw [hU], by rw [hU]; exact hP, va_K.moved hW.alike hK, hD.weaken (fun _ _ _ _ => trivial), hN.warm hW, by rw [hU]; exact ((hSK.kept hS.2.1).narrow hFc).moved hW.alike⟩⟩ rfl rfl hl.1 rfl (lv_room (Nat.le_of_ble_eq_true rfl)) dL_law_1036 (lw_room hq (Nat.le_of_ble_eq_true rfl) (Nat.le_of_ble_eq_true rfl))) hS (fun q _ h => hFc q h) hFc (fun rr u t H_55 locs ht hvm hw hB hz1 hk1 hS2 => ?_)
    rw [hw]
    clear hw
    obtain ⟨hP1, -, hD1⟩ := hB
    rw [ht] at hP1
    replace hD := hD1.weaken (fun _ _ _ h => hFc _ h)
    replace hP := hP1
    replace hS := hS2
    clear hP1 hD1 hS2 hFc hz1 hk1 hvm ht
    refine W.lcmp hx hb dL_law_1039 ?_
    refine lv_if_eq (tgt := 1058) hx hb dL_law_1040 (by decide) (fun _ => ?_) (fun h => absurd ((lg_cmp_eq _ _).mpr rfl) h)
    refine lv_iinc (v := nI (ii + 8)) (lv' := [(3, .int (nI (ii + 8))), (0, .ref b), (1, .ref (a kx)), (2, .ref (a km))]) hx hb dL_law_1058 hl (k := 3) rfl (by rw [show nI (ii + 8) = nI ii + 8 from (nI_add ii 8).symm]; rfl) (by decide) rfl (fun ls hl2 => ?_)
    replace hl := hl2
    clear hl2
    refine lv_goto (tgt := 28) hx hb dL_law_1061 (by decide) ?_
    refine W.widen (k := CL0 + (q + 1)) (n := SL0 + 2048 * (q + 1)) (by omega) (by omega) ?_
    exact next (by omega) a sh n z2 ls H_55 locs hIz hcb (lv_sub hl [1, 2, 3, 0] rfl) hP hD hS
  by_cases c_56 : sw = 18
  · skip
    refine lv_tableIn (tgt := 1045) hx hb dL_law_43 (by rw [c_56]; decide) (by rw [c_56]; decide) (by rw [c_56]; rfl) (by decide) ?_
    refine lv_aload_n hx hb dL_law_1045 rfl (lv_at hl 1 rfl) ?_
    obtain ⟨F, z1, z2, rA, hc1, hc2, hIz⟩ := hI.2.2.2.2.2.2.2.2.2.2.2.2.2.2.2.2.2.2.2 _ _ _ _  hq hI0
    have hFc := de_free hD hS hA
    refine va_calli (va_runV (As := []) (rest := []) ⟨hx, hb, hml, hown, hts⟩ (de_X11_slips l dC dI cy a sh n H.size F z kx hc1) (cwV 0 hts gT_X11_slips rfl rfl rfl (by decide +kernel) ⟨Nat.le_of_ble_eq_true rfl, Nat.le_of_ble_eq_true rfl⟩) ⟨fun a U g mk q => by obtain ⟨q0, q1, qP, qK, qD, qN⟩ := q; exact ⟨q0, q1, qP, va_K.moved (u := U) (U := U.calling g mk a) (Vm.Alike.refl U.vm) qK, qD, qN.same rfl⟩, va_recv hK hP (ci := 11) (q0 := kx) rfl (Wd_ob kgkx sgkx (by decide)), fun U hU hW => ⟨rfl, by rw [hU], by rw [hU]; exact hP, va_K.moved hW.alike hK, hD.weaken (fun _ _ _ _ => trivial), hN.warm hW⟩⟩ rfl rfl hl.1 rfl (lv_room (Nat.le_of_ble_eq_true rfl)) dL_law_1046 (lw_room hq (Nat.le_of_ble_eq_true rfl) (Nat.le_of_ble_eq_true rfl))) hS (fun q _ h => hFc q h) hFc (fun rr u t H_57 locs ht hvm hw hB hz1 hk1 hS2 => ?_)
    rw [hw]
    clear hw
    obtain ⟨hP1, -, hD1⟩ := hB
    rw [ht] at hP1
    replace hD := hD1.weaken (fun _ _ _ h => hFc _ h)
    replace hP := hP1
    replace hS := hS2
    clear hP1 hD1 hS2 hFc hz1 hk1 hvm ht
    refine lv_aload_n hx hb dL_law_1049 rfl (lv_at hl 2 rfl) ?_
    have hFc := de_free hD hS hA
    refine va_calli (va_runV (As := []) (rest := [.int rA]) ⟨hx, hb, hml, hown, hts⟩ (de_X18_slips l dC dI cy a sh n H_57.size F z1 km hc2) (cwV 0 hts gT_X18_slips rfl rfl rfl (by decide +kernel) ⟨Nat.le_of_ble_eq_true rfl, Nat.le_of_ble_eq_true rfl⟩) ⟨fun a U g mk q => by obtain ⟨q0, q1, qP, qK, qD, qN⟩ := q; exact ⟨q0, q1, qP, va_K.moved (u := U) (U := U.calling g mk a) (Vm.Alike.refl U.vm) qK, qD, qN.same rfl⟩, va_recv hK hP (ci := 18) (q0 := km) rfl (Wd_ob kgkm sgkm (by decide)), fun U hU hW => ⟨rfl, by rw [hU], by rw [hU]; exact hP, va_K.moved hW.alike hK, hD.weaken (fun _ _ _ _ => trivial), hN.warm hW⟩⟩ rfl rfl hl.1 rfl (lv_room (Nat.le_of_ble_eq_true rfl)) dL_law_1050 (lw_room hq (Nat.le_of_ble_eq_true rfl) (Nat.le_of_ble_eq_true rfl))) hS (fun q _ h => hFc q h) hFc (fun rr u t H_58 locs ht hvm hw hB hz1 hk1 hS2 => ?_)
    rw [hw]
    clear hw
    obtain ⟨hP1, -, hD1⟩ := hB
    rw [ht] at hP1
    replace hD := hD1.weaken (fun _ _ _ h => hFc _ h)
    replace hP := hP1
    replace hS := hS2
    clear hP1 hD1 hS2 hFc hz1 hk1 hvm ht
    refine lv_icmp_eq (tgt := 1058) hx hb dL_law_1053 (by decide) (fun _ => ?_) (fun h => absurd rfl h)
    refine lv_iinc (v := nI (ii + 8)) (lv' := [(3, .int (nI (ii + 8))), (0, .ref b), (1, .ref (a kx)), (2, .ref (a km))]) hx hb dL_law_1058 hl (k := 3) rfl (by rw [show nI (ii + 8) = nI ii + 8 from (nI_add ii 8).symm]; rfl) (by decide) rfl (fun ls hl2 => ?_)
    replace hl := hl2
    clear hl2
    refine lv_goto (tgt := 28) hx hb dL_law_1061 (by decide) ?_
    refine W.widen (k := CL0 + (q + 1)) (n := SL0 + 2048 * (q + 1)) (by omega) (by omega) ?_
    exact next (by omega) a sh n z2 ls H_58 locs hIz hcb (lv_sub hl [1, 2, 3, 0] rfl) hP hD hS
  refine lv_tableOut (tgt := 1058) hx hb dL_law_43 (tbd_0_18 c_2 c_5 c_8 c_11 c_14 c_17 c_20 c_23 c_26 c_29 c_32 c_35 c_38 c_41 c_44 c_47 c_50 c_53 c_56) (by decide) ?_
  have hIz := hI9
  refine lv_iinc (v := nI (ii + 8)) (lv' := [(3, .int (nI (ii + 8))), (0, .ref b), (1, .ref (a kx)), (2, .ref (a km))]) hx hb dL_law_1058 hl (k := 3) rfl (by rw [show nI (ii + 8) = nI ii + 8 from (nI_add ii 8).symm]; rfl) (by decide) rfl (fun ls hl2 => ?_)
  replace hl := hl2
  clear hl2
  refine lv_goto (tgt := 28) hx hb dL_law_1061 (by decide) ?_
  refine W.widen (k := CL0 + (q + 1)) (n := SL0 + 2048 * (q + 1)) (by omega) (by omega) ?_
  exact next (by omega) a sh n z ls H locs hIz hcb (lv_sub hl [1, 2, 3, 0] rfl) hP hD hS
theorem law_loop {p : Program} {e : Env} {s : State} {m : MethodId} {below : List Frame} {meth : Method} {c : Code} (l : Launch) {b L : Nat} {xs : Nat → Int32} (hL : L ≤ 4097) (C0 : lw_At p s m meth c b L xs) (dC : Nat → ClassId) (dI : Nat → Nat → Nat) (cy : Nat → ClassId) (sk : Nat → Nat) (cb : Nat) (hK : va_K (dC, dI) vwCl (TYS cy) s) (hN : NK s) (hC : va_Nw (.castable "[B" "java/lang/Cloneable") s) (A : Nat → Prop) (hA : ∀ q : Nat, s.heap.size ≤ q → A q) (hAs : ∀ q : Nat, A q → s.heap.size ≤ q) (hSK0 : SKs sk cb A s s.heap) (I : Nat → (Nat → Nat × Nat) → Nat → St → Prop) (kx km : Nat) (hI : LawOk I kx km) : ∀ (t q : Nat), t + q = 512 → ∀ (a : Nat → Nat) (sh : Nat → Nat × Nat) (n : Nat) (z : St) (ls : Array Slot) (H : Heap) (locs : List Loc), I q sh n z → a CBK = cb → lv_has ls 4 [(0, .ref b), (1, .ref (a kx)), (2, .ref (a km)), (3, .int (nI (1 + 8 * q)))] → va_P (dC, dI) vwCl (Wd cy a sh n z) H → va_D A (Wd cy a sh n z) → va_S A s.heap H locs → W p l e room_1 s m #[Value.ref b] below meth c H locs (CL0 + q) (SL0 + 2048 * q) (lw_Z below #[Value.ref b] s) (F0 m 28 ls []) := by
  intro t
  induction t with
  | zero => exact fun q hq => law_turn l hL C0 dC dI cy sk cb hK hN hC A hA hAs hSK0 I kx km hI q (by omega) (fun h => absurd h (by omega))
  | succ t ih => exact fun q hq => law_turn l hL C0 dC dI cy sk cb hK hN hC A hA hAs hSK0 I kx km hI q (by omega) (fun _ => ih (q + 1) (by omega))
