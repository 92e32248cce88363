/-! THE CLASS COLLECTS PLACES: modules, resources -/
def pcM (b : Nat × (Nat → Nat)) : Plc := (hB (2 :: nB (lN (256 * b.2 4 + b.2 5)) 2), (2, 0, 256 * (256 * b.2 4 + b.2 5)), hB ((List.range b.1).map (fun p => nI (b.2 p))))
def pcS (v : Rsc) : Plc := (hB (3 :: (nB v.1 8 ++ nB (lN v.2.1) 3)), (3, v.1, v.2.1), hB (v.2.2.flatMap gB))
theorem lb_lN {k j : Nat} (hk : k < 2 ^ 32) : lb (lN k) j = nI (k / 2 ^ (8 * j) % 256) := by
  unfold lb
  have : (lN k).toBitVec.toNat = k := N_lN (by omega)
  rw [this]
theorem sh8_m {m : Nat} (hm : m < 65536) : ((nI m).toUInt32 >>> ((8 : Int32).toUInt32 &&& Int32.toUInt32 31)).toInt32 &&& 255 = nI (m / 256) := by
  have e : (((nI m).toUInt32 >>> ((8 : Int32).toUInt32 &&& Int32.toUInt32 31)).toInt32).toBitVec = (nI m).toBitVec >>> 8 := rfl
  rw [and255, e, BitVec.toNat_ushiftRight, pk_tn (by omega), Nat.shiftRight_eq_div_pow]
  congr 1
  omega
theorem and_m {m : Nat} (hm : m < 2 ^ 31) : nI m &&& 255 = nI (m % 256) := by
  rw [and255, pk_tn (by omega)]
theorem ms_t {q r : Nat} (hq : q < 65536) (hr : r < 256) : ((nI q).toInt64 <<< ((8 : Int32).toInt64 &&& 63)) ||| (nI r).toInt64 = lN (256 * q + r) := by
  apply N_inj
  rw [nI_l (by omega), nI_l (by omega), N_or, show (8 : Int32) = nI 8 from rfl, N_shlK (by omega), N_lN (by omega), N_lN (by omega), N_lN (by omega), Nat.mod_eq_of_lt (by omega), Nat.mul_comm q, ← Nat.two_pow_add_eq_or_of_lt (by omega)]
/-- bytes of the class's modules -/
def MdB (sh : Nat → Nat × Nat) (n : Nat) (z : St) (wc : Nat) (bs : Nat → Nat × (Nat → Nat)) : Prop := ∀ i, 1 ≤ i → i ≤ wc → ∃ kb, z.2.2 (15 + 5 * i) 0 = some kb ∧ 513 ≤ kb ∧ z.1 (15 + 5 * i) 1 = nI (bs i).1 ∧ (bs i).1 ≤ 2048 ∧ z.1 (15 + 5 * i) 2 = nI (256 * (bs i).2 4 + (bs i).2 5) ∧ 256 * (bs i).2 4 + (bs i).2 5 < 65536 ∧ ∀ p, p < (bs i).1 → ∃ v, rb sh n z kb (nI p) = some v ∧ v &&& 255 = nI ((bs i).2 p)
section
variable {F n : Nat} {sh : Nat → Nat × Nat} {z z1 : St} {O : Ord} {P : Plc → Prop} {l : List Int32} {nc nr wc : Nat} {ac : Nat → Int64 × Int64 × Int64} {so : Nat → Option Rsc} {bs : Nat → Nat × (Nat → Nat)}
theorem gat_27 (hF : 400 ≤ F) (hL : Lay sh n z) {i kb len : Nat} (hi : i < 9) {b : Nat → Nat} (k1 : z.2.2 (15 + 5 * i) 0 = some kb) (k2 : 513 ≤ kb) (k3 : z.1 (15 + 5 * i) 1 = nI len) (k4 : len ≤ 2048) (k5 : ∀ p, p < len → ∃ v, rb sh n z kb (nI p) = some v ∧ v &&& 255 = nI (b p)) {ko : St → Int32 → Option (St × Unit)} : ∀ r p g z1, p + r = len → r < g → WCd sh n z z1 ((List.range p).map (fun p => nI (b p))) → ∃ z2 g', fn_X9_gatherModules_L27 F sh n (15 + 5 * i) 73 (nI i) ko g z1 (nI p) = fn_X9_gatherModules_L27 F sh n (15 + 5 * i) 73 (nI i) ko (g' + 1) z2 (nI len) ∧ WCd sh n z z2 ((List.range len).map (fun p => nI (b p))) := by
  intro r
  induction r with
  | zero =>
    intro p g z1 h1 h2 W
    obtain ⟨g, rfl⟩ : ∃ q, g = q + 1 := ⟨g - 1, by omega⟩
    have e : p = len := by omega
    subst e
    exact ⟨z1, g, rfl, W⟩
  | succ r ih =>
    intro p g z1 h1 h2 W
    obtain ⟨g, rfl⟩ : ∃ q, g = q + 1 := ⟨g - 1, by omega⟩
    obtain ⟨v, v1, v2⟩ := k5 p (by omega)
    have l1 := W.lay hL
    obtain ⟨z2, a1, w1⟩ := W.put (F := F) (by omega) (x := v &&& 255) (c := nI (b p)) (by rw [v2])
    obtain ⟨z3, g', c1, c2⟩ := ih (p + 1) g z2 (by omega) (by omega) (by rw [List.range_succ, List.map_append]; exact w1)
    refine ⟨z3, g', ?_, c2⟩
    have hp := (b_progs l1 hi).2
    have at' : fn_X5_at F sh n z1 (15 + 5 * i) (nI p) = some (z1, v &&& 255) := by
      unfold fn_X5_at
      rw [if_neg (nI_pos (by omega)), (b_prog l1 hp).1, grd_true, W.2.1 (15 + 5 * i) (by omega) (by omega) (by omega), k3, if_pos ((nI_ltW (by omega) (by omega)).mpr (by omega)), W.2.2.2, k1, lnk_s, rb_fr (W.2.1 kb (by omega) (by omega) (by omega)), v1]
      rfl
    rw [fn_X9_gatherModules_L27, (b_prog l1 hp).1, grd_true, W.2.1 (15 + 5 * i) (by omega) (by omega) (by omega), k3, if_neg (fun e => by have := (nI_leW (a := len) (b := p) (by omega) (by omega)).mp e; omega), (b_tree l1).2.2.1, lnk_s, at', cal_s, (b_digt l1).1, grd_true, a1, cal_s, nI_1]
    exact c1
theorem gat_M (hF : 2400 ≤ F) (hL : Lay sh n z) (hw : wc ≤ 8) (h5 : z.1 3 5 = nI wc) (mb : MdB sh n z wc bs) (h : CPl z P O) (ho : O.length + wc ≤ 256) : ∃ (z' : St) (O' : Ord), fn_X9_gatherModules F sh n z 73 3 = some (z', ()) ∧ FCr z z' ∧ CPl z' (fun x => P x ∨ ∃ j, 1 ≤ j ∧ j ≤ wc ∧ x = pcM (bs j)) O' ∧ O'.length = O.length + wc := by
  have key : ∀ m i g z1 (O1 : Ord), i + m = wc + 1 → 1 ≤ i → m < g → FCr z z1 → CPl z1 (fun x => P x ∨ ∃ j, 1 ≤ j ∧ j < i ∧ x = pcM (bs j)) O1 → O1.length + 1 = O.length + i → ∃ (z' : St) (O' : Ord), fn_X9_gatherModules_L2 F sh n 3 73 g z1 (nI i) = some (z', ()) ∧ FCr z z' ∧ CPl z' (fun x => P x ∨ ∃ j, 1 ≤ j ∧ j ≤ wc ∧ x = pcM (bs j)) O' ∧ O'.length = O.length + wc := by
    intro m
    induction m with
    | zero =>
      intro i g z1 O1 h1 hi h2 f h e
      obtain ⟨g, rfl⟩ : ∃ q, g = q + 1 := ⟨g - 1, by omega⟩
      have l1 : Lay sh n z1 := hL.of f.1
      refine ⟨z1, O1, ?_, f, h.cg (fun x => ⟨fun q => q.imp id (fun ⟨j, a, b, c⟩ => ⟨j, a, by omega, c⟩), fun q => q.imp id (fun ⟨j, a, b, c⟩ => ⟨j, a, by omega, c⟩)⟩), by omega⟩
      rw [fn_X9_gatherModules_L2, (b_state l1).1, grd_true, (f.2.1 3 (by omega)).1, h5, if_pos ((nI_ltW (by omega) (by omega)).mpr (by omega))]
    | succ m ih =>
      intro i g z1 O1 h1 hi h2 f h e
      obtain ⟨g, rfl⟩ : ∃ q, g = q + 1 := ⟨g - 1, by omega⟩
      have l1 : Lay sh n z1 := hL.of f.1
      obtain ⟨kb, k1, k2, k3, k4, k5, k6, k7⟩ := mb i hi (by omega)
      obtain ⟨y1, a1, w1⟩ := wc_start (F := F) l1
      obtain ⟨y2, g', a2, w2⟩ := gat_27 (F := F) (ko := fun z9 q2 => fn_X9_gatherModules_L2 F sh n 3 73 g z9 q2) (by omega) l1 (i := i) (by omega) (b := (bs i).2) (by rw [f.1]; exact k1) k2 (by rw [(f.2.1 (15 + 5 * i) (by omega)).1]; exact k3) k4 (fun p hp => by rw [rb_fr (f.2.1 kb (by omega)).1]; exact k7 p hp) (bs i).1 0 F y1 (by omega) (by omega) w1
      obtain ⟨y4, a4, f4, v4⟩ := keepV (F := F) (by omega) l1 w2 (by rw [List.length_map, List.length_range]; omega)
      have l4 : Lay sh n y4 := l1.of f4.1
      have n2 : ∀ y, FCr z1 y → y.1 (15 + 5 * i) 2 = nI (256 * (bs i).2 4 + (bs i).2 5) := fun y fy => by rw [(fy.2.1 (15 + 5 * i) (by omega)).1, (f.2.1 (15 + 5 * i) (by omega)).1]; exact k5
      have ft : FCr z1 y4 := f4.fc (by decide) (by decide)
      obtain ⟨y5, a5, w5⟩ := wc_start (F := F) l4
      obtain ⟨y6, a6, w6⟩ := w5.put (F := F) (by omega) (x := 2) (c := 2) rfl
      obtain ⟨y7, a7, w7⟩ := w6.put (F := F) (by omega) (x := ((nI (256 * (bs i).2 4 + (bs i).2 5)).toUInt32 >>> ((8 : Int32).toUInt32 &&& Int32.toUInt32 31)).toInt32) (c := lb (lN (256 * (bs i).2 4 + (bs i).2 5)) 1) (by
        rw [sh8_m k6, lb_and, lb_lN (by omega)]
        congr 1
        omega)
      obtain ⟨y8, a8, w8⟩ := w7.put (F := F) (by omega) (x := nI (256 * (bs i).2 4 + (bs i).2 5)) (c := lb (lN (256 * (bs i).2 4 + (bs i).2 5)) 0) (by
        rw [and_m (by omega), lb_and, lb_lN (by omega)]
        congr 1
        omega)
      obtain ⟨y9, O', a9, f9, h9, e9⟩ := addP (F := F) (by omega) l4 (h.ft f4 (by decide) (by decide)) (by omega) w8 (by simp) v4 (kd := 2) (ms := 256 * (256 * (bs i).2 4 + (bs i).2 5)) (ad := 0) (x0 := 2) (x2 := nI (256 * (bs i).2 4 + (bs i).2 5)) (x3 := 0) rfl (ms_t (r := 0) k6 (by omega))
      have wf : ∀ (y : St) (l : List Int32), WCd sh n y4 y l → y.1 (15 + 5 * i) 2 = nI (256 * (bs i).2 4 + (bs i).2 5) := fun y l w => by rw [w.2.1 (15 + 5 * i) (by omega) (by omega) (by omega)]; exact n2 y4 ft
      obtain ⟨z', Of, c1, c2, c3, c4⟩ := ih (i + 1) g y9 O' (by omega) (by omega) (by omega) (f.trans (ft.trans f9)) (h9.cg (fun x => ⟨fun q => by
        rcases q with (q | ⟨j, q1, q2, q3⟩) | q
        · exact .inl q
        · exact .inr ⟨j, q1, by omega, q3⟩
        · exact .inr ⟨i, hi, by omega, q⟩, fun q => by
        rcases q with q | ⟨j, q1, q2, q3⟩
        · exact .inl (.inl q)
        · by_cases w : j = i
          · subst w; exact .inr q3
          · exact .inl (.inr ⟨j, q1, by omega, q3⟩)⟩)) (by omega)
      refine ⟨z', Of, ?_, c2, c3, c4⟩
      have r2 := w2.lay l1
      have r5 := w5.lay l4
      have r6 := w6.lay l4
      have r7 := w7.lay l4
      have r8 := w8.lay l4
      have hp := (b_progs l1 (i := i) (by omega)).2
      have i9 : okI (nI i) 9 = true := okI_nI (by omega) (by omega)
      rw [fn_X9_gatherModules_L2, (b_state l1).1, grd_true, (f.2.1 3 (by omega)).1, h5, if_neg (fun e => by have := (nI_ltW (a := wc) (b := i) (by omega) (by omega)).mp e; omega), (b_state l1).2.2.2.2.1, lnk_s, b_progs_a l1, i9, grd_true, nI_clamp (by omega), (b_progs l1 (i := i) (by omega)).1, lnk_s, (b_tree l1).1, grd_true, (b_tree l1).2.2.1, lnk_s, (b_digt l1).1, grd_true, a1, cal_s]
      refine Eq.trans a2 ?_
      rw [fn_X9_gatherModules_L27, (b_prog r2 hp).1, grd_true, w2.2.1 (15 + 5 * i) (by omega) (by omega) (by omega), (f.2.1 (15 + 5 * i) (by omega)).1, k3, if_pos ((nI_leW (by omega) (by omega)).mpr (Nat.le_refl _)), a4, cal_s, (b_tree l4).2.2.1, lnk_s, (b_digt l4).1, grd_true, a5, cal_s, (b_tree r5).2.2.1, lnk_s, (b_digt r5).1, grd_true, a6, cal_s, (b_tree r6).2.2.1, lnk_s, (b_digt r6).1, grd_true, wf _ _ w6, a7, cal_s, (b_tree r7).2.2.1, lnk_s, (b_digt r7).1, grd_true, wf _ _ w7, a8, cal_s, wf _ _ w8, a9, cal_s, nI_1]
      exact c1
  refine key wc 1 F z O (by omega) (by omega) (by omega) FCr.rfl' (h.cg (fun x => ⟨.inl, fun q => ?_⟩)) rfl
  rcases q with q | ⟨j, q1, q2, _⟩
  · exact q
  · omega
theorem gat_41 (hF : 400 ≤ F) (hL : Lay sh n z) (hb : ∀ p (hp : p < l.length), z.1 82 p &&& 255 = l[p]) (hl : l.length ≤ 1024) {i : Int32} {ko : St → Int32 → Option (St × Unit)} : ∀ r p g z1, p + r = l.length → r < g → WCd sh n z z1 (l.take p) → ∃ z2 g', fn_X9_gatherResources_L41 F sh n (nI l.length) 73 3 i ko g z1 (nI p) = fn_X9_gatherResources_L41 F sh n (nI l.length) 73 3 i ko (g' + 1) z2 (nI l.length) ∧ WCd sh n z z2 l := by
  intro r
  induction r with
  | zero =>
    intro p g z1 h1 h2 W
    obtain ⟨g, rfl⟩ : ∃ q, g = q + 1 := ⟨g - 1, by omega⟩
    have e : p = l.length := by omega
    subst e
    exact ⟨z1, g, rfl, by rw [List.take_length] at W; exact W⟩
  | succ r ih =>
    intro p g z1 h1 h2 W
    obtain ⟨g, rfl⟩ : ∃ q, g = q + 1 := ⟨g - 1, by omega⟩
    have hp : p < l.length := by omega
    have l1 := W.lay hL
    have e82 : z1.1 82 = z.1 82 := W.2.1 82 (by decide) (by decide) (by decide)
    obtain ⟨z2, a1, w1⟩ := W.put (F := F) (by omega) (x := z1.1 82 p) (c := l[p]) (by rw [e82, ← hb p hp, and_255])
    obtain ⟨z3, g', c1, c2⟩ := ih (p + 1) g z2 (by omega) (by omega) (by
      rw [List.take_succ, List.getElem?_eq_getElem hp]; exact w1)
    refine ⟨z3, g', ?_, c2⟩
    rw [fn_X9_gatherResources_L41, if_neg (fun e => by have := (nI_leW (a := l.length) (b := p) (by omega) (by omega)).mp e; omega), (b_tree l1).2.2.1, lnk_s, l1.2.2 73 8 82 rfl, lnk_s, lay_a l1 82 100 1024 (by decide) rfl, okI_nI (by omega) (by omega), grd_true, (b_digt l1).1, grd_true, nI_clamp (by omega), a1, cal_s, nI_1]
    exact c1
theorem cntO_m {p : Nat → Bool} {a : Nat} : ∀ m, cntO p a ≤ cntO p (a + m)
  | 0 => Nat.le_refl _
  | m + 1 => by
    have := cntO_m (p := p) (a := a) m
    show _ ≤ cntO p (a + m) + _
    omega
theorem gat_R (hF : 2400 ≤ F) (hL : Lay sh n z) (cg : CLg z nc ac nr so) (hk : ∀ r v, r < 256 → so r = some v → ∀ e, e ∈ v.2.2 → KnO e.1) (h : CPl z P O) (ho : O.length + cntO (fun r => (so r).isSome) 256 ≤ 256) : ∃ (z' : St) (O' : Ord), fn_X9_gatherResources F sh n z 73 3 = some (z', ()) ∧ FCr z z' ∧ CPl z' (fun x => P x ∨ ∃ r v, r < 256 ∧ so r = some v ∧ x = pcS v) O' := by
  have key : ∀ m i g z1 (O1 : Ord), i + m = 256 → m < g → FCr z z1 → CPl z1 (fun x => P x ∨ ∃ r v, r < i ∧ so r = some v ∧ x = pcS v) O1 → O1.length = O.length + cntO (fun r => (so r).isSome) i → ∃ (z' : St) (O' : Ord), fn_X9_gatherResources_L2 F sh n 3 73 g z1 (nI i) = some (z', ()) ∧ FCr z z' ∧ CPl z' (fun x => P x ∨ ∃ r v, r < 256 ∧ so r = some v ∧ x = pcS v) O' := by
    intro m
    induction m with
    | zero =>
      intro i g z1 O1 h1 h2 f h e
      obtain ⟨g, rfl⟩ : ∃ q, g = q + 1 := ⟨g - 1, by omega⟩
      have ei : i = 256 := by omega
      subst ei
      refine ⟨z1, O1, ?_, f, h⟩
      rw [fn_X9_gatherResources_L2, if_pos (by decide)]
    | succ m ih =>
      intro i g z1 O1 h1 h2 f h e
      obtain ⟨g, rfl⟩ : ∃ q, g = q + 1 := ⟨g - 1, by omega⟩
      have l1 : Lay sh n z1 := hL.of f.1
      have cg1 : CLg z1 nc ac nr so := cg.of (fun k a b => f.2.1 k (by omega))
      have oi : okI (nI i) 256 = true := okI_nI (by omega) (by omega)
      have ci : (nI i).toNatClampNeg = i := nI_clamp (by omega)
      have cs : cntO (fun r => (so r).isSome) (i + 1) = cntO (fun r => (so r).isSome) i + if (so i).isSome then 1 else 0 := rfl
      rw [fn_X9_gatherResources_L2, if_neg (show ¬ (256 : Int32) ≤ nI i from fun e => by have := (nI_leW (a := 256) (b := i) (by omega) (by omega)).mp e; omega), (b_state l1).1, grd_true, l1.2.2 3 9 11 rfl, lnk_s, lay_a l1 11 101 256 (by decide) rfl, oi, grd_true, ci]
      cases es : so i with
      | none =>
        rw [(cg1.2.2.2 i (by omega)).1 es, if_pos rfl]
        obtain ⟨z', Of, c1, c2, c3⟩ := ih (i + 1) g z1 O1 (by omega) (by omega) f (h.cg (fun x => ⟨fun q => q.imp id (fun ⟨r, v, a, b⟩ => ⟨r, v, by omega, b⟩), fun q => q.imp id (fun ⟨r, v, a, b, c⟩ => ⟨r, v, by
          by_cases w : r = i
          · subst w; rw [es] at b; cases b
          · omega, b, c⟩)⟩)) (by rw [cs, es]; exact e)
        refine ⟨z', Of, ?_, c2, c3⟩
        unfold fn_X9_gatherResources_B164
        rw [nI_1]
        exact c1
      | some v =>
        obtain ⟨s1, s2, s3, s4, s5, s6, s7, s8⟩ := (cg1.2.2.2 i (by omega)).2 v es
        have cm := cntO_m (p := fun r => (so r).isSome) (a := i + 1) (256 - (i + 1))
        rw [show i + 1 + (256 - (i + 1)) = 256 by omega] at cm
        have cs1 : cntO (fun r => (so r).isSome) (i + 1) = cntO (fun r => (so r).isSome) i + 1 := by rw [cs, es]; rfl
        obtain ⟨y1, b1, b2⟩ := wb_t (F := F) (kd := 82) (by omega) l1 (by have := l1.1; omega) (by rw [l1.2.1 82 (by omega)]; rfl) (by decide) (by decide) (show i < 256 by omega) s5 s7 s8 (hk i v (by omega) es)
        have ln : (v.2.2.flatMap gB).length ≤ 1024 := by
          have := gB_len v.2.2
          omega
        have m1 : Lay sh n y1 := l1.of (by rw [b2.1])
        have fw : FCr z1 y1 := ⟨by rw [b2.1], fun k q => ⟨b2.2.1 k (by omega), by rw [b2.1]⟩, by rw [b2.2.1 73 (by decide)]⟩
        have hy : CPl y1 (fun x => P x ∨ ∃ r v, r < i ∧ so r = some v ∧ x = pcS v) O1 := ⟨by rw [b2.2.1 73 (by decide)]; exact h.1, h.2.1, fun j e he => by rw [b2.2.1 81 (by decide)]; exact h.2.2.1 j e he, fun e he => ⟨(h.2.2.2.1 e he).1, (h.2.2.2.1 e he).2.1, (h.2.2.2.1 e he).2.2.of (by rw [b2.1]) (by rw [b2.1])⟩, h.2.2.2.2.1, h.2.2.2.2.2⟩
        obtain ⟨y2, a2, w2⟩ := wc_start (F := F) m1
        obtain ⟨y3, g', a3, w3⟩ := gat_41 (F := F) (i := nI i) (ko := fun z9 q2 => fn_X9_gatherResources_L2 F sh n 3 73 g z9 q2) (by omega) m1 b2.2.2 ln (v.2.2.flatMap gB).length 0 F y2 (by omega) (by omega) (by rw [List.take_zero]; exact w2)
        obtain ⟨y4, a4, f4, v4⟩ := keepV (F := F) (by omega) m1 w3 (by omega)
        have l4 : Lay sh n y4 := m1.of f4.1
        have ft : FCr z1 y4 := fw.trans (f4.fc (by decide) (by decide))
        obtain ⟨y5, a5, w5⟩ := wc_start (F := F) l4
        obtain ⟨y6, a6, w6⟩ := w5.put (F := F) (by omega) (x := 3) (c := 3) rfl
        obtain ⟨y7, a7, w7⟩ := w6.lng (F := F) (by omega) v.1
        obtain ⟨y8, a8, w8⟩ := w7.put (F := F) (by omega) (x := ((nI (v.2.1 / 256)).toUInt32 >>> ((8 : Int32).toUInt32 &&& Int32.toUInt32 31)).toInt32) (c := lb (lN v.2.1) 2) (by
          rw [sh8_m (by omega), lb_and, lb_lN (by omega)]
          congr 1
          omega)
        obtain ⟨y9, a9, w9⟩ := w8.put (F := F) (by omega) (x := nI (v.2.1 / 256)) (c := lb (lN v.2.1) 1) (by
          rw [and_m (by omega), lb_and, lb_lN (by omega)])
        obtain ⟨ya, aa, wa⟩ := w9.put (F := F) (by omega) (x := nI (v.2.1 % 256)) (c := lb (lN v.2.1) 0) (by
          rw [and_m (by omega), lb_and, lb_lN (by omega)]
          congr 1
          omega)
        obtain ⟨yb, O', ab, fb, hb, eb⟩ := addP (F := F) (by omega) l4 (hy.ft f4 (by decide) (by decide)) (by omega) wa (by simp [List.length_append, nB_len]) v4 (kd := 3) (ms := v.2.1) (ad := v.1) (x0 := 3) (x2 := nI (v.2.1 / 256)) (x3 := nI (v.2.1 % 256)) rfl (by
          rw [ms_t (by omega) (by omega)]
          congr 1
          omega)
        have ep : ((hB ([] ++ [3] ++ nB v.1 8 ++ [lb (lN v.2.1) 2] ++ [lb (lN v.2.1) 1] ++ [lb (lN v.2.1) 0]), (3, v.1, v.2.1), hB (v.2.2.flatMap gB)) : Plc) = pcS v := by
          unfold pcS
          rw [show ([] ++ [3] ++ nB v.1 8 ++ [lb (lN v.2.1) 2] ++ [lb (lN v.2.1) 1] ++ [lb (lN v.2.1) 0] : List Int32) = 3 :: (nB v.1 8 ++ nB (lN v.2.1) 3) from by simp [nB]]
        rw [ep] at hb
        obtain ⟨z', Of, c1, c2, c3⟩ := ih (i + 1) g yb O' (by omega) (by omega) (f.trans (ft.trans fb)) (hb.cg (fun x => ⟨fun q => by
          rcases q with (q | ⟨r, w, q1, q2⟩) | q
          · exact .inl q
          · exact .inr ⟨r, w, by omega, q2⟩
          · exact .inr ⟨i, v, by omega, es, q⟩, fun q => by
          rcases q with q | ⟨r, w, q1, q2, q3⟩
          · exact .inl (.inl q)
          · by_cases u : r = i
            · subst u
              rw [es] at q2
              have := Option.some.inj q2
              subst this
              exact .inr q3
            · exact .inl (.inr ⟨r, w, by omega, q2, q3⟩)⟩)) (by rw [cs1]; omega)
        refine ⟨z', Of, ?_, c2, c3⟩
        have r3 := w3.lay m1
        have r5 := w5.lay l4
        have r6 := w6.lay l4
        have r7 := w7.lay l4
        have r8 := w8.lay l4
        have r9 := w9.lay l4
        have ra := wa.lay l4
        have wl : ∀ (y : St) (l : List Int32), WCd sh n y4 y l → y.2.1 8 = z1.2.1 8 ∧ y.1 9 = z1.1 9 ∧ y.1 10 = z1.1 10 := fun y l w => ⟨by rw [w.2.2.1 8 (by decide)]; exact (ft.2.1 8 (by omega)).2, by rw [w.2.1 9 (by decide) (by decide) (by decide)]; exact (ft.2.1 9 (by omega)).1, by rw [w.2.1 10 (by decide) (by decide) (by decide)]; exact (ft.2.1 10 (by omega)).1⟩
        rw [s5, if_neg (fun e => by have := nI_uq (b := 0) e (by omega) (by omega); omega), (b_tree l1).1, grd_true, l1.2.2 73 8 82 rfl, lnk_s, b1, cal_s, (b_tree m1).2.2.1, lnk_s, (b_digt m1).1, grd_true, a2, cal_s]
        refine Eq.trans a3 ?_
        rw [fn_X9_gatherResources_L41, if_pos ((nI_leW (by omega) (by omega)).mpr (Nat.le_refl _)), a4, cal_s, (b_tree l4).2.2.1, lnk_s, (b_digt l4).1, grd_true, a5, cal_s, (b_tree r5).2.2.1, lnk_s, (b_digt r5).1, grd_true, a6, cal_s, (b_tree r6).2.2.1, lnk_s, (b_state r6).2.2.2.2.2.1, lnk_s, lay_a l1 8 102 256 (by decide) rfl, oi, grd_true, (b_digt r6).1, grd_true, ci, (wl _ _ w6).1, s1, a7, cal_s, (b_tree r7).2.2.1, lnk_s, (b_state r7).2.2.2.2.2.2.1, lnk_s, lay_a l1 9 101 256 (by decide) rfl, oi, grd_true, (b_digt r7).1, grd_true, (wl _ _ w7).2.1, s2, a8, cal_s, (b_tree r8).2.2.1, lnk_s, (b_state r8).2.2.2.2.2.2.1, lnk_s, lay_a l1 9 101 256 (by decide) rfl, oi, grd_true, (b_digt r8).1, grd_true, (wl _ _ w8).2.1, s2, a9, cal_s, (b_tree r9).2.2.1, lnk_s, (b_state r9).2.2.2.2.2.2.2.1, lnk_s, lay_a l1 10 101 256 (by decide) rfl, oi, grd_true, (b_digt r9).1, grd_true, (wl _ _ w9).2.2, s3, aa, cal_s, (b_state ra).2.2.2.2.2.1, lnk_s, lay_a l1 8 102 256 (by decide) rfl, oi, grd_true, (b_state ra).2.2.2.2.2.2.1, lnk_s, lay_a l1 9 101 256 (by decide) rfl, oi, grd_true, (b_state ra).2.2.2.2.2.2.2.1, lnk_s, lay_a l1 10 101 256 (by decide) rfl, oi, grd_true, (wl _ _ wa).1, (wl _ _ wa).2.1, (wl _ _ wa).2.2, s1, s2, s3, ab, cal_s]
        unfold fn_X9_gatherResources_B164
        rw [nI_1]
        exact c1
  refine key 256 0 F z O (by omega) (by omega) FCr.rfl' (h.cg (fun x => ⟨.inl, fun q => ?_⟩)) rfl
  rcases q with q | ⟨r, v, q1, _⟩
  · exact q
  · omega
theorem MdB.fc {z' : St} (h : MdB sh n z wc bs) (hw : wc ≤ 8) (f : z'.2.2 = z.2.2 ∧ ∀ k, ¬ (73 ≤ k ∧ k ≤ 85) → z'.1 k = z.1 k ∧ z'.2.1 k = z.2.1 k) : MdB sh n z' wc bs := fun i a b => by
  obtain ⟨kb, k1, k2, k3, k4, k5, k6, k7⟩ := h i a b
  refine ⟨kb, by rw [f.1]; exact k1, k2, ?_, k4, ?_, k6, fun p hp => ?_⟩
  · rw [(f.2 _ (by omega)).1]; exact k3
  · rw [(f.2 _ (by omega)).1]; exact k5
  · rw [rb_fr (f.2 kb (by omega)).1]; exact k7 p hp
/-- the class's root -/
theorem reb_all (hF : 2400 ≤ F) (hL : Lay sh n z) (cg : CLg z nc ac nr so) (hk : ∀ r v, r < 256 → so r = some v → ∀ e, e ∈ v.2.2 → KnO e.1) (hw : wc ≤ 8) (h5 : z.1 3 5 = nI wc) (mb : MdB sh n z wc bs) (hc : nc + wc + cntO (fun r => (so r).isSome) 256 ≤ 256) {Pl : List Plc} (hP : ∀ x, (((∃ j, j < nc ∧ x = plA (ac j)) ∨ ∃ j, 1 ≤ j ∧ j ≤ wc ∧ x = pcM (bs j)) ∨ ∃ r v, r < 256 ∧ so r = some v ∧ x = pcS v) ↔ x ∈ Pl) : ∃ z' S, fn_X9_rebuild F sh n z 73 3 = some (z', ()) ∧ (z'.2.2 = z.2.2 ∧ ∀ k, ¬ (73 ≤ k ∧ k ≤ 85) → z'.1 k = z.1 k ∧ z'.2.1 k = z.2.1 k) ∧ z'.1 73 1 = 0 ∧ SrP Pl S ∧ ∀ k, k < 4 → z'.2.1 74 k = trD ndH lfP 256 S k := by
  have f5 : (si (si z 73 1 0) 73 7 0).2.2 = z.2.2 ∧ ∀ k, ¬ (73 ≤ k ∧ k ≤ 85) → (si (si z 73 1 0) 73 7 0).1 k = z.1 k ∧ (si (si z 73 1 0) 73 7 0).2.1 k = z.2.1 k := ⟨rfl, fun k q => ⟨by rw [si_ok (by omega), si_ok (by omega)], rfl⟩⟩
  generalize hz5 : si (si z 73 1 0) 73 7 0 = z5 at f5
  have l5 : Lay sh n z5 := hL.of f5.1
  have z71 : z5.1 73 1 = 0 := by rw [← hz5, si_oj (by decide), si_ss]
  obtain ⟨z6, O6, a6, f6, h6, e6⟩ := gat_A (F := F) (by omega) l5 (cg.of (fun k a b => f5.2 k (by omega))) (by rw [← hz5]; exact si_ss)
  have g6 : z6.2.2 = z.2.2 ∧ ∀ k, ¬ (73 ≤ k ∧ k ≤ 85) → z6.1 k = z.1 k ∧ z6.2.1 k = z.2.1 k := ⟨f6.1.trans f5.1, fun k q => ⟨(f6.2.1 k q).1.trans (f5.2 k q).1, (f6.2.1 k q).2.trans (f5.2 k q).2⟩⟩
  have l6 : Lay sh n z6 := hL.of g6.1
  obtain ⟨z7, O7, a7, f7, h7, e7⟩ := gat_M (F := F) hF l6 hw (by rw [(g6.2 3 (by omega)).1]; exact h5) (mb.fc hw g6) h6 (by omega)
  have g7 : z7.2.2 = z.2.2 ∧ ∀ k, ¬ (73 ≤ k ∧ k ≤ 85) → z7.1 k = z.1 k ∧ z7.2.1 k = z.2.1 k := ⟨f7.1.trans g6.1, fun k q => ⟨(f7.2.1 k q).1.trans (g6.2 k q).1, (f7.2.1 k q).2.trans (g6.2 k q).2⟩⟩
  have l7 : Lay sh n z7 := hL.of g7.1
  obtain ⟨z8, O8, a8, f8, h8⟩ := gat_R (F := F) hF l7 (cg.of (fun k a b => g7.2 k (by omega))) hk h7 (by omega)
  have l8 : Lay sh n z8 := l7.of f8.1
  obtain ⟨z9, S, o, a9, f9, s9, c9⟩ := lod_t (F := F) (by omega) l8 h8 hP
  have l9 : Lay sh n z9 := l8.of f9.1
  obtain ⟨za, aa, fa, va⟩ := reb_t (F := F) (by omega) l9 s9.1 c9
  have ff := (f6.trans f7).trans ((f8.trans f9).trans fa)
  refine ⟨za, S, ?_, ⟨ff.1.trans f5.1, fun k q => ⟨(ff.2.1 k q).1.trans (f5.2 k q).1, (ff.2.1 k q).2.trans (f5.2 k q).2⟩⟩, by rw [ff.2.2]; exact z71, s9, va⟩
  unfold fn_X9_rebuild
  rw [(b_tree hL).1, grd_true, lt_t, lt_t, hz5, a6, cal_s, a7, cal_s, a8, cal_s, a9, cal_s, lt_t]
  exact aa
end
