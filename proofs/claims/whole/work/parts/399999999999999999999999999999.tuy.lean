/-! THE REFERENCE'S ROOT: all places -/
def pcR (r : Int64 × Nat × Hp × Nat) : Plc := (hB (3 :: (nB r.1 8 ++ nB (lN r.2.1) 3)), (3, r.1, r.2.1), hB (rL (fB r.2.2.1) r.2.2.2 0))
theorem rL_fB (Q : Hp) : ∀ m i, (rL (fB Q) m i).length ≤ 16 * m
  | 0, i => by simp [rL]
  | m + 1, i => by
    have e : rL (fB Q) (m + 1) i = fB Q i ++ rL (fB Q) m (i + 1) := rfl
    rw [e, List.length_append]
    have := rL_fB Q m (i + 1)
    have : (fB Q i).length ≤ 16 := kB_len
    omega
section
variable {F n : Nat} {sh : Nat → Nat × Nat} {z0 z z1 : St} {S : List Plc} {P : Plc → Prop} {nc nr wc : Nat} {ac : Nat → Int64 × Int64 × Int64} {rs : Nat → Int64 × Nat × Hp × Nat} {bs : Nat → Nat × (Nat → Nat)} {x0 : Int32}
theorem RLg.fr {z' : St} (h : RLg z nc ac nr rs) (f : FRr z z') : RLg z' nc ac nr rs := h.of (fun k a b => ⟨f.2.1 k (by omega) (by omega), f.2.2.2 k (by omega) (by omega) (by omega)⟩) (f.2.2.1 3 (by decide)) (f.2.2.1 9 (by decide))
theorem RTs.imp {S : List Plc} {Q : Plc → Prop} (h : RTs sh n z0 z S P) (e : ∀ x, P x ↔ Q x) : RTs sh n z0 z S Q := ⟨h.1, h.2.1, h.2.2.1.cg e, h.2.2.2.1, fun y hy => h.2.2.2.2 y ((e y).mpr hy)⟩
theorem rt_27 (hF : 2400 ≤ F) (hL : Lay sh n z0) (rl : RLg z0 nc ac nr rs) : ∀ m i g z1 S, i + m = nc → m < g → RTs sh n z0 z1 S (fun x => ∃ j, j < i ∧ x = plA (ac j)) → S.length ≤ i → ∃ z2 S2, fn_X18_root_L27 F sh n 337 x0 g z1 (nI i) = fn_X18_root_L135 F sh n 337 x0 F z2 1 ∧ RTs sh n z0 z2 S2 (fun x => ∃ j, j < nc ∧ x = plA (ac j)) ∧ S2.length ≤ nc := by
  have n256 := rl.1.2.1
  intro m
  induction m with
  | zero =>
    intro i g z1 S h1 h2 h hs
    obtain ⟨g, rfl⟩ : ∃ q, g = q + 1 := ⟨g - 1, by omega⟩
    have e : i = nc := by omega
    subst e
    refine ⟨z1, S, ?_, h, hs⟩
    rw [fn_X18_root_L27, (rl.fr h.1).1.1, if_pos ((nI_leW (by omega) (by omega)).mpr (Nat.le_refl _))]
  | succ m ih =>
    intro i g z1 S h1 h2 h hs
    obtain ⟨g, rfl⟩ : ∃ q, g = q + 1 := ⟨g - 1, by omega⟩
    have l1 : Lay sh n z1 := hL.of h.1.1
    have r1 := rl.fr h.1
    obtain ⟨p1, p2, p3⟩ := r1.1.2.2 i (by omega)
    obtain ⟨y1, a1, w1, _⟩ := h.2.2.2.1.add (F := F) (by simp) (x := 1) (c := 1) rfl
    obtain ⟨y2, a2, w2, _⟩ := w1.num (F := F) (c := 8) (by omega) (by omega) (by simp) (ac i).1
    obtain ⟨y3, a3, f3, v3, w3⟩ := kfo_t (F := F) (by omega) l1 w2 (by simp [nB_len]) (kd := 421) (by decide) rfl (by decide)
    have l3 : Lay sh n y3 := l1.of f3.1
    obtain ⟨y4, a4, w4, _⟩ := w3.num (F := F) (c := 8) (by omega) (by omega) (by simp) (ac i).2.1
    obtain ⟨y5, a5, w5, _⟩ := w4.num (F := F) (c := 8) (by omega) (by omega) (by simp [nB_len]) (ac i).2.2
    obtain ⟨y6, a6, f6, v6, w6⟩ := kfo_t (F := F) (by omega) l3 w5 (by simp [nB_len]) (kd := 422) (by decide) rfl (by decide)
    have l6 : Lay sh n y6 := l3.of f6.1
    obtain ⟨z', S', b1, b2, b3⟩ := rt_put (F := F) (x := plA (ac i)) (by omega) hL h (by omega) f3 f6 ⟨by show 1 ≤ 3; omega, by show 0 < 2 ^ 24; omega, fun _ => rfl⟩ v3 v6 w6
    obtain ⟨z2, S2, c1, c2⟩ := ih (i + 1) g z' S' (by omega) (by omega) (b2.imp (fun x => ⟨fun q => by
      rcases q with ⟨j, q1, q2⟩ | q
      · exact ⟨j, by omega, q2⟩
      · exact ⟨i, by omega, q⟩, fun ⟨j, q1, q2⟩ => by
      by_cases w : j = i
      · subst w; exact .inr q2
      · exact .inl ⟨j, by omega, q2⟩⟩)) (by omega)
    refine ⟨z2, S2, ?_, c2⟩
    have oi : okI (nI i) 256 = true := okI_nI (by omega) (by omega)
    have ci : (nI i).toNatClampNeg = i := nI_clamp (by omega)
    have q1 := w1.lay l1
    have q2 := w2.lay l1
    have q4 := w4.lay l3
    have q5 := w5.lay l3
    have e8 : (8 : Int32) = nI 8 := rfl
    have pt : fn_X14_put F sh n y6 376 421 422 1 (ac i).1 0 = some (z', ()) := b1
    have d338 : y6.2.1 338 i = (ac i).1 := by rw [f6.2.2.2 338 (by decide) (by decide) (by decide), f3.2.2.2 338 (by decide) (by decide) (by decide)]; exact p1
    have d340 : y4.2.1 340 i = (ac i).2.2 := by rw [w4.2.1, f3.2.2.2 340 (by decide) (by decide) (by decide)]; exact p3
    have d339 : y3.2.1 339 i = (ac i).2.1 := by rw [f3.2.2.2 339 (by decide) (by decide) (by decide)]; exact p2
    have d1 : y1.2.1 338 i = (ac i).1 := by rw [w1.2.1]; exact p1
    rw [fn_X18_root_L27, r1.1.1, if_neg (fun e => by have := (nI_leW (a := nc) (b := i) (by omega) (by omega)).mp e; omega), l1.2.2 337 18 372 rfl, lnk_s, (b_digr l1).1, grd_true, a1, cal_s, q1.2.2 337 18 372 rfl, lnk_s, q1.2.2 337 0 338 rfl, lnk_s, lay_a l1 338 102 256 (by decide) rfl, oi, grd_true, (b_digr q1).1, grd_true, ci, d1, e8, a2, cal_s, q2.2.2 337 76 421 rfl, lnk_s, a3, cal_s, l3.2.2 337 18 372 rfl, lnk_s, l3.2.2 337 1 339 rfl, lnk_s, lay_a l1 339 102 256 (by decide) rfl, oi, grd_true, (b_digr l3).1, grd_true, d339, a4, cal_s, q4.2.2 337 18 372 rfl, lnk_s, q4.2.2 337 2 340 rfl, lnk_s, lay_a l1 340 102 256 (by decide) rfl, oi, grd_true, (b_digr q4).1, grd_true, d340, a5, cal_s, q5.2.2 337 77 422 rfl, lnk_s, a6, cal_s, l6.2.2 337 19 376 rfl, lnk_s, l6.2.2 337 76 421 rfl, lnk_s, l6.2.2 337 77 422 rfl, lnk_s, l6.2.2 337 0 338 rfl, lnk_s, lay_a l1 338 102 256 (by decide) rfl, oi, grd_true, (b_roots l6).1, grd_true, d338, pt, cal_s, nI_1]
    exact c1
/-- the reference's modules as bytes -/
def MdR (sh : Nat → Nat × Nat) (n : Nat) (z : St) (wc : Nat) (bs : Nat → Nat × (Nat → Nat)) : Prop := ∀ i, 1 ≤ i → i ≤ wc → UB sh n z (423 + 9 * i) (bs i).2 (bs i).1 ∧ 6 ≤ (bs i).1
theorem UB.frr {z' : St} {ku len : Nat} {b : Nat → Nat} (h : UB sh n z ku b len) (f : FRr z z') : UB sh n z' ku b len := by
  obtain ⟨a1, ⟨i, hi, e⟩, a3, a4, a5⟩ := h
  refine ⟨a1.of f.1, ⟨i, hi, e⟩, by rw [f.2.1 ku (by omega) (by omega)]; exact a3, a4, fun p hp => by rw [f.2.1 (ku + 1) (by omega) (by omega)]; exact a5 p hp⟩
theorem rt_179 (hF : 2400 ≤ F) (hL : Lay sh n z) {i : Nat} (hi : i < 9) {b : Nat → Nat} {len : Nat} (u : UB sh n z (423 + 9 * i) b len) {ko : St → Int32 → Option (St × Int64)} : ∀ r p g z1, p + r = len → r < g → WBm sh n z z1 ((List.range p).map (fun p => nI (b p))) → ∃ z2 g', fn_X18_root_L179 F sh n 337 (nI i) ko g z1 (nI p) = fn_X18_root_L179 F sh n 337 (nI i) ko (g' + 1) z2 (nI len) ∧ WBm sh n z z2 ((List.range len).map (fun p => nI (b p))) := by
  have l48 := u.2.2.2.1
  intro r
  induction r with
  | zero =>
    intro p g z1 h1 h2 W
    obtain ⟨g, rfl⟩ : ∃ q, g = q + 1 := ⟨g - 1, by omega⟩
    have e : p = len := by omega
    subst e
    exact ⟨z1, g, rfl, W⟩
  | succ r ih =>
    intro p g z1 h1 h2 W
    obtain ⟨g, rfl⟩ : ∃ q, g = q + 1 := ⟨g - 1, by omega⟩
    have l1 := W.lay hL
    obtain ⟨v1, v2⟩ := u.2.2.2.2 p (by omega)
    have ex : z1.1 (423 + 9 * i + 1) p &&& 255 = nI (b p) := by rw [W.2.2.1 _ (by omega) (by omega) (by omega)]; exact v1
    obtain ⟨z2, a1, w1, _⟩ := W.add (F := F) (by rw [List.length_map, List.length_range]; omega) (x := z1.1 (423 + 9 * i + 1) p) (c := nI (b p)) (by rw [ex, and_m (by omega), Nat.mod_eq_of_lt v2])
    obtain ⟨z3, g', c1, c2⟩ := ih (p + 1) g z2 (by omega) (by omega) (by rw [List.range_succ, List.map_append]; exact w1)
    refine ⟨z3, g', ?_, c2⟩
    obtain ⟨bu1, bu2⟩ := b_units l1 (i := i) (by omega)
    have U := b_unit l1 bu2
    have o10 : okI (nI i) 10 = true := okI_nI (by omega) (by omega)
    have ci : (nI i).toNatClampNeg = i := nI_clamp (by omega)
    rw [fn_X18_root_L179, l1.2.2 337 4 341 rfl, lnk_s, b_units_a l1, o10, grd_true, ci, bu1, lnk_s, U.1, grd_true, W.2.2.1 (423 + 9 * i) (by omega) (by omega) (by omega), u.2.2.1, if_neg (fun e => by have := (nI_leW (a := len) (b := p) (by omega) (by omega)).mp e; omega), l1.2.2 337 18 372 rfl, lnk_s, lnk_s, b_units_a l1, o10, grd_true, bu1, lnk_s, U.1, grd_true, U.2.1, lnk_s, U.2.2.2.2.2.2.2.2.2.1, okI_nI (by omega) (by omega), grd_true, (b_digr l1).1, grd_true, nI_clamp (by omega), a1, cal_s, nI_1]
    exact c1
theorem rt_135 (hF : 2400 ≤ F) (hL : Lay sh n z0) (hw : wc ≤ 8) (h5 : z0.1 337 5 = nI wc) (mr : MdR sh n z0 wc bs) (hc : nc + wc ≤ 256) : ∀ m i g z1 S, i + m = wc + 1 → 1 ≤ i → m < g → RTs sh n z0 z1 S (fun x => P x ∨ ∃ j, 1 ≤ j ∧ j < i ∧ x = pcM (bs j)) → S.length + 1 ≤ nc + i → ∃ z2 S2, fn_X18_root_L135 F sh n 337 x0 g z1 (nI i) = fn_X18_root_L258 F sh n 337 x0 F z2 0 ∧ RTs sh n z0 z2 S2 (fun x => P x ∨ ∃ j, 1 ≤ j ∧ j ≤ wc ∧ x = pcM (bs j)) ∧ S2.length ≤ nc + wc := by
  intro m
  induction m with
  | zero =>
    intro i g z1 S h1 hi h2 h hs
    obtain ⟨g, rfl⟩ : ∃ q, g = q + 1 := ⟨g - 1, by omega⟩
    refine ⟨z1, S, ?_, h.imp (fun x => ⟨fun q => q.imp id (fun ⟨j, a, b, c⟩ => ⟨j, a, by omega, c⟩), fun q => q.imp id (fun ⟨j, a, b, c⟩ => ⟨j, a, by omega, c⟩)⟩), by omega⟩
    rw [fn_X18_root_L135, h.1.2.2.1 5 (by decide), h5, if_pos ((nI_ltW (by omega) (by omega)).mpr (by omega))]
  | succ m ih =>
    intro i g z1 S h1 hi h2 h hs
    obtain ⟨g, rfl⟩ : ∃ q, g = q + 1 := ⟨g - 1, by omega⟩
    have l1 : Lay sh n z1 := hL.of h.1.1
    obtain ⟨u0, u6⟩ := mr i hi (by omega)
    have u1 := u0.frr h.1
    have m16 : 256 * (bs i).2 4 + (bs i).2 5 < 65536 := by
      have := (u0.2.2.2.2 4 (by omega)).2
      have := (u0.2.2.2.2 5 (by omega)).2
      omega
    obtain ⟨y1, a1, w1, _⟩ := h.2.2.2.1.add (F := F) (by simp) (x := 2) (c := 2) rfl
    have l48 := u0.2.2.2.1
    have q1 := w1.lay l1
    have uw : ∀ (bz y : St) (l : List Int32), UB sh n bz (423 + 9 * i) (bs i).2 (bs i).1 → WBm sh n bz y l → UB sh n y (423 + 9 * i) (bs i).2 (bs i).1 := fun bz y l u w => ⟨w.lay u.1, u.2.1, by rw [w.2.2.1 _ (by omega) (by omega) (by omega)]; exact u.2.2.1, u.2.2.2.1, fun p hp => by rw [w.2.2.1 _ (by omega) (by omega) (by omega)]; exact u.2.2.2.2 p hp⟩
    obtain ⟨y2, a2, w2, _⟩ := w1.num (F := F) (c := 2) (by omega) (by omega) (by simp) (lN (256 * (bs i).2 4 + (bs i).2 5))
    obtain ⟨y3, a3, f3, v3, w3⟩ := kfo_t (F := F) (by omega) l1 w2 (by simp [nB_len]) (kd := 421) (by decide) rfl (by decide)
    have l3 : Lay sh n y3 := l1.of f3.1
    have u3 := u1.frr (f3.fr (.inl rfl))
    obtain ⟨y5, g', a5, w5⟩ := rt_179 (F := F) (ko := fun z9 q2 => fn_X18_root_L135 F sh n 337 x0 g z9 q2) hF l3 (i := i) (by omega) u3 (bs i).1 0 F y3 (by omega) (by omega) w3
    obtain ⟨y6, a6, f6, v6, w6⟩ := kfo_t (F := F) (by omega) l3 w5 (by rw [List.length_map, List.length_range]; omega) (kd := 422) (by decide) rfl (by decide)
    have l6 : Lay sh n y6 := l3.of f6.1
    have rm : rnm (pcM (bs i)) = 256 * (bs i).2 4 + (bs i).2 5 := by
      show 256 * (256 * (bs i).2 4 + (bs i).2 5) / 256 = _
      omega
    obtain ⟨z', S', b1, b2, b3⟩ := rt_put (F := F) (x := pcM (bs i)) (by omega) hL h (by omega) f3 f6 ⟨by show 2 ≤ 3; omega, by show 256 * _ < 2 ^ 24; omega, fun _ => by show 256 * _ % 256 = 0; omega⟩ v3 v6 w6
    rw [rm] at b1
    obtain ⟨z2, S2, c1, c2⟩ := ih (i + 1) g z' S' (by omega) (by omega) (by omega) (b2.imp (fun x => ⟨fun q => by
      rcases q with (q | ⟨j, q1, q2, q3⟩) | q
      · exact .inl q
      · exact .inr ⟨j, q1, by omega, q3⟩
      · exact .inr ⟨i, hi, by omega, q⟩, fun q => by
      rcases q with q | ⟨j, q1, q2, q3⟩
      · exact .inl (.inl q)
      · by_cases w : j = i
        · subst w; exact .inr q3
        · exact .inl (.inr ⟨j, q1, by omega, q3⟩)⟩)) (by omega)
    refine ⟨z2, S2, ?_, c2⟩
    have q2 := w2.lay l1
    have q5 := w5.lay l3
    obtain ⟨bu1, bu2⟩ := b_units q1 (i := i) (by omega)
    have o10 : okI (nI i) 10 = true := okI_nI (by omega) (by omega)
    have ci : (nI i).toNatClampNeg = i := nI_clamp (by omega)
    have nm1 : fn_X16_number F sh n y1 (423 + 9 * i) = some (y1, nI (256 * (bs i).2 4 + (bs i).2 5)) := (uw z1 y1 _ u1 w1).number u6
    have nm6 : fn_X16_number F sh n y6 (423 + 9 * i) = some (y6, nI (256 * (bs i).2 4 + (bs i).2 5)) := (u3.frr (f6.fr (.inr rfl))).number u6
    have pt : fn_X14_put F sh n y6 376 421 422 2 0 (nI (256 * (bs i).2 4 + (bs i).2 5)) = some (z', ()) := b1
    rw [fn_X18_root_L135, h.1.2.2.1 5 (by decide), h5, if_neg (fun e => by have := (nI_ltW (a := wc) (b := i) (by omega) (by omega)).mp e; omega), l1.2.2 337 18 372 rfl, lnk_s, (b_digr l1).1, grd_true, a1, cal_s, q1.2.2 337 18 372 rfl, lnk_s, q1.2.2 337 4 341 rfl, lnk_s, b_units_a l1, o10, grd_true, ci, bu1, lnk_s, (b_unit q1 bu2).1, grd_true, nm1, cal_s, (b_digr q1).1, grd_true, nI_l (by omega), show (2 : Int32) = nI 2 from rfl, a2, cal_s, q2.2.2 337 76 421 rfl, lnk_s, a3, cal_s]
    refine Eq.trans a5 ?_
    rw [fn_X18_root_L179, q5.2.2 337 4 341 rfl, lnk_s, b_units_a l1, o10, grd_true, ci, (b_units q5 (i := i) (by omega)).1, lnk_s, (b_unit q5 bu2).1, grd_true, (uw y3 y5 _ u3 w5).2.2.1, if_pos ((nI_leW (by omega) (by omega)).mpr (Nat.le_refl _)), q5.2.2 337 77 422 rfl, lnk_s, a6, cal_s, l6.2.2 337 19 376 rfl, lnk_s, l6.2.2 337 76 421 rfl, lnk_s, l6.2.2 337 77 422 rfl, lnk_s, l6.2.2 337 4 341 rfl, lnk_s, b_units_a l1, o10, grd_true, (b_units l6 (i := i) (by omega)).1, lnk_s, (b_unit l6 bu2).1, grd_true, nm6, cal_s, (b_roots l6).1, grd_true, pt, cal_s, nI_1]
    exact c1
theorem rt_258 (hF : 2400 ≤ F) (hL : Lay sh n z0) (rl : RLg z0 nc ac nr rs) (hlf : ∀ i, i < nr → ∀ w, w < (rs i).2.2.2 → ((rs i).2.2.1 w).1 ≤ 5 → kds (rs i).2.2.1 w = []) (hk : ∀ i, i < nr → (rs i).2.1 < 2 ^ 24) {c0 : Nat} (hc : c0 + nr ≤ 256) : ∀ m i g z1 S, i + m = nr → m < g → RTs sh n z0 z1 S (fun x => P x ∨ ∃ j, j < i ∧ x = pcR (rs j)) → S.length ≤ c0 + i → ∃ z2 S2, fn_X18_root_L258 F sh n 337 x0 g z1 (nI i) = lnk (z2.2.2 337 19) (fun k_24 => grd (okO sh n k_24 14) (cal (fn_X14_all F sh n z2 k_24) (fun z_25 _ => lnk (z_25.2.2 337 19) (fun k_28 => grd (okO sh n k_28 14) (cal (fn_X14_get F sh n z_25 k_28 x0) (fun z_29 r_30 => some (z_29, r_30))))))) ∧ RTs sh n z0 z2 S2 (fun x => P x ∨ ∃ j, j < nr ∧ x = pcR (rs j)) := by
  intro m
  induction m with
  | zero =>
    intro i g z1 S h1 h2 h hs
    obtain ⟨g, rfl⟩ : ∃ q, g = q + 1 := ⟨g - 1, by omega⟩
    have e : i = nr := by omega
    subst e
    refine ⟨z1, S, ?_, h⟩
    rw [fn_X18_root_L258, (rl.fr h.1).2.1, if_pos ((nI_leW (by omega) (by omega)).mpr (Nat.le_refl _))]
  | succ m ih =>
    intro i g z1 S h1 h2 h hs
    obtain ⟨g, rfl⟩ : ∃ q, g = q + 1 := ⟨g - 1, by omega⟩
    have l1 : Lay sh n z1 := hL.of h.1.1
    have r1 := rl.fr h.1
    obtain ⟨p1, p2, p3, p4, p5, p6⟩ := r1.2.2.2 i (by omega)
    have k24 := hk i (by omega)
    obtain ⟨y0, a0, w0, _⟩ := h.2.2.2.1.add (F := F) (by simp) (x := 3) (c := 3) rfl
    obtain ⟨y1, a1, w1, _⟩ := w0.num (F := F) (c := 8) (by omega) (by omega) (by simp) (rs i).1
    obtain ⟨y2, a2, w2, _⟩ := w1.num (F := F) (c := 3) (by omega) (by omega) (by simp [nB_len]) (lN (rs i).2.1)
    obtain ⟨y3, a3, f3, v3, w3⟩ := kfo_t (F := F) (by omega) l1 w2 (by simp [nB_len]) (kd := 421) (by decide) rfl (by decide)
    have l3 : Lay sh n y3 := l1.of f3.1
    have r3 := r1.fr (f3.fr (.inl rfl))
    obtain ⟨y4, a4, w4⟩ := addBytes_t (F := F) (by omega) l3 (i := i) (by omega) (r3.2.2.2 i (by omega)).2.2.2.2.2 p5 p4 (hlf i (by omega)) w3 (by simp)
    rw [List.nil_append] at w4
    have ll := rL_fB (rs i).2.2.1 (rs i).2.2.2 0
    obtain ⟨y6, a6, f6, v6, w6⟩ := kfo_t (F := F) (by omega) l3 w4 (by omega) (kd := 422) (by decide) rfl (by decide)
    have l6 : Lay sh n y6 := l3.of f6.1
    have r6 := r3.fr (f6.fr (.inr rfl))
    obtain ⟨z', S', b1, b2, b3⟩ := rt_put (F := F) (x := pcR (rs i)) (by omega) hL h (by omega) f3 f6 ⟨by show 3 ≤ 3; omega, k24, fun w => absurd w (by show ¬ 3 = 2; omega)⟩ (fun k hk => by
      rw [v3 k hk]
      show hB ([] ++ [3] ++ nB (rs i).1 8 ++ nB (lN (rs i).2.1) 3) k = hB (3 :: (nB (rs i).1 8 ++ nB (lN (rs i).2.1) 3)) k
      rw [show ([] ++ [3] ++ nB (rs i).1 8 ++ nB (lN (rs i).2.1) 3 : List Int32) = 3 :: (nB (rs i).1 8 ++ nB (lN (rs i).2.1) 3) from by simp]) v6 w6
    obtain ⟨z2, S2, c1, c2⟩ := ih (i + 1) g z' S' (by omega) (by omega) (b2.imp (fun x => ⟨fun q => by
      rcases q with (q | ⟨j, q1, q2⟩) | q
      · exact .inl q
      · exact .inr ⟨j, by omega, q2⟩
      · exact .inr ⟨i, by omega, q⟩, fun q => by
      rcases q with q | ⟨j, q1, q2⟩
      · exact .inl (.inl q)
      · by_cases w : j = i
        · subst w; exact .inr q2
        · exact .inl (.inr ⟨j, by omega, q2⟩)⟩)) (by omega)
    refine ⟨z2, S2, ?_, c2⟩
    have oi : okI (nI i) 256 = true := okI_nI (by omega) (by omega)
    have ci : (nI i).toNatClampNeg = i := nI_clamp (by omega)
    have q0 := w0.lay l1
    have q1 := w1.lay l1
    have q2 := w2.lay l1
    have q4 := w4.lay l3
    have pt : fn_X14_put F sh n y6 376 421 422 3 (rs i).1 (nI (rs i).2.1) = some (z', ()) := b1
    have d1 : y0.2.1 343 i = (rs i).1 := by rw [w0.2.1]; exact p1
    have d2 : y1.1 344 i = nI (rs i).2.1 := by rw [w1.2.2.1 344 (by decide) (by decide) (by decide)]; exact p2
    have d3 := (r6.2.2.2 i (by omega)).1
    have d4 := (r6.2.2.2 i (by omega)).2.1
    rw [fn_X18_root_L258, r1.2.1, if_neg (fun e => by have := (nI_leW (a := nr) (b := i) (by omega) (by omega)).mp e; omega), l1.2.2 337 18 372 rfl, lnk_s, (b_digr l1).1, grd_true, a0, cal_s, q0.2.2 337 18 372 rfl, lnk_s, q0.2.2 337 7 343 rfl, lnk_s, lay_a l1 343 102 256 (by decide) rfl, oi, grd_true, (b_digr q0).1, grd_true, ci, d1, show (8 : Int32) = nI 8 from rfl, a1, cal_s, q1.2.2 337 18 372 rfl, lnk_s, q1.2.2 337 8 344 rfl, lnk_s, lay_a l1 344 101 256 (by decide) rfl, oi, grd_true, (b_digr q1).1, grd_true, d2, nI_l (by omega), show (3 : Int32) = nI 3 from rfl, a2, cal_s, q2.2.2 337 76 421 rfl, lnk_s, a3, cal_s, a4, cal_s, q4.2.2 337 77 422 rfl, lnk_s, a6, cal_s, l6.2.2 337 19 376 rfl, lnk_s, l6.2.2 337 76 421 rfl, lnk_s, l6.2.2 337 77 422 rfl, lnk_s, l6.2.2 337 7 343 rfl, lnk_s, lay_a l1 343 102 256 (by decide) rfl, oi, grd_true, l6.2.2 337 8 344 rfl, lnk_s, lay_a l1 344 101 256 (by decide) rfl, oi, grd_true, (b_roots l6).1, grd_true, d3, d4, show (nI 3 : Int32) = 3 from rfl, pt, cal_s, nI_1]
    exact c1
/-- the reference's root -/
theorem ref_root (hF : 2400 ≤ F) (hL : Lay sh n z) (rl : RLg z nc ac nr rs) (hw : wc ≤ 8) (h5 : z.1 337 5 = nI wc) (mr : MdR sh n z wc bs) (hlf : ∀ i, i < nr → ∀ w, w < (rs i).2.2.2 → ((rs i).2.2.1 w).1 ≤ 5 → kds (rs i).2.2.1 w = []) (hk : ∀ i, i < nr → (rs i).2.1 < 2 ^ 24) (hc : nc + wc + nr ≤ 256) {Pl : List Plc} (hP : ∀ x, (((∃ j, j < nc ∧ x = plA (ac j)) ∨ ∃ j, 1 ≤ j ∧ j ≤ wc ∧ x = pcM (bs j)) ∨ ∃ j, j < nr ∧ x = pcR (rs j)) ↔ x ∈ Pl) {j : Nat} (hj : j < 4) : ∃ z' S, fn_X18_root F sh n z 337 (nI j) = some (z', trD ndH lfP 256 S j) ∧ FRr z z' ∧ SrP Pl S := by
  have l5 : Lay sh n (si z 376 5 0) := hL.of rfl
  obtain ⟨z1, a1, w1⟩ := wm_beg (F := F) l5
  have f1 : FRr z z1 := ⟨by rw [w1.2.1]; rfl, fun k a b => by rw [w1.2.2.1 k a (by omega) (by omega), si_ok (by omega)], fun q hq => by rw [w1.2.2.2 q hq, si_ok (by decide)], fun k _ _ _ => by rw [w1.2.1]; rfl⟩
  have R1 : RTs sh n z z1 [] (fun x => ∃ j, j < 0 ∧ x = plA (ac j)) := ⟨f1, ⟨by rw [w1.2.2.1 376 (by decide) (by decide) (by decide)]; exact si_ss, by simp, fun i x hx => absurd hx (by simp)⟩, ⟨List.Pairwise.nil, fun x hx => absurd hx (by simp), fun y ⟨q, hq, _⟩ => absurd hq (by omega)⟩, ⟨w1.1, rfl, fun _ _ _ _ => rfl, fun _ _ => rfl⟩, fun y ⟨q, hq, _⟩ => absurd hq (by omega)⟩
  obtain ⟨z2, S2, b1, b2, b3⟩ := rt_27 (F := F) (x0 := nI j) hF hL rl nc 0 F z1 [] (by omega) (by have := rl.1.2.1; omega) R1 (by simp)
  obtain ⟨z3, S3, c1, c2, c3⟩ := rt_135 (F := F) (x0 := nI j) (nc := nc) hF hL hw h5 mr (by omega) wc 1 F z2 S2 (by omega) (by omega) (by omega) (b2.imp (fun x => ⟨.inl, fun q => by
    rcases q with q | ⟨j, q1, q2, _⟩
    · exact q
    · omega⟩)) (by omega)
  obtain ⟨z4, S4, d1, d2⟩ := rt_258 (F := F) (x0 := nI j) (c0 := nc + wc) hF hL rl hlf hk (by omega) nr 0 F z3 S3 (by omega) (by omega) (c2.imp (fun x => ⟨.inl, fun q => by
    rcases q with q | ⟨j, q1, _⟩
    · exact q
    · omega⟩)) (by omega)
  have l4 : Lay sh n z4 := hL.of d2.1.1
  obtain ⟨z6, e1, e2, e3⟩ := all_t (F := F) (by omega) l4 d2.2.1 d2.2.2.1.1
  have l6 : Lay sh n z6 := l4.of e2.1
  refine ⟨z6, S4, ?_, d2.1.trans e2.fr, d2.2.2.1.p hP⟩
  have gt : fn_X14_get F sh n z6 376 (nI j) = some (z6, trD ndH lfP 256 S4 j) := by
    unfold fn_X14_get
    rw [(b_roots l6).1, grd_true, e2.2.2.2.2 5 (by decide), d2.2.1.1]
    by_cases c : S4 = []
    · rw [c, if_pos (show nI ([] : List Plc).length = 0 from rfl), trD_n]
    · have l256 := d2.2.1.2.1
      rw [if_neg (fun w => by
        have := nI_uq (b := 0) w (by omega) (by omega)
        exact c (List.eq_nil_of_length_eq_zero this)), l6.2.2 376 6 382 rfl, lnk_s, lay_a l6 382 102 1024 (by decide) rfl, okI_nI (by omega) (by omega), grd_true, nI_clamp (by omega), e3 c j hj]
  unfold fn_X18_root
  rw [if_neg (nI_pos (by omega)), if_pos (show nI j ≤ 3 from (nI_leW (b := 3) (by omega) (by omega)).mpr (by omega)), (b_model hL).1, grd_true, hL.2.2 337 19 376 rfl, lnk_s, (b_roots hL).1, grd_true]
  unfold fn_X14_begin
  rw [(b_roots hL).1, grd_true, lt_t, cal_s, l5.2.2 337 18 372 rfl, lnk_s, (b_digr l5).1, grd_true, a1, cal_s, show (0 : Int32) = nI 0 from rfl, b1, show (1 : Int32) = nI 1 from rfl, c1, show (0 : Int32) = nI 0 from rfl, d1, l4.2.2 337 19 376 rfl, lnk_s, (b_roots l4).1, grd_true, e1, cal_s, l6.2.2 337 19 376 rfl, lnk_s, (b_roots l6).1, grd_true, gt, cal_s]
end
