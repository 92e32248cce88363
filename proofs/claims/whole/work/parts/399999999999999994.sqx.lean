/-! THE REFERENCE'S UNIT: judging as a whole -/
def jIs (b : Nat → Nat) (own all : Nat) (fds : Nat → Nat) (fns els loc many : Nat) : List Nat → Flt
  | [] => none
  | p :: ps => orE (jIn b own all fds fns els loc many p) (jIs b own all fds fns els loc many ps)
def jGp (b : Nat → Nat) (own all : Nat) (fds : Nat → Nat) (fns els : Nat) (g : GP) : Flt := orE (orE (orE (jTs all (g.1 + 2) g.2.2.1) (jTs all (endL (g.1 + 2) g.2.2.1 + 1) g.2.2.2.1)) (jTs all (endL (endL (g.1 + 2) g.2.2.1 + 1) g.2.2.2.1 + 1) g.2.2.2.2.1)) (jIs b own all fds fns els (g.2.2.1.length + g.2.2.2.2.1.length) g.2.2.2.2.2.length g.2.2.2.2.2)
def jGs (b : Nat → Nat) (own all : Nat) (fds : Nat → Nat) (fns els : Nat) : List GP → Flt
  | [] => none
  | g :: gs => orE (jGp b own all fds fns els g) (jGs b own all fds fns els gs)
def fdM (M : MP) (k : Nat) : Nat := (M.1.getD k dSP).2.2.length
/-- a picture is judged -/
def jM (b : Nat → Nat) (M : MP) : Flt := orE (orE (orE (jSs (M.1.length + M.2.1.length) M.1) (jCs (M.1.length + M.2.1.length) M.2.2.1)) (jEs (M.1.length + M.2.1.length) M.2.2.2.1)) (jGs b M.1.length (M.1.length + M.2.1.length) (fdM M) (M.2.2.2.2.length + M.2.2.1.length) M.2.2.2.1.length M.2.2.2.2)
section
variable {F n : Nat} {sh : Nat → Nat × Nat} {z0 z z' : St} {ku len : Nat} {b : Nat → Nat} {M : MP} {r : Flt}
theorem UM.manyIn (hF : 300 ≤ F) (h : UM sh n z ku b len M) {f l : Nat} (hf : f < M.2.2.2.2.length) (hl : l ≤ 2) : fn_X16_manyIn F sh n z ku (nI f) (nI l) = some (z, nI (lsOf (mdOf b M) f l).length) := by
  have l64 := h.2.2.2.2.2.2.1
  have e9 := h.2.1.2.2.2.2.2.2.2.2.1
  have g := h.lst (f := f) (l := l) (by omega) hl (fun c => absurd hf c)
  have lo := h.listOf (F := F) hF (f := f) (l := l) (by omega) hl (fun c => absurd hf c)
  unfold fn_X16_listOf at lo
  rw [h.1.o, grd_true, e9, if_neg (fun x => by have := (nI_leI (by omega) (by omega)).mp x; omega)] at lo
  have la : fn_X16_listAt F sh n z ku (nI f) (nI l) = some (z, nI (lsAt M f l)) := by
    cases e : fn_X16_listAt F sh n z ku (nI f) (nI l) with
    | none => rw [e] at lo; cases lo
    | some x => rw [e, cal_s] at lo; exact lo
  unfold fn_X16_manyIn
  rw [h.1.o, grd_true, la, cal_s, h.1.byte g.1, cal_s, g.2.1]
theorem JS.lkI (h : UM sh n z0 ku b len M) (hA : (allC M.2.2.2.2).length ≤ len) {f loc : Nat} (hf : f < M.2.2.2.2.length) (hl : loc < 65536) {K : St → Int32 → Option (St × Unit)} : ∀ m k g z r, k + m = (M.2.2.2.2.getD f dGP).2.2.2.2.2.length → m < g → JS ku z0 z r → ∃ z', fn_X16_lookAll_L188 F sh n ku (nI f) (nI loc) K g z (nI (offC M.2.2.2.2 f + k)) = K z' (nI f + 1) ∧ JS ku z0 z' (orE r (jIs b M.1.length (M.1.length + M.2.1.length) (fdM M) (M.2.2.2.2.length + M.2.2.1.length) M.2.2.2.1.length loc (M.2.2.2.2.getD f dGP).2.2.2.2.2.length ((M.2.2.2.2.getD f dGP).2.2.2.2.2.drop k))) := by
  have l8 := h.1.2.2.2.1
  have l64 := h.2.2.2.2.2.2.1
  obtain ⟨o1, o2, o3⟩ := offC_s M.2.2.2.2 hf
  intro m
  induction m with
  | zero =>
    intro k g z r ek hg j
    obtain ⟨g, rfl⟩ : ∃ q, g = q + 1 := ⟨g - 1, by omega⟩
    have um := JS.um h j
    obtain ⟨u0, u1, _, _, _, _, u6, u7, _, _, _, _, _, _, u14, u15, _⟩ := b_unit um.1.1 um.1.2.1
    have ok6' : okA sh n (ku + 6) 101 (nI (f + 1)) = true := by rw [u14]; exact okI_nI (by omega) (by omega)
    have t3 := (um.2.1.2.2.2.2.2.2.2.2.2.2 f hf).2.2
    unfold fn_X16_lookAll_L188 fn_X16_lookAll_B239
    rw [u6, lnk_s, nI_1, ok6', grd_true, nI_clamp (by omega), t3, if_pos ((nI_leI (by omega) (by omega)).mpr (by omega)), List.drop_eq_nil_of_le (by omega)]
    refine ⟨z, rfl, ?_⟩
    show JS ku z0 z (orE r none)
    rw [orE_n]; exact j
  | succ m ih =>
    intro k g z r ek hg j
    obtain ⟨g, rfl⟩ : ∃ q, g = q + 1 := ⟨g - 1, by omega⟩
    have um := JS.um h j
    obtain ⟨u0, u1, _, _, _, _, u6, u7, _, _, _, _, _, _, u14, u15, _⟩ := b_unit um.1.1 um.1.2.1
    have hk : k < (M.2.2.2.2.getD f dGP).2.2.2.2.2.length := by omega
    have ok6 : okA sh n (ku + 6) 101 (nI f) = true := by rw [u14]; exact okI_nI (by omega) (by omega)
    have ok6' : okA sh n (ku + 6) 101 (nI (f + 1)) = true := by rw [u14]; exact okI_nI (by omega) (by omega)
    have ok7 : okA sh n (ku + 7) 101 (nI (offC M.2.2.2.2 f + k)) = true := by rw [u15]; exact okI_nI (by omega) (by omega)
    obtain ⟨_, t2, t3⟩ := um.2.1.2.2.2.2.2.2.2.2.2.2 f hf
    have rowp : z.1 (ku + 7) (offC M.2.2.2.2 f + k) = nI ((M.2.2.2.2.getD f dGP).2.2.2.2.2.getD k 0) := by rw [um.2.1.2.2.2.2.2.2.2.2.2.1.2 _ (by omega), o3 k hk]
    have gp := um.2.2.2.2.2.2.2 _ (getD_m (d := dGP) hf)
    have ip : InP b len ((M.2.2.2.2.getD f dGP).2.2.2.2.2.getD k 0) := gp.2.2.2.2.2.2.2 _ (getD_m hk)
    have ml := gp.2.2.2.2.2.2.1.2
    conv => enter [1, z', 1, 1]; unfold fn_X16_lookAll_L188
    unfold fn_X16_lookAll_B239
    rw [u6, lnk_s, nI_1, ok6', grd_true, nI_clamp (by omega), t3, if_neg (fun x => by have := (nI_leI (by omega) (by omega)).mp x; omega), j.good h, cal_s]
    cases r with
    | some e => rw [if_pos (show bI (some e).isNone = 0 from rfl)]; exact ⟨z, rfl, j⟩
    | none =>
      obtain ⟨z2, s1, s2⟩ := j.lookIn (F := F) h (p := (M.2.2.2.2.getD f dGP).2.2.2.2.2.getD k 0) (loc := loc) (many := (M.2.2.2.2.getD f dGP).2.2.2.2.2.length) ip hl (by omega)
      obtain ⟨z3, w1, w2⟩ := ih (k + 1) g z2 _ (by omega) (by omega) s2
      have es : nI (offC M.2.2.2.2 (f + 1)) - nI (offC M.2.2.2.2 f) = nI (M.2.2.2.2.getD f dGP).2.2.2.2.2.length := by rw [pk_sub (by omega), o1, Nat.add_sub_cancel_left]
      rw [if_neg (show ¬ bI (none : Flt).isNone = 0 from one0), u7, lnk_s, ok7, grd_true, u6, lnk_s, ok6', grd_true, lnk_s, ok6, grd_true, nI_clamp (show offC M.2.2.2.2 f + k < 2 ^ 31 by omega), nI_clamp (show f < 2 ^ 31 by omega), rowp, t3, t2, es, s1, cal_s, nI_1, show offC M.2.2.2.2 f + k + 1 = offC M.2.2.2.2 f + (k + 1) by omega, w1]
      refine ⟨z3, by rw [nI_1], ?_⟩
      rw [drop_d (d := 0) hk]
      exact w2
end
section
variable {F n : Nat} {sh : Nat → Nat × Nat} {z0 z z' : St} {ku len : Nat} {b : Nat → Nat} {M : MP} {r : Flt}
theorem JS.lkG (hF : 1100 ≤ F) (h : UM sh n z0 ku b len M) (hA : (allC M.2.2.2.2).length ≤ len) : ∀ m k g z r, k + m = M.2.2.2.2.length → m < g → JS ku z0 z r → ∃ z', fn_X16_lookAll_L131 F sh n ku g z (nI k) = some (z', ()) ∧ JS ku z0 z' (orE r (jGs b M.1.length (M.1.length + M.2.1.length) (fdM M) (M.2.2.2.2.length + M.2.2.1.length) M.2.2.2.1.length (M.2.2.2.2.drop k))) := by
  have l64 := h.2.2.2.2.2.2.1
  have l8 := h.1.2.2.2.1
  intro m
  induction m with
  | zero =>
    intro k g z r ek hg j
    obtain ⟨g, rfl⟩ : ∃ q, g = q + 1 := ⟨g - 1, by omega⟩
    have um := JS.um h j
    unfold fn_X16_lookAll_L131
    rw [um.2.1.2.2.2.2.2.2.2.2.1, if_pos ((nI_leI (by omega) (by omega)).mpr (by omega)), List.drop_eq_nil_of_le (by omega)]
    refine ⟨z, rfl, ?_⟩
    show JS ku z0 z (orE r none)
    rw [orE_n]; exact j
  | succ m ih =>
    intro k g z r ek hg j
    obtain ⟨g, rfl⟩ : ∃ q, g = q + 1 := ⟨g - 1, by omega⟩
    have um := JS.um h j
    have hk : k < M.2.2.2.2.length := by omega
    obtain ⟨s1, s2, s3, s4, g1, g2, g3, ⟨g4, g5⟩, ⟨g6, g7⟩, g8, g9, g10⟩ := um.gAt hk
    conv => enter [1, z', 1, 1]; unfold fn_X16_lookAll_L131
    rw [um.2.1.2.2.2.2.2.2.2.2.1, if_neg (fun x => by have := (nI_leI (by omega) (by omega)).mp x; omega), j.good h, cal_s]
    cases r with
    | some e => rw [if_pos (show bI (some e).isNone = 0 from rfl)]; exact ⟨z, rfl, j⟩
    | none =>
      obtain ⟨z2, t1, t2⟩ := JS.lookLst (F := F) (by omega) h g4 j
      obtain ⟨z3, v1, v2⟩ := JS.lookLst (F := F) (by omega) h g6 t2
      obtain ⟨z4, w1, w2⟩ := JS.lookLst (F := F) (by omega) h g8 v2
      have um4 := JS.um h w2
      obtain ⟨u0, u1, _, _, _, _, u6, u7, _, _, _, _, _, _, u14, u15, _⟩ := b_unit um4.1.1 um4.1.2.1
      have ok6 : okA sh n (ku + 6) 101 (nI k) = true := by rw [u14]; exact okI_nI (by omega) (by omega)
      have tf := (um4.2.1.2.2.2.2.2.2.2.2.2.2 k hk).2.1
      have m0 : fn_X16_manyIn F sh n z4 ku (nI k) 0 = some (z4, nI (M.2.2.2.2.getD k dGP).2.2.1.length) := by
        have := um4.manyIn (F := F) (by omega) (f := k) (l := 0) hk (by omega)
        have e : lsOf (mdOf b M) k 0 = (M.2.2.2.2.getD k dGP).2.2.1 := by
          show tksOf (mdOf b M) k = _
          unfold tksOf
          have : fnOf (mdOf b M) k = (b (M.2.2.2.2.getD k dGP).1, (M.2.2.2.2.getD k dGP).2.2.1, (M.2.2.2.2.getD k dGP).2.2.2.1, (M.2.2.2.2.getD k dGP).2.2.2.2.1) := by show (if k < M.2.2.2.2.length then _ else _ : Fn) = _; rw [if_pos hk]
          rw [this]
        rw [e] at this; exact this
      have m2 : fn_X16_manyIn F sh n z4 ku (nI k) 2 = some (z4, nI (M.2.2.2.2.getD k dGP).2.2.2.2.1.length) := by
        have := um4.manyIn (F := F) (by omega) (f := k) (l := 2) hk (by omega)
        have e : lsOf (mdOf b M) k 2 = (M.2.2.2.2.getD k dGP).2.2.2.2.1 := by
          show locL (mdOf b M) k = _
          unfold locL
          have : fnOf (mdOf b M) k = (b (M.2.2.2.2.getD k dGP).1, (M.2.2.2.2.getD k dGP).2.2.1, (M.2.2.2.2.getD k dGP).2.2.2.1, (M.2.2.2.2.getD k dGP).2.2.2.2.1) := by show (if k < M.2.2.2.2.length then _ else _ : Fn) = _; rw [if_pos hk]
          rw [this]
        rw [e] at this; exact this
      obtain ⟨z5, x1, x2⟩ := JS.lkI (F := F) h hA (f := k) (loc := (M.2.2.2.2.getD k dGP).2.2.1.length + (M.2.2.2.2.getD k dGP).2.2.2.2.1.length) hk (by have := g8.2.2.1; omega) (K := fun z9 q1 => fn_X16_lookAll_L131 F sh n ku g z9 q1) (M.2.2.2.2.getD k dGP).2.2.2.2.2.length 0 F z4 _ (by omega) (by have := g9.2; omega) w2
      rw [List.drop_zero] at x2
      rw [Nat.add_zero] at x1
      obtain ⟨z6, y1, y2⟩ := ih (k + 1) g z5 _ (by omega) (by omega) x2
      rw [if_neg (show ¬ bI (none : Flt).isNone = 0 from one0), s1, lnk_s, s2, grd_true, s3, s4, nI_1, t1, cal_s, v1, cal_s, w1, cal_s, m0, cal_s, m2, cal_s, nI_add, lt_t, u6, lnk_s, ok6, grd_true, tf, lt_t, x1, nI_1, y1]
      refine ⟨z6, rfl, ?_⟩
      rw [drop_d (d := dGP) hk]
      exact y2
theorem JS.lookAll (hF : 1100 ≤ F) (h : UM sh n z ku b len M) (hA : (allC M.2.2.2.2).length ≤ len) (e3 : z.1 ku 3 = nI 0) : ∃ z', fn_X16_lookAll F sh n z ku = some (z', ()) ∧ JS ku z z' (jM b M) := by
  have j0 : JS ku z z none := ⟨FrCu.rfl', e3⟩
  have a1 := h.2.2.1.1
  have a2 := h.2.2.2.2.1.1
  have a3 := h.2.2.2.2.2.1.1
  have a4 := h.2.2.2.2.2.2.1
  obtain ⟨z1, s1, s2⟩ := JS.lkS (F := F) (by omega) h M.1.length 0 F z none (by omega) (by omega) j0
  obtain ⟨z2, t1, t2⟩ := JS.lkC (F := F) (by omega) h M.2.2.1.length 0 F z1 _ (by omega) (by omega) s2
  obtain ⟨z3, v1, v2⟩ := JS.lkE (F := F) (by omega) h M.2.2.2.1.length 0 F z2 _ (by omega) (by omega) t2
  obtain ⟨z4, w1, w2⟩ := JS.lkG (F := F) hF h hA M.2.2.2.2.length 0 F z3 _ (by omega) (by omega) v2
  have s1' : fn_X16_lookAll_L2 F sh n ku F z 0 = _ := s1
  have t1' : fn_X16_lookAll_L57 F sh n ku F z1 0 = _ := t1
  have v1' : fn_X16_lookAll_L97 F sh n ku F z2 0 = _ := v1
  have w1' : fn_X16_lookAll_L131 F sh n ku F z3 0 = _ := w1
  unfold fn_X16_lookAll
  rw [s1']
  unfold fn_X16_lookAll_B55
  rw [t1']
  unfold fn_X16_lookAll_B95
  rw [v1']
  unfold fn_X16_lookAll_B129
  rw [w1']
  exact ⟨z4, rfl, w2⟩
end
