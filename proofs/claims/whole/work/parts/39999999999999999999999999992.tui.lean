/-! THE BYTES OF A RESOURCE ARE ASKED FOR -/
section
variable {RV : RtV} {F n : Nat} {sh : Nat → Nat × Nat} {z z' y y' : St} {nc nr : Nat} {ac : Nat → Int64 × Int64 × Int64} {rs : Nat → Int64 × Nat × Hp × Nat} {so : Nat → Option Rsc} {E : Ev}
theorem Top.ask (hn : n ≤ 10 ^ 12) (h : Top RV sh n z y) (z2 : z'.2 = z.2) (zk : ∀ k, k ≠ 337 → k ≠ 372 → k ≠ 373 → k ≠ 420 → z'.1 k = z.1 k) (zj : ∀ j, j ≠ 14 → j ≠ 75 → z'.1 337 j = z.1 337 j) (y2 : y'.2 = y.2) (yk : ∀ k, k ≠ 0 → k ≠ 86 → y'.1 k = y.1 k) (yj : ∀ j, j ≠ 12 → y'.1 0 j = y.1 0 j) {len : Nat} (ak : Akd z' y' len) : Top RV sh n z' y' := by
  obtain ⟨ws, wc, dp, bs, nc, ac, nr, rs, so, D, a1, ⟨⟨r1, r2, rp, uq, pl⟩, ld, ⟨m1, m2, m3⟩, sl6, sl8⟩, a3, ⟨cnt, dn, a4⟩, ⟨len', w, a5⟩, l2, a6⟩ := h
  have lz : Lay sh n z' := a1.1.1.of (by rw [z2])
  have ly : Lay sh n y' := a1.2.1.1.of (by rw [y2])
  have ft : FzT z z' := fun k a b => ⟨zk k (by omega) (by omega) (by omega) (by omega), by rw [z2]⟩
  have gt : FyT y y' := ⟨by rw [y2], fun k a => ⟨yk k (by omega) (by omega), by rw [y2]⟩⟩
  refine ⟨ws, wc, dp, bs, nc, ac, nr, rs, so, D, a1.of lz ly (zj 5 (by omega) (by omega)) (fun k q => zk k (by omega) (by omega) (by omega) (by omega)) (by rw [yk 3 (by omega) (by omega)]) (fun k _ _ => by rw [y2]) (fun k q => ⟨yk k (by omega) (by omega), by rw [y2]⟩), ⟨⟨r1.of (fun k a b => ⟨zk k (by omega) (by omega) (by omega) (by omega), by rw [z2]⟩) (zj 3 (by omega) (by omega)) (zj 9 (by omega) (by omega)), r2.of (fun k a b => ⟨yk k (by omega) (by omega), by rw [y2]⟩), rp, uq, pl⟩, ld, ⟨?_, ?_, ?_⟩, ?_, ?_⟩, ?_, ⟨cnt, dn, a4.of (zj 52 (by omega) (by omega)) (zj 53 (by omega) (by omega)) (yj 4 (by omega)) (yj 5 (by omega)) (fun t _ => ft.e) (fun t _ => gt.e) (Nat.le_refl _) (fun _ _ => rfl) hn⟩, ⟨len', w, a5.of ⟨zj 50 (by omega) (by omega), zj 51 (by omega) (by omega), zk 399 (by omega) (by omega) (by omega) (by omega)⟩ ⟨yj 1 (by omega), yj 2 (by omega), yk 1 (by omega) (by omega)⟩⟩, len, ak⟩
  · rw [z2, y2]; exact m1
  · rw [z2, y2]; exact m2
  · rw [z2]; exact m3
  · rw [zj 22 (by omega) (by omega), yk 88 (by omega) (by omega)]; exact sl6
  · rw [yk 88 (by omega) (by omega)]; exact sl8
  · unfold Fsh
    rw [yk 73 (by omega) (by omega), y2]
    exact a3
/-- what was copied -/
def CPy (z z' : St) (p : Nat) : Prop := z'.2 = z.2 ∧ (∀ k, k ≠ 420 → z'.1 k = z.1 k) ∧ ∀ q, q < p → z'.1 420 q &&& 255 = z.1 373 q &&& 255
theorem copy83 (hL : Lay sh n z) {len : Nat} (h75 : z.1 337 75 = nI len) (h1024 : len ≤ 1024) : ∀ r p g z', p + r = len → r < g → CPy z z' p → ∃ z'', fn_X18_resource_L83 F sh n 337 g z' (nI p) = some (z'', nI len) ∧ CPy z z'' len := by
  intro r
  induction r with
  | zero =>
    intro p g z' h1 h2 w
    obtain ⟨g, rfl⟩ : ∃ q, g = q + 1 := ⟨g - 1, by omega⟩
    have e : p = len := by omega
    subst e
    refine ⟨z', ?_, w⟩
    unfold fn_X18_resource_L83
    rw [w.2.1 337 (by decide), h75, if_pos ((nI_leW (by omega) (by omega)).mpr (Nat.le_refl _))]
  | succ r ih =>
    intro p g z' h1 h2 w
    obtain ⟨g, rfl⟩ : ∃ q, g = q + 1 := ⟨g - 1, by omega⟩
    have hz : Lay sh n z' := hL.of (by rw [w.1])
    obtain ⟨z'', a1, a2⟩ := ih (p + 1) g (si z' 420 p (vp_nar .byte (z'.1 373 p))) (by omega) (by omega) ⟨w.1, fun k hk => by rw [si_ok hk]; exact w.2.1 k hk, fun q hq => by
      by_cases c : q = p
      · subst c
        rw [si_ss, nar8, w.2.1 373 (by decide)]
      · rw [si_oj c]
        exact w.2.2 q (by omega)⟩
    refine ⟨z'', ?_, a2⟩
    unfold fn_X18_resource_L83
    rw [show z'.1 337 75 = nI len by rw [w.2.1 337 (by decide)]; exact h75, if_neg (fun e => by have := (nI_leW (a := len) (b := p) (by omega) (by omega)).mp e; omega), hz.2.2 337 74 420 rfl, lnk_s, hz.2.2 337 18 372 rfl, lnk_s, (b_digr hz).1, grd_true, (b_digr hz).2.1, lnk_s, lay_a hz 373 100 4096 (by decide) rfl, okI_nI (by omega) (by omega), grd_true, lay_a hz 420 100 1200 (by decide) rfl, okI_nI (by omega) (by omega), grd_true, nI_clamp (by omega), lt_t, show nI p + 1 = nI (p + 1) from nI_add p 1]
    exact a1
theorem ResR.leaf {Q : Hp} {sz k : Nat} {En : List Ent} (h : ResR E E.1 Q sz k En) : ∀ w, w < sz → (Q w).1 ≤ 5 → kds Q w = [] := by
  obtain ⟨d, tq, h1, h2, h3, h4, h5, h6, h7⟩ := h
  intro w hw k5
  have q2 := (h5 w hw).2.1
  unfold LTm at q2
  rcases q2 with v | v | v | v | v | v | v | v
  all_goals first | omega | (exact List.map_eq_nil_iff.mp v.2.2.2.2) | (exact List.map_eq_nil_iff.mp v.2.2.2) | (exact List.map_eq_nil_iff.mp v.2.2)
/-- a resource stands on both sides, or on none -/
theorem RsP.both (h : RsP E E.1 nr rs so) {x : Int64} {k : Nat} : (fdS so x k = none ∧ fdR nr rs x k = none) ∨ ∃ r i v, fdS so x k = some r ∧ fdR nr rs x k = some i ∧ r < 256 ∧ i < nr ∧ so r = some v ∧ v.1 = x ∧ v.2.1 = k ∧ (rs i).1 = x ∧ (rs i).2.1 = k ∧ ResR E E.1 (rs i).2.2.1 (rs i).2.2.2 (rs i).2.1 v.2.2 := by
  cases e : fdS so x k with
  | none =>
    refine .inl ⟨rfl, ?_⟩
    cases e2 : fdR nr rs x k with
    | none => rfl
    | some i =>
      obtain ⟨_, i1, i2⟩ := fd_lt _ _ _ e2
      rw [Bool.and_eq_true, decide_eq_true_eq, decide_eq_true_eq] at i2
      obtain ⟨_, r, v, q1, q2, q3, q4, _⟩ := h.1 i (by omega)
      have := fd_no 256 0 e r (by omega) (by omega)
      unfold isS at this
      rw [q2] at this
      simp [q3, q4, i2.1, i2.2] at this
  | some r =>
    obtain ⟨_, r1, r2⟩ := fd_lt _ _ _ e
    unfold isS at r2
    cases ev : so r with
    | none => rw [ev] at r2; simp at r2
    | some v =>
      rw [ev] at r2
      simp at r2
      obtain ⟨i, i1, i2, i3, i4⟩ := h.match (by omega) ev
      refine .inr ⟨r, i, v, rfl, ?_, by omega, i1, ev, r2.1, r2.2, by rw [i2]; exact r2.1, by rw [i3]; exact r2.2, i4⟩
      cases e2 : fdR nr rs x k with
      | none =>
        have := fd_no nr 0 e2 i (by omega) (by omega)
        simp [i2, i3, r2.1, r2.2] at this
      | some j =>
        obtain ⟨_, j1, j2⟩ := fd_lt _ _ _ e2
        rw [Bool.and_eq_true, decide_eq_true_eq, decide_eq_true_eq] at j2
        have := h.2.2.1 j i (by omega) i1 (by rw [j2.1, i2, r2.1]) (by rw [j2.2, i3, r2.2])
        rw [this]
theorem and_255 (x : Int32) : x &&& 255 &&& 255 = x &&& 255 := by
  rw [Int32.and_assoc]
  rfl
theorem m_resource (hF1 : 1100 ≤ F) (y0 : Int64) (y1 y2 : Int32) (hn : n ≤ 10 ^ 12) (h : Top RV sh n z y) : ∃ z' y' r, fn_X11_resource F sh n y 0 y0 y1 y2 = some (y', r) ∧ fn_X18_resource F sh n z 337 y0 y1 y2 = some (z', r) ∧ Top RV sh n z' y' := by
  have h0 := h
  have hF : 300 ≤ F := by omega
  obtain ⟨ws, wc, dp, bs, nc, ac, nr, rs, so, D, a1, ⟨⟨r1, r2, rp, uq, pl⟩, _⟩, _⟩ := h
  have hA := a1.2.2.1.evA (led := led0)
  have hL := a1.1.1
  have hC := a1.2.1.1
  have rp' : RsP (evW ws wc dp led0) (evW ws wc dp led0).1 nr rs so := rp
  have l3 : Lay sh n (si z 337 75 0) := hL.of rfl
  have c3 : Lay sh n (si y 0 12 0) := hC.of rfl
  have r13 : RLg (si z 337 75 0) nc ac nr rs := r1.of (fun k a b => ⟨si_ok (by omega), rfl⟩) (si_oj (by omega)) (si_oj (by omega))
  have r23 : CLg (si y 0 12 0) nc ac nr so := r2.of (fun k a b => ⟨si_ok (by omega), rfl⟩)
  have no : Top RV sh n (si z 337 75 0) (si y 0 12 0) := h0.ask hn rfl (fun k a _ _ _ => si_ok a) (fun j _ b => si_oj b) rfl (fun k a _ => si_ok a) (fun j a => si_oj a) (len := 0) ⟨si_ss, si_ss, by omega, fun p hp => absurd hp (by omega)⟩
  have out : (∀ k, k < 2 ^ 24 → ¬ (y1 = nI (k / 256) ∧ y2 = nI (k % 256))) → fn_X11_resource F sh n y 0 y0 y1 y2 = some (si y 0 12 0, -2) := fun w => by
    unfold fn_X11_resource
    rw [(b_ledg hC).1, grd_true, lt_t, c3.2.2 0 6 3 rfl, lnk_s, (b_state c3).1, grd_true]
    have e : fn_X7_findResource_L3 F sh n 3 y0 y1 y2 F (si y 0 12 0) 0 = some (si y 0 12 0, -1) := cfindR_no hF c3 r23 w 256 0 F (by omega) (by omega)
    unfold fn_X7_findResource
    rw [e, cal_s, if_neg (by decide)]
  have rng : (∃ k, k < 2 ^ 24 ∧ y1 = nI (k / 256) ∧ y2 = nI (k % 256)) ∨ ((∀ k, k < 2 ^ 24 → ¬ (y1 = nI (k / 256) ∧ y2 = nI (k % 256))) ∧ (y1 < 0 ∨ 65535 < y1 ∨ y2 < 0 ∨ ¬ y2 ≤ 255)) := by
    by_cases q : y1 < 0 ∨ 65535 < y1 ∨ y2 < 0 ∨ ¬ y2 ≤ 255
    · refine .inr ⟨fun k hk w => ?_, q⟩
      rw [w.1, w.2] at q
      rcases q with q | q | q | q
      · have := (nI_ltW (a := k / 256) (b := 0) (by omega) (by omega)).mp q; omega
      · have := (nI_ltW (a := 65535) (b := k / 256) (by omega) (by omega)).mp q; omega
      · have := (nI_ltW (a := k % 256) (b := 0) (by omega) (by omega)).mp q; omega
      · exact q ((nI_leW (a := k % 256) (b := 255) (by omega) (by omega)).mpr (by omega))
    · have q1 : ¬ y1 < 0 := fun w => q (.inl w)
      have q2 : ¬ (65535 : Int32) < y1 := fun w => q (.inr (.inl w))
      have q3 : ¬ y2 < 0 := fun w => q (.inr (.inr (.inl w)))
      have q4 : y2 ≤ 255 := Decidable.not_not.mp (fun w => q (.inr (.inr (.inr w))))
      obtain ⟨a, ha, ea⟩ : ∃ a, a < 65536 ∧ y1 = nI a := by
        rcases i32_3 y1 (m := 65536) (by omega) with w | w | ⟨t, t1, t2, _⟩
        · exact absurd w q1
        · have := w.2.1
          exfalso
          apply q2
          rw [Int32.le_iff_toInt_le] at this
          rw [Int32.lt_iff_toInt_lt]
          have e0 : (nI 65536).toInt = 65536 := by decide
          have e1 : (65535 : Int32).toInt = 65535 := by decide
          omega
        · exact ⟨t, t1, t2⟩
      obtain ⟨c, hc, ec⟩ : ∃ a, a < 256 ∧ y2 = nI a := by
        rcases i32_3 y2 (m := 256) (by omega) with w | w | ⟨t, t1, t2, _⟩
        · exact absurd w q3
        · have := w.2.1
          exfalso
          rw [Int32.le_iff_toInt_le] at this q4
          have e0 : (nI 256).toInt = 256 := by decide
          have e1 : (255 : Int32).toInt = 255 := by decide
          omega
        · exact ⟨t, t1, t2⟩
      refine .inl ⟨256 * a + c, by omega, ?_, ?_⟩
      · rw [ea, show (256 * a + c) / 256 = a by omega]
      · rw [ec, show (256 * a + c) % 256 = c by omega]
  have r29 : fn_X18_resource_B29 F sh n 337 (si z 337 75 0) = some (si z 337 75 0, -2) := by
    unfold fn_X18_resource_B29 fn_X18_resource_B46
    rw [if_neg (by decide)]
  rcases rng with ⟨k, hk, e1, e2⟩ | ⟨w1, w2⟩
  · have ek : (256 * y1 + y2 : Int32) = nI k := by
      rw [e1, e2, show (256 : Int32) = nI 256 from rfl, pk_mul, nI_add, show 256 * (k / 256) + k % 256 = k by omega]
    have ref : fn_X18_resource F sh n z 337 y0 y1 y2 = fn_X18_resource_B46 F sh n 337 (si z 337 75 0) (oI (fdR nr rs y0 k)) := by
      unfold fn_X18_resource
      rw [(b_model hL).1, grd_true, lt_t, if_neg (show ¬ y1 < 0 from fun q => by rw [e1] at q; have := (nI_ltW (a := k / 256) (b := 0) (by omega) (by omega)).mp q; omega), if_neg (show ¬ 65535 < y1 from fun q => by rw [e1] at q; have := (nI_ltW (a := 65535) (b := k / 256) (by omega) (by omega)).mp q; omega), if_neg (show ¬ y2 < 0 from fun q => by rw [e2] at q; have := (nI_ltW (a := k % 256) (b := 0) (by omega) (by omega)).mp q; omega), if_pos (show y2 ≤ 255 by rw [e2]; exact (nI_leW (a := k % 256) (b := 255) (by omega) (by omega)).mpr (by omega)), ek, findR_t hF l3 r13 (by omega), cal_s]
    rcases rp'.both (x := y0) (k := k) with ⟨f1, f2⟩ | ⟨r, i, v, f1, f2, hr, hi, ev, _, _, i1, i2, rr⟩
    · refine ⟨_, _, -2, ?_, ?_, no⟩
      · unfold fn_X11_resource
        rw [(b_ledg hC).1, grd_true, lt_t, c3.2.2 0 6 3 rfl, lnk_s, (b_state c3).1, grd_true, e1, e2, cfindR_t hF c3 r23 hk, cal_s, f1, if_neg (by decide)]
      · rw [ref, f2]
        unfold fn_X18_resource_B46
        rw [if_neg (by decide)]
    · obtain ⟨s1, s2, s3, s4, s5, s6, s7, s8⟩ := (r23.2.2.2 r hr).2 v ev
      have kn : ∀ e, e ∈ v.2.2 → KnO e.1 := by
        obtain ⟨d, tq, q1, _⟩ := rr
        exact TyE.kn d _ q1
      obtain ⟨y3, b1, b2⟩ := wb_t (F := F) (kd := 86) (by omega) c3 (by have := hC.1; omega) (by rw [hC.2.1 86 (by omega)]; rfl) (by decide) (by decide) hr s5 s7 s8 kn
      obtain ⟨c1, c2, c4, c5, c6, c7⟩ := r13.2.2.2 i hi
      have n256 := r1.2.2.1
      obtain ⟨z4, d1, d2, d3, d4⟩ := beg_t (F := F) (dgM_of l3) (gl [])
      have W4 : WBm sh n (si z 337 75 0) z4 [] := ⟨d2, Prod.ext d3 d4.2.2, fun k _ k2 k3 => d4.1 k k2 k3, fun j _ => by rw [d4.1 337 (by decide) (by decide)]⟩
      obtain ⟨z5, g1, g2⟩ := addBytes_t (F := F) (by omega) l3 (by omega) c7 c6 c5 rr.leaf W4 (by simp)
      rw [List.nil_append, rr.bytes hA c5] at g2
      have l5 := g2.lay l3
      have ln : (v.2.2.flatMap gB).length ≤ 1024 := by
        have := gB_len v.2.2
        omega
      obtain ⟨z6, m1, m2⟩ := copy83 (F := F) (z := si z5 337 75 (nI (v.2.2.flatMap gB).length)) (l5.of rfl) si_ss ln (v.2.2.flatMap gB).length 0 F _ (by omega) (by omega) ⟨rfl, fun _ _ => rfl, fun q hq => absurd hq (by omega)⟩
      refine ⟨z6, si y3 0 12 (nI (v.2.2.flatMap gB).length), nI (v.2.2.flatMap gB).length, ?_, ?_, h0.ask hn ?_ ?_ ?_ ?_ ?_ ?_ (len := (v.2.2.flatMap gB).length) ⟨si_ss, ?_, ln, ?_⟩⟩
      · unfold fn_X11_resource
        rw [(b_ledg hC).1, grd_true, lt_t, c3.2.2 0 6 3 rfl, lnk_s, (b_state c3).1, grd_true, e1, e2, cfindR_t hF c3 r23 hk, cal_s, f1, if_pos (oI0 r (by omega)).1, c3.2.2 0 6 3 rfl, lnk_s, c3.2.2 0 11 86 rfl, lnk_s, (b_state c3).1, grd_true, show oI (some r) = nI r from rfl, b1, cal_s, lt_t, si_ss]
      · rw [ref, f2]
        unfold fn_X18_resource_B46
        rw [if_pos (oI0 i (by omega)).1, l3.2.2 337 18 372 rfl, lnk_s, (b_digr l3).1, grd_true, d1, cal_s, show oI (some i) = nI i from rfl, g1, cal_s, l5.2.2 337 18 372 rfl, lnk_s, (b_digr l5).1, grd_true, g2.1.2.1, lt_t]
        exact m1
      · rw [m2.1]; exact g2.2.1
      · intro k q1 q2 q3 q4
        rw [m2.2.1 k q4, si_ok q1, g2.2.2.1 k q1 q2 q3, si_ok q1]
      · intro j q1 q2
        rw [m2.2.1 337 (by decide), si_oj q2, g2.2.2.2 j q1, si_oj q2]
      · exact b2.1
      · intro k q1 q2
        rw [si_ok q1, b2.2.1 k q2, si_ok q1]
      · intro j q1
        rw [si_oj q1, b2.2.1 0 (by decide), si_oj q1]
      · rw [m2.2.1 337 (by decide), si_ss]
      · intro p hp
        rw [si_ok (by decide), b2.2.2 p hp, m2.2.2 p hp, si_ok (by decide), g2.1.2.2.2 p hp, gl_3 hp, ← b2.2.2 p hp, and_255]
  · refine ⟨_, _, -2, out w1, ?_, no⟩
    unfold fn_X18_resource
    rw [(b_model hL).1, grd_true, lt_t]
    by_cases c1 : y1 < 0
    · rw [if_pos c1]; exact r29
    · rw [if_neg c1]
      by_cases c2 : 65535 < y1
      · rw [if_pos c2]; exact r29
      · rw [if_neg c2]
        by_cases c3 : y2 < 0
        · rw [if_pos c3]; exact r29
        · rw [if_neg c3, if_neg (by
            rcases w2 with q | q | q | q
            · exact absurd q c1
            · exact absurd q c2
            · exact absurd q c3
            · exact q)]
          exact r29
theorem lw_resource {q : Nat} (y0 : Int64) (y1 y2 : Int32) (hq : q ≤ 512) (h : IV RV q sh n z) : ∃ F z1 z2 r, fn_X11_resource F sh n z 0 y0 y1 y2 = some (z1, r) ∧ fn_X18_resource F sh n z1 337 y0 y1 y2 = some (z2, r) ∧ IV RV (q + 1) sh n z2 := by
  obtain ⟨h1, h2, h3⟩ := h
  have hb : n ≤ 10 ^ 12 := by omega
  obtain ⟨z1, z2, r, a, b, c, d⟩ := Top.both (C := fun z => fn_X11_resource 20002 sh n z 0 y0 y1 y2) (M := fun z => fn_X18_resource 20002 sh n z 337 y0 y1 y2) (fun z y t => m_resource (F := 20002) (by omega) y0 y1 y2 hb t) (kC_resource y0 y1 y2) (kM_resource y0 y1 y2) hb h1 h2
  exact ⟨20002, z1, z2, r, a, b, c, d, by omega⟩
end
