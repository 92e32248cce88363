/-! METHODS THAT ONLY READ -/
theorem i32_3 (x : Int32) {m : Nat} (hm : m < 2 ^ 31) : (x < 0) ∨ (¬ x < 0 ∧ nI m ≤ x ∧ ¬ x < nI m) ∨ ∃ t, t < m ∧ x = nI t ∧ ¬ x < 0 ∧ x < nI m ∧ ¬ nI m ≤ x := by
  have em := nI_toInt hm
  by_cases a : x < 0
  · exact .inl a
  · have a' := a
    rw [Int32.lt_iff_toInt_lt] at a'
    have z0 : (0 : Int32).toInt = 0 := rfl
    by_cases b : x < nI m
    · have b' := b
      rw [Int32.lt_iff_toInt_lt, em] at b'
      refine .inr (.inr ⟨x.toInt.toNat, by omega, ?_, a, b, fun c => ?_⟩)
      · apply Int32.toInt_inj.mp
        rw [nI_toInt (by omega)]
        omega
      · rw [Int32.le_iff_toInt_le, em] at c
        omega
    · have b' := b
      rw [Int32.lt_iff_toInt_lt, em] at b'
      exact .inr (.inl ⟨a, by rw [Int32.le_iff_toInt_le, em]; omega, b⟩)
section
variable {RV : RtV} {F n : Nat} {sh : Nat → Nat × Nat} {z y : St}
theorem tx_at (hL : Lay sh n y) {t : Nat} (ht : t < 32) : y.2.2 0 3 = some 2 ∧ okA sh n 2 105 (nI t) = true ∧ (nI t).toNatClampNeg = t ∧ y.2.2 2 t = some (113 + 7 * t) ∧ okO sh n (113 + 7 * t) 8 = true :=
  ⟨hL.2.2 0 3 2 rfl, by rw [lay_a hL 2 105 32 (by decide) rfl]; exact okI_nI ht (by omega), nI_clamp (by omega), hL.2.2 2 t _ (b_block_l t ht), lay_o hL _ 8 0 (by omega) (tx_sh t ht).1⟩
theorem md_at (hL : Lay sh n z) {t : Nat} (ht : t < 32) (k c : Nat) (e : shF k = (c, 32)) (hk : k < 513) : okA sh n k c (nI t) = true := by
  rw [lay_a hL k c 32 hk e]; exact okI_nI ht (by omega)
theorem done_t (hL : Lay sh n z) {dn : Nat} (hd : z.1 337 53 = nI dn) (h31 : dn < 2 ^ 31) (x : Int32) : fn_X18_isDone F sh n z 337 x = some (z, if x < 0 then 0 else if nI dn ≤ x then 0 else 1) := by
  unfold fn_X18_isDone
  rw [(b_model hL).1, grd_true, hd]
  by_cases a : x < 0
  · rw [if_pos a, if_pos a]
  · rw [if_neg a, if_neg a]
    by_cases b : nI dn ≤ x
    · rw [if_pos b, if_pos b]
    · rw [if_neg b, if_neg b]
theorem m_told (y0 y1 : Int32) (h : Top RV sh n z y) : ∃ z' y' r, fn_X11_told F sh n y 0 y0 y1 = some (y', r) ∧ fn_X18_told F sh n z 337 y0 y1 = some (z', r) ∧ Top RV sh n z' y' := by
  have h0 := h
  obtain ⟨ws, wc, dp, bs, nc, ac, nr, rs, so, D, a1, a2, a3, ⟨cnt, dn, ⟨b1, b2, b3⟩, ⟨b4, b5, b6⟩, b7, b8, b9⟩, a5, a6⟩ := h
  have hL := a1.1.1
  have hC := a1.2.1.1
  suffices q : ∃ r, fn_X11_told F sh n y 0 y0 y1 = some (y, r) ∧ fn_X18_told F sh n z 337 y0 y1 = some (z, r) by
    obtain ⟨r, q1, q2⟩ := q
    exact ⟨z, y, r, q1, q2, h0⟩
  unfold fn_X11_told fn_X18_told
  rw [done_t hL b4 (by omega), (b_ledg hC).1, (b_model hL).1, grd_true, grd_true, cal_s, b1, b2, b5]
  rcases i32_3 y0 (m := cnt) (by omega) with c | ⟨c1, c2, _⟩ | ⟨t, c1, c2, c3, c4, c5⟩
  · rw [if_pos c, if_pos c]; exact ⟨_, rfl, rfl⟩
  · rw [if_neg c1, if_neg c1, if_pos c2, if_pos c2]; exact ⟨_, rfl, rfl⟩
  · rw [if_neg c3, if_neg c3, if_neg c5, if_neg c5, if_neg c3]
    by_cases d : y1 < 0
    · rw [if_pos d, if_pos d]; exact ⟨_, rfl, rfl⟩
    · rw [if_neg d, if_neg d]
      by_cases d3 : y1 ≤ 3
      · rw [if_pos d3, if_pos d3]
        rcases i32_3 y0 (m := dn) (by omega) with e | ⟨e1, e2, e3⟩ | ⟨t', e1, e2, e3, e4, e5⟩
        · exact absurd e c3
        · rw [if_neg e3, if_pos e2, if_pos rfl]; exact ⟨_, rfl, rfl⟩
        · rw [if_pos e4, if_neg e5, if_neg (show ¬ ((1 : Int32) = 0) by decide)]
          obtain ⟨t1, t2, t3, t4, t5⟩ := tx_at hC (t := t') (by omega)
          obtain ⟨o, g, c, hh, kd, hi, lo, g1, g2, ⟨g3, g4, g5, g6⟩, ⟨g7, g8, g9⟩, g10, g11, g12, g13⟩ := b8 t' e1
          have ht : t' < 32 := by omega
          rw [e2]
          simp only [t1, lnk_s, t2, grd_true, t3, t4, t5, g7, g8, g12, hL.2.2 337 66 412 rfl, hL.2.2 337 67 413 rfl, hL.2.2 337 70 416 rfl, hL.2.2 337 68 414 rfl, md_at hL ht 412 101 rfl (by decide), md_at hL ht 413 101 rfl (by decide), md_at hL ht 416 101 rfl (by decide), md_at hL ht 414 101 rfl (by decide), g3, g4, g11, g6]
          by_cases w0 : y1 = 0
          · rw [if_pos w0, if_pos w0]; exact ⟨_, rfl, rfl⟩
          · rw [if_neg w0, if_neg w0]
            by_cases w1 : y1 = 1
            · rw [if_pos w1, if_pos w1]; exact ⟨_, rfl, rfl⟩
            · rw [if_neg w1, if_neg w1]
              by_cases w2 : y1 = 2
              · rw [if_pos w2, if_pos w2]; exact ⟨_, rfl, rfl⟩
              · rw [if_neg w2, if_neg w2]
                by_cases w4 : o = 4
                · subst w4
                  rw [if_pos (show nI 4 = 4 from rfl)]; exact ⟨_, rfl, rfl⟩
                · rw [if_neg (show ¬ nI o = 4 from fun q => w4 (nI_uq (b := 4) q (by omega) (by omega))), if_neg w4]; exact ⟨_, rfl, rfl⟩
      · rw [if_neg d3, if_neg d3]; exact ⟨_, rfl, rfl⟩
theorem m_code (y0 : Int32) (h : Top RV sh n z y) : ∃ z' y' r, fn_X11_code F sh n y 0 y0 = some (y', r) ∧ fn_X18_code F sh n z 337 y0 = some (z', r) ∧ Top RV sh n z' y' := by
  have h0 := h
  obtain ⟨ws, wc, dp, bs, nc, ac, nr, rs, so, D, a1, a2, a3, ⟨cnt, dn, ⟨b1, b2, b3⟩, ⟨b4, b5, b6⟩, b7, b8, b9⟩, a5, a6⟩ := h
  have hL := a1.1.1
  have hC := a1.2.1.1
  suffices q : ∃ r, fn_X11_code F sh n y 0 y0 = some (y, r) ∧ fn_X18_code F sh n z 337 y0 = some (z, r) by
    obtain ⟨r, q1, q2⟩ := q
    exact ⟨z, y, r, q1, q2, h0⟩
  unfold fn_X11_code fn_X18_code
  rw [done_t hL b4 (by omega), (b_ledg hC).1, (b_model hL).1, grd_true, grd_true, cal_s, b5]
  rcases i32_3 y0 (m := dn) (by omega) with e | ⟨e1, e2, e3⟩ | ⟨t', e1, e2, e3, e4, e5⟩
  · rw [if_pos e, if_pos e, if_pos rfl]; exact ⟨_, rfl, rfl⟩
  · rw [if_neg e1, if_neg e1, if_neg e3, if_pos e2, if_pos rfl]; exact ⟨_, rfl, rfl⟩
  · rw [if_neg e3, if_neg e3, if_pos e4, if_neg e5, if_neg (show ¬ ((1 : Int32) = 0) by decide)]
    obtain ⟨t1, t2, t3, t4, t5⟩ := tx_at hC (t := t') (by omega)
    obtain ⟨o, g, c, hh, kd, hi, lo, g1, g2, ⟨g3, g4, g5, g6⟩, ⟨g7, g8, g9⟩, g10, g11, g12, g13⟩ := b8 t' e1
    rw [e2, t1, lnk_s, t2, grd_true, t3, t4, lnk_s, t5, grd_true, g9, hL.2.2 337 69 415 rfl, lnk_s, md_at hL (by omega) 415 102 rfl (by decide), grd_true, g5]
    exact ⟨_, rfl, rfl⟩
theorem m_slips (h : Top RV sh n z y) : ∃ z' y' r, fn_X11_slips F sh n y 0 = some (y', r) ∧ fn_X18_slips F sh n z 337 = some (z', r) ∧ Top RV sh n z' y' := by
  have h0 := h
  obtain ⟨ws, wc, dp, bs, nc, ac, nr, rs, so, D, a1, ⟨_, _, _, a2, a2'⟩, a3, a4, a5, a6⟩ := h
  have hL := a1.1.1
  have hC := a1.2.1.1
  refine ⟨z, y, z.1 337 22, ?_, ?_, h0⟩
  · unfold fn_X11_slips fn_X4_slipCount
    rw [(b_ledg hC).1, grd_true, (b_ledg hC).2.2.2.2.2.2.1, lnk_s, (b_mach hC).1, grd_true, grd_true, (b_mach hC).2.2.1, lnk_s, (b_heap hC).1, grd_true, cal_s, a2]
  · unfold fn_X18_slips
    rw [(b_model hL).1, grd_true]
theorem m_byteOf (y0 : Int32) (h : Top RV sh n z y) : ∃ z' y' r, fn_X11_byteOf F sh n y 0 y0 = some (y', r) ∧ fn_X18_byteOf F sh n z 337 y0 = some (z', r) ∧ Top RV sh n z' y' := by
  have h0 := h
  obtain ⟨ws, wc, dp, bs, nc, ac, nr, rs, so, D, a1, a2, a3, a4, a5, len, b1, b2, b3, b4⟩ := h
  have hL := a1.1.1
  have hC := a1.2.1.1
  suffices q : ∃ r, fn_X11_byteOf F sh n y 0 y0 = some (y, r) ∧ fn_X18_byteOf F sh n z 337 y0 = some (z, r) by
    obtain ⟨r, q1, q2⟩ := q
    exact ⟨z, y, r, q1, q2, h0⟩
  unfold fn_X11_byteOf fn_X18_byteOf
  rw [(b_ledg hC).1, (b_model hL).1, grd_true, grd_true, b1, b2]
  rcases i32_3 y0 (m := len) (by omega) with e | ⟨e1, e2, e3⟩ | ⟨p, e1, e2, e3, e4, e5⟩
  · rw [if_pos e, if_pos e]; exact ⟨_, rfl, rfl⟩
  · rw [if_neg e1, if_neg e1, if_neg e3, if_pos e2]; exact ⟨_, rfl, rfl⟩
  · rw [if_neg e3, if_neg e3, if_pos e4, if_neg e5, e2, (b_ledg hC).2.2.2.2.2.2.2.2.1, lnk_s, hL.2.2 337 74 420 rfl, lnk_s, lay_a hC 86 100 1024 (by decide) rfl, lay_a hL 420 100 _ (by decide) rfl, okI_nI (by omega) (by omega), okI_nI (by omega) (by omega), grd_true, grd_true, nI_clamp (by omega), b4 p e1]
    exact ⟨_, rfl, rfl⟩
theorem m_places (y0 : Int32) (h : Top RV sh n z y) : ∃ z' y' r, fn_X11_places F sh n y 0 y0 = some (y', r) ∧ fn_X18_places F sh n z 337 y0 = some (z', r) ∧ Top RV sh n z' y' := by
  have h0 := h
  obtain ⟨ws, wc, dp, bs, nc, ac, nr, rs, so, D, a1, ⟨⟨r1, r2, _⟩, _⟩, a3, a4, a5, a6⟩ := h
  have hL := a1.1.1
  have hC := a1.2.1.1
  suffices q : ∃ r, fn_X11_places F sh n y 0 y0 = some (y, r) ∧ fn_X18_places F sh n z 337 y0 = some (z, r) by
    obtain ⟨r, q1, q2⟩ := q
    exact ⟨z, y, r, q1, q2, h0⟩
  unfold fn_X11_places fn_X18_places fn_X7_placeCount fn_X18_placeCount
  simp only [(b_ledg hC).1, (b_model hL).1, (b_ledg hC).2.2.2.1, (b_state hC).1, grd_true, lnk_s, cal_s, r1.1.1, r1.2.1, r2.1.1, r2.2.1, a1.1.2.1, a1.2.1.2.1]
  by_cases w0 : y0 = 0
  · rw [if_pos w0, if_pos w0]; exact ⟨_, rfl, rfl⟩
  · rw [if_neg w0, if_neg w0]
    by_cases w1 : y0 = 1
    · rw [if_pos w1, if_pos w1]; exact ⟨_, rfl, rfl⟩
    · rw [if_neg w1, if_neg w1]
      by_cases w2 : y0 = 2
      · rw [if_pos w2, if_pos w2]; exact ⟨_, rfl, rfl⟩
      · rw [if_neg w2, if_neg w2]
        by_cases w3 : y0 = 3
        · rw [if_pos w3, if_pos w3]; exact ⟨_, rfl, rfl⟩
        · rw [if_neg w3, if_neg w3]; exact ⟨_, rfl, rfl⟩
theorem m_account (hF : 300 ≤ F) (y0 : Int64) (y1 : Int32) (h : Top RV sh n z y) : ∃ z' y' r, fn_X11_account F sh n y 0 y0 y1 = some (y', r) ∧ fn_X18_account F sh n z 337 y0 y1 = some (z', r) ∧ Top RV sh n z' y' := by
  have h0 := h
  obtain ⟨ws, wc, dp, bs, nc, ac, nr, rs, so, D, a1, ⟨⟨r1, r2, _⟩, _⟩, a3, a4, a5, a6⟩ := h
  have hL := a1.1.1
  have hC := a1.2.1.1
  suffices q : ∃ r, fn_X11_account F sh n y 0 y0 y1 = some (y, r) ∧ fn_X18_account F sh n z 337 y0 y1 = some (z, r) by
    obtain ⟨r, q1, q2⟩ := q
    exact ⟨z, y, r, q1, q2, h0⟩
  unfold fn_X11_account fn_X18_account
  rw [(b_ledg hC).1, grd_true, (b_ledg hC).2.2.2.1, lnk_s, (b_state hC).1, grd_true, cfindA_t hF hC r2, cal_s, (b_model hL).1, grd_true, findA_t hF hL r1, cal_s]
  cases e : fdA nc ac y0 with
  | none => rw [show oI none = (-1 : Int32) from rfl, if_neg (by decide), if_neg (by decide)]; exact ⟨_, rfl, rfl⟩
  | some i =>
    have hi := fd_lt _ _ _ e
    have n256 := r1.1.2.1
    rw [if_pos (oI0 i (by omega)).1, if_pos (oI0 i (by omega)).1, show oI (some i) = nI i from rfl]
    have oi : okI (nI i) 256 = true := okI_nI (by omega) (by omega)
    obtain ⟨p1, p2, p3⟩ := r1.1.2.2 i (by omega)
    obtain ⟨q1, q2, q3⟩ := r2.1.2.2 i (by omega)
    have ci : (nI i).toNatClampNeg = i := nI_clamp (by omega)
    simp only [(b_ledg hC).2.2.2.1, (b_state hC).1, lnk_s, grd_true, (b_state hC).2.2.1, (b_state hC).2.2.2.1, lay_a hC 5 102 256 (by decide) rfl, lay_a hC 6 102 256 (by decide) rfl, (b_model hL).2.2.1, (b_model hL).2.2.2.1, lay_a hL 339 102 256 (by decide) rfl, lay_a hL 340 102 256 (by decide) rfl, oi, ci, p2, p3, q2, q3]
    by_cases w0 : y1 = 0
    · rw [if_pos w0, if_pos w0]; exact ⟨_, rfl, rfl⟩
    · rw [if_neg w0, if_neg w0]
      by_cases w1 : y1 = 1
      · rw [if_pos w1, if_pos w1]; exact ⟨_, rfl, rfl⟩
      · rw [if_neg w1, if_neg w1]; exact ⟨_, rfl, rfl⟩
theorem m_result (y0 y1 y2 : Int32) (h : Top RV sh n z y) : ∃ z' y' r, fn_X11_result F sh n y 0 y0 y1 y2 = some (y', r) ∧ fn_X18_result F sh n z 337 y0 y1 y2 = some (z', r) ∧ Top RV sh n z' y' := by
  have h0 := h
  obtain ⟨ws, wc, dp, bs, nc, ac, nr, rs, so, D, a1, a2, a3, ⟨cnt, dn, ⟨b1, b2, b3⟩, ⟨b4, b5, b6⟩, b7, b8, b9⟩, a5, a6⟩ := h
  have hL := a1.1.1
  have hC := a1.2.1.1
  suffices q : ∃ r, fn_X11_result F sh n y 0 y0 y1 y2 = some (y, r) ∧ fn_X18_result F sh n z 337 y0 y1 y2 = some (z, r) by
    obtain ⟨r, q1, q2⟩ := q
    exact ⟨z, y, r, q1, q2, h0⟩
  unfold fn_X11_result fn_X18_result
  rw [done_t hL b4 (by omega), (b_ledg hC).1, (b_model hL).1, grd_true, grd_true, cal_s, b5]
  rcases i32_3 y0 (m := dn) (by omega) with e | ⟨e1, e2, e3⟩ | ⟨t, e1, e2, e3, e4, e5⟩
  · rw [if_pos e, if_pos e, if_pos rfl]; exact ⟨_, rfl, rfl⟩
  · rw [if_neg e1, if_neg e1, if_pos e2, if_pos e2, if_pos rfl]; exact ⟨_, rfl, rfl⟩
  · rw [if_neg e3, if_neg e3, if_neg e5, if_neg e5, if_neg (show ¬ ((1 : Int32) = 0) by decide)]
    by_cases d : y1 < 0
    · rw [if_pos d, if_pos d]; exact ⟨_, rfl, rfl⟩
    · rw [if_neg d, if_neg d]
      obtain ⟨t1, t2, t3, t4, t5⟩ := tx_at hC (t := t) (by omega)
      obtain ⟨o, g, c, hh, kd, hi, lo, g1, g2, ⟨g3, g4, g5, g6⟩, ⟨g7, g8, g9⟩, g10, g11, g12, g13⟩ := b8 t e1
      have ht : t < 32 := by omega
      rw [e2]
      simp only [t1, lnk_s, t2, grd_true, t3, t4, t5, g12, hL.2.2 337 70 416 rfl, md_at hL ht 416 101 rfl (by decide), g11]
      rcases i32_3 y1 (m := hh) (by omega) with w | ⟨w1, w2, w3⟩ | ⟨k, w1, w2, w3, w4, w5⟩
      · exact absurd w d
      · rw [if_neg w3, if_pos w2]; exact ⟨_, rfl, rfl⟩
      · rw [if_pos w4, if_neg w5]
        obtain ⟨⟨s1, s2, s3⟩, s4, s5, s6⟩ := g13 k w1
        obtain ⟨x1, x2, x3, x4, x5, x6, x7⟩ := tx_sh t (by omega)
        have e8 : (8 * nI t + nI k : Int32) = nI (8 * t + k) := by
          rw [show (8 : Int32) = nI 8 from rfl, pk_mul, nI_add]
        have ok : okI (nI k) 8 = true := okI_nI (by omega) (by omega)
        have c8 : (nI k).toNatClampNeg = k := nI_clamp (by omega)
        have c9 : (nI (8 * t + k)).toNatClampNeg = 8 * t + k := nI_clamp (by omega)
        have o9 : okI (nI (8 * t + k)) 256 = true := okI_nI (by omega) (by omega)
        rw [w2]
        simp only [t1, lnk_s, t2, grd_true, t3, t4, t5, hC.2.2 _ 16 _ x5, hC.2.2 _ 17 _ x6, hC.2.2 _ 18 _ x7, lay_a hC _ 101 8 (by omega) x2, lay_a hC _ 102 8 (by omega) x3, lay_a hC _ 102 8 (by omega) x4, ok, c8, s4, s5, s6, e8, lt_t, hL.2.2 337 73 419 rfl, hL.2.2 337 72 418 rfl, hL.2.2 337 71 417 rfl, lay_a hL 419 102 256 (by decide) rfl, lay_a hL 418 102 256 (by decide) rfl, lay_a hL 417 100 256 (by decide) rfl, o9, c9, s1, s2, s3]
        by_cases v0 : y2 = 0
        · rw [if_pos v0, v0, if_neg (by decide), if_pos (by decide), if_pos rfl]; exact ⟨_, rfl, rfl⟩
        · rw [if_neg v0]
          by_cases v1 : y2 = 1
          · rw [if_pos v1, v1, if_neg (by decide), if_pos (by decide), if_neg (by decide), if_pos rfl]; exact ⟨_, rfl, rfl⟩
          · rw [if_neg v1]
            by_cases v2 : y2 = 2
            · rw [if_pos v2, v2, if_neg (by decide), if_pos (by decide), if_neg (by decide), if_neg (by decide)]; exact ⟨_, rfl, rfl⟩
            · rw [if_neg v2]
              have : y2 < 0 ∨ ¬ y2 ≤ 2 := by
                rcases i32_3 y2 (m := 3) (by omega) with q | ⟨q1, q2, q3⟩ | ⟨k', q1, q2, _⟩
                · exact .inl q
                · refine .inr (fun q => q3 ?_)
                  rw [Int32.le_iff_toInt_le] at q
                  rw [Int32.lt_iff_toInt_lt]
                  have : (nI 3).toInt = 3 := rfl
                  have : (2 : Int32).toInt = 2 := rfl
                  omega
                · rw [q2] at v0 v1 v2
                  match k', q1 with
                  | 0, _ => exact absurd rfl v0
                  | 1, _ => exact absurd rfl v1
                  | 2, _ => exact absurd rfl v2
              rcases this with q | q
              · rw [if_pos q]; exact ⟨_, rfl, rfl⟩
              · by_cases q0 : y2 < 0
                · rw [if_pos q0]; exact ⟨_, rfl, rfl⟩
                · rw [if_neg q0, if_neg q]; exact ⟨_, rfl, rfl⟩
end
