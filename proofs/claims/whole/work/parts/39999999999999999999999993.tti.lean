/-! AN ARGUMENT IS GIVEN -/
theorem tx_s2 : ∀ t, t < 32 → shF (113 + 7 * t + 1) = (101, 8) ∧ shF (113 + 7 * t + 2) = (102, 8) ∧ shF (113 + 7 * t + 3) = (102, 8) ∧ lkF (113 + 7 * t) 8 = some (113 + 7 * t + 1) ∧ lkF (113 + 7 * t) 9 = some (113 + 7 * t + 2) ∧ lkF (113 + 7 * t) 10 = some (113 + 7 * t + 3) := by decide
section
variable {RV : RtV} {F n : Nat} {sh : Nat → Nat × Nat} {z z' y y' : St} {cnt dn t K c : Nat}
theorem arg_c (y : St) (x0 : Int32) (x1 x2 : Int64) : (∃ kd, ArO kd x1 x2 ∧ x0 = nI kd ∧ fn_X11_isArgument F sh n y x0 x1 x2 = some (y, 1) ∧ ∀ z, fn_X18_argument F sh n z 337 x0 x1 x2 = fn_X18_argument_B91 F sh n 337 x0 x1 x2 z) ∨ (fn_X11_isArgument F sh n y x0 x1 x2 = some (y, 0) ∧ ∀ z, fn_X18_argument F sh n z 337 x0 x1 x2 = some (z, -1)) := by
  unfold fn_X11_isArgument fn_X18_argument fn_X18_argument_B70 fn_X18_argument_B52 fn_X18_argument_B19 fn_X18_argument_B71 fn_X11_isArgument_B25
  have n10 : ¬ (1 : Int32) = 0 := by decide
  rcases i32_3 x0 (m := 6) (by omega) with a | ⟨a1, a2, a3⟩ | ⟨t, t1, t2, _⟩
  · have k0 : (0 : Int32).toInt = 0 := rfl
    have b1 : x0 < 1 := by
      rw [Int32.lt_iff_toInt_lt] at a ⊢
      have : (1 : Int32).toInt = 1 := rfl
      omega
    have b2 : x0 < 3 := by
      rw [Int32.lt_iff_toInt_lt] at a ⊢
      have : (3 : Int32).toInt = 3 := rfl
      omega
    have b3 : ¬ x0 = 1 := fun e => by rw [e] at a; exact absurd a (by decide)
    have b4 : ¬ x0 = 2 := fun e => by rw [e] at a; exact absurd a (by decide)
    refine .inr ⟨by rw [if_pos b1], fun z => ?_⟩
    rw [if_neg b3, if_neg b4, if_pos b2, if_pos rfl]
  · have k6 : (nI 6).toInt = 6 := rfl
    rw [Int32.le_iff_toInt_le, k6] at a2
    have b1 : ¬ x0 < 1 := by
      rw [Int32.lt_iff_toInt_lt]
      have : (1 : Int32).toInt = 1 := rfl
      omega
    have b2 : ¬ x0 < 3 := by
      rw [Int32.lt_iff_toInt_lt]
      have : (3 : Int32).toInt = 3 := rfl
      omega
    have b5 : ¬ x0 ≤ 5 := by
      rw [Int32.le_iff_toInt_le]
      have : (5 : Int32).toInt = 5 := rfl
      omega
    have b6 : (5 : Int32) < x0 := by
      rw [Int32.lt_iff_toInt_lt]
      have : (5 : Int32).toInt = 5 := rfl
      omega
    have b3 : ¬ x0 = 1 := fun e => by rw [e] at a2; exact absurd a2 (by decide)
    have b4 : ¬ x0 = 2 := fun e => by rw [e] at a2; exact absurd a2 (by decide)
    refine .inr ⟨by rw [if_neg b1, if_neg b5], fun z => ?_⟩
    rw [if_neg b3, if_neg b4, if_neg b2, if_pos b6, if_pos rfl]
  · subst t2
    match t, t1 with
    | 0, _ => exact .inr ⟨if_pos (by decide), fun z => by
        rw [if_neg (show ¬ nI 0 = 1 by decide), if_neg (show ¬ nI 0 = 2 by decide), if_pos (show nI 0 < 3 by decide), if_pos rfl]⟩
    | 1, _ =>
      rw [if_neg (show ¬ nI 1 < 1 by decide), if_pos (show nI 1 ≤ 5 by decide), if_neg (show ¬ nI 1 = 4 by decide), if_pos (show nI 1 = 1 by decide)]
      by_cases q : x1 = 0
      · rw [if_pos q]
        by_cases q0 : x2 = 0
        · exact .inl ⟨1, ⟨by omega, by omega, fun _ => q, fun _ => .inl q0, fun w => absurd w (by omega)⟩, rfl, if_pos q0, fun z => by
            rw [if_pos (show nI 1 = 1 by decide), if_pos q0, if_neg n10, if_neg (show ¬ nI 1 = 4 by decide), if_pos q]⟩
        · by_cases q1 : x2 = 1
          · exact .inl ⟨1, ⟨by omega, by omega, fun _ => q, fun _ => .inr q1, fun w => absurd w (by omega)⟩, rfl, by rw [if_neg q0, if_pos q1], fun z => by
              rw [if_pos (show nI 1 = 1 by decide), if_neg q0, if_pos q1, if_neg n10, if_neg (show ¬ nI 1 = 4 by decide), if_pos q]⟩
          · exact .inr ⟨by rw [if_neg q0, if_neg q1], fun z => by
              rw [if_pos (show nI 1 = 1 by decide), if_neg q0, if_neg q1, if_pos rfl]⟩
      · rw [if_neg q]
        refine .inr ⟨rfl, fun z => ?_⟩
        rw [if_pos (show nI 1 = 1 by decide), if_neg (show ¬ nI 1 = 4 by decide), if_neg q]
        simp only [if_neg n10, if_pos, ite_self]
    | 2, _ =>
      rw [if_neg (show ¬ nI 2 < 1 by decide), if_pos (show nI 2 ≤ 5 by decide), if_neg (show ¬ nI 2 = 4 by decide), if_neg (show ¬ nI 2 = 1 by decide), if_pos (show nI 2 = 2 by decide)]
      have k255 : (255 : Int64).toInt = 255 := rfl
      have k256 : (256 : Int64).toInt = 256 := rfl
      have k0 : (0 : Int64).toInt = 0 := rfl
      by_cases q : x1 = 0
      · rw [if_pos q]
        by_cases q0 : x2 < 0
        · exact .inr ⟨if_pos q0, fun z => by
            rw [if_neg (show ¬ nI 2 = 1 by decide), if_pos (show nI 2 = 2 by decide), if_pos q0, if_pos rfl]⟩
        · by_cases q1 : (255 : Int64) < x2
          · have q2 : (256 : Int64) ≤ x2 := by
              rw [Int64.lt_iff_toInt_lt] at q1
              rw [Int64.le_iff_toInt_le]; omega
            exact .inr ⟨by rw [if_neg q0, if_pos q1], fun z => by
              rw [if_neg (show ¬ nI 2 = 1 by decide), if_pos (show nI 2 = 2 by decide), if_neg q0, if_pos q2, if_pos rfl]⟩
          · have q2 : ¬ (256 : Int64) ≤ x2 := by
              rw [Int64.lt_iff_toInt_lt] at q1
              rw [Int64.le_iff_toInt_le]; omega
            refine .inl ⟨2, ⟨by omega, by omega, fun _ => q, fun w => absurd w (by omega), fun _ => ?_⟩, rfl, by rw [if_neg q0, if_neg q1], fun z => by
              rw [if_neg (show ¬ nI 2 = 1 by decide), if_pos (show nI 2 = 2 by decide), if_neg q0, if_neg q2, if_neg n10, if_neg (show ¬ nI 2 = 4 by decide), if_pos q]⟩
            rw [Int64.lt_iff_toInt_lt] at q0 q1
            have e : x2.toInt = x2.toBitVec.toInt := rfl
            have e2 := BitVec.toInt_eq_toNat_cond x2.toBitVec
            have e3 := N_lt x2
            unfold N at e3 ⊢
            split at e2 <;> omega
      · rw [if_neg q]
        refine .inr ⟨rfl, fun z => ?_⟩
        rw [if_neg (show ¬ nI 2 = 1 by decide), if_pos (show nI 2 = 2 by decide), if_neg (show ¬ nI 2 = 4 by decide), if_neg q]
        simp only [if_neg n10, if_pos, ite_self]
    | 3, _ =>
      rw [if_neg (show ¬ nI 3 < 1 by decide), if_pos (show nI 3 ≤ 5 by decide), if_neg (show ¬ nI 3 = 4 by decide), if_neg (show ¬ nI 3 = 1 by decide), if_neg (show ¬ nI 3 = 2 by decide)]
      have r : ∀ z, fn_X18_argument F sh n z 337 (nI 3) x1 x2 = if x1 = 0 then fn_X18_argument_B91 F sh n 337 (nI 3) x1 x2 z else some (z, -1) := fun z => by
        unfold fn_X18_argument fn_X18_argument_B71
        rw [if_neg (show ¬ nI 3 = 1 by decide), if_neg (show ¬ nI 3 = 2 by decide), if_neg (show ¬ nI 3 < 3 by decide), if_neg (show ¬ (5 : Int32) < nI 3 by decide), if_neg n10, if_neg (show ¬ nI 3 = 4 by decide)]
      by_cases q : x1 = 0
      · exact .inl ⟨3, ⟨by omega, by omega, fun _ => q, fun w => absurd w (by omega), fun w => absurd w (by omega)⟩, rfl, if_pos q, fun z => (r z).trans (if_pos q)⟩
      · exact .inr ⟨if_neg q, fun z => (r z).trans (if_neg q)⟩
    | 4, _ =>
      refine .inl ⟨4, ⟨by omega, by omega, fun w => absurd rfl w, fun w => absurd w (by omega), fun w => absurd w (by omega)⟩, rfl, ?_, fun z => ?_⟩
      · rw [if_neg (show ¬ nI 4 < 1 by decide), if_pos (show nI 4 ≤ 5 by decide), if_pos (show nI 4 = 4 by decide), if_neg (show ¬ nI 4 = 1 by decide), if_neg (show ¬ nI 4 = 2 by decide)]
      · rw [if_neg (show ¬ nI 4 = 1 by decide), if_neg (show ¬ nI 4 = 2 by decide), if_neg (show ¬ nI 4 < 3 by decide), if_neg (show ¬ (5 : Int32) < nI 4 by decide), if_neg n10, if_pos (show nI 4 = 4 by decide)]
    | 5, _ =>
      rw [if_neg (show ¬ nI 5 < 1 by decide), if_pos (show nI 5 ≤ 5 by decide), if_neg (show ¬ nI 5 = 4 by decide), if_neg (show ¬ nI 5 = 1 by decide), if_neg (show ¬ nI 5 = 2 by decide)]
      have r : ∀ z, fn_X18_argument F sh n z 337 (nI 5) x1 x2 = if x1 = 0 then fn_X18_argument_B91 F sh n 337 (nI 5) x1 x2 z else some (z, -1) := fun z => by
        unfold fn_X18_argument fn_X18_argument_B71
        rw [if_neg (show ¬ nI 5 = 1 by decide), if_neg (show ¬ nI 5 = 2 by decide), if_neg (show ¬ nI 5 < 3 by decide), if_neg (show ¬ (5 : Int32) < nI 5 by decide), if_neg n10, if_neg (show ¬ nI 5 = 4 by decide)]
      by_cases q : x1 = 0
      · exact .inl ⟨5, ⟨by omega, by omega, fun _ => q, fun w => absurd w (by omega), fun w => absurd w (by omega)⟩, rfl, if_pos q, fun z => (r z).trans (if_pos q)⟩
      · exact .inr ⟨if_neg q, fun z => (r z).trans (if_neg q)⟩
theorem fzK_a {k j : Nat} {v : Int32} (hk : k = 407) (hj : 8 * c ≤ j ∧ j < 8 * c + 8) : FzK c z (si z k j v) := ⟨rfl, fun k' a b => si_ok (by omega), fun _ _ => rfl, fun j _ _ => by rw [si_ok (by omega)], fun t ht => ⟨fun k' q => by rw [si_ok (by omega)], rfl, rfl, fun i hi => ⟨by rw [si_oj (by omega)], rfl, rfl⟩, fun p _ => by rw [si_ok (by omega)]⟩⟩
theorem fzK_b {k j : Nat} {v : Int64} (hk : k = 408 ∨ k = 409) (hj : 8 * c ≤ j ∧ j < 8 * c + 8) : FzK c z (sl z k j v) := ⟨rfl, fun _ _ _ => rfl, fun k' a => sl_ok (by omega), fun _ _ _ => rfl, fun t ht => ⟨fun _ _ => rfl, by rw [sl_ok (by omega)], by rw [sl_ok (by omega)], fun i hi => ⟨rfl, by rw [sl_oj (by omega)], by rw [sl_oj (by omega)]⟩, fun _ _ => rfl⟩⟩
/-- a transaction is laid anew in its place -/
theorem Bck.repl (h : Bck sh n z y cnt dn) (ht : t < cnt) (hd : dn ≤ t) (fz : FzK t z z') (fy : FyK (113 + 7 * t) y y') (z52 : z'.1 337 52 = z.1 337 52) (y4 : y'.1 0 4 = y.1 0 4) (new : TxL sh n z' y' t) (y15 : y'.1 (113 + 7 * t) 15 = 0) (hn : n ≤ 10 ^ 12) : Bck sh n z' y' cnt dn := by
  obtain ⟨⟨h1, h2, h3⟩, ⟨h4, h5, h6⟩, h7, h8, h9⟩ := h
  refine ⟨⟨z52.trans h1, y4.trans h2, h3⟩, ⟨by rw [fz.2.2.2.1 53 (by omega) (by omega)]; exact h4, by rw [fy.2.2.2 5 (by omega) (by omega)]; exact h5, h6⟩, fun t' ht' => ?_, fun t' ht' => ?_, fun t' t1 t2 => ?_⟩
  · by_cases q : t' = t
    · subst q; exact new
    · exact (h7 t' ht').of (fz.e q).1 (fy.e rfl (by omega) q).1 (Nat.le_refl _) (fun _ _ => rfl) hn
  · exact (h8 t' ht').of (fz.e (by omega)).2 (fy.e (n := n) rfl (by omega) (by omega)).2
  · by_cases q : t' = t
    · subst q; exact y15
    · rw [(fy.e (n := n) rfl (by omega) q).2.1 15 (by omega)]; exact h9 t' t1 t2
theorem nar_5 : ∀ k, k ≤ 5 → vp_nar .byte ((nI k).toInt8.toInt32) = nI k := by decide
theorem m_argument (y0 : Int32) (y1 y2 : Int64) (hn : n ≤ 10 ^ 12) (h : Top RV sh n z y) : ∃ z' y' r, fn_X11_argument F sh n y 0 y0 y1 y2 = some (y', r) ∧ fn_X18_argument F sh n z 337 y0 y1 y2 = some (z', r) ∧ Top RV sh n z' y' := by
  have h0 := h
  obtain ⟨ws, wc, dp, bs, nc, ac, nr, rs, so, D, a1, a2, a3, ⟨cnt, dn, a4⟩, ⟨len, w, a5⟩, l2, a6⟩ := h
  have hL := a1.1.1
  have hC := a1.2.1.1
  have B := a4
  obtain ⟨⟨b1, b2, b3⟩, ⟨b4, b5, b6⟩, b7, b8, b9⟩ := B
  unfold fn_X11_argument
  rcases (arg_c (F := F) (sh := sh) (n := n) y y0 y1 y2).symm with ⟨c1, c2⟩ | ⟨kd0, ok0, e0, c1, c2⟩
  · rw [c1, c2, cal_s, if_pos rfl]; exact ⟨_, _, _, rfl, rfl, h0⟩
  rw [c1, c2, cal_s, if_neg (show ¬ ((1 : Int32) = 0) by decide), (b_ledg hC).1, grd_true, b2, b5]
  unfold fn_X18_argument_B91
  rw [(b_model hL).1, grd_true, b1, b4, lt_t]
  by_cases q : cnt = dn
  · have q2 : nI cnt - 1 < nI dn := by
      rw [Int32.lt_iff_toInt_lt, nI_toInt (by omega), show (nI cnt - 1).toInt = (cnt : Int) - 1 from pk_sub_toInt (a := cnt) (b := 1) (by omega) (by decide)]
      omega
    rw [if_pos (by rw [q]), if_pos q2]; exact ⟨_, _, _, rfl, rfl, h0⟩
  have hd : ¬ nI cnt = nI dn := fun e => q (nI_uq e (by omega) (by omega))
  obtain ⟨t, rfl⟩ : ∃ t, cnt = t + 1 := ⟨cnt - 1, by omega⟩
  have em : nI (t + 1) - 1 = nI t := pk_sub (a := t + 1) (b := 1) (by omega)
  have ht : t < 32 := by omega
  have nd : ¬ nI t < nI dn := fun e => by
    have := (nI_ltW (a := t) (b := dn) (by omega) (by omega)).mp e
    omega
  obtain ⟨t1, t2, t3, t4, t5⟩ := tx_at hC ht
  rw [if_neg hd, em, if_neg nd]
  simp only [t1, lnk_s, t2, grd_true, t3, t4, t5, hL.2.2 337 54 400 rfl, md_at hL ht 400 101 rfl (by decide)]
  obtain ⟨d1, d2⟩ := b7 t (by omega)
  rcases d2 with ⟨p1, p2, _⟩ | ⟨p1, p2, m, f, c, kd, hi, lo, p3, p4, p5, ⟨p6, p7, p8⟩, ⟨p9, p10, p11⟩, p12⟩
  · rw [p1, p2, if_pos rfl, if_neg (by decide)]; exact ⟨_, _, _, rfl, rfl, h0⟩
  rw [p1, p2, if_neg (show ¬ ((1 : Int32) = 0) by decide), if_pos rfl]
  unfold fn_X8_addArgument
  simp only [lnk_s, grd_true, t5, hL.2.2 337 60 406 rfl, md_at hL ht 406 101 rfl (by decide), p8, p11]
  by_cases q8 : c = 8
  · subst q8
    rw [if_neg (show ¬ nI 8 < 8 by decide), cal_s, if_pos (show nI 8 = 8 by decide)]; exact ⟨_, _, _, rfl, rfl, h0⟩
  obtain ⟨s1, s2, s3, s4, s5, s6⟩ := tx_s2 t ht
  have c8 : c < 8 := by omega
  have lt8 : nI c < 8 := (nI_ltW (b := 8) (by omega) (by omega)).mpr c8
  have ne8 : ¬ nI c = 8 := fun e => q8 (nI_uq (b := 8) e (by omega) (by omega))
  have oc : okI (nI c) 8 = true := okI_nI c8 (by omega)
  have cc : (nI c).toNatClampNeg = c := nI_clamp (by omega)
  have e8 : (8 * nI t + nI c : Int32) = nI (8 * t + c) := by
    rw [show (8 : Int32) = nI 8 from rfl, pk_mul, nI_add]
  have o9 : okI (nI (8 * t + c)) 256 = true := okI_nI (by omega) (by omega)
  have c9 : (nI (8 * t + c)).toNatClampNeg = 8 * t + c := nI_clamp (by omega)
  have e1 : nI c + 1 = nI (c + 1) := nI_add c 1
  have kn : vp_nar .byte (y0.toInt8.toInt32) = nI kd0 := by rw [e0]; exact nar_5 kd0 ok0.2.1
  have n1 : 113 + 7 * t ≠ 113 + 7 * t + 1 := by omega
  rw [if_pos lt8, if_neg ne8]
  simp only [hC.2.2 _ 8 _ s4, hC.2.2 _ 9 _ s5, hC.2.2 _ 10 _ s6, lnk_s, lay_a hC _ 101 8 (by omega) s1, lay_a hC _ 102 8 (by omega) s2, lay_a hC _ 102 8 (by omega) s3, oc, grd_true, cc, lt_t, si_3, sl_3, sl_1, si_ok n1, p8, si_ss, cal_s, e1, e8, hL.2.2 337 61 407 rfl, hL.2.2 337 62 408 rfl, hL.2.2 337 63 409 rfl, hL.2.2 337 60 406 rfl, lay_a hL 407 100 256 (by decide) rfl, lay_a hL 408 102 256 (by decide) rfl, lay_a hL 409 102 256 (by decide) rfl, o9, c9, md_at hL ht 406 101 rfl (by decide), si_ok (show 406 ≠ 407 by omega), p11, kn]
  have F1 : FyK (113 + 7 * t) y (si (sl (sl (si y (113 + 7 * t + 1) c y0) (113 + 7 * t + 2) c y1) (113 + 7 * t + 3) c y2) (113 + 7 * t) 7 (nI (c + 1))) := (((fyK_i (by omega) (by omega)).trans (fyK_l (by omega) (by omega))).trans (fyK_l (by omega) (by omega))).trans (fyK_i (by omega) (by omega))
  have G1 : FzK t z (si (sl (sl (si z 407 (8 * t + c) (nI kd0)) 408 (8 * t + c) y1) 409 (8 * t + c) y2) 406 t (nI (c + 1))) := (((fzK_a rfl (by omega)).trans (fzK_b (by omega) (by omega))).trans (fzK_b (by omega) (by omega))).trans (fzK_i (by omega))
  refine ⟨_, _, _, rfl, rfl, ws, wc, dp, bs, nc, ac, nr, rs, so, D, a1.bk G1.b (F1.b rfl ht), a2.bk G1.b (F1.b rfl ht), a3.bk (F1.b rfl ht), ⟨t + 1, dn, a4.repl (by omega) (by omega) G1 F1 ?_ ?_ ?_ ?_ hn⟩, ⟨len, w, a5.of ⟨?_, ?_, ?_⟩ ⟨?_, ?_, ?_⟩⟩, l2, a6.of ⟨?_, ?_⟩ ⟨?_, ?_⟩⟩
  · rw [si_ok (by omega), sl_1, sl_1, si_ok (by omega)]
  · rw [si_ok (by omega), sl_1, sl_1, si_ok (by omega)]
  · obtain ⟨g1, g2, lim, g3, g4, g5, g6⟩ := d1
    refine ⟨⟨?_, ?_, lim, g3, g4, ?_, ?_⟩, .inr ⟨?_, ?_, m, f, c + 1, fun i => if i = c then kd0 else kd i, fun i => if i = c then y1 else hi i, fun i => if i = c then y2 else lo i, p3, p4, by omega, ⟨?_, ?_, si_ss⟩, ⟨?_, ?_, si_ss⟩, fun i hi' => ?_⟩⟩
    · rw [si_2, sl_ok (by omega), sl_ok (by omega), si_2, si_2, sl_ok (by omega), sl_ok (by omega), si_2]; exact g1
    · rw [si_2, sl_ok (by omega), sl_ok (by omega), si_2, si_2, sl_ok (by omega), sl_ok (by omega), si_2]; exact g2
    · rw [si_oj (by omega), sl_1, sl_1, si_ok (by omega)]; exact g5
    · rw [si_ok (by omega), sl_1, sl_1, si_ok (by omega)]; exact g6
    · rw [si_oj (by omega), sl_1, sl_1, si_ok (by omega)]; exact p1
    · rw [si_ok (by omega), sl_1, sl_1, si_ok (by omega)]; exact p2
    · rw [si_oj (by omega), sl_1, sl_1, si_ok (by omega)]; exact p6
    · rw [si_oj (by omega), sl_1, sl_1, si_ok (by omega)]; exact p7
    · rw [si_ok (by omega), sl_1, sl_1, si_ok (by omega)]; exact p9
    · rw [si_ok (by omega), sl_1, sl_1, si_ok (by omega)]; exact p10
    · rw [si_ok (show 113 + 7 * t + 1 ≠ 113 + 7 * t by omega), sl_1, sl_1, si_2, sl_ok (show 113 + 7 * t + 2 ≠ 113 + 7 * t + 3 by omega), si_ok (show 407 ≠ 406 by omega), sl_1, sl_1, si_2, sl_ok (show 408 ≠ 409 by omega)]
      by_cases ic : i = c
      · subst ic
        simp only [if_true]
        refine ⟨ok0, ⟨by rw [si_ss, e0], by rw [sl_ss], by rw [sl_ss]⟩, by rw [si_ss], by rw [sl_ss], by rw [sl_ss]⟩
      · obtain ⟨w1, ⟨w2, w3, w4⟩, w5, w6, w7⟩ := p12 i (by omega)
        simp only [if_neg ic]
        refine ⟨w1, ⟨by rw [si_oj ic]; exact w2, by rw [sl_oj ic, si_2]; exact w3, by rw [sl_oj ic, sl_ok (by omega), si_2]; exact w4⟩, by rw [si_oj (by omega)]; exact w5, by rw [sl_oj (by omega), si_2]; exact w6, by rw [sl_oj (by omega), sl_ok (by omega), si_2]; exact w7⟩
  · rw [si_oj (by omega), sl_1, sl_1, si_ok (by omega)]; exact b9 t (by omega) (by omega)
  · rw [si_ok (by omega), sl_1, sl_1, si_ok (by omega)]
  · rw [si_ok (by omega), sl_1, sl_1, si_ok (by omega)]
  · exact G1.2.1 399 (by omega) (by omega)
  · rw [si_ok (by omega), sl_1, sl_1, si_ok (by omega)]
  · exact F1.2.2.2 2 (by omega) (by omega)
  · exact F1.2.1 1 (by omega) (by omega)
  · rw [si_ok (by omega), sl_1, sl_1, si_ok (by omega)]
  · exact G1.2.1 420 (by omega) (by omega)
  · exact F1.2.2.2 12 (by omega) (by omega)
  · exact F1.2.1 86 (by omega) (by omega)
end
