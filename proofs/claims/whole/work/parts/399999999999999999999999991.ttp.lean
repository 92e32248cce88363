/-! ONE TRANSACTION that is refused, both sides -/
section
variable {F n : Nat} {sh : Nat → Nat × Nat} {z z' y y' : St} {t cnt d nc nr lim r : Nat} {ac : Nat → Int64 × Int64 × Int64} {rs : Nat → Int64 × Nat × Hp × Nat} {so : Nat → Option Rsc} {sd sq : Int64}
theorem rfS_1 {k : Nat} (h1 : k ≠ 337) (h2 : k ≠ 412) (h3 : k ≠ 413) : (rfS z t r).1 k = z.1 k := by
  unfold rfS
  rw [sl_1, si_ok h3, si_ok h2, sl_1, si_ok h1]
theorem rfS_2 {k : Nat} (h1 : k ≠ 337) (h2 : k ≠ 415) : (rfS z t r).2.1 k = z.2.1 k := by
  unfold rfS
  rw [sl_ok h2, si_2, si_2, sl_ok h1, si_2]
theorem rfS_f {j : Nat} (h : j ≠ 27) (h2 : j ≠ 28) : (rfS z t r).1 337 j = z.1 337 j ∧ (rfS z t r).2.1 337 j = z.2.1 337 j := by
  unfold rfS
  exact ⟨by rw [sl_1, si_ok (by omega), si_ok (by omega), sl_1, si_oj h], by rw [sl_ok (by omega), si_2, si_2, sl_oj h2, si_2]⟩
theorem rfS_v : (rfS z t r).1 412 t = 3 ∧ (rfS z t r).1 413 t = 0 ∧ (rfS z t r).2.1 415 t = lN r := by
  unfold rfS
  exact ⟨by rw [sl_1, si_ok (by omega), si_ss], by rw [sl_1, si_ss], sl_ss⟩
theorem rfS_o {j : Nat} (h : j ≠ t) : (rfS z t r).1 412 j = z.1 412 j ∧ (rfS z t r).1 413 j = z.1 413 j ∧ (rfS z t r).2.1 415 j = z.2.1 415 j := by
  unfold rfS
  exact ⟨by rw [sl_1, si_ok (by omega), si_oj h, sl_1, si_ok (by omega)], by rw [sl_1, si_oj h, si_ok (by omega), sl_1, si_ok (by omega)], by rw [sl_oj h, si_2, si_2, sl_ok (by omega), si_2]⟩
/-- the class comes to a transaction -/
theorem cl_ref (hL : Lay sh n y) (h4 : y.1 0 4 = nI cnt) (hc : cnt ≤ 32) (hd : d < cnt) (hr : 0 < r ∧ r < 16) (e : fn_X11_refusalOf F sh n y 0 (113 + 7 * d) = some (y, nI r)) (g : Nat) (p : Int32) : fn_X11_execute_L21 F sh n 0 (g + 1) y p (nI d) = fn_X11_execute_L21 F sh n 0 g (txE y (113 + 7 * d) 3 (lN r) 0) p (nI (d + 1)) := by
  obtain ⟨t1, t2, t3, t4, t5⟩ := tx_at hL (t := d) (by omega)
  rw [fn_X11_execute_L21]
  rw [h4, if_neg (fun q => by have := (nI_leW (a := cnt) (b := d) (by omega) (by omega)).mp q; omega), t1, lnk_s, t2, grd_true, t3, t4, lnk_s, e, cal_s, if_neg (show ¬ nI r = 0 from fun q => by have := nI_uq (b := 0) q (by omega) (by omega); omega), t5, grd_true]
  unfold fn_X8_end fn_X11_execute_B109
  rw [t5, grd_true, lt_t, lt_t, lt_t, cal_s, lIi (by omega), show nI d + 1 = nI (d + 1) from nI_add d 1]
  rfl
theorem cl_run (hL : Lay sh n y) (h4 : y.1 0 4 = nI cnt) (hc : cnt ≤ 32) (hd : d < cnt) (e : fn_X11_refusalOf F sh n y 0 (113 + 7 * d) = some (y, 0)) {y1 : St} (e1 : fn_X7_charge F sh n y 3 (113 + 7 * d) = some (y1, ())) (L1 : Lay sh n y1) (g : Nat) (p : Int32) : fn_X11_execute_L21 F sh n 0 (g + 1) y p (nI d) = if ((y1.1 (113 + 7 * d) 0) : Int32) = 0 then cal (fn_X11_takeModule F sh n y1 0 (113 + 7 * d)) (fun z_36 _ => fn_X11_execute_B91 F sh n 0 (113 + 7 * d) (nI d) p (fun z9 q1 q2 => fn_X11_execute_L21 F sh n 0 g z9 q1 q2) z_36) else cal (fn_X4_run F sh n y1 87 (113 + 7 * d)) (fun z_39 _ => fn_X11_execute_B91 F sh n 0 (113 + 7 * d) (nI d) p (fun z9 q1 q2 => fn_X11_execute_L21 F sh n 0 g z9 q1 q2) z_39) := by
  obtain ⟨t1, t2, t3, t4, t5⟩ := tx_at hL (t := d) (by omega)
  rw [fn_X11_execute_L21]
  rw [h4, if_neg (fun q => by have := (nI_leW (a := cnt) (b := d) (by omega) (by omega)).mp q; omega), t1, lnk_s, t2, grd_true, t3, t4, lnk_s, e, cal_s, if_pos rfl, (b_ledg hL).2.2.2.1, lnk_s, (b_state hL).1, grd_true, e1, cal_s, t5, grd_true, (b_ledg L1).2.2.2.2.2.2.1, lnk_s, (b_mach L1).1, grd_true]
theorem cl_b91 {y2 y3 : St} {o : Nat} (L2 : Lay sh n y2) (e : fn_X7_settle F sh n y2 3 (113 + 7 * d) = some (y3, ())) (ho : y3.1 (113 + 7 * d) 11 = nI o) (h4 : o ≤ 4) (g : Nat) (p : Int32) : fn_X11_execute_B91 F sh n 0 (113 + 7 * d) (nI d) p (fun z9 q1 q2 => fn_X11_execute_L21 F sh n 0 g z9 q1 q2) y2 = fn_X11_execute_L21 F sh n 0 g y3 (if o = 0 then p + 1 else p) (nI (d + 1)) := by
  unfold fn_X11_execute_B91 fn_X11_execute_B109
  rw [(b_ledg L2).2.2.2.1, lnk_s, (b_state L2).1, grd_true, e, cal_s, ho, show nI d + 1 = nI (d + 1) from nI_add d 1]
  by_cases q : o = 0
  · rw [if_pos (show nI o = 0 by rw [q]; rfl), if_pos q]
  · rw [if_neg (show ¬ nI o = 0 from fun w => q (nI_uq (b := 0) w (by omega) (by omega))), if_neg q]
/-- the reference's loop, one turn -/
theorem rl_turn {o : Nat} (L' : Lay sh n z') (h52 : z.1 337 52 = nI cnt) (hc : cnt ≤ 32) (hd : d < cnt) (e : fn_X18_doOne F sh n z 337 (nI d) = some (z', ())) (ho : z'.1 412 d = nI o) (h4 : o ≤ 4) (g : Nat) (p : Int32) : fn_X18_execute_L21 F sh n 337 (g + 1) z p (nI d) = fn_X18_execute_L21 F sh n 337 g z' (if o = 0 then p + 1 else p) (nI (d + 1)) := by
  rw [fn_X18_execute_L21]
  rw [h52, if_neg (fun q => by have := (nI_leW (a := cnt) (b := d) (by omega) (by omega)).mp q; omega), e, cal_s, L'.2.2 337 66 412 rfl, lnk_s, md_at L' (by omega) 412 101 rfl (by decide), grd_true, nI_clamp (by omega), ho]
  unfold fn_X18_execute_B49
  rw [lt_t, lt_t, show nI d + 1 = nI (d + 1) from nI_add d 1]
  by_cases q : o = 0
  · rw [if_pos (show nI o = 0 by rw [q]; rfl), if_pos q]
  · rw [if_neg (show ¬ nI o = 0 from fun w => q (nI_uq (b := 0) w (by omega) (by omega))), if_neg q, Int32.add_zero]
theorem txE_k {kt o g k : Nat} {c : Int64} (h : k ≠ kt) : (txE y kt o c g).1 k = y.1 k ∧ (txE y kt o c g).2.1 k = y.2.1 k := by
  unfold txE
  exact ⟨by rw [si_ok h, sl_1, si_ok h], by rw [si_2, sl_ok h, si_2]⟩
theorem txE_j {kt o g j : Nat} {c : Int64} (h : j ≠ 11 ∧ j ≠ 12 ∧ j ≠ 13) : (txE y kt o c g).1 kt j = y.1 kt j ∧ (txE y kt o c g).2.1 kt j = y.2.1 kt j := by
  unfold txE
  exact ⟨by rw [si_oj (by omega), sl_1, si_oj (by omega)], by rw [si_2, sl_oj (by omega), si_2]⟩
/-- a refused transaction -/
theorem turn_ref (hn : n ≤ 10 ^ 12) (h : Tp2 sh n z y cnt d) (hd : d < cnt) (r : Nat) (sd : Int64) (lim : Nat) : Tp2 sh n (rfS (doS z d sd lim) d r) (txE y (113 + 7 * d) 3 (lN r) 0) cnt (d + 1) ∧ (rfS (doS z d sd lim) d r).1 412 d = nI 3 ∧ Lay sh n (rfS (doS z d sd lim) d r) := by
  obtain ⟨ws, wc, dp, bs, nc, ac, nr, rs, so, D, a1, ⟨⟨b1, b2, b3⟩, b4, b5, b6, b7⟩, a4, ⟨len, w, a5⟩, l2, a6⟩ := h
  have c32 := a4.1.2.2
  have hL := a1.1.1
  have hC := a1.2.1.1
  have zk : ∀ k, k ≠ 337 → ¬ (412 ≤ k ∧ k ≤ 416) → (rfS (doS z d sd lim) d r).1 k = z.1 k ∧ (rfS (doS z d sd lim) d r).2.1 k = z.2.1 k := fun k a b => ⟨by rw [rfS_1 a (by omega) (by omega), doS_1 a (by omega) (by omega)], by rw [rfS_2 a (by omega), doS_2 a]⟩
  have zf : ∀ j, ¬ rfl7 j → (rfS (doS z d sd lim) d r).1 337 j = z.1 337 j ∧ (rfS (doS z d sd lim) d r).2.1 337 j = z.2.1 337 j := fun j hj => by
    have hj' : ¬ (24 ≤ j ∧ j ≤ 28) := hj
    rw [(rfS_f (by omega) (by omega)).1, (rfS_f (by omega) (by omega)).2]
    exact doS_f hj
  have L1 : Lay sh n (rfS (doS z d sd lim) d r) := hL.of rfl
  refine ⟨⟨ws, wc, dp, bs, nc, ac, nr, rs, so, D, a1.of L1 (hC.of rfl) (zf 5 (by unfold rfl7; omega)).1 (fun k q => (zk k (by omega) (by omega)).1) (by rw [(txE_k (by omega)).1]) (fun k _ _ => rfl) (fun k q => txE_k (by omega)), ⟨⟨b1.of (fun k q1 q2 => zk k (by omega) (by omega)) (zf 3 (by unfold rfl7; omega)).1 (zf 9 (by unfold rfl7; omega)).1, b2.txE (by omega), b3⟩, b4, ?_, ?_, ?_⟩, a4.step hd (zf 52 (by unfold rfl7; omega)).1 (by rw [(txE_k (by omega)).1]) (fun t ht => ⟨?_, fun hne => ?_⟩) (fun t ht => ⟨?_, fun hne => ?_⟩) ?_ hn, ⟨len, w, a5.of ⟨(zf 50 (by unfold rfl7; omega)).1, (zf 51 (by unfold rfl7; omega)).1, (zk 399 (by omega) (by omega)).1⟩ ⟨by rw [(txE_k (by omega)).1], by rw [(txE_k (by omega)).1], (txE_k (by omega)).1⟩⟩, l2, a6.of ⟨(zf 75 (by unfold rfl7; omega)).1, (zk 420 (by omega) (by omega)).1⟩ ⟨by rw [(txE_k (by omega)).1], (txE_k (by omega)).1⟩⟩, by rw [rfS_v.1]; rfl, L1⟩
  · rw [(zf 20 (by unfold rfl7; omega)).2, (zf 21 (by unfold rfl7; omega)).2, (txE_k (by omega)).2]; exact b5
  · rw [(zf 22 (by unfold rfl7; omega)).1, (txE_k (by omega)).1]; exact b6
  · rw [(txE_k (by omega)).1]; exact b7
  · exact ⟨fun k q => by rw [(zk k (by omega) (by omega)).1], by rw [(zk 401 (by omega) (by omega)).2], by rw [(zk 402 (by omega) (by omega)).2], fun i _ => ⟨by rw [(zk 407 (by omega) (by omega)).1], by rw [(zk 408 (by omega) (by omega)).2], by rw [(zk 409 (by omega) (by omega)).2]⟩, fun p _ => by rw [(zk 410 (by omega) (by omega)).1]⟩
  · refine ⟨fun k q => ?_, ?_, fun i _ => ⟨by rw [(zk 417 (by omega) (by omega)).1], by rw [(zk 418 (by omega) (by omega)).2], by rw [(zk 419 (by omega) (by omega)).2]⟩⟩
    · rcases q with q | q | q | q
      · subst q; rw [(rfS_o hne).1, doS_1 (by omega) (by omega) (by omega)]
      · subst q; rw [(rfS_o hne).2.1, doS_1 (by omega) (by omega) (by omega)]
      · subst q; rw [rfS_1 (by omega) (by omega) (by omega), (doS_4 hne).1]
      · subst q; rw [rfS_1 (by omega) (by omega) (by omega), (doS_4 hne).2]
    · rw [(rfS_o hne).2.2, doS_2 (by omega)]
  · by_cases q : t = d
    · subst q
      exact ⟨fun j _ => (txE_j (by omega)).1, (txE_j (by omega)).2, (txE_j (by omega)).2, rfl, fun i _ => ⟨by rw [(txE_k (by omega)).1], by rw [(txE_k (by omega)).2], by rw [(txE_k (by omega)).2]⟩, fun k k1 _ => (txE_k (by omega)).1⟩
    · exact ⟨fun j _ => by rw [(txE_k (by omega)).1], by rw [(txE_k (by omega)).2], by rw [(txE_k (by omega)).2], rfl, fun i _ => ⟨by rw [(txE_k (by omega)).1], by rw [(txE_k (by omega)).2], by rw [(txE_k (by omega)).2]⟩, fun k k1 _ => (txE_k (by omega)).1⟩
  · exact ⟨fun j _ => by rw [(txE_k (by omega)).1], by rw [(txE_k (by omega)).2], fun i _ => ⟨by rw [(txE_k (by omega)).1], by rw [(txE_k (by omega)).2], by rw [(txE_k (by omega)).2]⟩⟩
  · obtain ⟨v1, v2, v3, v4⟩ := txE_v (z := y) (kt := 113 + 7 * d) (o := 3) (g := 0) (c := lN r)
    refine ⟨3, 0, lN r, 0, fun _ => 0, fun _ => 0, fun _ => 0, by omega, by omega, ⟨by rw [rfS_v.1]; rfl, by rw [rfS_v.2.1]; rfl, rfS_v.2.2, ?_⟩, ⟨v1, v3, v2⟩, by omega, ?_, ?_, fun k hk => by omega⟩
    · rw [if_neg (by omega), rfS_1 (by omega) (by omega) (by omega)]; exact doS_v.2.2.2.2.2
    · rw [rfS_1 (by omega) (by omega) (by omega)]; exact doS_v.2.2.2.2.1
    · rw [(txE_j (by omega)).1]; exact a4.2.2.2 d (by omega) hd
end
