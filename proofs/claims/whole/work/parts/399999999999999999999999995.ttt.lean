/-! EXECUTE -/
section
variable {RV : RtV} {F n : Nat} {sh : Nat → Nat × Nat} {z y : St} {cnt d : Nat}
theorem turn_all (hF : 20002 ≤ F) (hn : n ≤ 10 ^ 12) (h : Tp2 sh n z y cnt d) (hd : d < cnt) : ∃ z' y' o, Tp2 sh n z' y' cnt (d + 1) ∧ z'.1 412 d = nI o ∧ o ≤ 4 ∧ fn_X18_doOne F sh n z 337 (nI d) = some (z', ()) ∧ ∀ g p, fn_X11_execute_L21 F sh n 0 (g + 1) y p (nI d) = fn_X11_execute_L21 F sh n 0 g y' (if o = 0 then p + 1 else p) (nI (d + 1)) := by
  have h0 := h
  obtain ⟨ws, wc, dp, bs, nc, ac, nr, rs, so, D, a1, lg, a4, ⟨len, w, a5⟩, l2, a6⟩ := h
  have c32 := a4.1.2.2
  have ht : d < 32 := by omega
  have hL := a1.1.1
  have hC := a1.2.1.1
  have hN := a1.2.2.1.1
  obtain ⟨⟨q1, q2, lim, q3, q4, q5, q6⟩, q7⟩ := a4.2.1 d hd
  obtain ⟨sd, es⟩ : ∃ x, x = z.2.1 401 d := ⟨_, rfl⟩
  obtain ⟨sq, eq⟩ : ∃ x, x = z.2.1 402 d := ⟨_, rfl⟩
  rw [← es] at q1
  rw [← eq] at q2
  have Wd : Wor sh n (doS z d sd lim) y ws wc dp bs := a1.of (hL.of rfl) hC (doS_f (by unfold rfl7; omega)).1 (fun k q => doS_1 (by omega) (by omega) (by omega)) rfl (fun _ _ _ => rfl) (fun _ _ => ⟨rfl, rfl⟩)
  have LD := Wd.1.1
  obtain ⟨x1, x2, x3, x4, x5, x6⟩ := doS_v (z := z) (t := d) (sd := sd) (lim := lim)
  have d1 : ∀ k, k ≠ 337 → k ≠ 414 → k ≠ 416 → (doS z d sd lim).1 k = z.1 k := fun k a b c => doS_1 a b c
  have ref : ∀ r, 0 < r → r < 16 → fn_X18_doOne F sh n z 337 (nI d) = some (rfS (doS z d sd lim) d r, ()) → fn_X11_refusalOf F sh n y 0 (113 + 7 * d) = some (y, nI r) → ∃ z' y' o, Tp2 sh n z' y' cnt (d + 1) ∧ z'.1 412 d = nI o ∧ o ≤ 4 ∧ fn_X18_doOne F sh n z 337 (nI d) = some (z', ()) ∧ ∀ g p, fn_X11_execute_L21 F sh n 0 (g + 1) y p (nI d) = fn_X11_execute_L21 F sh n 0 g y' (if o = 0 then p + 1 else p) (nI (d + 1)) := fun r r1 r2 e1 e2 => by
    obtain ⟨t1, t2, t3⟩ := turn_ref hn h0 hd r sd lim
    exact ⟨_, _, 3, t1, t2, by omega, e1, fun g p => by rw [cl_ref hC a4.1.2.1 c32 hd ⟨r1, r2⟩ e2 g p, if_neg (by decide)]⟩
  rcases q7 with ⟨p1, p2, kb, bl, p3, p4, p5, p6, p7, p8, p9, p10⟩ | ⟨p1, p2, m, f, c, kd, hi, lo, p3, p4, p5, ⟨p6, p7, p8⟩, ⟨p9, p10, p11⟩, p12⟩
  · by_cases r0 : rfT nc ac sd sq lim 0 = 0
    · exact turn_p hF hn a1 lg a4 a5 a6 hd q1 es.symm q2 eq.symm q4 q3 q5 q6 p1 p2 p3 p4 p5 p6 p7 p8 p9 p10 r0
    · have r8 : rfT nc ac sd sq lim 0 ≤ 8 := rfT_le (by omega)
      refine ref (rfT nc ac sd sq lim 0) (by omega) (by omega) ?_ (refC_p (by omega) hC lg.1.2.1 ht q1 q2 q5 q4 p1)
      obtain ⟨j, ej⟩ := b106_p (F := F) (by omega) Wd.1 ht (by rw [d1 400 (by omega) (by omega) (by omega)]; exact p2) (oI (fdA nc ac sd)) (nI (rfT nc ac sd sq lim 0))
      rw [do_pre (by omega) hL lg.1.1 ht es.symm eq.symm q6 q4, ej, ref_end LD ht ⟨by omega, by omega⟩ x4 x3]
  · have hk : ∀ i, i < c → 1 ≤ kd i ∧ kd i ≤ 5 := fun i hi' => ⟨(p12 i hi').1.1, (p12 i hi').1.2.1⟩
    by_cases r0 : rfT nc ac sd sq lim (rfN ws wc m f c kd) = 0
    · exact turn_m hF hn a1 lg a4 a5 a6 hd q1 es.symm q2 eq.symm q4 q5 q6 p1 p2 p3 p4 p5 p6 p7 p8 p9 p10 p11 p12 r0
    · have r8 : rfT nc ac sd sq lim (rfN ws wc m f c kd) ≤ 8 := rfT_le rfN_le
      refine ref (rfT nc ac sd sq lim (rfN ws wc m f c kd)) (by omega) (by omega) ?_ (refC_m (by omega) a1.2.1 hN lg.1.2.1 ht q1 q2 q5 q4 p1 p6 p3 p4 p7 p8 p5 hk (fun i hi' => (p12 i hi').2.1.1))
      rw [do_pre (by omega) hL lg.1.1 ht es.symm eq.symm q6 q4, b106_m (by omega) Wd.1 hN ht (by rw [d1 400 (by omega) (by omega) (by omega)]; exact p2) (by rw [d1 404 (by omega) (by omega) (by omega)]; exact p9) p3 p4 (by rw [d1 405 (by omega) (by omega) (by omega)]; exact p10) (by rw [d1 406 (by omega) (by omega) (by omega)]; exact p11) p5 hk (fun i hi' => by rw [d1 407 (by omega) (by omega) (by omega)]; exact (p12 i hi').2.2.1), ref_end LD ht ⟨by omega, by omega⟩ x4 x3]
theorem exec_L (hF : 20002 ≤ F) (hn : n ≤ 10 ^ 12) : ∀ m d z y g p, d + m = cnt → m < g → Tp2 sh n z y cnt d → ∃ z' y' r, fn_X11_execute_L21 F sh n 0 g y p (nI d) = some (y', r) ∧ fn_X18_execute_L21 F sh n 337 g z p (nI d) = some (z', r) ∧ Top RV sh n z' y' := by
  intro m
  induction m with
  | zero =>
    intro d z y g p h1 h2 h
    obtain ⟨g, rfl⟩ : ∃ q, g = q + 1 := ⟨g - 1, by omega⟩
    obtain ⟨ws, wc, dp, bs, nc, ac, nr, rs, so, D, a1, lg, a4, ⟨len, w, a5⟩, l2, a6⟩ := h
    obtain ⟨⟨c1, c2, c3⟩, c4, c5, c6⟩ := a4
    have hL := a1.1.1
    have hC := a1.2.1.1
    have e : d = cnt := by omega
    subst e
    have fz : FzB z (si z 337 53 (nI d)) ∧ FzT z (si z 337 53 (nI d)) := fz_si (by omega)
    refine ⟨si z 337 53 (nI d), si (si y 0 5 (nI d)) 73 1 1, p, ?_, ?_, ?_⟩
    · rw [fn_X11_execute_L21]
      rw [c2, if_pos (by rw [Int32.le_iff_toInt_le]; exact Int.le_refl _), lt_t, si_3, (b_ledg hC).2.2.2.2.2.2.2.1, lnk_s, (b_tree hC).1, grd_true, lt_t]
    · rw [fn_X18_execute_L21]
      rw [c1, if_pos (by rw [Int32.le_iff_toInt_le]; exact Int.le_refl _), lt_t]
    · have yk : ∀ k, k ≠ 0 → k ≠ 73 → (si (si y 0 5 (nI d)) 73 1 1).1 k = y.1 k := fun k a b => by rw [si_ok b, si_ok a]
      have gt : FyT y (si (si y 0 5 (nI d)) 73 1 1) := ⟨rfl, fun k a => ⟨yk k (by omega) (by omega), rfl⟩⟩
      have y0 : ∀ j, j ≠ 5 → (si (si y 0 5 (nI d)) 73 1 1).1 0 j = y.1 0 j := fun j a => by rw [si_ok (by omega), si_oj a]
      refine ⟨ws, wc, dp, bs, nc, ac, nr, rs, so, D, a1.of (hL.of rfl) (hC.of rfl) (si_oj (by omega)) (fun k q => si_ok (by omega)) (by rw [yk 3 (by omega) (by omega)]) (fun _ _ _ => rfl) (fun k q => ⟨yk k (by omega) (by omega), rfl⟩), ?_, ?_, ⟨d, d, ⟨?_, ?_, c3⟩, ⟨?_, ?_, by omega⟩, fun t ht => ?_, fun t ht => ?_, fun t t1 t2 => by omega⟩, ⟨len, w, a5.of ⟨si_oj (by omega), si_oj (by omega), si_ok (by omega)⟩ ⟨y0 1 (by omega), y0 2 (by omega), yk 1 (by omega) (by omega)⟩⟩, l2, a6.of ⟨si_oj (by omega), si_ok (by omega)⟩ ⟨y0 12 (by omega), yk 86 (by omega) (by omega)⟩⟩
      · obtain ⟨⟨b1, b2, b3⟩, b4, b5, b6, b7⟩ := lg
        refine ⟨⟨b1.of (fun k q1 q2 => ⟨si_ok (by omega), rfl⟩) (si_oj (by omega)) (si_oj (by omega)), b2.of (fun k q1 q2 => ⟨yk k (by omega) (by omega), rfl⟩), b3⟩, b4, b5, ?_, ?_⟩
        · rw [si_oj (by omega), yk 88 (by omega) (by omega)]; exact b6
        · rw [yk 88 (by omega) (by omega)]; exact b7
      · intro e; rw [si_ss] at e; cases e
      · rw [si_oj (by omega)]; exact c1
      · rw [y0 4 (by omega)]; exact c2
      · rw [si_ss]
      · rw [si_ok (by omega), si_ss]
      · exact (c4 t ht).of fz.2.e.1 gt.e.1 (Nat.le_refl _) (fun _ _ => rfl) hn
      · exact (c5 t ht).of fz.2.e.2 (gt.e (n := n)).2
  | succ m ih =>
    intro d z y g p h1 h2 h
    obtain ⟨g, rfl⟩ : ∃ q, g = q + 1 := ⟨g - 1, by omega⟩
    obtain ⟨z', y', o, t1, t2, t3, t4, t5⟩ := turn_all hF hn h (by omega)
    have h' := t1
    obtain ⟨_, _, _, _, _, _, _, _, _, _, b1, _⟩ := t1
    have h'' := h
    obtain ⟨_, _, _, _, _, _, _, _, _, _, _, _, c4, _⟩ := h''
    obtain ⟨z2, y2, r, e1, e2, e3⟩ := ih (d + 1) z' y' g (if o = 0 then p + 1 else p) (by omega) (by omega) h'
    exact ⟨z2, y2, r, (t5 g p).trans e1, (rl_turn b1.1.1 c4.1.1 c4.1.2.2 (by omega) t4 t2 t3 g p).trans e2, e3⟩
theorem m_execute (hF : 20002 ≤ F) (hn : n ≤ 10 ^ 12) (h : Top RV sh n z y) : ∃ z' y' r, fn_X11_execute F sh n y 0 = some (y', r) ∧ fn_X18_execute F sh n z 337 = some (z', r) ∧ Top RV sh n z' y' := by
  have h0 := h
  obtain ⟨ws, wc, dp, bs, nc, ac, nr, rs, so, D, a1, lg, a3, ⟨cnt, dn, ⟨b1, b2, b3⟩, ⟨b4, b5, b6⟩, b7, b8, b9⟩, a5, a6⟩ := h
  unfold fn_X11_execute fn_X18_execute
  rw [(b_ledg a1.2.1.1).1, grd_true, (b_model a1.1.1).1, grd_true, b1, b2, b4, b5]
  by_cases q : dn = cnt
  · rw [if_neg (fun e => by have := (nI_ltW (a := dn) (b := cnt) (by omega) (by omega)).mp e; omega), if_pos (by rw [q])]
    exact ⟨_, _, _, rfl, rfl, h0⟩
  · rw [if_pos ((nI_ltW (by omega) (by omega)).mpr (by omega)), if_neg (fun e => q (nI_uq e (by omega) (by omega))), lt_t, lt_t]
    exact exec_L hF hn (cnt - dn) dn z y F 0 (by omega) (by omega) ⟨ws, wc, dp, bs, nc, ac, nr, rs, so, D, a1, lg, ⟨⟨b1, b2, b3⟩, b7, b8, b9⟩, a5, a6⟩
end
