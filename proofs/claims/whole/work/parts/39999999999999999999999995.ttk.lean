/-! PUBLISH -/
theorem lkup_n {α : Type} {k : Nat} (hk : 513 ≤ k) : ∀ l : List (Nat × α), (∀ p, p ∈ l → p.1 < 513) → l.lookup k = none
  | [], _ => rfl
  | p :: l, h => by
    have h1 := h p (List.mem_cons_self ..)
    rw [List.lookup_cons]
    rw [show (k == p.1) = false from beq_false_of_ne (by omega)]
    exact lkup_n hk l (fun q hq => h q (List.mem_cons_of_mem _ hq))
theorem cala_s {α β : Type} (sh : Nat → Nat × Nat) (n : Nat) (z : St) (r : α) (f : (Nat → Nat × Nat) → Nat → St → α → Option β) : cala (some (sh, n, z, r)) f = f sh n z r := rfl
theorem lkT_lt : ∀ p, p ∈ lkT → p.1 < 513 := by decide
theorem lkF_513 {k j : Nat} (h : 513 ≤ k) : lkF k j = none := by
  unfold lkF
  rw [if_neg (by omega), if_neg (by omega), if_neg (by omega), if_neg (by omega), if_neg (by omega), if_neg (by omega), lkup_n h _ lkT_lt]
  rfl
section
variable {RV : RtV} {F n : Nat} {sh : Nat → Nat × Nat} {z y : St}
/-- what the class's publish leaves alone -/
def PuF (sh : Nat → Nat × Nat) (n : Nat) (y : St) (sh1 : Nat → Nat × Nat) (n1 : Nat) (y' : St) : Prop := n ≤ n1 ∧ n1 ≤ n + 1 ∧ (∀ k, k < n → sh1 k = sh k) ∧ EqR y y' ∧ ∀ k j q, y'.2.2 k j = some q → y.2.2 k j = some q ∨ (inC k ∧ q = n ∧ n < n1)
theorem m_publish (hF : 3000 ≤ F) (y0 y1 : Int64) (y2 : Int32) (hn : n < CBK) (h : Top RV sh n z y) : ∃ sh1 n1 z' y' r, fa_X11_publish F sh n y 0 y0 y1 y2 = some (sh1, n1, y', r) ∧ fn_X18_publish F sh1 n1 z 337 y0 y1 y2 = some (z', r) ∧ Top RV sh1 n1 z' y' ∧ PuF sh n y sh1 n1 y' := by
  have h0 := h
  obtain ⟨ws, wc, dp, bs, nc, ac, nr, rs, so, D, a1, a2, a3, ⟨cnt, dn, a4⟩, ⟨len, w, a5⟩, l2, a6⟩ := h
  have hL := a1.1.1
  have hC := a1.2.1.1
  have z52 := a4.1.1
  have y40 := a4.1.2.1
  have c32 := a4.1.2.2
  have same : PuF sh n y sh n y := ⟨Nat.le_refl _, by omega, fun _ _ => rfl, fun _ _ _ => ⟨rfl, rfl, rfl⟩, fun _ _ _ e => .inl e⟩
  unfold fa_X11_publish fn_X18_publish
  rcases i32_in y2 (a := 10) (b := 20000) (by omega) (by omega) with c | ⟨c1, c2, c3⟩ | ⟨lim, c1, c2, c3, c4, c5, c6⟩
  · refine ⟨sh, n, z, y, -1, if_pos (show y2 < 10 from c), ?_, h0, same⟩
    rw [isLimit_t, cal_s, if_pos (show y2 < 10 from c), if_pos rfl]
  · refine ⟨sh, n, z, y, -1, ?_, ?_, h0, same⟩
    · rw [if_neg (show ¬ y2 < 10 from c1), if_neg (show ¬ y2 ≤ 20000 from c2)]
    · rw [isLimit_t, cal_s, if_neg (show ¬ y2 < 10 from c1), if_pos (show (20000 : Int32) < y2 from c3), if_pos rfl]
  by_cases q : cnt = 32
  · refine ⟨sh, n, z, y, -3, ?_, ?_, h0, same⟩
    · rw [if_neg (show ¬ y2 < 10 from c4), if_pos (show y2 ≤ 20000 from c5), (b_ledg hC).1, grd_true, y40, q, if_neg (by decide)]
    · rw [isLimit_t, cal_s, if_neg (show ¬ y2 < 10 from c4), if_neg (show ¬ (20000 : Int32) < y2 from c6), if_neg (show ¬ ((1 : Int32) = 0) by decide), (b_model hL).1, grd_true, z52, q, if_pos (by decide)]
  have hc : cnt < 32 := by omega
  have q1 : nI cnt < 32 := (nI_ltW (b := 32) (by omega) (by omega)).mpr hc
  have q2 : ¬ nI cnt = 32 := fun e => q (nI_uq (b := 32) e (by omega) (by omega))
  have n513 := hL.1
  obtain ⟨t1, t2, t3, t4, t5⟩ := tx_at hC hc
  obtain ⟨K, eK⟩ : ∃ K, K = 113 + 7 * cnt := ⟨_, rfl⟩
  rw [← eK] at t4 t5
  have F1 : FyK K y (layS y K y0 y1 y2) := layS_f (by omega)
  have L1 : Lay sh n (layS y K y0 y1 y2) := FyB.lay hC (F1.b eK hc)
  obtain ⟨u1, u2, u3, u4, u5, u6⟩ := layS_v (y := y) (K := K) (x0 := y0) (x1 := y1) (x2 := y2)
  have z0e : (layS y K y0 y1 y2).1 0 = y.1 0 := by
    funext j
    simp [layS, sq_1, si_1, si_2, sl_1, sl_2, show ¬ 0 = K by omega]
  have t1e : (layS y K y0 y1 y2).1 1 = y.1 1 := F1.2.1 1 (by omega) (by omega)
  obtain ⟨⟨p1, p2, p3⟩, p4, p5, p6, p7, p8⟩ := a5
  obtain ⟨w1, e1, e2, e3, e4⟩ := copy_t (F := F) (len := len) L1 hn (by rw [t1e]; exact p5) p3
  have okN0 : ∀ k, k < n → okN n k = true := fun k hk => by
    unfold okN
    rw [decide_eq_true hk]; rfl
  have okNn : okN (n + 1) n = true := by
    unfold okN
    rw [decide_eq_true (Nat.lt_succ_self n)]; rfl
  have hs1 : ∀ k, k < n → shx sh n (100, len) k = sh k := fun k hk => by
    unfold shx
    rw [if_neg (by omega)]
  have sxn : shx sh n (100, len) n = (100, len) := by
    unfold shx
    rw [if_pos rfl]
  have Lw : Lay (shx sh n (100, len)) (n + 1) w1 := by
    refine Lay.grow (sh := sh) (n := n) ⟨L1.1, L1.2.1, fun k j t e => ?_⟩ (by omega) hs1
    have : k < 513 := by
      by_cases c : k < 513
      · exact c
      · rw [lkF_513 (by omega)] at e; cases e
    rw [(e2 k (by omega)).2.2]; exact L1.2.2 k j t e
  have Lz : Lay (shx sh n (100, len)) (n + 1) z := hL.grow (by omega) hs1
  obtain ⟨v1, v2, v3, v4, v5, v6, v7⟩ := addS_v (z := z) (cnt := cnt) (s := 1) (x1 := y0) (x2 := y1) (x3 := y2)
  have G1 : FzK cnt z (addS z cnt 1 y0 y1 y2) := addS_f
  have L2 : Lay (shx sh n (100, len)) (n + 1) (addS z cnt 1 y0 y1 y2) := Lz.of G1.1
  have k399 : (addS z cnt 1 y0 y1 y2).1 399 = z.1 399 := G1.2.1 399 (by omega) (by omega)
  have pl := pub_L (F := F) (cnt := cnt) L2 (by rw [v7 50 (by omega)]; exact p2) p3 hc (fun p hp => by rw [k399, ← p4 p hp]; exact p5 p (by omega)) len 0 F (by omega) (by omega)
  rw [cpZ_0] at pl
  have G2 : FzK cnt z (si (si (cpZ (addS z cnt 1 y0 y1 y2) cnt len) 411 cnt (nI len)) 337 50 0) := ((G1.trans (fzK_c p3)).trans (fzK_i (by omega))).trans (fzK_f (by omega))
  have y4w : (si (sq w1 K 6 (some n)) 0 1 0).1 0 4 = nI cnt := by
    rw [si_oj (by omega), sq_1, (e2 0 (by omega)).1, z0e]; exact y40
  have okK : okO (shx sh n (100, len)) (n + 1) K 8 = true := lay_o Lw K 8 0 (by omega) (by rw [eK]; exact (tx_sh cnt hc).1)
  refine ⟨shx sh n (100, len), n + 1, si (si (cpZ (addS z cnt 1 y0 y1 y2) cnt len) 411 cnt (nI len)) 337 50 0, si (si (sq w1 K 6 (some n)) 0 1 0) 0 4 (nI (cnt + 1)), nI cnt, ?_, ?_, ?_, ?_⟩
  · rw [if_neg (show ¬ y2 < 10 from c4), if_pos (show y2 ≤ 20000 from c5), (b_ledg hC).1, grd_true, y40, if_pos q1, t1, lnk_s, t2, grd_true, t3, t4, lnk_s, t5, grd_true, lay_t8 t5, cal_s, (b_ledg L1).2.1, lnk_s, okN0 K (by omega), grd_true, okN0 0 (by omega), grd_true, z0e, p1, e1]
    rw [cala_s, lnk_s, okNn, grd_true, okK, grd_true, lt_t, (b_ledg Lw).1, grd_true, lt_t, lt_t, lt_t, y4w, show nI cnt + 1 = nI (cnt + 1) from nI_add cnt 1]
  · rw [isLimit_t, cal_s, if_neg (show ¬ y2 < 10 from c4), if_neg (show ¬ (20000 : Int32) < y2 from c6), if_neg (show ¬ ((1 : Int32) = 0) by decide), (b_model Lz).1, grd_true, z52, if_neg q2, add_t18 Lz z52 hc, cal_s]
    exact pl
  · have yk : ∀ k, k ≠ n → k ≠ 0 → k < K ∨ K + 3 < k → (si (si (sq w1 K 6 (some n)) 0 1 0) 0 4 (nI (cnt + 1))).1 k = y.1 k := fun k a b c => by
      rw [si_ok b, si_ok b, sq_1, (e2 k a).1]; exact F1.2.1 k b c
    have yl : ∀ k, k ≠ n → k < K ∨ K + 3 < k → (si (si (sq w1 K 6 (some n)) 0 1 0) 0 4 (nI (cnt + 1))).2.1 k = y.2.1 k := fun k a c => by
      rw [si_2, si_2, sq_2, (e2 k a).2.1]; exact F1.2.2.1 k c
    have yq : ∀ k j, k ≠ n → ¬ (k = K ∧ j = 6) → (si (si (sq w1 K 6 (some n)) 0 1 0) 0 4 (nI (cnt + 1))).2.2 k j = y.2.2 k j := fun k j a c => by
      rw [si_3, si_3, sq_3]
      by_cases ck : k = K
      · rw [if_pos ck, if_neg (fun e => c ⟨ck, e⟩), ← ck, (e2 k a).2.2]; exact F1.1 k j c
      · rw [if_neg ck, (e2 k a).2.2]; exact F1.1 k j c
    have y0j : ∀ j, j ≠ 1 → j ≠ 4 → (si (si (sq w1 K 6 (some n)) 0 1 0) 0 4 (nI (cnt + 1))).1 0 j = y.1 0 j := fun j a b => by
      rw [si_oj b, si_oj a, sq_1, (e2 0 (by omega)).1, z0e]
    have yKi : ∀ j, (si (si (sq w1 K 6 (some n)) 0 1 0) 0 4 (nI (cnt + 1))).1 K j = (layS y K y0 y1 y2).1 K j := fun j => by
      rw [si_ok (by omega), si_ok (by omega), sq_1, (e2 K (by omega)).1]
    have Ly : Lay (shx sh n (100, len)) (n + 1) (si (si (sq w1 K 6 (some n)) 0 1 0) 0 4 (nI (cnt + 1))) := by
      refine (Lay.sq Lw ?_ : Lay _ _ (sq w1 K 6 (some n))).of rfl
      have := lkF_6 (7 * cnt) (by omega)
      rw [eK]; exact this
    obtain ⟨Y, eY⟩ : ∃ Y : St, Y = ((fun k => if k = n then w1.1 n else y.1 k), (fun k => if k = n then w1.2.1 n else y.2.1 k), (fun k => if k = n then w1.2.2 n else y.2.2 k)) := ⟨_, rfl⟩
    have Y1 : ∀ k, k ≠ n → Y.1 k = y.1 k ∧ Y.2.1 k = y.2.1 k ∧ Y.2.2 k = y.2.2 k := fun k a => by
      rw [eY]; exact ⟨if_neg a, if_neg a, if_neg a⟩
    have Y2 : Y.1 n = w1.1 n ∧ Y.2.1 n = w1.2.1 n ∧ Y.2.2 n = w1.2.2 n := by
      rw [eY]; exact ⟨if_pos rfl, if_pos rfl, if_pos rfl⟩
    have B1 : Bck (shx sh n (100, len)) (n + 1) z Y cnt dn := a4.of rfl rfl (by rw [(Y1 0 (by omega)).1]) (by rw [(Y1 0 (by omega)).1]) (fun t _ => ⟨EqTr.refl, EqDr.refl⟩) (fun t ht => ⟨⟨fun j _ => by rw [(Y1 _ (by omega)).1], by rw [(Y1 _ (by omega)).2.1], by rw [(Y1 _ (by omega)).2.1], by rw [(Y1 _ (by omega)).2.2], fun i _ => ⟨by rw [(Y1 _ (by omega)).1], by rw [(Y1 _ (by omega)).2.1], by rw [(Y1 _ (by omega)).2.1]⟩, fun k k1 k2 => (Y1 k (by omega)).1⟩, ⟨fun j _ => by rw [(Y1 _ (by omega)).1], by rw [(Y1 _ (by omega)).2.1], fun i _ => ⟨by rw [(Y1 _ (by omega)).1], by rw [(Y1 _ (by omega)).2.1], by rw [(Y1 _ (by omega)).2.1]⟩⟩⟩) (by omega) hs1 (by have : CBK = 1000000000 := rfl; omega)
    have FY : FyK (113 + 7 * cnt) Y (si (si (sq w1 K 6 (some n)) 0 1 0) 0 4 (nI (cnt + 1))) := by
      rw [← eK]
      refine ⟨fun k j a => ?_, fun k a b => ?_, fun k a => ?_, fun j a b => ?_⟩
      · by_cases c : k = n
        · subst c
          rw [si_3, si_3, sq_3, if_neg (by omega), Y2.2.2]
        · rw [yq k j c a, (Y1 k c).2.2]
      · by_cases c : k = n
        · subst c
          rw [si_ok (by omega), si_ok (by omega), sq_1, Y2.1]
        · rw [yk k c a b, (Y1 k c).1]
      · by_cases c : k = n
        · subst c
          rw [si_2, si_2, sq_2, Y2.2.1]
        · rw [yl k c a, (Y1 k c).2.1]
      · rw [y0j j a b, (Y1 0 (by omega)).1]
    refine ⟨ws, wc, dp, bs, nc, ac, nr, rs, so, D, a1.grow (by omega) hs1 G2.b Ly (by rw [yk 3 (by omega) (by omega) (by omega)]) (fun k k1 k2 => yq k 0 (by omega) (by omega)) (fun k k1 k2 => ⟨yk k (by omega) (by omega) (by omega), yl k (by omega) (by omega)⟩) (fun k k1 k2 => yk k (by omega) (by omega) (by omega)), ?_, ?_, ⟨cnt + 1, dn, B1.new hc G2 FY ?_ si_ss ?_ ?_ (by have : CBK = 1000000000 := rfl; omega)⟩, ⟨0, w, ⟨?_, ?_, by omega⟩, fun p hp => by omega, fun p hp => ?_, ?_, ?_, p8⟩, l2, a6.of ⟨?_, ?_⟩ ⟨?_, ?_⟩⟩
    · obtain ⟨⟨b1, b2, b3⟩, b4, b5, b6, b7⟩ := a2
      have GB := G2.b
      refine ⟨⟨b1.of (fun k q1 q2 => GB.2.1 k (by omega) (by omega)) (GB.2.2.1 3 (by omega)) (GB.2.2.1 9 (by omega)), b2.of (fun k q1 q2 => ⟨yk k (by omega) (by omega) (by omega), yl k (by omega) (by omega)⟩), b3⟩, b4, ?_, ?_, ?_⟩
      · rw [GB.2.2.2, yl 3 (by omega) (by omega)]; exact b5
      · rw [GB.2.2.1 22 (by omega), yk 88 (by omega) (by omega) (by omega)]; exact b6
      · rw [yk 88 (by omega) (by omega) (by omega)]; exact b7
    · unfold Fsh
      rw [yk 73 (by omega) (by omega) (by omega), yl 74 (by omega) (by omega)]
      exact a3
    · rw [si_oj (by omega), si_ok (by omega), cpZ_o (by omega)]; exact v1
    · refine ⟨⟨?_, ?_, lim, c1, c2, ?_, ?_⟩, .inl ⟨?_, ?_, n, len, ?_, n513, by omega, by omega, sxn, p3, ?_, fun p hp => ?_⟩⟩
      · rw [← eK, si_2, si_2, sq_2, (e2 K (by omega)).2.1, u1, si_2, si_2]
        exact v3.symm
      · rw [← eK, si_2, si_2, sq_2, (e2 K (by omega)).2.1, u2, si_2, si_2]
        exact v4.symm
      · rw [← eK, yKi, u3, c3]
      · rw [si_ok (by omega), si_ok (by omega), cpZ_o (by omega), v5, c3]
      · rw [← eK, yKi, u6]
      · rw [si_ok (by omega), si_ok (by omega), cpZ_o (by omega), v2]
      · rw [← eK, si_3, si_3, sq_3, if_pos rfl, if_pos rfl]
      · rw [si_ok (by omega), si_ss]
      · rw [si_ok (by omega), si_ok (by omega), sq_1, e3 p hp, t1e, si_ok (by omega), si_ok (by omega), p4 p hp]
        show _ = (if 410 = 410 ∧ 2048 * cnt ≤ 2048 * cnt + p ∧ 2048 * cnt + p < 2048 * cnt + len then (addS z cnt 1 y0 y1 y2).1 399 (2048 * cnt + p - 2048 * cnt) else _)
        rw [if_pos ⟨rfl, by omega, by omega⟩, k399]
        exact congrArg _ (by omega)
    · rw [← eK, yKi, u5]
    · rw [si_oj (by omega), si_ss]; rfl
    · rw [si_ss]; rfl
    · rw [yk 1 (by omega) (by omega) (by omega)]; exact p5 p hp
    · rw [y0j 2 (by omega) (by omega)]; exact p6
    · rw [si_oj (by omega), si_ok (by omega), cpZ_o (by omega), v7 51 (by omega)]; exact p7
    · rw [si_oj (by omega), si_ok (by omega), cpZ_o (by omega), v7 75 (by omega)]
    · exact G2.2.1 420 (by omega) (by omega)
    · exact y0j 12 (by omega) (by omega)
    · exact yk 86 (by omega) (by omega) (by omega)
  · refine ⟨by omega, by omega, hs1, fun k k1 k2 => ⟨?_, ?_, ?_⟩, fun k j q e => ?_⟩
    · rw [si_ok (by omega), si_ok (by omega), sq_1, (e2 k (by omega)).1]; exact F1.2.1 k (by omega) (by omega)
    · rw [si_2, si_2, sq_2, (e2 k (by omega)).2.1]; exact F1.2.2.1 k (by omega)
    · funext j
      rw [si_3, si_3, sq_3, if_neg (by omega), (e2 k (by omega)).2.2]; exact F1.1 k j (by omega)
    · rw [si_3, si_3, sq_3] at e
      by_cases ck : k = K
      · rw [if_pos ck] at e
        by_cases cj : j = 6
        · rw [if_pos cj] at e
          exact .inr ⟨.inl (by omega), (Option.some.inj e).symm, by omega⟩
        · rw [if_neg cj, (e2 K (by omega)).2.2, F1.1 K j (fun w => cj w.2)] at e
          exact .inl (by rw [ck]; exact e)
      · rw [if_neg ck] at e
        by_cases cn : k = n
        · subst cn; rw [e4] at e; cases e
        · rw [(e2 k cn).2.2, F1.1 k j (fun w => ck w.1)] at e
          exact .inl e
end
