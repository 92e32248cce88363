/-! THE REFERENCE'S TREE: level by level -/
def NDr (z : St) (S : List Plc) (f i : Nat) (g : List Plc) : Prop := (∃ idx y, z.1 383 i = nI idx ∧ S[idx]? = some y ∧ y ∈ g) ∧ z.1 384 i = nI g.length ∧ g.length ≤ 256 ∧ ∀ k, k < 4 → z.2.1 382 (4 * i + k) = trD ndH lfP f g k
def NWr (z z' : St) (i : Nat) : Prop := z'.2.2 = z.2.2 ∧ (∀ k, k ≠ 337 → k ≠ 372 → k ≠ 373 → k ≠ 383 → k ≠ 384 → z'.1 k = z.1 k) ∧ (∀ j, j ≠ 14 → z'.1 337 j = z.1 337 j) ∧ (∀ k, k ≠ 374 → k ≠ 375 → k ≠ 382 → z'.2.1 k = z.2.1 k) ∧ (∀ j, j ≠ i → z'.1 383 j = z.1 383 j ∧ z'.1 384 j = z.1 384 j) ∧ ∀ j, j < 4 * i ∨ 4 * i + 4 ≤ j → z'.2.1 382 j = z.2.1 382 j
theorem NDr.of {z z' : St} {S : List Plc} {f i j : Nat} {g : List Plc} (h : NDr z S f j g) (w : NWr z z' i) (hj : j ≠ i) : NDr z' S f j g := by
  obtain ⟨⟨idx, y, a1, a2⟩, a3, a4, a5⟩ := h
  exact ⟨⟨idx, y, by rw [(w.2.2.2.2.1 j hj).1]; exact a1, a2⟩, by rw [(w.2.2.2.2.1 j hj).2]; exact a3, a4, fun k hk => by rw [w.2.2.2.2.2 _ (by omega)]; exact a5 k hk⟩
section
variable {F n : Nat} {sh : Nat → Nat × Nat} {z z1 z2 : St} {S : List Plc} {f b p1 p2 : Nat} {g h : List Plc} {ko : St → Int32 → Int32 → Option (St × Unit)}
theorem nw_e {kd : Nat} (a : FHs z z2 kd) (hk : kd = 382) (o : ∀ j, j < 4 * p1 ∨ 4 * p1 + 4 ≤ j → z2.2.1 382 j = z.2.1 382 j) (v c : Int32) : NWr z (si (si z2 383 p1 v) 384 p1 c) p1 := by
  refine ⟨a.1, fun k k1 k2 k3 k4 k5 => by rw [si_ok k5, si_ok k4]; exact a.2.1 k k1 k2 k3, fun j hj => by rw [si_ok (by decide), si_ok (by decide)]; exact a.2.2.1 j hj, fun k k1 k2 k3 => a.2.2.2 k k1 k2 (by omega), fun j hj => ⟨?_, ?_⟩, o⟩
  · rw [si_ok (by decide), si_oj hj, a.2.1 383 (by decide) (by decide) (by decide)]
  · rw [si_oj hj, si_ok (by decide), a.2.1 384 (by decide) (by decide) (by decide)]
theorem lv_257 (hL : Lay sh n z) (h1 : p1 < 256) {v c p9 : Int32} {q : Nat} (hq : (p9 = 0 ∧ q = p2 + 1) ∨ (p9 = 1 ∧ q = p2 + 2)) : fn_X14_level_B257 F sh n 376 (nI p1) v c p9 (nI p2) ko z = ko (si (si z 383 p1 v) 384 p1 c) (nI (p1 + 1)) (nI q) := by
  unfold fn_X14_level_B257
  rw [hL.2.2 376 7 383 rfl, lnk_s, lay_a hL 383 101 256 (by decide) rfl, okI_nI (by omega) (by omega), grd_true, nI_clamp (by omega), lt_t, si_3, hL.2.2 376 8 384 rfl, lnk_s, lay_a hL 384 101 256 (by decide) rfl, okI_nI (by omega) (by omega), grd_true, lt_t]
  rcases hq with ⟨q1, q2⟩ | ⟨q1, q2⟩
  · rw [if_pos q1]
    unfold fn_X14_level_B287
    rw [nI_1, nI_1, lt_t, q2]
  · rw [if_neg (by rw [q1]; decide)]
    unfold fn_X14_level_B287
    rw [nI_1, show nI p2 + 2 = nI (p2 + 2) from nI_add p2 2, lt_t, q2]
theorem lv_cp (hF : 100 ≤ F) (hL : Lay sh n z) (h1 : p1 ≤ p2) (h2 : p2 < 256) {d : D4} (hd : ∀ k, k < 4 → z.2.1 382 (4 * p2 + k) = d k) {v c p9 : Int32} : ∃ z', fn_X14_level_L223 F sh n 376 (nI p1) v c p9 (nI p2) ko F z 0 = fn_X14_level_B257 F sh n 376 (nI p1) v c p9 (nI p2) ko z' ∧ FHs z z' 382 ∧ (∀ k, k < 4 → z'.2.1 382 (4 * p1 + k) = d k) ∧ ∀ j, j < 4 * p1 ∨ 4 * p1 + 4 ≤ j → z'.2.1 382 j = z.2.1 382 j := by
  have key : ∀ m p g z', p + m = 4 → m < g → z'.1 = z.1 → z'.2.2 = z.2.2 → (∀ k, k ≠ 382 → z'.2.1 k = z.2.1 k) → (∀ k, k < 4 → z'.2.1 382 (4 * p2 + k) = d k) → (∀ k, k < p → z'.2.1 382 (4 * p1 + k) = d k) → (∀ j, j < 4 * p1 ∨ 4 * p1 + 4 ≤ j → z'.2.1 382 j = z.2.1 382 j) → ∃ z'', fn_X14_level_L223 F sh n 376 (nI p1) v c p9 (nI p2) ko g z' (nI p) = fn_X14_level_B257 F sh n 376 (nI p1) v c p9 (nI p2) ko z'' ∧ FHs z z'' 382 ∧ (∀ k, k < 4 → z''.2.1 382 (4 * p1 + k) = d k) ∧ ∀ j, j < 4 * p1 ∨ 4 * p1 + 4 ≤ j → z''.2.1 382 j = z.2.1 382 j := by
    intro m
    induction m with
    | zero =>
      intro p g z' q1 q2 c1 c2 c3 c4 c5 c6
      obtain ⟨g, rfl⟩ : ∃ q, g = q + 1 := ⟨g - 1, by omega⟩
      have e : p = 4 := by omega
      subst e
      exact ⟨z', by rw [fn_X14_level_L223, if_pos (by decide)], ⟨c2, fun k _ _ _ => by rw [c1], fun j _ => by rw [c1], fun k _ _ k3 => c3 k k3⟩, c5, c6⟩
    | succ m ih =>
      intro p g z' q1 q2 c1 c2 c3 c4 c5 c6
      obtain ⟨g, rfl⟩ : ∃ q, g = q + 1 := ⟨g - 1, by omega⟩
      have lz : Lay sh n z' := hL.of c2
      obtain ⟨z'', b1, b2⟩ := ih (p + 1) g (sl z' 382 (4 * p1 + p) (d p)) (by omega) (by omega) c1 c2 (fun k hk => by rw [sl_ok hk]; exact c3 k hk) (fun k hk => by
        by_cases w : 4 * p2 + k = 4 * p1 + p
        · rw [w, sl_ss]
          have : k = p := by omega
          rw [this]
        · rw [sl_oj w]; exact c4 k hk) (fun k hk => by
        by_cases w : k = p
        · subst w; rw [sl_ss]
        · rw [sl_oj (by omega)]; exact c5 k (by omega)) (fun j hj => by rw [sl_oj (by omega)]; exact c6 j hj)
      refine ⟨z'', ?_, b2⟩
      rw [fn_X14_level_L223, if_neg (show ¬ (4 : Int32) ≤ nI p from fun e => by have := (nI_leW (a := 4) (b := p) (by omega) (by omega)).mp e; omega), lz.2.2 376 6 382 rfl, lnk_s, lnk_s, show (4 : Int32) * nI p2 = nI (4 * p2) from pk_mul 4 p2, show (4 : Int32) * nI p1 = nI (4 * p1) from pk_mul 4 p1, nI_add, nI_add, lay_a lz 382 102 1024 (by decide) rfl, okI_nI (by omega) (by omega), grd_true, lay_a lz 382 102 1024 (by decide) rfl, okI_nI (by omega) (by omega), grd_true, nI_clamp (show 4 * p1 + p < 2 ^ 31 by omega), nI_clamp (show 4 * p2 + p < 2 ^ 31 by omega), c4 p (by omega), lt_t, nI_1]
      exact b1
  exact key 4 0 F z (by omega) (by omega) rfl rfl (fun _ _ => rfl) hd (fun k hk => absurd hk (by omega)) (fun _ _ => rfl)
/-- a hash of two halves is kept in its row -/
theorem lv_hs (hF : 400 ≤ F) (hL : Lay sh n z) (h1 : p1 < 256) (h2 : p2 < 256) {d e : D4} {v c p9 p40 : Int32} {q : Nat} (cs : (p9 = 0 ∧ p40 = 0 ∧ q = p2 + 1 ∧ (∀ k, k < 4 → z.2.1 382 (4 * p2 + k) = d k) ∧ e = fun _ => 0) ∨ (p9 = 0 ∧ p40 = 1 ∧ q = p2 + 1 ∧ (∀ k, k < 4 → z.2.1 382 (4 * p2 + k) = e k) ∧ d = fun _ => 0) ∨ (p9 = 1 ∧ p40 = 0 ∧ q = p2 + 2 ∧ p2 + 1 < 256 ∧ (∀ k, k < 4 → z.2.1 382 (4 * p2 + k) = d k) ∧ ∀ k, k < 4 → z.2.1 382 (4 * (p2 + 1) + k) = e k)) : ∃ z', fn_X14_level_B135 F sh n 376 (nI p2) p9 (nI p1) v c ko z p40 = ko z' (nI (p1 + 1)) (nI q) ∧ NWr z z' p1 ∧ z'.1 383 p1 = v ∧ z'.1 384 p1 = c ∧ ∀ k, k < 4 → z'.2.1 382 (4 * p1 + k) = ndH d e k := by
  obtain ⟨y1, a1, w1⟩ := wm_beg (F := F) hL
  obtain ⟨y2, a2, w2, _⟩ := w1.add (F := F) (by simp) (x := 1) (c := 1) rfl
  have r1 := w1.lay hL
  have r2 := w2.lay hL
  have m4 : (4 : Int32) * nI p2 = nI (4 * p2) := pk_mul 4 p2
  have m5 : (nI (4 * p2) + 4 : Int32) = nI (4 * (p2 + 1)) := nI_add (4 * p2) 4
  have fin : ∀ (y4 : St), WBm sh n z y4 ([] ++ [1] ++ qB d ++ qB e) → ((p9 = 0 ∧ q = p2 + 1) ∨ (p9 = 1 ∧ q = p2 + 2)) → ∃ z', (cal (fn_X14_keepHash F sh n y4 376 (nI p1)) (fun z_62 _ => fn_X14_level_B257 F sh n 376 (nI p1) v c p9 (nI p2) (fun z9 q2 q3 => ko z9 q2 q3) z_62)) = ko z' (nI (p1 + 1)) (nI q) ∧ NWr z z' p1 ∧ z'.1 383 p1 = v ∧ z'.1 384 p1 = c ∧ ∀ k, k < 4 → z'.2.1 382 (4 * p1 + k) = ndH d e k := by
    intro y4 w4 hq
    obtain ⟨y5, b1, b2, b3, b4⟩ := khs_t (F := F) (by omega) hL w4 (by simp [List.length_append, qB_len]) (i := p1) (by omega)
    have l5 : Lay sh n y5 := hL.of b2.1
    refine ⟨_, by rw [b1, cal_s, lv_257 l5 h1 hq], nw_e b2 rfl b4 v c, by rw [si_ok (by decide), si_ss], si_ss, fun k hk => ?_⟩
    rw [si_2, si_2, b3 k hk]
    rfl
  unfold fn_X14_level_B135
  rw [hL.2.2 376 10 372 rfl, lnk_s, (b_digr hL).1, grd_true, a1, cal_s, r1.2.2 376 10 372 rfl, lnk_s, (b_digr r1).1, grd_true, a2, cal_s, r2.2.2 376 6 382 rfl, lnk_s]
  rcases cs with ⟨e9, e40, eq, hd, he⟩ | ⟨e9, e40, eq, he, hd⟩ | ⟨e9, e40, eq, h3, hd, he⟩
  · subst e9 e40 he
    obtain ⟨y3, a3, w3⟩ := w2.four (F := F) (by omega) hL 382 (4 * p2) 1024 (by decide) rfl (by omega) (by omega) hd (by simp)
    obtain ⟨y4, a4, w4⟩ := w3.zero (F := F) (by omega) hL 382 (nI (4 * p2)) (by simp [List.length_append, qB_len])
    rw [if_pos rfl]
    unfold fn_X14_level_B170
    rw [m4, a3, cal_s, (w3.lay hL).2.2 376 6 382 rfl, lnk_s, if_pos rfl]
    unfold fn_X14_level_B194
    rw [if_pos rfl, if_pos rfl]
    unfold fn_X14_level_B209
    rw [a4, cal_s]
    exact fin y4 w4 (.inl ⟨rfl, eq⟩)
  · subst e9 e40 hd
    obtain ⟨y3, a3, w3⟩ := w2.zero (F := F) (by omega) hL 382 (nI (4 * p2)) (by simp)
    obtain ⟨y4, a4, w4⟩ := w3.four (F := F) (by omega) hL 382 (4 * p2) 1024 (by decide) rfl (by omega) (by omega) he (by simp [List.length_append, qB_len])
    rw [if_neg (by decide)]
    unfold fn_X14_level_B170
    rw [m4, a3, cal_s, (w3.lay hL).2.2 376 6 382 rfl, lnk_s, if_pos rfl]
    unfold fn_X14_level_B194
    rw [if_pos rfl, if_neg (by decide)]
    unfold fn_X14_level_B204 fn_X14_level_B209
    rw [a4, cal_s]
    exact fin y4 w4 (.inl ⟨rfl, eq⟩)
  · subst e9 e40
    obtain ⟨y3, a3, w3⟩ := w2.four (F := F) (by omega) hL 382 (4 * p2) 1024 (by decide) rfl (by omega) (by omega) hd (by simp)
    obtain ⟨y4, a4, w4⟩ := w3.four (F := F) (by omega) hL 382 (4 * (p2 + 1)) 1024 (by decide) rfl (by omega) (by omega) he (by simp [List.length_append, qB_len])
    rw [if_pos rfl]
    unfold fn_X14_level_B170
    rw [m4, a3, cal_s, (w3.lay hL).2.2 376 6 382 rfl, lnk_s, if_neg (by decide), m5]
    unfold fn_X14_level_B194
    rw [if_neg (by decide)]
    unfold fn_X14_level_B204 fn_X14_level_B209
    rw [a4, cal_s]
    exact fin y4 w4 (.inr ⟨rfl, eq⟩)
/-- a node by itself -/
theorem lv_one (hF : 400 ≤ F) (hL : Lay sh n z) (kw : KWd z S) (hb : f + b = 255) (h1 : p1 ≤ p2) (h2 : p2 < 256) (nd : NDr z S f p2 g) (sg : Shr (b + 1) g) (g0 : g ≠ []) : ∃ z', fn_X14_level_B48 F sh n 376 (nI p2) (nI p1) (nI b) ko z = ko z' (nI (p1 + 1)) (nI (p2 + 1)) ∧ NWr z z' p1 ∧ NDr z' S (f + 1) p1 g := by
  obtain ⟨⟨idx, y, a1, a2, a3⟩, a4, a5, a6⟩ := nd
  have hi : idx < S.length := (List.getElem?_eq_some_iff.mp a2).1
  have l256 := kw.1
  have gl0 := List.length_pos_iff.mpr g0
  unfold fn_X14_level_B48 fn_X14_level_B49
  rw [hL.2.2 376 7 383 rfl, lnk_s, lay_a hL 383 101 256 (by decide) rfl, okI_nI (by omega) (by omega), grd_true, nI_clamp (by omega), a1, lt_t, if_pos rfl, hL.2.2 376 8 384 rfl, lnk_s, lay_a hL 384 101 256 (by decide) rfl, okI_nI (by omega) (by omega), grd_true, a4]
  unfold fn_X14_level_B88
  by_cases c : g.length ≤ 1
  · obtain ⟨x, ex⟩ : ∃ x, g = [x] := List.length_eq_one_iff.mp (by omega)
    subst ex
    obtain ⟨z', b1, b2, b3, b4⟩ := lv_cp (F := F) (ko := fun z9 q2 q3 => ko z9 q2 q3) (by omega) hL h1 h2 a6 (v := nI idx) (c := nI ([x] : List Plc).length) (p9 := 0)
    have lz : Lay sh n z' := hL.of b2.1
    rw [if_pos (show nI ([x] : List Plc).length ≤ 1 from (by decide : nI 1 ≤ 1)), b1, lv_257 lz (by omega) (.inl ⟨rfl, rfl⟩)]
    refine ⟨_, rfl, nw_e b2 rfl b4 _ _, ⟨idx, y, by rw [si_ok (by decide), si_ss], a2, a3⟩, si_ss, a5, fun k hk => ?_⟩
    rw [si_2, si_2, b3 k hk, trD_1, trD_1]
  · have e1 : nI b / 64 = nI (b / 64) := pk_div (d := 64) (by omega) (by decide) (by decide)
    have e2 : nI b - nI (b / 64) * 64 = nI (b % 64) := by
      rw [← e1]
      exact pk_rem (d := 64) (by omega) (by decide) (by decide)
    have e3 : (63 : Int32) - nI (b % 64) = nI (63 - b % 64) := pk_sub (a := 63) (by omega)
    have bt : N ((y.1 (b / 64) >>> ((nI (63 - b % 64)).toInt64 &&& 63)) &&& 1) = kbt (kyN y) b := by
      rw [bitK (by omega)]
      exact (kbt_w (by omega)).symm
    have all : AllB b (kbt (kyN y) b) g := fun x hx => by
      unfold kbt
      rw [sg x y hx a3]
    rw [if_neg (show ¬ nI g.length ≤ 1 from fun w => c ((nI_leW (b := 1) (by omega) (by omega)).mp w)), if_pos rfl, (b_roots hL).2.1, lnk_s, e1, e2, e3, show (4 : Int32) * nI idx = nI (4 * idx) from pk_mul 4 idx, nI_add, lay_a hL 377 102 1024 (by decide) rfl, okI_nI (by omega) (by omega), grd_true, nI_clamp (by omega), kw.2 idx y a2 _ (by omega)]
    rcases kbt_2 (k := kyN y) (L := b) with q | q
    · rw [if_neg (fun w => by rw [w, q] at bt; exact absurd bt (by decide))]
      unfold fn_X14_level_B134
      obtain ⟨z', b1, b2, b3, b4, b5⟩ := lv_hs (F := F) (ko := fun z9 q2 q3 => ko z9 q2 q3) hF hL (p1 := p1) (p2 := p2) (by omega) h2 (v := nI idx) (c := nI g.length) (p9 := 0) (p40 := 0) (q := p2 + 1) (d := trD ndH lfP f g) (e := fun _ => 0) (.inl ⟨rfl, rfl, rfl, a6, rfl⟩)
      refine ⟨z', b1, b2, ⟨idx, y, b3, a2, a3⟩, b4, a5, fun k hk => ?_⟩
      rw [b5 k hk, trD_l (by omega) (by rw [show 255 - f = b by omega, ← q]; exact all)]
    · rw [if_pos (N_inj (by rw [bt, q]; rfl))]
      obtain ⟨z', b1, b2, b3, b4, b5⟩ := lv_hs (F := F) (ko := fun z9 q2 q3 => ko z9 q2 q3) hF hL (p1 := p1) (p2 := p2) (by omega) h2 (v := nI idx) (c := nI g.length) (p9 := 0) (p40 := 1) (q := p2 + 1) (e := trD ndH lfP f g) (d := fun _ => 0) (.inr (.inl ⟨rfl, rfl, rfl, a6, rfl⟩))
      refine ⟨z', b1, b2, ⟨idx, y, b3, a2, a3⟩, b4, a5, fun k hk => ?_⟩
      rw [b5 k hk, trD_r (by omega) (by rw [show 255 - f = b by omega, ← q]; exact all)]
/-- two nodes -/
theorem lv_two (hF : 400 ≤ F) (hL : Lay sh n z) (kw : KWd z S) (hb : f + b = 255) (h1 : p1 ≤ p2) (h2 : p2 + 1 < 256) (nd : NDr z S f p2 g) (nh : NDr z S f (p2 + 1) h) (g0 : g ≠ []) (h0 : h ≠ []) (hl : g.length + h.length ≤ 256) (ag : AllB b 0 g) (ah : AllB b 1 h) : ∃ z', fn_X14_level_B49 F sh n 376 (nI p2) (nI p1) (nI b) ko z 1 = ko z' (nI (p1 + 1)) (nI (p2 + 2)) ∧ NWr z z' p1 ∧ NDr z' S (f + 1) p1 (g ++ h) := by
  obtain ⟨⟨idx, y, a1, a2, a3⟩, a4, a5, a6⟩ := nd
  obtain ⟨_, d4, d5, d6⟩ := nh
  have gl0 := List.length_pos_iff.mpr g0
  have hl0 := List.length_pos_iff.mpr h0
  unfold fn_X14_level_B49
  rw [hL.2.2 376 7 383 rfl, lnk_s, lay_a hL 383 101 256 (by decide) rfl, okI_nI (by omega) (by omega), grd_true, nI_clamp (by omega), a1, lt_t, if_neg (by decide), hL.2.2 376 8 384 rfl, lnk_s, lay_a hL 384 101 256 (by decide) rfl, okI_nI (by omega) (by omega), grd_true, lnk_s, nI_1, lay_a hL 384 101 256 (by decide) rfl, okI_nI (by omega) (by omega), grd_true, nI_clamp (by omega), a4, d4, nI_add]
  unfold fn_X14_level_B88
  rw [if_neg (show ¬ nI (g.length + h.length) ≤ 1 from fun w => by have := (nI_leW (b := 1) (by omega) (by omega)).mp w; omega), if_neg (by decide)]
  unfold fn_X14_level_B134
  obtain ⟨z', b1, b2, b3, b4, b5⟩ := lv_hs (F := F) (ko := fun z9 q2 q3 => ko z9 q2 q3) hF hL (p1 := p1) (p2 := p2) (by omega) (by omega) (v := nI idx) (c := nI (g.length + h.length)) (p9 := 1) (p40 := 0) (q := p2 + 2) (d := trD ndH lfP f g) (e := trD ndH lfP f h) (.inr (.inr ⟨rfl, rfl, rfl, h2, a6, d6⟩))
  refine ⟨z', b1, b2, ⟨idx, y, b3, a2, List.mem_append_left _ a3⟩, by rw [List.length_append]; exact b4, by rw [List.length_append]; exact hl, fun k hk => ?_⟩
  rw [b5 k hk, trD_b g0 h0 (by rw [show 255 - f = b by omega]; exact ag) (by rw [show 255 - f = b by omega]; exact ah)]
end
