/-! THE REFERENCE'S TREE: hashes -/
def FHs (z z' : St) (kd : Nat) : Prop := z'.2.2 = z.2.2 ∧ (∀ k, k ≠ 337 → k ≠ 372 → k ≠ 373 → z'.1 k = z.1 k) ∧ (∀ j, j ≠ 14 → z'.1 337 j = z.1 337 j) ∧ ∀ k, k ≠ 374 → k ≠ 375 → k ≠ kd → z'.2.1 k = z.2.1 k
section
variable {F n : Nat} {sh : Nat → Nat × Nat} {z z1 z2 : St} {l : List Int32} {S : List Plc}
theorem wm_beg (hL : Lay sh n z) : ∃ z1, fn_X12_begin F sh n z 372 = some (z1, ()) ∧ WBm sh n z z1 [] := by
  obtain ⟨z4, d1, d2, d3, d4⟩ := beg_t (F := F) (dgM_of hL) (gl [])
  exact ⟨z4, d1, d2, Prod.ext d3 d4.2.2, fun k _ k2 k3 => d4.1 k k2 k3, fun j _ => by rw [d4.1 337 (by decide) (by decide)]⟩
theorem WBm.four (hF : 100 ≤ F) (hL : Lay sh n z) (W : WBm sh n z z1 l) (kr q w : Nat) (hk : kr < 513) (hs : shF kr = (102, w)) (hw : q + 4 ≤ w) (hw2 : w < 2 ^ 31) {d : D4} (hd : ∀ k, k < 4 → z.2.1 kr (q + k) = d k) (hl : l.length ≤ 3000) : ∃ z2, fn_X14_add F sh n z1 376 kr (nI q) 1 = some (z2, ()) ∧ WBm sh n z z2 (l ++ qB d) := by
  have key : ∀ m k g z1 l, k + m = 4 → m < g → WBm sh n z z1 l → l.length + 8 * m ≤ 4096 → ∃ z2, fn_X14_add_L3 F sh n 376 1 kr (nI q) g z1 (nI k) = some (z2, ()) ∧ WBm sh n z z2 (l ++ qBf d m k) := by
    intro m
    induction m with
    | zero =>
      intro k g z1 l h1 h2 W _
      obtain ⟨g, rfl⟩ : ∃ q, g = q + 1 := ⟨g - 1, by omega⟩
      have e : k = 4 := by omega
      subst e
      refine ⟨z1, ?_, by rw [show qBf d 0 4 = [] from rfl, List.append_nil]; exact W⟩
      rw [fn_X14_add_L3, if_pos (by decide)]
    | succ m ih =>
      intro k g z1 l h1 h2 W hl
      obtain ⟨g, rfl⟩ : ∃ q, g = q + 1 := ⟨g - 1, by omega⟩
      have l1 := W.lay hL
      obtain ⟨z2, a1, a2, _⟩ := W.num (F := F) (c := 8) (by omega) (by omega) (by omega) (d k)
      obtain ⟨z3, b1, b2⟩ := ih (k + 1) g z2 _ (by omega) (by omega) a2 (by rw [List.length_append, nB_len]; omega)
      refine ⟨z3, ?_, by rw [show qBf d (m + 1) k = nB (d k) 8 ++ qBf d m (k + 1) from rfl, ← List.append_assoc]; exact b2⟩
      rw [fn_X14_add_L3, if_neg (show ¬ (4 : Int32) ≤ nI k from fun e => by have := (nI_leW (a := 4) (b := k) (by omega) (by omega)).mp e; omega), (b_roots l1).1, grd_true, l1.2.2 376 10 372 rfl, lnk_s, if_neg (by decide), nI_add, lay_a l1 kr 102 w hk hs, okI_nI (by omega) hw2, grd_true, nI_clamp (by omega), W.2.1, hd k (by omega)]
      unfold fn_X14_add_B27
      rw [(b_digr l1).1, grd_true, show (8 : Int32) = nI 8 from rfl, a1, cal_s, nI_1]
      exact b1
  exact key 4 0 F z1 l (by omega) (by omega) W (by omega)
theorem WBm.zero (hF : 100 ≤ F) (hL : Lay sh n z) (W : WBm sh n z z1 l) (kr : Nat) (q : Int32) (hl : l.length ≤ 3000) : ∃ z2, fn_X14_add F sh n z1 376 kr q 0 = some (z2, ()) ∧ WBm sh n z z2 (l ++ qB (fun _ => 0)) := by
  have key : ∀ m k g z1 l, k + m = 4 → m < g → WBm sh n z z1 l → l.length + 8 * m ≤ 4096 → ∃ z2, fn_X14_add_L3 F sh n 376 0 kr q g z1 (nI k) = some (z2, ()) ∧ WBm sh n z z2 (l ++ qBf (fun _ => 0) m k) := by
    intro m
    induction m with
    | zero =>
      intro k g z1 l h1 h2 W _
      obtain ⟨g, rfl⟩ : ∃ q, g = q + 1 := ⟨g - 1, by omega⟩
      have e : k = 4 := by omega
      subst e
      refine ⟨z1, ?_, by rw [show qBf (fun _ => 0) 0 4 = [] from rfl, List.append_nil]; exact W⟩
      rw [fn_X14_add_L3, if_pos (by decide)]
    | succ m ih =>
      intro k g z1 l h1 h2 W hl
      obtain ⟨g, rfl⟩ : ∃ q, g = q + 1 := ⟨g - 1, by omega⟩
      have l1 := W.lay hL
      obtain ⟨z2, a1, a2, _⟩ := W.num (F := F) (c := 8) (by omega) (by omega) (by omega) 0
      obtain ⟨z3, b1, b2⟩ := ih (k + 1) g z2 _ (by omega) (by omega) a2 (by rw [List.length_append, nB_len]; omega)
      refine ⟨z3, ?_, by rw [show qBf (fun _ => 0) (m + 1) k = nB 0 8 ++ qBf (fun _ => 0) m (k + 1) from rfl, ← List.append_assoc]; exact b2⟩
      rw [fn_X14_add_L3, if_neg (show ¬ (4 : Int32) ≤ nI k from fun e => by have := (nI_leW (a := 4) (b := k) (by omega) (by omega)).mp e; omega), (b_roots l1).1, grd_true, l1.2.2 376 10 372 rfl, lnk_s, if_pos rfl]
      unfold fn_X14_add_B27
      rw [(b_digr l1).1, grd_true, show (8 : Int32) = nI 8 from rfl, a1, cal_s, nI_1]
      exact b1
  exact key 4 0 F z1 l (by omega) (by omega) W (by omega)
theorem WBm.fin (hF : 200 ≤ F) (W : WBm sh n z z1 l) (hl : l.length ≤ 3900) : ∃ z2, fn_X12_end F sh n z1 372 = some (z2, ()) ∧ (∀ j, j < 8 → z2.2.1 374 j = ux (HS (pb (gl l) l.length) ((l.length + 9 + pz l.length) / 64) j)) ∧ FHs z z2 374 := by
  obtain ⟨z2, a1, a2, a3, a4⟩ := end_t (F := F) W.1 (by omega) hl
  refine ⟨z2, a1, a3, a4.2.2.trans (by rw [W.2.1]), fun k k1 k2 k3 => (a4.1 k k2 k3).trans (W.2.2.1 k k1 k2 k3), fun j hj => by rw [a4.1 337 (by decide) (by decide)]; exact W.2.2.2 j hj, fun k k1 k2 _ => (a4.2.1 k k1 k2).trans (by rw [W.2.1])⟩
/-- four words of a digest -/
def RD4 (z z' : St) (kd q p : Nat) (l : List Int32) : Prop := z'.1 = z.1 ∧ z'.2.2 = z.2.2 ∧ (∀ c, c ≠ kd → z'.2.1 c = z.2.1 c) ∧ (∀ i, i < p → z'.2.1 kd (q + i) = hB l i) ∧ ∀ j, j < q ∨ q + 4 ≤ j → z'.2.1 kd j = z.2.1 kd j
theorem RD4.s {z' : St} {kd q p : Nat} (h : RD4 z z' kd q p l) : RD4 z (sl z' kd (q + p) (hB l p)) kd q (p + 1) l ∨ 4 ≤ p := by
  by_cases c4 : 4 ≤ p
  · exact .inr c4
  · obtain ⟨c1, c2, c3, c4, c5⟩ := h
    refine .inl ⟨c1, c2, fun c hc => by rw [sl_ok hc]; exact c3 c hc, fun i hi => ?_, fun j hj => by rw [sl_oj (by omega)]; exact c5 j hj⟩
    by_cases e : i = p
    · subst e; rw [sl_ss]
    · rw [sl_oj (by omega)]; exact c4 i (by omega)
theorem khs_t (hF : 200 ≤ F) (hL : Lay sh n z) (W : WBm sh n z z1 l) (hl : l.length ≤ 3900) {i : Nat} (hi : i < 256) : ∃ z2, fn_X14_keepHash F sh n z1 376 (nI i) = some (z2, ()) ∧ FHs z z2 382 ∧ (∀ k, k < 4 → z2.2.1 382 (4 * i + k) = hB l k) ∧ ∀ j, j < 4 * i ∨ 4 * i + 4 ≤ j → z2.2.1 382 j = z.2.1 382 j := by
  obtain ⟨z2, a1, a2, a3⟩ := W.fin (F := F) hF hl
  have l1 := W.lay hL
  have l2 : Lay sh n z2 := hL.of a3.1
  have key : ∀ m p g z', p + m = 4 → m < g → RD4 z2 z' 382 (4 * i) p l → ∃ z3, fn_X14_keepHash_L9 F sh n 376 (nI i) g z' (nI p) = some (z3, ()) ∧ RD4 z2 z3 382 (4 * i) 4 l := by
    intro m
    induction m with
    | zero =>
      intro p g z' h1 h2 h
      obtain ⟨g, rfl⟩ : ∃ q, g = q + 1 := ⟨g - 1, by omega⟩
      have e : p = 4 := by omega
      subst e
      exact ⟨z', by rw [fn_X14_keepHash_L9, if_pos (by decide)], h⟩
    | succ m ih =>
      intro p g z' h1 h2 h
      obtain ⟨g, rfl⟩ : ∃ q, g = q + 1 := ⟨g - 1, by omega⟩
      have lz : Lay sh n z' := l2.of h.2.1
      have w : (z'.2.1 374 (2 * p) <<< ((32 : Int32).toInt64 &&& 63)) ||| z'.2.1 374 (2 * p + 1) = hB l p := by
        rw [h.2.2.1 374 (by decide), a2 _ (by omega), a2 _ (by omega)]; rfl
      have ft := four_t (F := F) (i := p) (dgM_of lz) (by omega)
      rw [w] at ft
      obtain ⟨z3, b1, b2⟩ := ih (p + 1) g _ (by omega) (by omega) (h.s.resolve_right (by omega))
      refine ⟨z3, ?_, b2⟩
      rw [fn_X14_keepHash_L9, if_neg (show ¬ (4 : Int32) ≤ nI p from fun e => by have := (nI_leW (a := 4) (b := p) (by omega) (by omega)).mp e; omega), lz.2.2 376 6 382 rfl, lnk_s, lz.2.2 376 10 372 rfl, lnk_s, (b_digr lz).1, grd_true, ft, cal_s, show (4 : Int32) * nI i = nI (4 * i) from pk_mul 4 i, nI_add, lay_a lz 382 102 1024 (by decide) rfl, okI_nI (by omega) (by omega), grd_true, nI_clamp (by omega), lt_t, nI_1]
      exact b1
  obtain ⟨z3, b1, b2, b3, b4, b5, b6⟩ := key 4 0 F z2 (by omega) (by omega) ⟨rfl, rfl, fun _ _ => rfl, fun i hi => absurd hi (by omega), fun _ _ => rfl⟩
  refine ⟨z3, ?_, ⟨b3.trans a3.1, fun k k1 k2 k3 => by rw [b2]; exact a3.2.1 k k1 k2 k3, fun j hj => by rw [b2]; exact a3.2.2.1 j hj, fun k k1 k2 k3 => by rw [b4 k k3]; exact a3.2.2.2 k k1 k2 k1⟩, b5, fun j hj => by rw [b6 j hj, a3.2.2.2 382 (by decide) (by decide) (by decide)]⟩
  unfold fn_X14_keepHash
  rw [(b_roots l1).1, grd_true, l1.2.2 376 10 372 rfl, lnk_s, (b_digr l1).1, grd_true, a1, cal_s]
  exact b1
theorem kfo_t (hF : 200 ≤ F) (hL : Lay sh n z) (W : WBm sh n z z1 l) (hl : l.length ≤ 3900) {kd : Nat} (hk : kd < 513) (hs : shF kd = (102, 4)) (h4 : kd ≠ 374) : ∃ z2, fn_X18_keepFour F sh n z1 337 kd = some (z2, ()) ∧ FHs z z2 kd ∧ (∀ k, k < 4 → z2.2.1 kd k = hB l k) ∧ WBm sh n z2 z2 [] := by
  obtain ⟨z2, a1, a2, a3⟩ := W.fin (F := F) hF hl
  have l1 := W.lay hL
  have l2 : Lay sh n z2 := hL.of a3.1
  have key : ∀ m p g z', p + m = 4 → m < g → RD4 z2 z' kd 0 p l → ∃ z3 z4, fn_X18_keepFour_L9 F sh n 337 kd g z' (nI p) = some (z4, ()) ∧ RD4 z2 z3 kd 0 4 l ∧ WBm sh n z3 z4 [] := by
    intro m
    induction m with
    | zero =>
      intro p g z' h1 h2 h
      obtain ⟨g, rfl⟩ : ∃ q, g = q + 1 := ⟨g - 1, by omega⟩
      have e : p = 4 := by omega
      subst e
      have lz : Lay sh n z' := l2.of h.2.1
      obtain ⟨z4, b1, b2⟩ := wm_beg (F := F) lz
      exact ⟨z', z4, by rw [fn_X18_keepFour_L9, if_pos (by decide), lz.2.2 337 18 372 rfl, lnk_s, (b_digr lz).1, grd_true, b1, cal_s], h, b2⟩
    | succ m ih =>
      intro p g z' h1 h2 h
      obtain ⟨g, rfl⟩ : ∃ q, g = q + 1 := ⟨g - 1, by omega⟩
      have lz : Lay sh n z' := l2.of h.2.1
      have w : (z'.2.1 374 (2 * p) <<< ((32 : Int32).toInt64 &&& 63)) ||| z'.2.1 374 (2 * p + 1) = hB l p := by
        rw [h.2.2.1 374 (Ne.symm h4), a2 _ (by omega), a2 _ (by omega)]; rfl
      have ft := four_t (F := F) (i := p) (dgM_of lz) (by omega)
      rw [w] at ft
      obtain ⟨z3, z4, b1, b2⟩ := ih (p + 1) g _ (by omega) (by omega) (h.s.resolve_right (by omega))
      refine ⟨z3, z4, ?_, b2⟩
      rw [fn_X18_keepFour_L9, if_neg (show ¬ (4 : Int32) ≤ nI p from fun e => by have := (nI_leW (a := 4) (b := p) (by omega) (by omega)).mp e; omega), lz.2.2 337 18 372 rfl, lnk_s, (b_digr lz).1, grd_true, ft, cal_s, lay_a lz kd 102 4 hk hs, okI_nI (by omega) (by omega), grd_true, nI_clamp (by omega), lt_t, nI_1]
      rw [Nat.zero_add] at b1
      exact b1
  obtain ⟨z3, z4, b1, ⟨b2, b3, b4, b5, b6⟩, W4⟩ := key 4 0 F z2 (by omega) (by omega) ⟨rfl, rfl, fun _ _ => rfl, fun i hi => absurd hi (by omega), fun _ _ => rfl⟩
  refine ⟨z4, ?_, ⟨(show z4.2.2 = z3.2.2 by rw [W4.2.1]).trans (b3.trans a3.1), fun k k1 k2 k3 => by rw [W4.2.2.1 k k1 k2 k3, b2]; exact a3.2.1 k k1 k2 k3, fun j hj => by rw [W4.2.2.2 j hj, b2]; exact a3.2.2.1 j hj, fun k k1 k2 k3 => by rw [W4.2.1, b4 k k3]; exact a3.2.2.2 k k1 k2 k1⟩, fun k hk => by rw [W4.2.1]; have := b5 k hk; rw [Nat.zero_add] at this; exact this, W4.1, rfl, fun _ _ _ _ => rfl, fun _ _ => rfl⟩
  unfold fn_X18_keepFour
  rw [(b_model l1).1, grd_true, l1.2.2 337 18 372 rfl, lnk_s, (b_digr l1).1, grd_true, a1, cal_s]
  exact b1
/-- the keys' rows -/
def KWd (z : St) (S : List Plc) : Prop := S.length ≤ 256 ∧ ∀ i x, S[i]? = some x → ∀ k, k < 4 → z.2.1 377 (4 * i + k) = x.1 k
theorem rpt_t (hF : 400 ≤ F) (hL : Lay sh n z) (h : KWd z S) {i : Nat} {x y : Plc} (hx : S[i]? = some x) (hy : S[i + 1]? = some y) (ne : kyN x ≠ kyN y) : ∃ r, r < 256 ∧ fn_X14_parting F sh n z 376 (nI i) = some (z, nI r) ∧ cut (kyN x) (r + 1) ≠ cut (kyN y) (r + 1) := by
  have hi : i + 1 < S.length := (List.getElem?_eq_some_iff.mp hy).1
  have l256 := h.1
  have key : ∀ m t g, t + m = 256 → m < g → cut (kyN x) t = cut (kyN y) t → ∃ r, r < 256 ∧ fn_X14_parting_L2 F sh n 376 (nI i) g z (nI t) = some (z, nI r) ∧ cut (kyN x) (r + 1) ≠ cut (kyN y) (r + 1) := by
    intro m
    induction m with
    | zero =>
      intro t g h1 h2 h3
      have e : t = 256 := by omega
      subst e
      rw [cut_256, cut_256] at h3
      exact absurd h3 ne
    | succ m ih =>
      intro t g h1 h2 h3
      obtain ⟨g, rfl⟩ : ∃ q, g = q + 1 := ⟨g - 1, by omega⟩
      have e1 : nI t / 64 = nI (t / 64) := pk_div (d := 64) (by omega) (by decide) (by decide)
      have e2 : nI t - nI (t / 64) * 64 = nI (t % 64) := by
        rw [← e1]
        exact pk_rem (d := 64) (by omega) (by decide) (by decide)
      have e3 : (63 : Int32) - nI (t % 64) = nI (63 - t % 64) := pk_sub (a := 63) (by omega)
      have e4 : (4 * nI i + 4 + nI (t / 64) : Int32) = nI (4 * (i + 1) + t / 64) := by
        rw [show (4 : Int32) * nI i = nI (4 * i) from pk_mul 4 i, show nI (4 * i) + 4 = nI (4 * (i + 1)) from nI_add (4 * i) 4, nI_add]
      have bt : ∀ w : D4, N ((w (t / 64) >>> ((nI (63 - t % 64)).toInt64 &&& 63)) &&& 1) = kbt (wdN w 4 0) t := fun w => by
        rw [bitK (by omega), kbt_w (by omega)]
      rw [fn_X14_parting_L2, (b_roots hL).1, grd_true, (b_roots hL).2.1, lnk_s, lnk_s, e1, e2, e3, e4, show (4 : Int32) * nI i = nI (4 * i) from pk_mul 4 i, nI_add, lay_a hL 377 102 1024 (by decide) rfl, okI_nI (by omega) (by omega), grd_true, lay_a hL 377 102 1024 (by decide) rfl, okI_nI (by omega) (by omega), grd_true, nI_clamp (show 4 * i + t / 64 < 2 ^ 31 by omega), nI_clamp (show 4 * (i + 1) + t / 64 < 2 ^ 31 by omega), h.2 i x hx _ (by omega), h.2 (i + 1) y hy _ (by omega)]
      have bx : N ((x.1 (t / 64) >>> ((nI (63 - t % 64)).toInt64 &&& 63)) &&& 1) = kbt (kyN x) t := bt x.1
      have bY : N ((y.1 (t / 64) >>> ((nI (63 - t % 64)).toInt64 &&& 63)) &&& 1) = kbt (kyN y) t := bt y.1
      by_cases c : kbt (kyN x) t = kbt (kyN y) t
      · rw [if_pos (N_inj (by rw [bx, bY, c])), nI_1]
        exact ih (t + 1) g (by omega) (by omega) (by rw [kbt_c (by omega), kbt_c (by omega), h3, c])
      · rw [if_neg (fun w => c (by rw [← bx, ← bY, w]))]
        refine ⟨t, by omega, rfl, ?_⟩
        rw [kbt_c (by omega), kbt_c (by omega), h3]
        omega
  exact key 256 0 F (by omega) (by omega) (by rw [cut_0 (kyN_b x), cut_0 (kyN_b y)])
theorem agr_t (hF : 100 ≤ F) (hL : Lay sh n z) (h : KWd z S) {i j : Nat} {x y : Plc} (hx : S[i]? = some x) (hy : S[j]? = some y) {L : Nat} (hL2 : L ≤ 256) : ∃ r, fn_X14_agree F sh n z 376 (nI i) (nI j) (nI L) = some (z, r) ∧ (r = 0 ↔ cut (kyN x) L ≠ cut (kyN y) L) := by
  have hi : i < S.length := (List.getElem?_eq_some_iff.mp hx).1
  have hj : j < S.length := (List.getElem?_eq_some_iff.mp hy).1
  have l256 := h.1
  have key : ∀ m q g, q + m = 5 → m < g → (∀ k, k < q → k < 4 → x.1 k = y.1 k) → ∃ r, fn_X14_agree_L3 F sh n (nI L) 376 (nI i) (nI j) g z (nI (64 * q)) = some (z, r) ∧ (r = 0 ↔ cut (kyN x) L ≠ cut (kyN y) L) := by
    intro m
    induction m with
    | zero =>
      intro q g h1 h2 h3
      obtain ⟨g, rfl⟩ : ∃ q, g = q + 1 := ⟨g - 1, by omega⟩
      have : kyN x = kyN y := wdN_c 4 0 (fun k hk => by rw [Nat.zero_add]; exact h3 k (by omega) hk)
      refine ⟨1, by rw [fn_X14_agree_L3, if_pos ((nI_leW (by omega) (by omega)).mpr (by omega))], fun w => absurd w (by decide), fun w => absurd (by rw [this]) w⟩
    | succ m ih =>
      intro q g h1 h2 h3
      obtain ⟨g, rfl⟩ : ∃ q, g = q + 1 := ⟨g - 1, by omega⟩
      rw [fn_X14_agree_L3]
      by_cases c : L ≤ 64 * q
      · have ce : cut (kyN x) (64 * q) = cut (kyN y) (64 * q) ∨ 4 ≤ q := by
          by_cases q4 : q < 4
          · refine .inl ?_
            have := (cut_q (w := x.1) (v := y.1) (q := q) (t := 0) q4 (by omega) (fun k hk => h3 k hk (by omega))).mpr (by rw [Nat.sub_zero, Nat.div_eq_of_lt (N_lt _), Nat.div_eq_of_lt (N_lt _)])
            exact this
          · exact .inr (by omega)
        have ec : cut (kyN x) L = cut (kyN y) L := by
          rcases ce with w | w
          · by_cases q4 : q < 4
            · exact cut_lo w c (by omega)
            · have : kyN x = kyN y := wdN_c 4 0 (fun k hk => by rw [Nat.zero_add]; exact h3 k (by omega) hk)
              rw [this]
          · have : kyN x = kyN y := wdN_c 4 0 (fun k hk => by rw [Nat.zero_add]; exact h3 k (by omega) hk)
            rw [this]
        rw [if_pos ((nI_leW (by omega) (by omega)).mpr c)]
        exact ⟨1, rfl, fun w => absurd w (by decide), fun w => absurd ec w⟩
      · have q4 : q < 4 := by omega
        have e1 : nI (64 * q) / 64 = nI q := (pk_div (a := 64 * q) (d := 64) (by omega) (by decide) (by decide)).trans (by rw [show 64 * q / 64 = q by omega])
        have nx : fn_X14_agree_B78 F sh n (nI (64 * q)) (fun z9 q4 => fn_X14_agree_L3 F sh n (nI L) 376 (nI i) (nI j) g z9 q4) z = fn_X14_agree_L3 F sh n (nI L) 376 (nI i) (nI j) g z (nI (64 * (q + 1))) := by
          unfold fn_X14_agree_B78
          rw [show nI (64 * q) + 64 = nI (64 * (q + 1)) from nI_add (64 * q) 64]
        rw [if_neg (fun e => c ((nI_leW (by omega) (by omega)).mp e)), (b_roots hL).1, grd_true, (b_roots hL).2.1, lnk_s, lnk_s, e1, show (4 : Int32) * nI i = nI (4 * i) from pk_mul 4 i, show (4 : Int32) * nI j = nI (4 * j) from pk_mul 4 j, nI_add, nI_add, lay_a hL 377 102 1024 (by decide) rfl, okI_nI (by omega) (by omega), grd_true, lay_a hL 377 102 1024 (by decide) rfl, okI_nI (by omega) (by omega), grd_true, nI_clamp (show 4 * i + q < 2 ^ 31 by omega), nI_clamp (show 4 * j + q < 2 ^ 31 by omega), h.2 i x hx q q4, h.2 j y hy q q4, lt_t, lt_t, show nI L - nI (64 * q) = nI (L - 64 * q) from pk_sub (by omega)]
        have lo : ∀ k, k < q → x.1 k = y.1 k := fun k hk => h3 k hk (by omega)
        by_cases d : L - 64 * q < 64
        · have iff := cut_q (w := x.1) (v := y.1) (q := q) (t := L - 64 * q) q4 (by omega) lo
          rw [show 64 * q + (L - 64 * q) = L by omega] at iff
          rw [if_pos (show nI (L - 64 * q) < 64 from (nI_ltW (b := 64) (by omega) (by omega)).mpr d), show (64 : Int32) - nI (L - 64 * q) = nI (64 - (L - 64 * q)) from pk_sub (a := 64) (by omega)]
          by_cases s : N (x.1 q) / 2 ^ (64 - (L - 64 * q)) = N (y.1 q) / 2 ^ (64 - (L - 64 * q))
          · rw [if_pos ((xor_u (by omega)).mpr s), nx]
            obtain ⟨g', eg⟩ : ∃ q, g = q + 1 := ⟨g - 1, by omega⟩
            rw [eg, fn_X14_agree_L3, if_pos ((nI_leW (by omega) (by omega)).mpr (by omega))]
            exact ⟨1, rfl, fun w => absurd w (by decide), fun w => absurd (iff.mpr s) w⟩
          · rw [if_neg (fun w => s ((xor_u (by omega)).mp w))]
            exact ⟨0, rfl, fun _ w => s (iff.mp w), fun _ => rfl⟩
        · rw [if_neg (show ¬ nI (L - 64 * q) < 64 from fun w => d ((nI_ltW (b := 64) (by omega) (by omega)).mp w))]
          by_cases s : x.1 q = y.1 q
          · rw [if_pos (xor_0.mpr s), nx]
            exact ih (q + 1) g (by omega) (by omega) (fun k hk k4 => by
              by_cases w : k = q
              · rw [w]; exact s
              · exact h3 k (by omega) k4)
          · rw [if_neg (fun w => s (xor_0.mp w))]
            refine ⟨0, rfl, fun _ w => s ?_, fun _ => rfl⟩
            have w2 := cut_lo (M := 64 * q + 64) w (by omega) hL2
            have := (cut_q (w := x.1) (v := y.1) (q := q) (t := 64) q4 (by omega) lo).mp w2
            rw [Nat.sub_self, Nat.pow_zero, Nat.div_one, Nat.div_one] at this
            exact N_inj this
  have := key 5 0 F (by omega) (by omega) (fun k hk => absurd hk (by omega))
  exact this
end
