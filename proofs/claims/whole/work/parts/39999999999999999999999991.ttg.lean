/-! A TRANSACTION IS LAID DOWN -/
theorem i32_in (x : Int32) {a b : Nat} (hb : b < 2 ^ 31) (hab : a ≤ b) : x < nI a ∨ (¬ x < nI a ∧ ¬ x ≤ nI b ∧ nI b < x) ∨ ∃ t, a ≤ t ∧ t ≤ b ∧ x = nI t ∧ ¬ x < nI a ∧ x ≤ nI b ∧ ¬ nI b < x := by
  have ea := nI_toInt (n := a) (by omega)
  have eb := nI_toInt (n := b) (by omega)
  rw [Int32.lt_iff_toInt_lt, Int32.lt_iff_toInt_lt, Int32.le_iff_toInt_le, ea, eb]
  by_cases p : x.toInt < a
  · exact .inl p
  · by_cases q : x.toInt ≤ b
    · refine .inr (.inr ⟨x.toInt.toNat, by omega, by omega, ?_, p, q, by omega⟩)
      apply Int32.toInt_inj.mp
      rw [nI_toInt (by omega)]; omega
    · exact .inr (.inl ⟨p, q, by omega⟩)
/-- a transaction's cell, laid anew -/
def layS (y : St) (K : Nat) (x0 x1 : Int64) (x2 : Int32) : St := sq (si (si (si (si (sl (sl (si y K 0 0) K 1 x0) K 2 x1) K 3 x2) K 7 0) K 15 0) K 14 0) K 6 none
def addS (z : St) (cnt : Nat) (s : Int32) (x1 x2 : Int64) (x3 : Int32) : St := si (si (sl (sl (si (si z 337 52 (nI (cnt + 1))) 400 cnt s) 401 cnt x1) 402 cnt x2) 403 cnt x3) 406 cnt 0
/-- but for one transaction's cell all is as before -/
def FyK (K : Nat) (y y' : St) : Prop := (∀ k j, ¬ (k = K ∧ j = 6) → y'.2.2 k j = y.2.2 k j) ∧ (∀ k, k ≠ 0 → k < K ∨ K + 3 < k → y'.1 k = y.1 k) ∧ (∀ k, k < K ∨ K + 3 < k → y'.2.1 k = y.2.1 k) ∧ (∀ j, j ≠ 1 → j ≠ 4 → y'.1 0 j = y.1 0 j)
def FzK (c : Nat) (z z' : St) : Prop := z'.2.2 = z.2.2 ∧ (∀ k, k ≠ 337 → ¬ (400 ≤ k ∧ k ≤ 411) → z'.1 k = z.1 k) ∧ (∀ k, ¬ (400 ≤ k ∧ k ≤ 411) → z'.2.1 k = z.2.1 k) ∧ (∀ j, j ≠ 50 → j ≠ 52 → z'.1 337 j = z.1 337 j) ∧ ∀ t, t ≠ c → EqTr t z z'
section
variable {RV : RtV} {F n : Nat} {sh : Nat → Nat × Nat} {z z' y y' : St} {cnt dn t K c : Nat}
theorem FyK.trans {y'' : St} (f : FyK K y y') (g : FyK K y' y'') : FyK K y y'' := ⟨fun k j a => (g.1 k j a).trans (f.1 k j a), fun k a b => (g.2.1 k a b).trans (f.2.1 k a b), fun k a => (g.2.2.1 k a).trans (f.2.2.1 k a), fun j a b => (g.2.2.2 j a b).trans (f.2.2.2 j a b)⟩
theorem EqTr.trans {z'' : St} (f : EqTr t z z') (g : EqTr t z' z'') : EqTr t z z'' := ⟨fun k q => (g.1 k q).trans (f.1 k q), g.2.1.trans f.2.1, g.2.2.1.trans f.2.2.1, fun i q => ⟨(g.2.2.2.1 i q).1.trans (f.2.2.2.1 i q).1, (g.2.2.2.1 i q).2.1.trans (f.2.2.2.1 i q).2.1, (g.2.2.2.1 i q).2.2.trans (f.2.2.2.1 i q).2.2⟩, fun p q => (g.2.2.2.2 p q).trans (f.2.2.2.2 p q)⟩
theorem FzK.trans {z'' : St} (f : FzK c z z') (g : FzK c z' z'') : FzK c z z'' := ⟨g.1.trans f.1, fun k a b => (g.2.1 k a b).trans (f.2.1 k a b), fun k a => (g.2.2.1 k a).trans (f.2.2.1 k a), fun j a b => (g.2.2.2.1 j a b).trans (f.2.2.2.1 j a b), fun t q => (f.2.2.2.2 t q).trans (g.2.2.2.2 t q)⟩
theorem FyK.b (f : FyK K y y') (hK : K = 113 + 7 * t) (ht : t < 32) : FyB y y' := ⟨fun k j a => f.1 k j (by omega), fun k a => ⟨f.2.1 k (by omega) (by omega), f.2.2.1 k (by omega)⟩⟩
theorem FzK.b (f : FzK c z z') : FzB z z' := ⟨f.1, fun k a b => ⟨f.2.1 k a (by omega), f.2.2.1 k (by omega)⟩, fun j q => f.2.2.2.1 j (by omega) (by omega), f.2.2.1 337 (by omega)⟩
theorem FyK.e (f : FyK K y y') {c : Nat} (hK : K = 113 + 7 * c) (hc : c < 32) (ht : t ≠ c) : EqTc n t y y' ∧ EqDc t y y' := by
  have g : ∀ q, q < 7 → y'.1 (113 + 7 * t + q) = y.1 (113 + 7 * t + q) ∧ y'.2.1 (113 + 7 * t + q) = y.2.1 (113 + 7 * t + q) := fun q hq => ⟨f.2.1 _ (by omega) (by omega), f.2.2.1 _ (by omega)⟩
  have g0 := g 0 (by omega)
  exact ⟨⟨fun j _ => congrFun g0.1 j, congrFun g0.2 1, congrFun g0.2 2, f.1 _ _ (by omega), fun i _ => ⟨congrFun (g 1 (by omega)).1 i, congrFun (g 2 (by omega)).2 i, congrFun (g 3 (by omega)).2 i⟩, fun k hk _ => f.2.1 k (by omega) (by omega)⟩, fun j _ => congrFun g0.1 j, congrFun g0.2 12, fun i _ => ⟨congrFun (g 4 (by omega)).1 i, congrFun (g 5 (by omega)).2 i, congrFun (g 6 (by omega)).2 i⟩⟩
theorem FzK.e (f : FzK c z z') (ht : t ≠ c) : EqTr t z z' ∧ EqDr t z z' := ⟨f.2.2.2.2 t ht, fun k q => by rw [f.2.1 k (by omega) (by omega)], by rw [f.2.2.1 415 (by omega)], fun i _ => ⟨by rw [f.2.1 417 (by omega) (by omega)], by rw [f.2.2.1 418 (by omega)], by rw [f.2.2.1 419 (by omega)]⟩⟩
theorem fyK_i {k j : Nat} {v : Int32} (hk : (K ≤ k ∧ k ≤ K + 3) ∨ (k = 0 ∧ (j = 4 ∨ j = 1))) (h0 : 0 < K) : FyK K y (si y k j v) := ⟨fun _ _ _ => rfl, fun k' a b => si_ok (by omega), fun _ _ => rfl, fun j' a b => by
  by_cases c : k = 0
  · exact si_oj (by omega)
  · rw [si_ok (by omega)]⟩
theorem fyK_l {k j : Nat} {v : Int64} (hk : K ≤ k ∧ k ≤ K + 3) (h0 : 0 < K) : FyK K y (sl y k j v) := ⟨fun _ _ _ => rfl, fun _ _ _ => rfl, fun k' a => sl_ok (by omega), fun _ _ _ => rfl⟩
theorem fyK_q {v : Option Nat} : FyK K y (sq y K 6 v) := ⟨fun k j a => by
  rw [sq_3]
  by_cases c : k = K
  · rw [if_pos c, if_neg (fun e => a ⟨c, e⟩), c]
  · rw [if_neg c], fun _ _ _ => rfl, fun _ _ => rfl, fun _ _ _ => rfl⟩
theorem fzK_i {k : Nat} {v : Int32} (hk : 400 ≤ k ∧ k ≤ 406 ∨ k = 411) : FzK c z (si z k c v) := ⟨rfl, fun k' a b => si_ok (by omega), fun _ _ => rfl, fun j _ _ => by rw [si_ok (by omega)], fun t ht => ⟨fun k' q => by
  by_cases e : k' = k
  · subst e; exact si_oj ht
  · rw [si_ok e], rfl, rfl, fun i hi => ⟨by rw [si_ok (by omega)], rfl, rfl⟩, fun p _ => by rw [si_ok (by omega)]⟩⟩
theorem fzK_l {k : Nat} {v : Int64} (hk : k = 401 ∨ k = 402) : FzK c z (sl z k c v) := ⟨rfl, fun _ _ _ => rfl, fun k' a => sl_ok (by omega), fun _ _ _ => rfl, fun t ht => ⟨fun _ _ => rfl, by
  by_cases e : 401 = k
  · subst e; exact sl_oj ht
  · rw [sl_ok e], by
  by_cases e : 402 = k
  · subst e; exact sl_oj ht
  · rw [sl_ok e], fun i hi => ⟨rfl, by rw [sl_ok (by omega)], by rw [sl_ok (by omega)]⟩, fun _ _ => rfl⟩⟩
theorem fzK_f {j : Nat} {v : Int32} (hj : j = 50 ∨ j = 52) : FzK c z (si z 337 j v) := ⟨rfl, fun k' a b => si_ok (by omega), fun _ _ => rfl, fun j' a b => si_oj (by omega), fun t ht => ⟨fun k' q => by rw [si_ok (by omega)], rfl, rfl, fun i hi => ⟨by rw [si_ok (by omega)], rfl, rfl⟩, fun p _ => by rw [si_ok (by omega)]⟩⟩
theorem lay_t8 {x0 x1 : Int64} {x2 : Int32} (ok : okO sh n K 8 = true) : fn_X8_lay F sh n y K x0 x1 x2 = some (layS y K x0 x1 x2, ()) := by
  unfold fn_X8_lay
  rw [ok, grd_true]; rfl
theorem layS_f {x0 x1 : Int64} {x2 : Int32} (h0 : 0 < K) : FyK K y (layS y K x0 x1 x2) := (((((((fyK_i (by omega) h0).trans (fyK_l (by omega) h0)).trans (fyK_l (by omega) h0)).trans (fyK_i (by omega) h0)).trans (fyK_i (by omega) h0)).trans (fyK_i (by omega) h0)).trans (fyK_i (by omega) h0)).trans fyK_q
theorem layS_v {x0 x1 : Int64} {x2 : Int32} : (layS y K x0 x1 x2).2.1 K 1 = x0 ∧ (layS y K x0 x1 x2).2.1 K 2 = x1 ∧ (layS y K x0 x1 x2).1 K 3 = x2 ∧ (layS y K x0 x1 x2).1 K 7 = 0 ∧ (layS y K x0 x1 x2).1 K 15 = 0 ∧ (layS y K x0 x1 x2).1 K 0 = 0 := by
  simp [layS, sq_1, sq_2, si_1, si_2, sl_1, sl_2]
theorem add_t18 {s x3 : Int32} {x1 x2 : Int64} (hL : Lay sh n z) (h52 : z.1 337 52 = nI cnt) (hc : cnt < 32) : fn_X18_add F sh n z 337 s x1 x2 x3 = some (addS z cnt s x1 x2 x3, nI cnt) := by
  unfold fn_X18_add
  have e2 : nI cnt + 1 = nI (cnt + 1) := nI_add cnt 1
  have cl : (nI cnt).toNatClampNeg = cnt := nI_clamp (by omega)
  have ok : ∀ k c, shF k = (c, 32) → k < 513 → okA sh n k c (nI cnt) = true := fun k c e hk => md_at hL hc k c e hk
  rw [(b_model hL).1, grd_true, h52, lt_t, lt_t, e2]
  simp only [si_3, sl_3]
  rw [hL.2.2 337 54 400 rfl, lnk_s, ok 400 101 rfl (by decide), grd_true, lt_t]
  simp only [si_3, sl_3]
  rw [hL.2.2 337 55 401 rfl, lnk_s, ok 401 102 rfl (by decide), grd_true, lt_t]
  simp only [si_3, sl_3]
  rw [hL.2.2 337 56 402 rfl, lnk_s, ok 402 102 rfl (by decide), grd_true, lt_t]
  simp only [si_3, sl_3]
  rw [hL.2.2 337 57 403 rfl, lnk_s, ok 403 101 rfl (by decide), grd_true, lt_t]
  simp only [si_3, sl_3]
  rw [hL.2.2 337 60 406 rfl, lnk_s, ok 406 101 rfl (by decide), grd_true, lt_t, cl]
  rfl
theorem addS_f {s x3 : Int32} {x1 x2 : Int64} : FzK cnt z (addS z cnt s x1 x2 x3) := (((((fzK_f (by omega)).trans (fzK_i (by omega))).trans (fzK_l (by omega))).trans (fzK_l (by omega))).trans (fzK_i (by omega))).trans (fzK_i (by omega))
theorem addS_v {s x3 : Int32} {x1 x2 : Int64} : (addS z cnt s x1 x2 x3).1 337 52 = nI (cnt + 1) ∧ (addS z cnt s x1 x2 x3).1 400 cnt = s ∧ (addS z cnt s x1 x2 x3).2.1 401 cnt = x1 ∧ (addS z cnt s x1 x2 x3).2.1 402 cnt = x2 ∧ (addS z cnt s x1 x2 x3).1 403 cnt = x3 ∧ (addS z cnt s x1 x2 x3).1 406 cnt = 0 ∧ ∀ j, j ≠ 52 → (addS z cnt s x1 x2 x3).1 337 j = z.1 337 j := by
  refine ⟨?_, ?_, ?_, ?_, ?_, ?_, fun j hj => ?_⟩ <;> simp_all [addS, si_1, si_2, sl_1, sl_2]
/-- one transaction more -/
theorem Bck.new (h : Bck sh n z y cnt dn) (hc : cnt < 32) (fz : FzK cnt z z') (fy : FyK (113 + 7 * cnt) y y') (z52 : z'.1 337 52 = nI (cnt + 1)) (y4 : y'.1 0 4 = nI (cnt + 1)) (new : TxL sh n z' y' cnt) (y15 : y'.1 (113 + 7 * cnt) 15 = 0) (hn : n ≤ 10 ^ 12) : Bck sh n z' y' (cnt + 1) dn := by
  obtain ⟨⟨h1, h2, h3⟩, ⟨h4, h5, h6⟩, h7, h8, h9⟩ := h
  refine ⟨⟨z52, y4, by omega⟩, ⟨by rw [fz.2.2.2.1 53 (by omega) (by omega)]; exact h4, by rw [fy.2.2.2 5 (by omega) (by omega)]; exact h5, by omega⟩, fun t ht => ?_, fun t ht => ?_, fun t t1 t2 => ?_⟩
  · by_cases q : t = cnt
    · subst q; exact new
    · exact (h7 t (by omega)).of (fz.e q).1 (fy.e rfl hc q).1 (Nat.le_refl _) (fun _ _ => rfl) hn
  · exact (h8 t ht).of (fz.e (by omega)).2 (fy.e (n := n) rfl hc (by omega)).2
  · by_cases q : t = cnt
    · subst q; exact y15
    · rw [(fy.e (n := n) rfl hc q).2.1 15 (by omega)]; exact h9 t t1 (by omega)
theorem isLimit_t (x : Int32) : fn_X18_isLimit F sh n z x = some (z, if x < 10 then 0 else if (20000 : Int32) < x then 0 else 1) := by
  unfold fn_X18_isLimit
  by_cases a : x < 10
  · rw [if_pos a, if_pos a]
  · rw [if_neg a, if_neg a]
    by_cases b : (20000 : Int32) < x
    · rw [if_pos b, if_pos b]
    · rw [if_neg b, if_neg b]
theorem m_call (y0 y1 : Int64) (y2 y3 y4 : Int32) (hn : n ≤ 10 ^ 12) (h : Top RV sh n z y) : ∃ z' y' r, fn_X11_call F sh n y 0 y0 y1 y2 y3 y4 = some (y', r) ∧ fn_X18_call F sh n z 337 y0 y1 y2 y3 y4 = some (z', r) ∧ Top RV sh n z' y' := by
  have h0 := h
  obtain ⟨ws, wc, dp, bs, nc, ac, nr, rs, so, D, a1, a2, a3, ⟨cnt, dn, a4⟩, ⟨len, w, a5⟩, l2, a6⟩ := h
  have hL := a1.1.1
  have hC := a1.2.1.1
  have z52 := a4.1.1
  have y40 := a4.1.2.1
  have c32 := a4.1.2.2
  unfold fn_X11_call fn_X18_call
  rw [isLimit_t, cal_s, (b_ledg hC).1, grd_true, (b_model hL).1, grd_true, z52, y40]
  rcases i32_in y2 (a := 10) (b := 20000) (by omega) (by omega) with c | ⟨c1, c2, c3⟩ | ⟨lim, c1, c2, c3, c4, c5, c6⟩
  · rw [if_pos (show y2 < 10 from c), if_pos (show y2 < 10 from c), if_pos rfl]; exact ⟨_, _, _, rfl, rfl, h0⟩
  · rw [if_neg (show ¬ y2 < 10 from c1), if_neg (show ¬ y2 < 10 from c1), if_neg (show ¬ y2 ≤ 20000 from c2), if_pos (show (20000 : Int32) < y2 from c3), if_pos rfl]; exact ⟨_, _, _, rfl, rfl, h0⟩
  rw [if_neg (show ¬ y2 < 10 from c4), if_neg (show ¬ y2 < 10 from c4), if_pos (show y2 ≤ 20000 from c5), if_neg (show ¬ (20000 : Int32) < y2 from c6), if_neg (show ¬ ((1 : Int32) = 0) by decide)]
  rcases i32_in y3 (a := 0) (b := 65535) (by omega) (by omega) with d | ⟨d1, d2, d3⟩ | ⟨m, d1, d2, d3, d4, d5, d6⟩
  · rw [if_pos (show y3 < 0 from d), if_pos (show y3 < 0 from d)]; exact ⟨_, _, _, rfl, rfl, h0⟩
  · rw [if_neg (show ¬ y3 < 0 from d1), if_neg (show ¬ y3 < 0 from d1), if_pos (show (65535 : Int32) < y3 from d3), if_pos (show (65535 : Int32) < y3 from d3)]; exact ⟨_, _, _, rfl, rfl, h0⟩
  rw [if_neg (show ¬ y3 < 0 from d4), if_neg (show ¬ y3 < 0 from d4), if_neg (show ¬ (65535 : Int32) < y3 from d6), if_neg (show ¬ (65535 : Int32) < y3 from d6)]
  rcases i32_in y4 (a := 0) (b := 63) (by omega) (by omega) with e | ⟨e1, e2, e3⟩ | ⟨f, e1, e2, e3, e4, e5, e6⟩
  · rw [if_pos (show y4 < 0 from e), if_pos (show y4 < 0 from e)]; exact ⟨_, _, _, rfl, rfl, h0⟩
  · rw [if_neg (show ¬ y4 < 0 from e1), if_neg (show ¬ y4 < 0 from e1), if_neg (show ¬ y4 ≤ 63 from e2), if_neg (show ¬ y4 ≤ 63 from e2)]; exact ⟨_, _, _, rfl, rfl, h0⟩
  rw [if_neg (show ¬ y4 < 0 from e4), if_neg (show ¬ y4 < 0 from e4), if_pos (show y4 ≤ 63 from e5), if_pos (show y4 ≤ 63 from e5)]
  by_cases q : cnt = 32
  · subst q
    rw [if_neg (by decide), if_pos (by decide)]; exact ⟨_, _, _, rfl, rfl, h0⟩
  have hc : cnt < 32 := by omega
  have q1 : nI cnt < 32 := (nI_ltW (b := 32) (by omega) (by omega)).mpr hc
  have q2 : ¬ nI cnt = 32 := fun e => q (nI_uq (b := 32) e (by omega) (by omega))
  obtain ⟨t1, t2, t3, t4, t5⟩ := tx_at hC hc
  have s1 := hL.2.2 337 58 404 rfl
  have s2 := hL.2.2 337 59 405 rfl
  have ok : ∀ k c, shF k = (c, 32) → k < 513 → okA sh n k c (nI cnt) = true := fun k c e hk => md_at hL hc k c e hk
  rw [if_pos q1, if_neg q2, t1, lnk_s, t2, grd_true, t3, t4, lnk_s, t5, grd_true, lay_t8 t5, cal_s, lt_t, lt_t, lt_t, lt_t, lt_t, add_t18 hL z52 hc, cal_s, (addS_f (z := z) (cnt := cnt)).1, s1, lnk_s, ok 404 101 rfl (by decide), grd_true, lt_t, si_3, (addS_f (z := z) (cnt := cnt)).1, s2, lnk_s, ok 405 101 rfl (by decide), grd_true, lt_t, t3]
  have F1 : FyK (113 + 7 * cnt) y (si (si (si (layS y (113 + 7 * cnt) y0 y1 y2) (113 + 7 * cnt) 0 1) (113 + 7 * cnt) 4 y3) (113 + 7 * cnt) 5 y4) := (((layS_f (by omega)).trans (fyK_i (by omega) (by omega))).trans (fyK_i (by omega) (by omega))).trans (fyK_i (by omega) (by omega))
  have y4' : (si (si (si (layS y (113 + 7 * cnt) y0 y1 y2) (113 + 7 * cnt) 0 1) (113 + 7 * cnt) 4 y3) (113 + 7 * cnt) 5 y4).1 0 4 = nI cnt := by
    rw [si_ok (by omega), si_ok (by omega), si_ok (by omega)]
    have : (layS y (113 + 7 * cnt) y0 y1 y2).1 0 = y.1 0 := by
      funext j
      simp [layS, sq_1, si_1, si_2, sl_1, sl_2, show ¬ 0 = 113 + 7 * cnt by omega]
    rw [this, y40]
  rw [y4', show nI cnt + 1 = nI (cnt + 1) from nI_add cnt 1]
  have F2 := F1.trans (fyK_i (k := 0) (j := 4) (v := nI (cnt + 1)) (by omega) (by omega))
  have G2 : FzK cnt z (si (si (addS z cnt 2 y0 y1 y2) 404 cnt y3) 405 cnt y4) := (addS_f.trans (fzK_i (by omega))).trans (fzK_i (by omega))
  obtain ⟨v1, v2, v3, v4, v5, v6, v7⟩ := addS_v (z := z) (cnt := cnt) (s := 2) (x1 := y0) (x2 := y1) (x3 := y2)
  obtain ⟨u1, u2, u3, u4, u5, u6⟩ := layS_v (y := y) (K := 113 + 7 * cnt) (x0 := y0) (x1 := y1) (x2 := y2)
  refine ⟨_, _, _, rfl, rfl, ws, wc, dp, bs, nc, ac, nr, rs, so, D, a1.bk G2.b (F2.b rfl hc), a2.bk G2.b (F2.b rfl hc), a3.bk (F2.b rfl hc), ⟨cnt + 1, dn, a4.new hc G2 F2 ?_ si_ss ?_ ?_ hn⟩, ⟨len, w, a5.of ⟨?_, ?_, ?_⟩ ⟨?_, ?_, ?_⟩⟩, l2, a6.of ⟨?_, ?_⟩ ⟨?_, ?_⟩⟩
  · rw [si_ok (by omega), si_ok (by omega)]; exact v1
  · refine ⟨⟨?_, ?_, lim, c1, c2, ?_, ?_⟩, .inr ⟨?_, ?_, m, f, 0, fun _ => 0, fun _ => 0, fun _ => 0, by omega, by omega, by omega, ⟨?_, ?_, ?_⟩, ⟨?_, ?_, ?_⟩, fun i hi => by omega⟩⟩
    · show (layS y (113 + 7 * cnt) y0 y1 y2).2.1 _ 1 = (addS z cnt 2 y0 y1 y2).2.1 401 cnt
      rw [u1, v3]
    · show (layS y (113 + 7 * cnt) y0 y1 y2).2.1 _ 2 = (addS z cnt 2 y0 y1 y2).2.1 402 cnt
      rw [u2, v4]
    · rw [si_ok (by omega), si_oj (by omega), si_oj (by omega), si_oj (by omega), u3, c3]
    · rw [si_ok (by omega), si_ok (by omega), v5, c3]
    · rw [si_ok (by omega), si_oj (by omega), si_oj (by omega), si_ss]
    · rw [si_ok (by omega), si_ok (by omega), v2]
    · rw [si_ok (by omega), si_oj (by omega), si_ss, d3]
    · rw [si_ok (by omega), si_ss, e3]
    · rw [si_ok (by omega), si_oj (by omega), si_oj (by omega), si_oj (by omega), u4]; rfl
    · rw [si_ok (by omega), si_ss, d3]
    · rw [si_ss, e3]
    · rw [si_ok (by omega), si_ok (by omega), v6]; rfl
  · rw [si_ok (by omega), si_oj (by omega), si_oj (by omega), si_oj (by omega), u5]
  · rw [si_ok (by omega), si_ok (by omega), v7 50 (by omega)]
  · rw [si_ok (by omega), si_ok (by omega), v7 51 (by omega)]
  · exact G2.2.1 399 (by omega) (by omega)
  · rw [si_oj (by omega)]
    exact congrFun (by funext j; simp [layS, sq_1, si_1, si_2, sl_1, sl_2, show ¬ 0 = 113 + 7 * cnt by omega]) 1
  · exact F2.2.2.2 2 (by omega) (by omega)
  · exact F2.2.1 1 (by omega) (by omega)
  · rw [si_ok (by omega), si_ok (by omega), v7 75 (by omega)]
  · exact G2.2.1 420 (by omega) (by omega)
  · exact F2.2.2.2 12 (by omega) (by omega)
  · exact F2.2.1 86 (by omega) (by omega)
end
