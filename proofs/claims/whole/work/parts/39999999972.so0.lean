/-! A CALL'S TURN: what is paid, on both sides -/
theorem i3264 {a b : Nat} (ha : a < 2 ^ 30) (hb : b < 2 ^ 30) : (nI a - nI b).toInt64 = lN a - lN b := by
  apply Int64.toInt_inj.mp
  rw [Int32.toInt_toInt64, Int32.toInt_sub, nI_toInt (by omega), nI_toInt (by omega), Int64.toInt_sub, ← nI_l (show a < 2 ^ 31 by omega), ← nI_l (show b < 2 ^ 31 by omega), Int32.toInt_toInt64, Int32.toInt_toInt64, nI_toInt (by omega), nI_toInt (by omega), Int.bmod_eq_of_le (by omega) (by omega), Int.bmod_eq_of_le (by omega) (by omega)]
theorem i64_c (x l g : Int64) : x - l + (l - g) = x - g := by
  rw [Int64.sub_eq_add_neg, Int64.sub_eq_add_neg, Int64.sub_eq_add_neg, Int64.add_assoc, ← Int64.add_assoc (-l) l (-g), Int64.add_left_neg, Int64.zero_add]
/-- tables of modules: what they are read from -/
def TbR (z z' : St) : Prop := (∀ k j, k ≠ 337 ∨ j ≠ 48 → z'.2.2 k j = z.2.2 k j) ∧ (∀ k, 423 ≤ k → k < 513 → z'.1 k = z.1 k ∧ z'.2.1 k = z.2.1 k) ∧ z'.1 337 5 = z.1 337 5
def TbC (z z' : St) : Prop := (∀ k j, k ≠ 98 → ¬ (k = 87 ∧ j = 13) → z'.2.2 k j = z.2.2 k j) ∧ (∀ k, (15 ≤ k ∧ k < 60) ∨ 513 ≤ k → z'.1 k = z.1 k ∧ z'.2.1 k = z.2.1 k) ∧ z'.1 3 5 = z.1 3 5
theorem TbR.rfl' {z : St} : TbR z z := ⟨fun _ _ _ => rfl, fun _ _ _ => ⟨rfl, rfl⟩, rfl⟩
theorem TbC.rfl' {z : St} : TbC z z := ⟨fun _ _ _ _ => rfl, fun _ _ => ⟨rfl, rfl⟩, rfl⟩
theorem TbR.trans {z z' z'' : St} (f : TbR z z') (g : TbR z' z'') : TbR z z'' := ⟨fun k j a => (g.1 k j a).trans (f.1 k j a), fun k a b => ⟨(g.2.1 k a b).1.trans (f.2.1 k a b).1, (g.2.1 k a b).2.trans (f.2.1 k a b).2⟩, g.2.2.trans f.2.2⟩
theorem TbC.trans {z z' z'' : St} (f : TbC z z') (g : TbC z' z'') : TbC z z'' := ⟨fun k j a b => (g.1 k j a b).trans (f.1 k j a b), fun k a => ⟨(g.2.1 k a).1.trans (f.2.1 k a).1, (g.2.1 k a).2.trans (f.2.1 k a).2⟩, g.2.2.trans f.2.2⟩
theorem FrB.tb {z z' : St} (f : FrB z z') : TbR z z' := ⟨f.1, fun k a b => f.2.1 k (by omega) (by unfold mcl; omega), (f.2.2 5 (by unfold mfl; omega)).1⟩
theorem FrY.tb {z z' : St} (f : FrY z z') : TbC z z' := ⟨f.1.1, fun k a => f.2 k (by omega), by rw [(f.2 3 (by omega)).1]⟩
theorem FrQ.tb {t : Nat} {z z' : St} (f : FrQ t z z') : TbR z z' := ⟨fun k j _ => by rw [f.1], fun k a b => f.2.1 k (by omega) (by omega) (by omega) (by omega), (f.2.2.1 5 (by unfold mfl; omega) (by omega) (by omega)).1⟩
theorem FrP.tb {t : Nat} {z z' : St} (ht : t < 32) (f : FrP (113 + 7 * t) z z') : TbC z z' := ⟨fun k _ _ _ => by rw [f.1], fun k a => f.2.1 k (by omega) (by omega) (by omega) (by omega), f.2.2.1 5 (by omega) (by omega)⟩
def DyT (F : Nat) (sh : Nat → Nat × Nat) (n : Nat) (z0 y0 : St) (kr pk : Nat → Nat) (Ms : Nat → Option Md) : Prop := ∀ u U, Ms u = some U → z0.2.2 341 u = some (kr u) ∧ (∀ z', TbR z0 z' → RUn F sh n z' (kr u) U ∧ fn_X18_findModule F sh n z' 337 (nI U.1.1) = some (z', nI u)) ∧ ∃ pl ab, ∀ z', TbC y0 z' → CUn F sh n z' (pk u) U pl ab ∧ fn_X7_findProgram F sh n z' 3 (nI U.1.1) = some (z', some (pk u))
section
variable {F n : Nat} {sh : Nat → Nat × Nat} {z0 y0 z y : St} {kr pk : Nat → Nat} {Ms : Nat → Option Md}
theorem DyT.at (h : DyT F sh n z0 y0 kr pk Ms) (f : TbR z0 z) (g : TbC y0 y) : DyT F sh n z y kr pk Ms := fun u U e => by
  obtain ⟨h1, h2, pl, ab, h3⟩ := h u U e
  exact ⟨by rw [f.1 341 u (by omega)]; exact h1, fun z' q => h2 z' (f.trans q), pl, ab, fun z' q => h3 z' (g.trans q)⟩
theorem DyT.dy (h : DyT F sh n z y kr pk Ms) : DyY F sh n z y kr pk Ms := fun u U e => by
  obtain ⟨h1, h2, pl, ab, h3⟩ := h u U e
  exact ⟨h1, fun z' q => h2 z' q.tb, pl, ab, fun z' q => h3 z' q.tb⟩
end
section
variable {F n : Nat} {sh : Nat → Nat × Nat} {z z' : St} {nc nr : Nat} {ac : Nat → Int64 × Int64 × Int64} {rs : Nat → Int64 × Nat × Hp × Nat} {so : Nat → Option Rsc}
theorem CLg.cg {ac' : Nat → Int64 × Int64 × Int64} (h : CLg z nc ac nr so) (e : ∀ i, i < nc → ac' i = ac i) : CLg z nc ac' nr so := ⟨⟨h.1.1, h.1.2.1, fun i hi => by rw [e i hi]; exact h.1.2.2 i hi⟩, h.2⟩
theorem CLg.acc {ac' : Nat → Int64 × Int64 × Int64} (h : CLg z nc ac nr so) (e1 : ∀ k, k < 4 ∨ 6 < k → z'.1 k = z.1 k ∧ (k ≠ 3 → z'.2.1 k = z.2.1 k)) (e3 : ∀ i, i < nc → z'.2.1 4 i = (ac' i).1 ∧ z'.2.1 5 i = (ac' i).2.1 ∧ z'.2.1 6 i = (ac' i).2.2) : CLg z' nc ac' nr so := by
  obtain ⟨⟨a1, a2, a3⟩, b1, b2, b3⟩ := h
  refine ⟨⟨by rw [(e1 3 (by omega)).1]; exact a1, a2, e3⟩, by rw [(e1 3 (by omega)).1]; exact b1, b2, fun r hr => ⟨fun q => by rw [(e1 11 (by omega)).1]; exact (b3 r hr).1 q, fun x hx => ((b3 r hr).2 x hx).of (fun k k1 k2 => ⟨(e1 k (by omega)).1, (e1 k (by omega)).2 (by omega)⟩)⟩⟩
theorem RLg.acc {ac' : Nat → Int64 × Int64 × Int64} (h : RLg z nc ac nr rs) (e1 : ∀ k, 343 ≤ k → k ≤ 348 → z'.1 k = z.1 k ∧ z'.2.1 k = z.2.1 k) (e2 : z'.1 337 3 = z.1 337 3) (e9 : z'.1 337 9 = z.1 337 9) (e3 : ∀ i, i < nc → z'.2.1 338 i = (ac' i).1 ∧ z'.2.1 339 i = (ac' i).2.1 ∧ z'.2.1 340 i = (ac' i).2.2) : RLg z' nc ac' nr rs := by
  obtain ⟨⟨a1, a2, a3⟩, b1, b2, b3⟩ := h
  refine ⟨⟨by rw [e2]; exact a1, a2, e3⟩, by rw [e9]; exact b1, b2, fun i hi => ?_⟩
  rw [(e1 343 (by omega) (by omega)).2, (e1 344 (by omega) (by omega)).1]
  obtain ⟨c1, c2, c3, c4, c5, c6⟩ := b3 i hi
  refine ⟨c1, c2, c3, c4, c5, fun w w1 w2 => ?_⟩
  rw [(e1 345 (by omega) (by omega)).1, (e1 346 (by omega) (by omega)).2, (e1 347 (by omega) (by omega)).2, (e1 348 (by omega) (by omega)).1]
  exact c6 w w1 w2
/-- the class's sender pays for all his gas -/
theorem ccharge {kt i lim : Nat} {sd : Int64} (hF : 300 ≤ F) (hL : Lay sh n z) (h : CLg z nc ac nr so) (ok : okO sh n kt 8 = true) (h1 : z.2.1 kt 1 = sd) (h3 : z.1 kt 3 = nI lim) (hl : lim < 2 ^ 31) (hi : fdA nc ac sd = some i) (hkt : 113 ≤ kt) : ∃ z', fn_X7_charge F sh n z 3 kt = some (z', ()) ∧ CLg z' nc (fun j => if j = i then ((ac j).1, (ac j).2.1 - lN lim, (ac j).2.2 + 1) else ac j) nr so ∧ z'.2.2 = z.2.2 ∧ ∀ k, k ≠ 5 → k ≠ 6 → z'.1 k = z.1 k ∧ z'.2.1 k = z.2.1 k := by
  have hii := fd_lt _ _ _ hi
  have n256 := h.1.2.1
  have S := b_state hL
  have oi : okI (nI i) 256 = true := okI_nI (by omega) (by omega)
  have ci : (nI i).toNatClampNeg = i := nI_clamp (by omega)
  obtain ⟨q1, q2, q3⟩ := h.1.2.2 i (by omega)
  have e6 : (sl z 5 i ((ac i).2.1 - lN lim)).2.1 6 i = (ac i).2.2 := by rw [sl_ok (by omega)]; exact q3
  refine ⟨sl (sl z 5 i ((ac i).2.1 - lN lim)) 6 i ((ac i).2.2 + 1), ?_, h.acc (fun k q => ⟨rfl, fun _ => by funext j; rw [sl_ok (by omega), sl_ok (by omega)]⟩) (fun j hj => ?_), rfl, fun k a b => ⟨rfl, by funext j; rw [sl_ok b, sl_ok a]⟩⟩
  · unfold fn_X7_charge
    rw [ok, grd_true, S.1, grd_true, h1, cfindA_t hF hL h, cal_s, hi, if_neg (oI0 i (by omega)).2, S.2.2.1, lnk_s, show oI (some i) = nI i from rfl, S.2.2.2.2.2.2.2.2.2.2.2.2.2.1, oi, grd_true, grd_true, ci, q2, h3, lIi hl, lt_t, sl_3, S.2.2.2.1, lnk_s, S.2.2.2.2.2.2.2.2.2.2.2.2.2.2.1, oi, grd_true, grd_true, e6, lt_t]
  · obtain ⟨p1, p2, p3⟩ := h.1.2.2 j hj
    by_cases c : j = i
    · subst c
      simp only [if_true]
      exact ⟨by rw [sl_ok (by omega), sl_ok (by omega)]; exact p1, by rw [sl_ok (by omega), sl_ss], sl_ss⟩
    · simp only [if_neg c]
      exact ⟨by rw [sl_ok (by omega), sl_ok (by omega)]; exact p1, by rw [sl_ok (by omega), sl_oj c]; exact p2, by rw [sl_oj c, sl_ok (by omega)]; exact p3⟩
/-- the class's sender gets back what was not used -/
theorem csettle {kt i lim g : Nat} {sd : Int64} (hF : 300 ≤ F) (hL : Lay sh n z) (h : CLg z nc ac nr so) (ok : okO sh n kt 8 = true) (h1 : z.2.1 kt 1 = sd) (h3 : z.1 kt 3 = nI lim) (h13 : z.1 kt 13 = nI g) (hl : lim < 2 ^ 30) (hg : g < 2 ^ 30) (hi : fdA nc ac sd = some i) (hkt : 113 ≤ kt) : ∃ z', fn_X7_settle F sh n z 3 kt = some (z', ()) ∧ CLg z' nc (fun j => if j = i then ((ac j).1, (ac j).2.1 + (lN lim - lN g), (ac j).2.2) else ac j) nr so ∧ z'.2.2 = z.2.2 ∧ (∀ k, k ≠ 5 → k ≠ 3 → z'.1 k = z.1 k ∧ z'.2.1 k = z.2.1 k) ∧ z'.1 3 = z.1 3 ∧ z'.2.1 3 15 = z.2.1 3 15 + lN g ∧ ∀ j, j ≠ 15 → z'.2.1 3 j = z.2.1 3 j := by
  have hii := fd_lt _ _ _ hi
  have n256 := h.1.2.1
  have S := b_state hL
  have oi : okI (nI i) 256 = true := okI_nI (by omega) (by omega)
  have ci : (nI i).toNatClampNeg = i := nI_clamp (by omega)
  obtain ⟨q1, q2, q3⟩ := h.1.2.2 i (by omega)
  have e13 : (sl z 5 i ((ac i).2.1 + (lN lim - lN g))).1 kt 13 = nI g := h13
  have e15 : (sl z 5 i ((ac i).2.1 + (lN lim - lN g))).2.1 3 15 = z.2.1 3 15 := by rw [sl_ok (by omega)]
  refine ⟨sl (sl z 5 i ((ac i).2.1 + (lN lim - lN g))) 3 15 (z.2.1 3 15 + lN g), ?_, h.acc (fun k q => ⟨rfl, fun w => by funext j; rw [sl_ok w, sl_ok (by omega)]⟩) (fun j hj => ?_), rfl, fun k a b => ⟨rfl, by funext j; rw [sl_ok b, sl_ok a]⟩, rfl, sl_ss, fun j hj => by rw [sl_oj hj, sl_ok (by omega)]⟩
  · unfold fn_X7_settle
    rw [ok, grd_true, S.1, grd_true, h1, cfindA_t hF hL h, cal_s, hi, if_neg (oI0 i (by omega)).2, S.2.2.1, lnk_s, show oI (some i) = nI i from rfl, S.2.2.2.2.2.2.2.2.2.2.2.2.2.1, oi, grd_true, grd_true, ci, q2, h3, h13, i3264 hl hg, lt_t, e15, e13, lIi (by omega), lt_t]
  · obtain ⟨p1, p2, p3⟩ := h.1.2.2 j hj
    by_cases c : j = i
    · subst c
      simp only [if_true]
      exact ⟨by rw [sl_ok (by omega), sl_ok (by omega)]; exact p1, by rw [sl_ok (by omega), sl_ss], by rw [sl_ok (by omega), sl_ok (by omega)]; exact p3⟩
    · simp only [if_neg c]
      exact ⟨by rw [sl_ok (by omega), sl_ok (by omega)]; exact p1, by rw [sl_ok (by omega), sl_oj c]; exact p2, by rw [sl_ok (by omega), sl_ok (by omega)]; exact p3⟩
/-- the reference's sender pays; the outcome is told -/
def roS (z : St) (t o : Nat) (c : Int64) (g : Nat) : St := sl (si (si z 412 t (nI o)) 413 t (nI g)) 415 t c
theorem rtold {t o g : Nat} {c : Int64} (hL : Lay sh n z) (ht : t < 32) (h27 : z.1 337 27 = nI o) (h26 : z.1 337 26 = nI g) (h28 : z.2.1 337 28 = c) : fn_X18_doOne_B228 F sh n 337 (nI t) z = some (roS z t o c g, ()) := by
  have oi : okI (nI t) 32 = true := okI_nI (by omega) (by omega)
  have ci : (nI t).toNatClampNeg = t := nI_clamp (by omega)
  have L1 : Lay sh n (si z 412 t (nI o)) := hL.of rfl
  have L2 : Lay sh n (si (si z 412 t (nI o)) 413 t (nI g)) := hL.of rfl
  unfold fn_X18_doOne_B228
  rw [hL.2.2 337 66 412 rfl, lnk_s, lay_a hL 412 101 32 (by decide) rfl, oi, grd_true, ci, h27, lt_t, L1.2.2 337 67 413 rfl, lnk_s, lay_a hL 413 101 32 (by decide) rfl, oi, grd_true, si_ok (by omega), h26, lt_t, L2.2.2 337 69 415 rfl, lnk_s, lay_a hL 415 102 32 (by decide) rfl, oi, grd_true, si_2, si_2, h28, lt_t]
  rfl
theorem rsettle {t o g i : Nat} {c sd : Int64} (hF : 300 ≤ F) (hL : Lay sh n z) (h : RLg z nc ac nr rs) (ht : t < 32) (h24 : z.2.1 337 24 = sd) (h27 : z.1 337 27 = nI o) (h26 : z.1 337 26 = nI g) (h28 : z.2.1 337 28 = c) (hg : g < 2 ^ 31) (hi : fdA nc ac sd = some i) : ∃ z', fn_X18_doOne_B181 F sh n 337 (nI t) z = some (roS z' t o c g, ()) ∧ RLg z' nc (fun j => if j = i then ((ac j).1, (ac j).2.1 - lN g, (ac j).2.2 + 1) else ac j) nr rs ∧ z'.2.2 = z.2.2 ∧ z'.1 = z.1 ∧ (∀ k, k ≠ 339 → k ≠ 340 → k ≠ 337 → z'.2.1 k = z.2.1 k) ∧ z'.2.1 337 21 = z.2.1 337 21 + lN g ∧ ∀ j, j ≠ 21 → z'.2.1 337 j = z.2.1 337 j := by
  have hii := fd_lt _ _ _ hi
  have n256 := h.1.2.1
  have oi : okI (nI i) 256 = true := okI_nI (by omega) (by omega)
  have ci : (nI i).toNatClampNeg = i := nI_clamp (by omega)
  obtain ⟨q1, q2, q3⟩ := h.1.2.2 i (by omega)
  have e40 : (sl z 339 i ((ac i).2.1 - lN g)).2.1 340 i = (ac i).2.2 := by rw [sl_ok (by omega)]; exact q3
  have e21 : (sl (sl z 339 i ((ac i).2.1 - lN g)) 340 i ((ac i).2.2 + 1)).2.1 337 21 = z.2.1 337 21 := by rw [sl_ok (by omega), sl_ok (by omega)]
  have L1 : Lay sh n (sl z 339 i ((ac i).2.1 - lN g)) := hL.of rfl
  have L3 : Lay sh n (sl (sl (sl z 339 i ((ac i).2.1 - lN g)) 340 i ((ac i).2.2 + 1)) 337 21 (z.2.1 337 21 + lN g)) := hL.of rfl
  have tl := rtold (F := F) (c := c) L3 ht h27 h26 (by rw [sl_oj (by omega), sl_ok (by omega), sl_ok (by omega)]; exact h28)
  refine ⟨sl (sl (sl z 339 i ((ac i).2.1 - lN g)) 340 i ((ac i).2.2 + 1)) 337 21 (z.2.1 337 21 + lN g), ?_, h.acc (fun k a b => ⟨rfl, by funext j; rw [sl_ok (by omega), sl_ok (by omega), sl_ok (by omega)]⟩) rfl rfl (fun j hj => ?_), rfl, rfl, fun k a b d => by funext j; rw [sl_ok d, sl_ok b, sl_ok a], sl_ss, fun j hj => by rw [sl_oj hj, sl_ok (by omega), sl_ok (by omega)]⟩
  · unfold fn_X18_doOne_B181
    rw [h24, findA_t hF hL h, cal_s, hi, hL.2.2 337 1 339 rfl, lnk_s, show oI (some i) = nI i from rfl, lay_a hL 339 102 256 (by decide) rfl, oi, grd_true, grd_true, ci, q2, h26, lIi hg, lt_t, L1.2.2 337 2 340 rfl, lnk_s, lay_a hL 340 102 256 (by decide) rfl, oi, grd_true, grd_true, e40, lt_t, e21, sl_1, sl_1, h26, lIi hg, lt_t, tl]
  · obtain ⟨p1, p2, p3⟩ := h.1.2.2 j hj
    by_cases c : j = i
    · subst c
      simp only [if_true]
      exact ⟨by rw [sl_ok (by omega), sl_ok (by omega), sl_ok (by omega)]; exact p1, by rw [sl_ok (by omega), sl_ok (by omega), sl_ss], by rw [sl_ok (by omega), sl_ss]⟩
    · simp only [if_neg c]
      exact ⟨by rw [sl_ok (by omega), sl_ok (by omega), sl_ok (by omega)]; exact p1, by rw [sl_ok (by omega), sl_ok (by omega), sl_oj c]; exact p2, by rw [sl_ok (by omega), sl_oj c, sl_ok (by omega)]; exact p3⟩
end
