/-! THE CLASS'S MACHINE: module 0's functions, one by one -/
theorem ult_N {x y : Int64} : (ult x y = true ↔ N x < N y) ∧ (ult x y = false ↔ ¬ N x < N y) := by
  have key : (y + (-9223372036854775808)) ≤ (x + (-9223372036854775808)) ↔ N y ≤ N x := by
    rw [Int64.le_iff_toInt_le, plus_toInt, plus_toInt]
    omega
  unfold ult
  rw [decide_eq_true_iff, decide_eq_false_iff_not, key]
  omega
section
variable {F n : Nat} {sh : Nat → Nat × Nat} {z z' : St} {pk : Nat → Nat} {kt : Nat} {H : Hp} {m : Nat} {sl0 : Int32} {fr : Nat → Fm} {cs cl : Nat → Nat → Nat} {nf g lim na : Nat} {ak : Nat → Ask} {cn : Nat → Nat} {ws : Nat → Int64 → Nat → Bool}
theorem CM.low (h : CM sh n z pk kt H m sl0 fr cs cl nf g lim) {v : Nat} (hv : (H v).1 ≠ 0) (hv2 : ¬ inn (H v).1) : okA sh n 90 102 (nI v) = true ∧ (nI v).toNatClampNeg = v ∧ z.2.1 90 v = (H v).2.2.1 := by
  have iv := h.2.1.i1 hv
  exact ⟨by rw [lay_a h.1 90 102 21600 (by decide) rfl]; exact iv.1, iv.2, (h.2.1.leaf hv hv2).2⟩
/-- 0 -/
theorem CM.coin0 (h : CM sh n z pk kt H m sl0 fr cs cl nf g lim) (hJ : CJ z na ak cn ws) (hna : 0 < na) (h3 : (ak 0).1 = 1) (h1 : 1 ≤ (fr (nf - 1)).2.2.1.1) {b : Nat} (eb : cs (nf - 1) ((fr (nf - 1)).2.2.1.1 - 1) = b) (hb : (H b).1 = 3) (hm : m < 21600) (s : Sl) : (lim < g + 5 → ∃ z', fn_X4_useCoin F sh n z 87 0 = some (z', ()) ∧ CE sh n z' 2 5 lim sl0 ∧ FrC z z') ∧ (g + 5 ≤ lim → (ult (ak 0).2.2.2.1 (H b).2.2.1 = true → ∃ z', fn_X4_useCoin F sh n z 87 0 = some (z', ()) ∧ CE sh n z' 1 1 (g + 5) sl0 ∧ FrC z z') ∧ (ult (ak 0).2.2.2.1 (H b).2.2.1 = false → ∃ z', fn_X4_useCoin F sh n z 87 0 = some (z', ()) ∧ CM sh n z' pk kt (upH H m (10, 0, (H b).2.2.1, [])) (m + 1) sl0 (setF fr (nf - 1) (pshV (setH (fr (nf - 1)) ((fr (nf - 1)).2.2.1.1 - 1)) s)) (up2 cs (nf - 1) ((fr (nf - 1)).2.2.1.1 - 1) m) cl nf (g + 5) lim ∧ CJ z' na (upA ak 0 (akB (ak 0) ((ak 0).2.2.2.1 - (H b).2.2.1) (ak 0).2.2.2.2.1)) cn ws ∧ FrX z z')) := by
  obtain ⟨b1, _⟩ := h.2.2.1.2.2.2 (nf - 1) (by have := h.2.2.1.2.1; omega)
  have e0 : fn_X4_useCoin F sh n z 87 0 = fn_X4_useCoin_B45 F sh n 87 0 z (nI 0) := ucoin0 (by decide) (by decide)
  constructor
  · intro hg
    rw [e0]
    exact h.coinG (by omega) hg
  · intro hg
    obtain ⟨z2, p2, p3, p4⟩ := h.coinP (F := F) (f := 0) (e := 0) (v := b) (by omega) hg h1 eb (by omega) (by unfold inn; omega)
    rw [if_pos rfl] at p4
    have J2 := hJ.fc p3
    have o11 : okA sh n 111 102 0 = true := by rw [lay_a h.1 111 102 24 (by decide) rfl]; decide
    have b11 := ((J2.2.2 0 hna).2.2.2.2.2.1 h3).1
    have b11' : z2.2.1 111 (0 : Int32).toNatClampNeg = (ak 0).2.2.2.1 := b11
    have l2 := p2.1.2.2 87 2 104 rfl
    have l9 := p2.1.2.2 104 9 111 rfl
    have mk := (b_mach h.1).1
    have jo := (b_jour h.1).1
    constructor
    · intro hu
      obtain ⟨z3, q1, q2, q3⟩ := p2.fin (F := F) 1 1
      refine ⟨z3, ?_, q2, p3.trans q3⟩
      rw [e0, p4]
      unfold fn_X4_withdraw
      rw [mk, grd_true, l2, lnk_s, jo, grd_true, l9, lnk_s, o11, grd_true, b11', below_t, cal_s, if_pos (ult_N.1.mp hu), if_neg one0]
      have q1' : fn_X4_end F sh n z2 87 1 1 = some (z3, ()) := q1
      rw [q1', cal_s, cal_s]
    · intro hu
      obtain ⟨z3, q1, q2, q3⟩ := p2.popOf (F := F) h1 (k := 3) (x := 3) rfl (by rw [eb]; exact hb) (by omega)
      have J3 := J2.fc q3
      have f4 : FrJ z3 (sl z3 111 0 ((ak 0).2.2.2.1 - (H b).2.2.1)) := FrJ.sl (by omega)
      have C4 := q2.jr f4 (q2.2.1.mv (fun k a b => ⟨rfl, by rw [sl_ok (by omega)]⟩))
      have e10 := (J3.2.2 0 hna).2.2.2.2.1
      rw [if_neg (by omega)] at e10
      have J4 : CJ (sl z3 111 0 ((ak 0).2.2.2.1 - (H b).2.2.1)) na (upA ak 0 (akB (ak 0) ((ak 0).2.2.2.1 - (H b).2.2.1) (ak 0).2.2.2.2.1)) cn ws := J3.bal hna h3 (fun q => q) rfl (fun k i k1 k2 hk => ⟨rfl, by
        rcases hk with hk | hk
        · rw [sl_ok hk.2]
        · rw [sl_oj hk]⟩) e10 sl_ss
      obtain ⟨z5, s1, s2, s3⟩ := C4.make (F := F) (by rw [setF_s, setH_T]; omega) hm (k := 10) (x := 0) (y := (H b).2.2.1) (by omega) (by unfold inn; omega) s
      rw [setF_s, setF_2, setH_T] at s2
      refine ⟨z5, ?_, s2, J4.fc s3, ((p3.trans q3).x.trans f4.x).trans s3.x⟩
      have c11 : z3.2.1 111 (0 : Int32).toNatClampNeg = (ak 0).2.2.2.1 := ((J3.2.2 0 hna).2.2.2.2.2.1 h3).1
      rw [e0, p4]
      unfold fn_X4_withdraw
      rw [mk, grd_true, l2, lnk_s, jo, grd_true, l9, lnk_s, o11, grd_true, b11', below_t, cal_s, if_neg (ult_N.2.mp hu), if_pos rfl, q1, cal_s, q2.1.2.2 87 2 104 rfl, lnk_s, jo, grd_true, q2.1.2.2 104 9 111 rfl, lnk_s, o11, grd_true, grd_true, c11, lt_t]
      have s1' : fn_X4_pushNumber F sh n (sl z3 111 (0 : Int32).toNatClampNeg ((ak 0).2.2.2.1 - (H b).2.2.1)) 87 10 0 (H b).2.2.1 = some (z5, ()) := s1
      rw [s1', cal_s, cal_s]
/-- 1: behind asking -/
theorem CM.coin1 (h : CM sh n z pk kt H m sl0 fr cs cl nf g lim) (hJ : CJ z na ak cn ws) {j : Nat} (hj : j < na) (h3 : (ak j).1 = 1) (h2 : 2 ≤ (fr (nf - 1)).2.2.1.1) {a b : Nat} (ea : cs (nf - 1) ((fr (nf - 1)).2.2.1.1 - 2) = a) (ha : (H a).1 = 5) (eb : cs (nf - 1) ((fr (nf - 1)).2.2.1.1 - 1) = b) (hb : (H b).1 = 10) : (lim < g + 5 → ∃ z', fn_X4_useCoin_B45 F sh n 87 (nI 1) z (nI j) = some (z', ()) ∧ CE sh n z' 2 5 lim sl0 ∧ FrC z z') ∧ (g + 5 ≤ lim → ∃ z', fn_X4_useCoin_B45 F sh n 87 (nI 1) z (nI j) = some (z', ()) ∧ CM sh n z' pk kt H m sl0 (setF fr (nf - 1) (setH (fr (nf - 1)) ((fr (nf - 1)).2.2.1.1 - 2))) cs cl nf (g + 5) lim ∧ CJ z' na (upA ak j (akB (ak j) ((ak j).2.2.2.1 + (H b).2.2.1) true)) cn ws ∧ FrX z z') := by
  have n24 := hJ.2.1
  constructor
  · intro hg
    exact h.coinG (by omega) hg
  · intro hg
    obtain ⟨z2, p2, p3, p4⟩ := h.coinP (F := F) (f := nI 1) (e := j) (v := b) (by omega) hg (by omega) eb (by omega) (by unfold inn; omega)
    rw [if_neg (by decide), if_pos (by rfl)] at p4
    have e21 : (fr (nf - 1)).2.2.1.1 - 1 - 1 = (fr (nf - 1)).2.2.1.1 - 2 := by omega
    obtain ⟨z3, q1, q2, q3⟩ := p2.popOf (F := F) (by omega) (k := 10) (x := 10) rfl (by rw [eb]; exact hb) (by omega)
    obtain ⟨z4, r1, r2, r3⟩ := q2.popOf (F := F) (by rw [setF_s, setH_T]; omega) (k := 5) (x := 5) rfl (by rw [setF_s, setH_T, e21, ea]; exact ha) (by omega)
    rw [setF_s, setH_T, e21, setF_2] at r2
    have J4 := hJ.fc ((p3.trans q3).trans r3)
    have b11 := ((J4.2.2 j hj).2.2.2.2.2.1 h3).1
    have f5 : FrJ z4 (sl (si z4 110 j 1) 111 j ((ak j).2.2.2.1 + (H b).2.2.1)) := (FrJ.si (by omega)).trans (FrJ.sl (by omega))
    have C5 := r2.jr f5 (r2.2.1.mv (fun k a b => ⟨by rw [sl_1, si_ok (by omega)], by rw [sl_ok (by omega)]; rfl⟩))
    have J5 : CJ (sl (si z4 110 j 1) 111 j ((ak j).2.2.2.1 + (H b).2.2.1)) na (upA ak j (akB (ak j) ((ak j).2.2.2.1 + (H b).2.2.1) true)) cn ws := J4.bal hj h3 (fun _ => rfl) (by rw [sl_1, si_ok (by omega)]) (fun k i k1 k2 hk => by
      rcases hk with hk | hk
      · exact ⟨by rw [sl_1, si_ok hk.1], by rw [sl_ok hk.2]; rfl⟩
      · exact ⟨by rw [sl_1, si_oj hk], by rw [sl_oj hk]; rfl⟩) (by rw [sl_1]; exact si_ss) sl_ss
    refine ⟨_, ?_, C5, J5, ((p3.trans q3).trans r3).x.trans f5.x⟩
    have o10 : okA sh n 110 103 (nI j) = true := by rw [lay_a h.1 110 103 24 (by decide) rfl]; exact okI_nI (by omega) (by omega)
    have o11 : okA sh n 111 102 (nI j) = true := by rw [lay_a h.1 111 102 24 (by decide) rfl]; exact okI_nI (by omega) (by omega)
    have jo := (b_jour h.1).1
    have L5 : Lay sh n (si z4 110 j (vp_nar .boolean 1)) := r2.1.of rfl
    rw [p4, q1, cal_s, r1, cal_s, r2.1.2.2 87 2 104 rfl, lnk_s, jo, grd_true, r2.1.2.2 104 8 110 rfl, lnk_s, o10, grd_true, nI_clamp (by omega), lt_t, L5.2.2 87 2 104 rfl, lnk_s, jo, grd_true, L5.2.2 104 9 111 rfl, lnk_s, o11, grd_true, grd_true, lt_t]
    show some (sl (si z4 110 j 1) 111 j (z4.2.1 111 j + (H b).2.2.1), ()) = _
    rw [b11]
/-- 2 -/
theorem CM.coin2 (h : CM sh n z pk kt H m sl0 fr cs cl nf g lim) (h1 : 1 ≤ (fr (nf - 1)).2.2.1.1) {r t : Nat} (er : cs (nf - 1) ((fr (nf - 1)).2.2.1.1 - 1) = r) (hr : (H r).1 = 8) (ht : (H r).2.2.1 = lN t) (h0 : 0 < t) (ht2 : t < 2 ^ 31) (hc : (H t).1 = 10) (hm : m < 21600) (s : Sl) : (lim < g + 5 → ∃ z', fn_X4_useCoin F sh n z 87 2 = some (z', ()) ∧ CE sh n z' 2 5 lim sl0 ∧ FrC z z') ∧ (g + 5 ≤ lim → ∃ z', fn_X4_useCoin F sh n z 87 2 = some (z', ()) ∧ CM sh n z' pk kt (upH H m (3, 0, (H t).2.2.1, [])) (m + 1) sl0 (setF fr (nf - 1) (pshV (setH (fr (nf - 1)) ((fr (nf - 1)).2.2.1.1 - 1)) s)) (up2 cs (nf - 1) ((fr (nf - 1)).2.2.1.1 - 1) m) cl nf (g + 5) lim ∧ FrC z z') := by
  obtain ⟨b1, _⟩ := h.2.2.1.2.2.2 (nf - 1) (by have := h.2.2.1.2.1; omega)
  have e0 : fn_X4_useCoin F sh n z 87 2 = fn_X4_useCoin_B45 F sh n 87 2 z (nI 0) := ucoin0 (by decide) (by decide)
  constructor
  · intro hg
    rw [e0]
    exact h.coinG (by omega) hg
  · intro hg
    obtain ⟨z2, p2, p3, p4⟩ := h.coinP (F := F) (f := 2) (e := 0) (v := r) (by omega) hg h1 er (by omega) (by unfold inn; omega)
    rw [if_neg (by decide), if_neg (by decide), if_pos rfl] at p4
    obtain ⟨z3, q1, q2, q3, q4⟩ := p2.ref0 (F := F) h1 er hr ht h0 ht2
    obtain ⟨lt1, lt2, lt3⟩ := q3.low (v := t) (by omega) (by unfold inn; omega)
    obtain ⟨z5, s1, s2, s3⟩ := q3.make (F := F) (by rw [setF_s, setH_T]; omega) hm (k := 3) (x := 0) (y := (H t).2.2.1) (by omega) (by unfold inn; omega) s
    rw [setF_s, setF_2, setH_T] at s2
    refine ⟨z5, ?_, s2, (p3.trans q4).trans s3⟩
    have hp := b_heap p2.1
    rw [e0, p4, p2.1.2.2 87 1 88 rfl, lnk_s, hp.1, grd_true, hp.2.2.1, lnk_s, q1, cal_s, q2, cal_s, lt1, grd_true, lt2, lt3, show (3 : Int32) = nI 3 from rfl, s1, cal_s]
/-- 3 -/
theorem CM.coin3 (h : CM sh n z pk kt H m sl0 fr cs cl nf g lim) (h2 : 2 ≤ (fr (nf - 1)).2.2.1.1) {a b : Nat} (ea : cs (nf - 1) ((fr (nf - 1)).2.2.1.1 - 2) = a) (eb : cs (nf - 1) ((fr (nf - 1)).2.2.1.1 - 1) = b) (ha : (H a).1 = 10) (hb : (H b).1 = 10) (hm : m < 21600) (s : Sl) : (lim < g + 5 → ∃ z', fn_X4_useCoin F sh n z 87 3 = some (z', ()) ∧ CE sh n z' 2 5 lim sl0 ∧ FrC z z') ∧ (g + 5 ≤ lim → ∃ z', fn_X4_useCoin F sh n z 87 3 = some (z', ()) ∧ CM sh n z' pk kt (upH H m (10, 0, (H a).2.2.1 + (H b).2.2.1, [])) (m + 1) sl0 (setF fr (nf - 1) (pshV (setH (fr (nf - 1)) ((fr (nf - 1)).2.2.1.1 - 2)) s)) (up2 cs (nf - 1) ((fr (nf - 1)).2.2.1.1 - 2) m) cl nf (g + 5) lim ∧ FrC z z') := by
  obtain ⟨b1, _⟩ := h.2.2.1.2.2.2 (nf - 1) (by have := h.2.2.1.2.1; omega)
  have e0 : fn_X4_useCoin F sh n z 87 3 = fn_X4_useCoin_B45 F sh n 87 3 z (nI 0) := ucoin0 (by decide) (by decide)
  constructor
  · intro hg
    rw [e0]
    exact h.coinG (by omega) hg
  · intro hg
    obtain ⟨z2, p2, p3, p4⟩ := h.coinP (F := F) (f := 3) (e := 0) (v := b) (by omega) hg (by omega) eb (by omega) (by unfold inn; omega)
    rw [if_neg (by decide), if_neg (by decide), if_neg (by decide), if_pos rfl] at p4
    have e21 : (fr (nf - 1)).2.2.1.1 - 1 - 1 = (fr (nf - 1)).2.2.1.1 - 2 := by omega
    obtain ⟨z3, q1, q2, q3⟩ := p2.popOf (F := F) (by omega) (k := 10) (x := 10) rfl (by rw [eb]; exact hb) (by omega)
    obtain ⟨z4, r1, r2, r3⟩ := q2.popOf (F := F) (by rw [setF_s, setH_T]; omega) (k := 10) (x := 10) rfl (by rw [setF_s, setH_T, e21, ea]; exact ha) (by omega)
    rw [setF_s, setH_T, e21, setF_2] at r2
    rw [setF_s, setH_T, e21, ea] at r1
    obtain ⟨lt1, lt2, lt3⟩ := r2.low (v := a) (by omega) (by unfold inn; omega)
    obtain ⟨z5, s1, s2, s3⟩ := r2.make (F := F) (by rw [setF_s, setH_T]; omega) hm (k := 10) (x := 0) (y := (H a).2.2.1 + (H b).2.2.1) (by omega) (by unfold inn; omega) s
    rw [setF_s, setF_2, setH_T] at s2
    refine ⟨z5, ?_, s2, ((p3.trans q3).trans r3).trans s3⟩
    have hp := b_heap q2.1
    rw [e0, p4, q1, cal_s, q2.1.2.2 87 1 88 rfl, lnk_s, hp.1, grd_true, hp.2.2.1, lnk_s, r1, cal_s, lt1, grd_true, lt2, lt3, show (10 : Int32) = nI 10 from rfl, s1, cal_s]
/-- 4 -/
theorem CM.coin4 (h : CM sh n z pk kt H m sl0 fr cs cl nf g lim) (h2 : 2 ≤ (fr (nf - 1)).2.2.1.1) {a b : Nat} (ea : cs (nf - 1) ((fr (nf - 1)).2.2.1.1 - 2) = a) (eb : cs (nf - 1) ((fr (nf - 1)).2.2.1.1 - 1) = b) (ha : (H a).1 = 10) (hb : (H b).1 = 3) (hm : m + 1 < 21600) (s s' : Sl) : (lim < g + 5 → ∃ z', fn_X4_useCoin F sh n z 87 4 = some (z', ()) ∧ CE sh n z' 2 5 lim sl0 ∧ FrC z z') ∧ (g + 5 ≤ lim → (ult (H a).2.2.1 (H b).2.2.1 = true → ∃ z', fn_X4_useCoin F sh n z 87 4 = some (z', ()) ∧ CE sh n z' 1 2 (g + 5) sl0 ∧ FrC z z') ∧ (ult (H a).2.2.1 (H b).2.2.1 = false → ∃ z', fn_X4_useCoin F sh n z 87 4 = some (z', ()) ∧ CM sh n z' pk kt (upH (upH H m (10, 0, (H a).2.2.1 - (H b).2.2.1, [])) (m + 1) (10, 0, (H b).2.2.1, [])) (m + 2) sl0 (setF fr (nf - 1) (pshV (pshV (setH (fr (nf - 1)) ((fr (nf - 1)).2.2.1.1 - 2)) s) s')) (up2 (up2 cs (nf - 1) ((fr (nf - 1)).2.2.1.1 - 2) m) (nf - 1) ((fr (nf - 1)).2.2.1.1 - 1) (m + 1)) cl nf (g + 5) lim ∧ FrC z z')) := by
  obtain ⟨b1, _⟩ := h.2.2.1.2.2.2 (nf - 1) (by have := h.2.2.1.2.1; omega)
  have e0 : fn_X4_useCoin F sh n z 87 4 = fn_X4_useCoin_B45 F sh n 87 4 z (nI 0) := ucoin0 (by decide) (by decide)
  constructor
  · intro hg
    rw [e0]
    exact h.coinG (by omega) hg
  · intro hg
    obtain ⟨z2, p2, p3, p4⟩ := h.coinP (F := F) (f := 4) (e := 0) (v := b) (by omega) hg (by omega) eb (by omega) (by unfold inn; omega)
    rw [if_neg (by decide), if_neg (by decide), if_neg (by decide), if_neg (by decide), if_pos rfl] at p4
    have e21 : (fr (nf - 1)).2.2.1.1 - 1 - 1 = (fr (nf - 1)).2.2.1.1 - 2 := by omega
    obtain ⟨z3, q1, q2, q3⟩ := p2.popOf (F := F) (by omega) (k := 3) (x := 3) rfl (by rw [eb]; exact hb) (by omega)
    obtain ⟨z4, r1, r2, r3⟩ := q2.popOf (F := F) (by rw [setF_s, setH_T]; omega) (k := 10) (x := 10) rfl (by rw [setF_s, setH_T, e21, ea]; exact ha) (by omega)
    rw [setF_s, setH_T, e21, setF_2] at r2
    rw [setF_s, setH_T, e21, ea] at r1
    obtain ⟨lt1, lt2, lt3⟩ := r2.low (v := a) (by omega) (by unfold inn; omega)
    have hp := b_heap q2.1
    have mk := (b_mach h.1).1
    have E : fn_X4_split F sh n z2 87 (H b).2.2.1 = (if (if N (H a).2.2.1 < N (H b).2.2.1 then (1 : Int32) else 0) = 0 then cal (fn_X4_pushNumber F sh n z4 87 10 0 ((H a).2.2.1 - (H b).2.2.1)) (fun z_17 _ => cal (fn_X4_pushNumber F sh n z_17 87 10 0 (H b).2.2.1) (fun z_19 _ => some (z_19, ()))) else cal (fn_X4_end F sh n z4 87 1 2) (fun z_21 _ => some (z_21, ()))) := by
      unfold fn_X4_split
      rw [mk, grd_true, q1, cal_s, q2.1.2.2 87 1 88 rfl, lnk_s, hp.1, grd_true, hp.2.2.1, lnk_s, r1, cal_s, lt1, grd_true, lt2, lt3, lt_t, below_t, cal_s]
    constructor
    · intro hu
      obtain ⟨z5, s1, s2, s3⟩ := r2.fin (F := F) 1 2
      refine ⟨z5, ?_, s2, ((p3.trans q3).trans r3).trans s3⟩
      have s1' : fn_X4_end F sh n z4 87 1 2 = some (z5, ()) := s1
      rw [e0, p4, E, if_pos (ult_N.1.mp hu), if_neg one0, s1', cal_s, cal_s]
    · intro hu
      obtain ⟨z5, s1, s2, s3⟩ := r2.make (F := F) (by rw [setF_s, setH_T]; omega) (by omega) (k := 10) (x := 0) (y := (H a).2.2.1 - (H b).2.2.1) (by omega) (by unfold inn; omega) s
      rw [setF_s, setF_2, setH_T] at s2
      rw [show setH (setH (fr (nf - 1)) ((fr (nf - 1)).2.2.1.1 - 1)) ((fr (nf - 1)).2.2.1.1 - 2) = setH (fr (nf - 1)) ((fr (nf - 1)).2.2.1.1 - 2) from rfl] at s2
      have ht : (pshV (setH (fr (nf - 1)) ((fr (nf - 1)).2.2.1.1 - 2)) s).2.2.1.1 = (fr (nf - 1)).2.2.1.1 - 1 := by
        show (fr (nf - 1)).2.2.1.1 - 2 + 1 = _
        omega
      obtain ⟨z6, t1, t2, t3⟩ := s2.make (F := F) (by rw [setF_s, ht]; omega) (by omega) (k := 10) (x := 0) (y := (H b).2.2.1) (by omega) (by unfold inn; omega) s'
      rw [setF_s, setF_2, ht] at t2
      refine ⟨z6, ?_, t2, (((p3.trans q3).trans r3).trans s3).trans t3⟩
      have s1' : fn_X4_pushNumber F sh n z4 87 10 0 ((H a).2.2.1 - (H b).2.2.1) = some (z5, ()) := s1
      have t1' : fn_X4_pushNumber F sh n z5 87 10 0 (H b).2.2.1 = some (z6, ()) := t1
      rw [e0, p4, E, if_neg (ult_N.2.mp hu), if_pos rfl, s1', cal_s, t1', cal_s, cal_s]
/-- 5: behind asking -/
theorem CM.coin5 (h : CM sh n z pk kt H m sl0 fr cs cl nf g lim) (hJ : CJ z na ak cn ws) {j : Nat} (hj : j < na) (h3 : (ak j).1 = 1) (h1 : 1 ≤ (fr (nf - 1)).2.2.1.1) {b : Nat} (eb : cs (nf - 1) ((fr (nf - 1)).2.2.1.1 - 1) = b) (hb : (H b).1 = 5) (hm : m < 21600) (s : Sl) : (lim < g + 5 → ∃ z', fn_X4_useCoin_B45 F sh n 87 (nI 5) z (nI j) = some (z', ()) ∧ CE sh n z' 2 5 lim sl0 ∧ FrC z z') ∧ (g + 5 ≤ lim → ∃ z', fn_X4_useCoin_B45 F sh n 87 (nI 5) z (nI j) = some (z', ()) ∧ CM sh n z' pk kt (upH H m (3, 0, (ak j).2.2.2.1, [])) (m + 1) sl0 (setF fr (nf - 1) (pshV (setH (fr (nf - 1)) ((fr (nf - 1)).2.2.1.1 - 1)) s)) (up2 cs (nf - 1) ((fr (nf - 1)).2.2.1.1 - 1) m) cl nf (g + 5) lim ∧ FrC z z') := by
  obtain ⟨b1, _⟩ := h.2.2.1.2.2.2 (nf - 1) (by have := h.2.2.1.2.1; omega)
  have n24 := hJ.2.1
  constructor
  · intro hg
    exact h.coinG (by omega) hg
  · intro hg
    obtain ⟨z2, p2, p3, p4⟩ := h.coinP (F := F) (f := nI 5) (e := j) (v := b) (by omega) hg (by omega) eb (by omega) (by unfold inn; omega)
    rw [if_neg (by decide), if_neg (by decide), if_neg (by decide), if_neg (by decide), if_neg (by decide)] at p4
    obtain ⟨z3, q1, q2, q3⟩ := p2.popOf (F := F) (by omega) (k := 5) (x := 5) rfl (by rw [eb]; exact hb) (by omega)
    have J3 := hJ.fc (p3.trans q3)
    have b11 := ((J3.2.2 j hj).2.2.2.2.2.1 h3).1
    obtain ⟨z5, s1, s2, s3⟩ := q2.make (F := F) (by rw [setF_s, setH_T]; omega) hm (k := 3) (x := 0) (y := (ak j).2.2.2.1) (by omega) (by unfold inn; omega) s
    rw [setF_s, setF_2, setH_T] at s2
    refine ⟨z5, ?_, s2, (p3.trans q3).trans s3⟩
    have o11 : okA sh n 111 102 (nI j) = true := by rw [lay_a h.1 111 102 24 (by decide) rfl]; exact okI_nI (by omega) (by omega)
    have s1' : fn_X4_pushNumber F sh n z3 87 3 0 (ak j).2.2.2.1 = some (z5, ()) := s1
    rw [p4, q1, cal_s, q2.1.2.2 87 2 104 rfl, lnk_s, (b_jour h.1).1, grd_true, q2.1.2.2 104 9 111 rfl, lnk_s, o11, grd_true, nI_clamp (by omega), b11, s1', cal_s]
end
