/-! THE REFERENCE'S MACHINE: the coin's functions -/
def ult (x y : Int64) : Bool := decide (¬ ((y + (-9223372036854775808)) ≤ (x + (-9223372036854775808))))
section
variable {F n : Nat} {sh : Nat → Nat × Nat} {z z1 z' : St} {H : Hp} {m : Nat} {fr : Nat → Fm} {nf na : Nat} {ak : Nat → Ask} {g lim : Nat}
theorem isBelow_t {x y : Int64} : fn_X18_isBelow F sh n z x y = some (z, bI (ult x y)) := by
  unfold fn_X18_isBelow ult
  by_cases c : (y + (-9223372036854775808)) ≤ (x + (-9223372036854775808))
  · rw [if_pos c]; simp [c, bI]
  · rw [if_neg c]; simp [c, bI]
/-- two values of kinds are taken -/
theorem RM.takeKK (h : RM sh n z H m fr nf na ak g lim) (h2 : 2 ≤ (fr (nf - 1)).2.2.1.1) {a b : Nat} (ea : ((fr (nf - 1)).2.2.1.2 ((fr (nf - 1)).2.2.1.1 - 2)).1 = a) (eb : ((fr (nf - 1)).2.2.1.2 ((fr (nf - 1)).2.2.1.1 - 1)).1 = b) (h0 : ((fr (nf - 1)).2.2.1.2 ((fr (nf - 1)).2.2.1.1 - 1)).2.1 = 0) (h1 : ((fr (nf - 1)).2.2.1.2 ((fr (nf - 1)).2.2.1.1 - 2)).2.1 = 0) (ha : (H a).1 ≠ 0) (hb : (H b).1 ≠ 0) : ∃ z1 z2, fn_X18_take F sh n z 337 (nI (H b).1) = some (z1, nI b) ∧ fn_X18_take F sh n z1 337 (nI (H a).1) = some (z2, nI a) ∧ RM sh n z2 H m (setF fr (nf - 1) (setH (fr (nf - 1)) ((fr (nf - 1)).2.2.1.1 - 2))) nf na ak g lim ∧ FrR z z2 := by
  obtain ⟨z1, p1, p2, p3⟩ := h.takeK (F := F) (by omega) h0 (by rw [eb]; exact hb)
  have e21 : (fr (nf - 1)).2.2.1.1 - 1 - 1 = (fr (nf - 1)).2.2.1.1 - 2 := by omega
  obtain ⟨z2, q1, q2, q3⟩ := p2.takeK (F := F) (by rw [setF_s, setH_T]; omega) (by rw [setF_s]; simp only [setH]; rw [e21]; exact h1) (by rw [setF_s]; simp only [setH]; rw [e21, ea]; exact ha)
  rw [setF_s, setF_2] at q2
  rw [setF_s] at q1
  simp only [setH] at q1
  rw [e21, ea] at q1
  rw [eb] at p1
  refine ⟨z1, z2, p1, q1, ?_, p3.trans q3⟩
  have e : setH (setH (fr (nf - 1)) ((fr (nf - 1)).2.2.1.1 - 1)) ((setH (fr (nf - 1)) ((fr (nf - 1)).2.2.1.1 - 1)).2.2.1.1 - 1) = setH (fr (nf - 1)) ((fr (nf - 1)).2.2.1.1 - 2) := by
    rw [setH_T, e21]; rfl
  rw [e] at q2
  exact q2
/-- an amount and a value are taken -/
theorem RM.takeLK (h : RM sh n z H m fr nf na ak g lim) (h2 : 2 ≤ (fr (nf - 1)).2.2.1.1) {a b : Nat} (ea : ((fr (nf - 1)).2.2.1.2 ((fr (nf - 1)).2.2.1.1 - 2)).1 = a) (eb : ((fr (nf - 1)).2.2.1.2 ((fr (nf - 1)).2.2.1.1 - 1)).1 = b) (h0 : ((fr (nf - 1)).2.2.1.2 ((fr (nf - 1)).2.2.1.1 - 1)).2.1 = 0) (h1 : ((fr (nf - 1)).2.2.1.2 ((fr (nf - 1)).2.2.1.1 - 2)).2.1 = 0) (ha : (H a).1 ≠ 0) (hb : (H b).1 = 3) : ∃ z1 z2, fn_X18_takeLong F sh n z 337 = some (z1, (H b).2.2.1) ∧ fn_X18_take F sh n z1 337 (nI (H a).1) = some (z2, nI a) ∧ RM sh n z2 H m (setF fr (nf - 1) (setH (fr (nf - 1)) ((fr (nf - 1)).2.2.1.1 - 2))) nf na ak g lim ∧ FrR z z2 := by
  obtain ⟨z1, p1, p2, p3⟩ := h.takeL (F := F) (by omega) h0 (by rw [eb]; exact hb)
  have e21 : (fr (nf - 1)).2.2.1.1 - 1 - 1 = (fr (nf - 1)).2.2.1.1 - 2 := by omega
  obtain ⟨z2, q1, q2, q3⟩ := p2.takeK (F := F) (by rw [setF_s, setH_T]; omega) (by rw [setF_s]; simp only [setH]; rw [e21]; exact h1) (by rw [setF_s]; simp only [setH]; rw [e21, ea]; exact ha)
  rw [setF_s, setF_2] at q2
  rw [setF_s] at q1
  simp only [setH] at q1
  rw [e21, ea] at q1
  rw [eb] at p1
  refine ⟨z1, z2, p1, q1, ?_, p3.trans q3⟩
  have e : setH (setH (fr (nf - 1)) ((fr (nf - 1)).2.2.1.1 - 1)) ((setH (fr (nf - 1)) ((fr (nf - 1)).2.2.1.1 - 1)).2.2.1.1 - 1) = setH (fr (nf - 1)) ((fr (nf - 1)).2.2.1.1 - 2) := by
    rw [setH_T, e21]; rfl
  rw [e] at q2
  exact q2
/-- a coin's first part -/
theorem coinP (h : RM sh n z H m fr nf na ak g lim) {v c : Nat} (hv : (H v).1 ≠ 0) (hc : kds H v = [c]) : okI (nI v) 24576 = true ∧ (nI v).toNatClampNeg = v ∧ z.1 353 v = nI c ∧ okI (nI c) 24576 = true ∧ (nI c).toNatClampNeg = c ∧ z.2.1 352 c = (H c).2.2.1 := by
  have hc0 : (H c).1 ≠ 0 := h.2.2.1.cl hv c (by rw [hc]; simp)
  obtain ⟨b1, b2⟩ := h.2.2.1.i1 hv
  obtain ⟨c1, c2⟩ := h.2.2.1.i1 hc0
  have r := (h.2.2.1.row hv).2.2.2.1
  rw [hc] at r
  exact ⟨b1, b2, r, c1, c2, (h.2.2.1.row hc0).2.2.1⟩
/-- the value of a coin -/
theorem RM.coin2 (h : RM sh n z H m fr nf na ak g lim) (h1 : 1 ≤ (fr (nf - 1)).2.2.1.1) (h64 : (fr (nf - 1)).2.2.1.1 ≤ 64) {v c : Nat} (ev : ((fr (nf - 1)).2.2.1.2 ((fr (nf - 1)).2.2.1.1 - 1)).1 = v) (h0 : ((fr (nf - 1)).2.2.1.2 ((fr (nf - 1)).2.2.1.1 - 1)).2.1 ≠ 0) (hv : (H v).1 ≠ 0) (hc : kds H v = [c]) (hm : m < 24576) : (lim < g + 5 → ∃ z', fn_X18_coin F sh n z 337 2 = some (z', ()) ∧ RE sh n z' 2 5 lim ∧ FrR z z') ∧ (g + 5 ≤ lim → ∃ z', fn_X18_coin F sh n z 337 2 = some (z', ()) ∧ RM sh n z' (upH H m (3, 0, (H c).2.2.1, [])) (m + 1) (setF fr (nf - 1) (pshV (setH (fr (nf - 1)) ((fr (nf - 1)).2.2.1.1 - 1)) (m, 0, 3, 0, false))) nf na ak (g + 5) lim ∧ FrR z z') := by
  obtain ⟨z1, p1, p2, p3⟩ := h.takeR (F := F) h1 h0
  rw [ev] at p1
  constructor
  · intro hg
    obtain ⟨z2, s1, s2, s3⟩ := p2.spendE (F := F) hg (by omega)
    refine ⟨z2, ?_, s2, p3.trans s3⟩
    unfold fn_X18_coin
    rw [if_neg (by decide), if_neg (by decide), if_pos rfl]
    simp only [b_model h.1, grd_true, p1, cal_s, show (5 : Int32) = nI 5 from rfl, s1, ↓reduceIte]
  · intro hg
    obtain ⟨z2, s1, s2, s3⟩ := p2.spend (F := F) hg
    obtain ⟨w1, w2, w3, w4, w5, w6⟩ := coinP s2 hv hc
    obtain ⟨z3, q1, q2, q3⟩ := s2.make (F := F) (k := 3) (x := 0) (y := (H c).2.2.1) 3 (by omega) hm (by rw [setF_s, setH_T]; omega)
    rw [setF_s, setF_2] at q2
    refine ⟨z3, ?_, q2, (p3.trans s3).trans q3⟩
    unfold fn_X18_coin
    rw [if_neg (by decide), if_neg (by decide), if_pos rfl]
    simp only [b_model h.1, grd_true, p1, cal_s, show (5 : Int32) = nI 5 from rfl, s1, if_neg one0, b_model s2.1, b_trees s2.1, lnk_s, w1, w2, w3, w4, w5, w6, show (3 : Int32) = nI 3 from rfl, q1]
/-- two coins become one -/
theorem RM.coin3 (hF : 300 ≤ F) (h : RM sh n z H m fr nf na ak g lim) (w : Nw H m) (h2 : 2 ≤ (fr (nf - 1)).2.2.1.1) (h64 : (fr (nf - 1)).2.2.1.1 ≤ 64) {a b ca cb : Nat} (ea : ((fr (nf - 1)).2.2.1.2 ((fr (nf - 1)).2.2.1.1 - 2)).1 = a) (eb : ((fr (nf - 1)).2.2.1.2 ((fr (nf - 1)).2.2.1.1 - 1)).1 = b) (h0 : ((fr (nf - 1)).2.2.1.2 ((fr (nf - 1)).2.2.1.1 - 1)).2.1 = 0) (h1 : ((fr (nf - 1)).2.2.1.2 ((fr (nf - 1)).2.2.1.1 - 2)).2.1 = 0) (ha : (H a).1 = 6) (hb : (H b).1 = 6) (hca : kds H a = [ca]) (hcb : kds H b = [cb]) (hm : m + 1 < 24576) (t : Nat) : (lim < g + 5 → ∃ z', fn_X18_coin F sh n z 337 3 = some (z', ()) ∧ RE sh n z' 2 5 lim ∧ FrR z z') ∧ (g + 5 ≤ lim → ∃ z', fn_X18_coin F sh n z 337 3 = some (z', ()) ∧ RM sh n z' (upH (upH H m (6, 0, 0, [m + 1])) (m + 1) (3, 0, (H ca).2.2.1 + (H cb).2.2.1, [])) (m + 2) (setF fr (nf - 1) (pshV (setH (fr (nf - 1)) ((fr (nf - 1)).2.2.1.1 - 2)) (m, 0, t, 0, false))) nf na ak (g + 5) lim ∧ FrR z z') := by
  obtain ⟨z1, zb, p1, p1', p2, p3⟩ := h.takeKK (F := F) h2 ea eb h0 h1 (by omega) (by omega)
  rw [hb] at p1
  rw [ha] at p1'
  constructor
  · intro hg
    obtain ⟨z2, s1, s2, s3⟩ := p2.spendE (F := F) hg (by omega)
    refine ⟨z2, ?_, s2, p3.trans s3⟩
    unfold fn_X18_coin
    rw [if_neg (by decide), if_neg (by decide), if_neg (by decide), if_pos rfl]
    simp only [b_model h.1, grd_true, show (6 : Int32) = nI 6 from rfl, p1, p1', cal_s, show (5 : Int32) = nI 5 from rfl, s1, ↓reduceIte]
  · intro hg
    obtain ⟨z2, s1, s2, s3⟩ := p2.spend (F := F) hg
    obtain ⟨w1, w2, w3, w4, w5, w6⟩ := coinP s2 (show (H a).1 ≠ 0 by omega) hca
    obtain ⟨v1, v2, v3, v4, v5, v6⟩ := coinP s2 (show (H b).1 ≠ 0 by omega) hcb
    obtain ⟨z3, q1, q2, q3⟩ := s2.mkCoin (F := F) hF w hm (by rw [setF_s, setH_T]; omega) t ((H ca).2.2.1 + (H cb).2.2.1)
    rw [setF_s, setF_2] at q2
    refine ⟨z3, ?_, q2, (p3.trans s3).trans q3⟩
    unfold fn_X18_coin
    rw [if_neg (by decide), if_neg (by decide), if_neg (by decide), if_pos rfl]
    simp only [b_model h.1, grd_true, show (6 : Int32) = nI 6 from rfl, p1, p1', cal_s, show (5 : Int32) = nI 5 from rfl, s1, if_neg one0, b_model s2.1, b_trees s2.1, lnk_s, w1, w2, w3, w4, w5, w6, v1, v2, v3, v4, v5, v6, q1]
/-- a deposit begins -/
theorem RM.coin1 (h : RM sh n z H m fr nf na ak g lim) (h2 : 2 ≤ (fr (nf - 1)).2.2.1.1) {a b : Nat} (ea : ((fr (nf - 1)).2.2.1.2 ((fr (nf - 1)).2.2.1.1 - 2)).1 = a) (eb : ((fr (nf - 1)).2.2.1.2 ((fr (nf - 1)).2.2.1.1 - 1)).1 = b) (h0 : ((fr (nf - 1)).2.2.1.2 ((fr (nf - 1)).2.2.1.1 - 1)).2.1 = 0) (h1 : ((fr (nf - 1)).2.2.1.2 ((fr (nf - 1)).2.2.1.1 - 2)).2.1 = 0) (ha : (H a).1 = 5) (hb : (H b).1 = 6) : ∃ z1, fn_X18_coin F sh n z 337 1 = cal (fn_X18_ask F sh n z1 337 1 (H a).2.2.1 0) (fun z_148 r_149 => fn_X18_coin_B100 F sh n 337 (nI b) z_148 r_149) ∧ RM sh n z1 H m (setF fr (nf - 1) (setH (fr (nf - 1)) ((fr (nf - 1)).2.2.1.1 - 2))) nf na ak g lim ∧ FrR z z1 := by
  obtain ⟨z1, zb, p1, p1', p2, p3⟩ := h.takeKK (F := F) h2 ea eb h0 h1 (by omega) (by omega)
  rw [hb] at p1
  rw [ha] at p1'
  have hal : (H a).1 ≠ 0 := by omega
  obtain ⟨b1, b2⟩ := p2.2.2.1.i1 hal
  refine ⟨zb, ?_, p2, p3⟩
  unfold fn_X18_coin
  rw [if_neg (by decide), if_pos rfl]
  simp only [b_model h.1, grd_true, show (6 : Int32) = nI 6 from rfl, show (5 : Int32) = nI 5 from rfl, p1, p1', cal_s, p2.goes, if_neg one0, b_model p2.1, b_trees p2.1, lnk_s, b1, b2, (p2.2.2.1.row hal).2.2.1]
/-- it ends -/
theorem RM.coin1b (h : RM sh n z H m fr nf na ak g lim) {b c j : Nat} (hj : j < na) (h3 : (ak j).1 ≠ 3) (hb : (H b).1 ≠ 0) (hc : kds H b = [c]) : (lim < g + 5 → ∃ z', fn_X18_coin_B100 F sh n 337 (nI b) z (nI j) = some (z', ()) ∧ RE sh n z' 2 5 lim ∧ FrR z z') ∧ (g + 5 ≤ lim → ∃ z', fn_X18_coin_B100 F sh n 337 (nI b) z (nI j) = some (z', ()) ∧ RM sh n z' H m fr nf na (upA ak j ((ak j).1, (ak j).2.1, (ak j).2.2.1, (ak j).2.2.2.1 + (H c).2.2.1, true, (ak j).2.2.2.2.2)) (g + 5) lim ∧ FrR z z') := by
  have n24 := h.2.2.2.2.1.2.1
  have jn : ¬ nI j < 0 := (oI0 j (by omega)).2
  constructor
  · intro hg
    obtain ⟨z2, s1, s2, s3⟩ := h.spendE (F := F) hg (by omega)
    refine ⟨z2, ?_, s2, s3⟩
    unfold fn_X18_coin_B100
    rw [if_neg jn, show (5 : Int32) = nI 5 from rfl, s1, cal_s, if_pos rfl]
  · intro hg
    obtain ⟨z2, s1, s2, s3⟩ := h.spend (F := F) hg
    obtain ⟨w1, w2, w3, w4, w5, w6⟩ := coinP s2 hb hc
    obtain ⟨b1, b2⟩ := s2.setB hj h3 ((ak j).2.2.2.1 + (H c).2.2.1)
    obtain ⟨c1, c2⟩ := b1.setT hj (by rw [upA_s]; exact h3)
    have e : upA (upA ak j ((ak j).1, (ak j).2.1, (ak j).2.2.1, (ak j).2.2.2.1 + (H c).2.2.1, (ak j).2.2.2.2.1, (ak j).2.2.2.2.2)) j ((upA ak j ((ak j).1, (ak j).2.1, (ak j).2.2.1, (ak j).2.2.2.1 + (H c).2.2.1, (ak j).2.2.2.2.1, (ak j).2.2.2.2.2) j).1, (upA ak j ((ak j).1, (ak j).2.1, (ak j).2.2.1, (ak j).2.2.2.1 + (H c).2.2.1, (ak j).2.2.2.2.1, (ak j).2.2.2.2.2) j).2.1, (upA ak j ((ak j).1, (ak j).2.1, (ak j).2.2.1, (ak j).2.2.2.1 + (H c).2.2.1, (ak j).2.2.2.2.1, (ak j).2.2.2.2.2) j).2.2.1, (upA ak j ((ak j).1, (ak j).2.1, (ak j).2.2.1, (ak j).2.2.2.1 + (H c).2.2.1, (ak j).2.2.2.2.1, (ak j).2.2.2.2.2) j).2.2.2.1, true, (upA ak j ((ak j).1, (ak j).2.1, (ak j).2.2.1, (ak j).2.2.2.1 + (H c).2.2.1, (ak j).2.2.2.2.1, (ak j).2.2.2.2.2) j).2.2.2.2.2) = upA ak j ((ak j).1, (ak j).2.1, (ak j).2.2.1, (ak j).2.2.2.1 + (H c).2.2.1, true, (ak j).2.2.2.2.2) := by
      rw [upA_s]
      funext i
      by_cases q : i = j
      · subst q; rw [upA_s, upA_s]
      · rw [upA_n q, upA_n q, upA_n q]
    rw [e] at c1
    refine ⟨_, ?_, c1, (s3.trans b2).trans c2⟩
    have rb := (s2.2.2.2.2.1.2.2 j hj).2.2.2.1
    unfold fn_X18_coin_B100
    rw [if_neg jn, show (5 : Int32) = nI 5 from rfl, s1, cal_s, if_neg one0]
    simp only [b_model s2.1, b_trees s2.1, grd_true, lnk_s, okI_nI (show j < 24 by omega) (by omega), nI_clamp (n := j) (by omega), w1, w2, w3, w4, w5, w6, lt_t, sl_3, rb, show vp_nar .boolean 1 = bI true from rfl]
/-- a balance is asked for -/
theorem RM.coin5 (h : RM sh n z H m fr nf na ak g lim) (h1 : 1 ≤ (fr (nf - 1)).2.2.1.1) {a : Nat} (ea : ((fr (nf - 1)).2.2.1.2 ((fr (nf - 1)).2.2.1.1 - 1)).1 = a) (h0 : ((fr (nf - 1)).2.2.1.2 ((fr (nf - 1)).2.2.1.1 - 1)).2.1 = 0) (ha : (H a).1 = 5) : ∃ z1, fn_X18_coin F sh n z 337 5 = cal (fn_X18_ask F sh n z1 337 1 (H a).2.2.1 0) (fun z_29 r_30 => fn_X18_coin_B381 F sh n 337 z_29 r_30) ∧ RM sh n z1 H m (setF fr (nf - 1) (setH (fr (nf - 1)) ((fr (nf - 1)).2.2.1.1 - 1))) nf na ak g lim ∧ FrR z z1 := by
  have hal : (H a).1 ≠ 0 := by omega
  obtain ⟨z1, p1, p2, p3⟩ := h.takeK (F := F) h1 h0 (by rw [ea]; exact hal)
  rw [ea, ha] at p1
  obtain ⟨b1, b2⟩ := p2.2.2.1.i1 hal
  refine ⟨z1, ?_, p2, p3⟩
  unfold fn_X18_coin
  rw [if_neg (by decide), if_neg (by decide), if_neg (by decide), if_neg (by decide), if_neg (by decide)]
  simp only [b_model h.1, grd_true, show (5 : Int32) = nI 5 from rfl, p1, cal_s, p2.goes, if_neg one0, b_model p2.1, b_trees p2.1, lnk_s, b1, b2, (p2.2.2.1.row hal).2.2.1]
theorem RM.coin5b (h : RM sh n z H m fr nf na ak g lim) {j : Nat} (hj : j < na) (hm : m < 24576) (h64 : (fr (nf - 1)).2.2.1.1 < 64) : (lim < g + 5 → ∃ z', fn_X18_coin_B381 F sh n 337 z (nI j) = some (z', ()) ∧ RE sh n z' 2 5 lim ∧ FrR z z') ∧ (g + 5 ≤ lim → ∃ z', fn_X18_coin_B381 F sh n 337 z (nI j) = some (z', ()) ∧ RM sh n z' (upH H m (3, 0, (ak j).2.2.2.1, [])) (m + 1) (setF fr (nf - 1) (pshV (fr (nf - 1)) (m, 0, 3, 0, false))) nf na ak (g + 5) lim ∧ FrR z z') := by
  have n24 := h.2.2.2.2.1.2.1
  have jn : ¬ nI j < 0 := (oI0 j (by omega)).2
  constructor
  · intro hg
    obtain ⟨z2, s1, s2, s3⟩ := h.spendE (F := F) hg (by omega)
    refine ⟨z2, ?_, s2, s3⟩
    unfold fn_X18_coin_B381
    rw [if_neg jn, show (5 : Int32) = nI 5 from rfl, s1, cal_s, if_pos rfl]
  · intro hg
    obtain ⟨z2, s1, s2, s3⟩ := h.spend (F := F) hg
    obtain ⟨z3, q1, q2, q3⟩ := s2.make (F := F) (k := 3) (x := 0) (y := (ak j).2.2.2.1) 3 (by omega) hm h64
    refine ⟨z3, ?_, q2, s3.trans q3⟩
    have rb := (s2.2.2.2.2.1.2.2 j hj).2.2.2.1
    unfold fn_X18_coin_B381
    rw [if_neg jn, show (5 : Int32) = nI 5 from rfl, s1, cal_s, if_neg one0]
    simp only [b_model s2.1, grd_true, lnk_s, okI_nI (show j < 24 by omega) (by omega), nI_clamp (n := j) (by omega), rb, show (3 : Int32) = nI 3 from rfl, q1, cal_s]
end
