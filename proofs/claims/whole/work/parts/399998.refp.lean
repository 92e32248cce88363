/-! THE REFERENCE'S MACHINE: locals and references -/
section
variable {F n : Nat} {sh : Nat → Nat × Nat} {z z' : St} {H : Hp} {m : Nat} {fr : Nat → Fm} {nf na : Nat} {ak : Nat → Ask} {g lim : Nat}
/-- a row of locals changes at one place -/
theorem RM.setLoc (h : RM sh n z H m fr nf na ak g lim) {k : Nat} (hk : k < 40) (s : Option Sl) (z' : St) (e0 : z'.2 = z.2) (e1 : ∀ c, c ≠ 395 → c ≠ 396 → z'.1 c = z.1 c) (e2 : ∀ j, j ≠ 40 * (nf - 1) + k → z'.1 395 j = z.1 395 j ∧ z'.1 396 j = z.1 396 j) (e3 : ∀ q, s = some q → z'.1 395 (40 * (nf - 1) + k) = nI q.1 ∧ z'.1 396 (40 * (nf - 1) + k) = bI (rB q)) : RM sh n z' H m (setF fr (nf - 1) (setLo (fr (nf - 1)) k s)) nf na ak g lim ∧ FrR z z' := by
  obtain ⟨hL, hr, hM, hf, ha, h1, h2, h3, h4⟩ := h
  have e337 : z'.1 337 = z.1 337 := e1 337 (by decide) (by decide)
  refine ⟨⟨hL.of (by rw [e0]), by unfold Run; rw [e337]; exact hr, hM.fr (fun c a b => e1 c (by omega) (by omega)) (fun c a b => by rw [e0]), ?_, ha.of (by rw [e337]) (fun c a b => ⟨e1 c (by omega) (by omega), by rw [e0]⟩), by rw [e337]; exact h1, by rw [e337]; exact h2, h3, h4⟩, ⟨by rw [e0], fun c c1 c2 => ⟨e1 c (fun q => c2 (by rw [q]; right; right; omega)) (fun q => c2 (by rw [q]; right; right; omega)), by rw [e0]⟩, fun j _ => by rw [e337, e0]; exact ⟨rfl, rfl⟩⟩⟩
  obtain ⟨t1, t2, t3⟩ := hf.top
  obtain ⟨a1, a2, a3, a4, a5, a6, a7⟩ := t1
  refine hf.set _ (by rw [e337]) a1 (by rw [e337, hf.2.2.2.1, t2]; rfl) (fun c d c1 c2 _ => by rw [e1 c (by omega) (by omega)]) ⟨by rw [e1 391 (by decide) (by decide)]; exact a2, by rw [e1 392 (by decide) (by decide)]; exact a3, by rw [e1 393 (by decide) (by decide)]; exact a4, by rw [e1 394 (by decide) (by decide)]; exact a5⟩ (fun j _ => by rw [e1 397 (by decide) (by decide), e1 398 (by decide) (by decide)]; exact ⟨rfl, rfl⟩) (fun j hj => e2 j (by omega)) (fun j hj => by rw [e1 397 (by decide) (by decide), e1 398 (by decide) (by decide)]; exact a6 j hj) (fun j q hq => ?_)
  simp only [setLo] at hq
  by_cases c : j = k
  · rw [if_pos c] at hq
    obtain ⟨b1, b2⟩ := e3 q hq
    rw [c]; exact ⟨hk, b1, b2⟩
  · rw [if_neg c] at hq
    obtain ⟨b0, b1, b2⟩ := a7 j q hq
    obtain ⟨c1, c2⟩ := e2 (40 * (nf - 1) + j) (by omega)
    exact ⟨b0, by rw [c1]; exact b1, by rw [c2]; exact b2⟩
theorem RM.loc (h : RM sh n z H m fr nf na ak g lim) {k : Nat} (hk : k < 40) : fn_X18_local F sh n z 337 (nI k) = some (z, nI (40 * (nf - 1) + k)) ∧ okI (nI (40 * (nf - 1) + k)) 1280 = true ∧ (nI (40 * (nf - 1) + k)).toNatClampNeg = 40 * (nf - 1) + k ∧ ∀ s, (fr (nf - 1)).2.1 k = some s → z.1 395 (40 * (nf - 1) + k) = nI s.1 ∧ z.1 396 (40 * (nf - 1) + k) = bI (rB s) := by
  obtain ⟨hL, hr, hM, hf, ha, h1, h2, h3, h4⟩ := h
  have hn := hf.2.1
  have hn2 := hf.2.2.1
  refine ⟨?_, okI_nI (by omega) (by omega), nI_clamp (by omega), fun s hs => ?_⟩
  · unfold fn_X18_local
    simp only [b_model hL, grd_true, hf.1]
    rw [show nI nf - 1 = nI (nf - 1) from pk_sub (a := nf) (b := 1) (by omega), show (40 : Int32) = nI 40 from rfl, pk_mul, nI_add]
  · exact (hf.top.1.2.2.2.2.2.2 k s hs).2
/-- 14, 15: a reference to a local -/
theorem RM.borrow (h : RM sh n z H m fr nf na ak g lim) {o k : Nat} {s : Sl} (ho : o = 14 ∨ o = 15) (hk : k < 40) (hs : (fr (nf - 1)).2.1 k = some s) (hal : (H s.1).1 ≠ 0) (h64 : (fr (nf - 1)).2.2.1.1 < 64) (q : Sl) (hq : q.1 = s.1) (hq0 : q.2.1 ≠ 0) : ∃ z', fn_X18_onLocal F sh n z 337 (nI o) (nI k) = some (z', ()) ∧ RM sh n z' H m (setF fr (nf - 1) (pshV (fr (nf - 1)) q)) nf na ak g lim ∧ FrR z z' := by
  obtain ⟨l1, l2, l3, l4⟩ := h.loc (F := F) hk
  obtain ⟨l5, l6⟩ := l4 s hs
  obtain ⟨z', p1, p2, p3⟩ := h.push (F := F) q h64
  rw [rB1 hq0, hq] at p1
  refine ⟨z', ?_, p2, p3⟩
  have n13 : ¬ nI o = 13 := fun e => by have := (nIe (x := 13) 13 rfl (by omega) (by omega)).mp e; omega
  have n11 : ¬ nI o = 11 := fun e => by have := (nIe (x := 11) 11 rfl (by omega) (by omega)).mp e; omega
  have n12 : ¬ nI o = 12 := fun e => by have := (nIe (x := 12) 12 rfl (by omega) (by omega)).mp e; omega
  have nm : ¬ nI s.1 = -1 := nI_m1 (by have := (h.2.2.1.lt hal).2; omega)
  unfold fn_X18_onLocal
  simp only [b_model h.1, grd_true, l1, cal_s, if_neg n13, lnk_s, l2, l3, l5, if_neg nm]
  unfold fn_X18_onLocal_B106
  simp only [b_model h.1, grd_true, h.goes, cal_s, if_neg one0, if_neg n11, if_neg n12, lnk_s, l2, l3, l5, p1]
/-- 12 -/
theorem RM.move (h : RM sh n z H m fr nf na ak g lim) {k : Nat} {s : Sl} (hk : k < 40) (hs : (fr (nf - 1)).2.1 k = some s) (hal : (H s.1).1 ≠ 0) (h64 : (fr (nf - 1)).2.2.1.1 < 64) : ∃ z', fn_X18_onLocal F sh n z 337 12 (nI k) = some (z', ()) ∧ RM sh n z' H m (setF fr (nf - 1) (pshV (setLo (fr (nf - 1)) k none) s)) nf na ak g lim ∧ FrR z z' := by
  obtain ⟨l1, l2, l3, l4⟩ := h.loc (F := F) hk
  obtain ⟨l5, l6⟩ := l4 s hs
  obtain ⟨z', p1, p2, p3⟩ := h.push (F := F) s h64
  obtain ⟨q1, q2⟩ := p2.setLoc hk none (si z' 395 (40 * (nf - 1) + k) (-1)) rfl (fun c c1 _ => by funext j; simp [si_1, c1]) (fun j hj => ⟨by simp [si_1, hj], by simp [si_1]⟩) (fun q hq => absurd hq (by simp))
  rw [setF_s, setF_2] at q1
  refine ⟨_, ?_, q1, p3.trans q2⟩
  have nm : ¬ nI s.1 = -1 := nI_m1 (by have := (h.2.2.1.lt hal).2; omega)
  unfold fn_X18_onLocal
  simp only [b_model h.1, grd_true, l1, cal_s, if_neg (show ¬ (12 : Int32) = 13 by decide), lnk_s, l2, l3, l5, if_neg nm]
  unfold fn_X18_onLocal_B106
  simp only [b_model h.1, b_model p2.1, grd_true, h.goes, cal_s, if_neg one0, if_neg (show ¬ (12 : Int32) = 11 by decide), ↓reduceIte, lnk_s, l2, l3, l5, l6, p1, lt_t]
/-- 13 -/
theorem RM.store (h : RM sh n z H m fr nf na ak g lim) {k : Nat} (hk : k < 40) (h1 : 1 ≤ (fr (nf - 1)).2.2.1.1) : ∃ z', fn_X18_onLocal F sh n z 337 13 (nI k) = some (z', ()) ∧ RM sh n z' H m (setF fr (nf - 1) (setLo (setH (fr (nf - 1)) ((fr (nf - 1)).2.2.1.1 - 1)) k (some ((fr (nf - 1)).2.2.1.2 ((fr (nf - 1)).2.2.1.1 - 1))))) nf na ak g lim ∧ FrR z z' := by
  obtain ⟨l1, l2, l3, l4⟩ := h.loc (F := F) hk
  obtain ⟨z1, p1, p2, p3, p4⟩ := h.take (F := F) h1
  obtain ⟨q1, q2⟩ := p2.setLoc hk (some ((fr (nf - 1)).2.2.1.2 ((fr (nf - 1)).2.2.1.1 - 1))) (si (si z1 395 (40 * (nf - 1) + k) (nI ((fr (nf - 1)).2.2.1.2 ((fr (nf - 1)).2.2.1.1 - 1)).1)) 396 (40 * (nf - 1) + k) (bI (rB ((fr (nf - 1)).2.2.1.2 ((fr (nf - 1)).2.2.1.1 - 1))))) rfl (fun c c1 c2 => by funext j; simp [si_1, c1, c2]) (fun j hj => ⟨by simp [si_1, hj], by simp [si_1, hj]⟩) (fun q hq => by cases hq; exact ⟨by simp [si_1], by simp [si_1]⟩)
  rw [setF_s, setF_2] at q1
  refine ⟨_, ?_, q1, p3.trans q2⟩
  have hf := h.2.2.2.1
  obtain ⟨t1, t2, t3⟩ := hf.top
  obtain ⟨a1, a2, a3, a4, a5, a6, a7⟩ := t1
  have b2 := (a6 ((fr (nf - 1)).2.2.1.1 - 1) (by omega)).2
  rw [show bsm fr (nf - 1) + ((fr (nf - 1)).2.2.1.1 - 1) = bsm fr nf - 1 by omega] at b2
  have hn := hf.2.1
  have hn2 := hf.2.2.1
  have e1 : nI nf - 1 = nI (nf - 1) := pk_sub (a := nf) (b := 1) (by omega)
  have e2 : nI (bsm fr nf) - 1 = nI (bsm fr nf - 1) := pk_sub (a := bsm fr nf) (b := 1) (by omega)
  have b3 : okI (nI (nf - 1)) 32 = true := okI_nI (by omega) (by omega)
  have b4 : (nI (nf - 1)).toNatClampNeg = nf - 1 := nI_clamp (by omega)
  have d3 : okI (nI (bsm fr nf - 1)) 2200 = true := okI_nI (by omega) (by omega)
  have d4 : (nI (bsm fr nf - 1)).toNatClampNeg = bsm fr nf - 1 := nI_clamp (by omega)
  have nle : ¬ nI (bsm fr nf) ≤ nI (bsm fr (nf - 1)) := fun q => by have := (nI_leI (by omega) (by omega)).mp q; omega
  have core : fn_X18_onLocal_B56 F sh n 337 (nI (40 * (nf - 1) + k)) z (bI (rB ((fr (nf - 1)).2.2.1.2 ((fr (nf - 1)).2.2.1.1 - 1)))) = some (si (si z1 395 (40 * (nf - 1) + k) (nI ((fr (nf - 1)).2.2.1.2 ((fr (nf - 1)).2.2.1.1 - 1)).1)) 396 (40 * (nf - 1) + k) (bI (rB ((fr (nf - 1)).2.2.1.2 ((fr (nf - 1)).2.2.1.1 - 1)))), ()) := by
    unfold fn_X18_onLocal_B56
    simp only [p1, cal_s, p2.goes, if_neg one0, b_model p2.1, grd_true, lnk_s, l2, l3, p4, lt_t, si_3, nar_bI]
  unfold fn_X18_onLocal
  simp only [b_model h.1, grd_true, l1, cal_s, ↓reduceIte, h.goes, if_neg one0, lnk_s, hf.1, e1, b3, b4, hf.2.2.2.1, a5, if_neg nle, e2, d3, d4, b2]
  by_cases c : ((fr (nf - 1)).2.2.1.2 ((fr (nf - 1)).2.2.1.1 - 1)).2.1 = 0
  · rw [rB0 c] at core ⊢
    rw [if_pos rfl]
    unfold fn_X18_onLocal_B55
    exact core
  · rw [rB1 c] at core ⊢
    rw [if_neg one0]
    exact core
/-- 11, a reference -/
theorem RM.copyR (h : RM sh n z H m fr nf na ak g lim) {k : Nat} {s : Sl} (hk : k < 40) (hs : (fr (nf - 1)).2.1 k = some s) (hal : (H s.1).1 ≠ 0) (h0 : s.2.1 ≠ 0) (h64 : (fr (nf - 1)).2.2.1.1 < 64) : (g + 1 ≤ lim → ∃ z', fn_X18_onLocal F sh n z 337 11 (nI k) = some (z', ()) ∧ RM sh n z' H m (setF fr (nf - 1) (pshV (fr (nf - 1)) s)) nf na ak (g + 1) lim ∧ FrR z z') ∧ (lim < g + 1 → ∃ z', fn_X18_onLocal F sh n z 337 11 (nI k) = some (z', ()) ∧ RE sh n z' 2 5 lim ∧ FrR z z') := by
  obtain ⟨l1, l2, l3, l4⟩ := h.loc (F := F) hk
  obtain ⟨l5, l6⟩ := l4 s hs
  rw [rB1 h0] at l6
  have nm : ¬ nI s.1 = -1 := nI_m1 (by have := (h.2.2.1.lt hal).2; omega)
  constructor
  · intro hg
    obtain ⟨z1, p1, p2, p3⟩ := h.spend (F := F) (c := 1) hg
    obtain ⟨z', q1, q2, q3⟩ := p2.push (F := F) s h64
    rw [rB1 h0] at q1
    refine ⟨z', ?_, q2, p3.trans q3⟩
    obtain ⟨_, _, _, m4⟩ := p2.loc (F := F) hk
    unfold fn_X18_onLocal
    simp only [b_model h.1, grd_true, l1, cal_s, if_neg (show ¬ (11 : Int32) = 13 by decide), lnk_s, l2, l3, l5, if_neg nm]
    unfold fn_X18_onLocal_B106
    rw [show (1 : Int32) = nI 1 from rfl] at *
    simp only [b_model h.1, b_model p2.1, grd_true, h.goes, cal_s, if_neg (show ¬ nI 1 = 0 by decide), ↓reduceIte, lnk_s, l2, l3, l6, p1, (m4 s hs).1, q1]
    rw [if_neg one0]
  · intro hg
    obtain ⟨z1, p1, p2, p3⟩ := h.spendE (F := F) (c := 1) hg (by omega)
    refine ⟨z1, ?_, p2, p3⟩
    unfold fn_X18_onLocal
    simp only [b_model h.1, grd_true, l1, cal_s, if_neg (show ¬ (11 : Int32) = 13 by decide), lnk_s, l2, l3, l5, if_neg nm]
    unfold fn_X18_onLocal_B106
    rw [show (1 : Int32) = nI 1 from rfl] at *
    simp only [b_model h.1, grd_true, h.goes, cal_s, if_neg (show ¬ nI 1 = 0 by decide), ↓reduceIte, lnk_s, l2, l3, l6, p1]
    rw [if_neg one0]
/-- a tree is copied onto the stack -/
theorem RM.cpy (hF : 300 ≤ F) (h : RM sh n z H m fr nf na ak g lim) (pu : PU H) (dd : ∀ i, (H i).1 = 0 → H i = (0, 0, 0, [])) {d v t : Nat} (tr : Tr H d v) (hd : d ≤ 48) (hm : m + szM H d v ≤ 24576) (h64 : (fr (nf - 1)).2.2.1.1 < 64) : ∃ z1 z' H' u' o, fn_X15_copy F sh n 48 z 349 (nI v) = some (z1, nI m) ∧ fn_X18_push F sh n z1 337 (nI m) 0 = some (z', ()) ∧ Lay sh n z1 ∧ CpM H m d v H' u' o ∧ RM sh n z' H' u' (setF fr (nf - 1) (pshV (fr (nf - 1)) (m, 0, t, 0, false))) nf na ak g lim ∧ FrR z z' := by
  obtain ⟨z1, H', u', o, c1, c2, c3, c4⟩ := copyM_t (F := F) hF d z H m v 48 h.1 h.2.2.1 pu dd tr hd hm
  obtain ⟨hL, hr, hM, hf, ha, h1, h2, h3, h4⟩ := h
  have e337 : z1.1 337 = z.1 337 ∧ z1.2.1 337 = z.2.1 337 := c3.2 337 (by omega)
  have R1 : RM sh n z1 H' u' fr nf na ak g lim := ⟨c3.lay hL, by unfold Run; rw [e337.1]; exact hr, c2, hf.of (by rw [e337.1]) (by rw [e337.1]) (fun c a b => (c3.2 c (by omega)).1), ha.of (by rw [e337.1]) (fun c a b => c3.2 c (by omega)), by rw [e337.1]; exact h1, by rw [e337.1]; exact h2, h3, h4⟩
  obtain ⟨z', p1, p2, p3⟩ := R1.push (F := F) (m, 0, t, 0, false) h64
  rw [rB0 rfl] at p1
  exact ⟨z1, z', H', u', o, c1, p1, R1.1, c4, p2, (tr_frR c3).trans p3⟩
/-- 11, a value -/
theorem RM.copyV (hF : 300 ≤ F) (h : RM sh n z H m fr nf na ak g lim) (pu : PU H) (dd : ∀ i, (H i).1 = 0 → H i = (0, 0, 0, [])) {k d t : Nat} {s : Sl} (hk : k < 40) (hs : (fr (nf - 1)).2.1 k = some s) (h0 : s.2.1 = 0) (tr : Tr H d s.1) (hd : d ≤ 48) (hm : m + szM H d s.1 ≤ 24576) (h64 : (fr (nf - 1)).2.2.1.1 < 64) : (g + szM H d s.1 ≤ lim → ∃ z' H' u' o, fn_X18_onLocal F sh n z 337 11 (nI k) = some (z', ()) ∧ CpM H m d s.1 H' u' o ∧ RM sh n z' H' u' (setF fr (nf - 1) (pshV (fr (nf - 1)) (m, 0, t, 0, false))) nf na ak (g + szM H d s.1) lim ∧ FrR z z') ∧ (lim < g + szM H d s.1 → ∃ z', fn_X18_onLocal F sh n z 337 11 (nI k) = some (z', ()) ∧ RE sh n z' 2 5 lim ∧ FrR z z') := by
  have hal : (H s.1).1 ≠ 0 := by
    cases d with
    | zero => exact absurd tr (by simp [Tr])
    | succ d => exact tr.1
  obtain ⟨l1, l2, l3, l4⟩ := h.loc (F := F) hk
  obtain ⟨l5, l6⟩ := l4 s hs
  rw [rB0 h0] at l6
  have nm : ¬ nI s.1 = -1 := nI_m1 (by have := (h.2.2.1.lt hal).2; omega)
  have sz := sizeM_t (F := F) hF h.1 h.2.2.1 d s.1 48 tr hd
  constructor
  · intro hg
    obtain ⟨z1, p1, p2, p3⟩ := h.spend (F := F) hg
    obtain ⟨z2, z', H', u', o, c1, c2, cL, c3, c4, c5⟩ := RM.cpy (F := F) (t := t) hF p2 pu dd tr hd hm h64
    refine ⟨z', H', u', o, ?_, c3, c4, p3.trans c5⟩
    obtain ⟨_, _, _, m4⟩ := p2.loc (F := F) hk
    unfold fn_X18_onLocal
    simp only [b_model h.1, grd_true, l1, cal_s, if_neg (show ¬ (11 : Int32) = 13 by decide), lnk_s, l2, l3, l5, if_neg nm]
    unfold fn_X18_onLocal_B106
    simp only [b_model h.1, b_model p2.1, grd_true, h.goes, cal_s, if_neg one0, ↓reduceIte, lnk_s, l2, l3, l5, l6, sz, p1, (m4 s hs).1, c1, c2]
  · intro hg
    obtain ⟨z1, p1, p2, p3⟩ := h.spendE (F := F) hg (by omega)
    refine ⟨z1, ?_, p2, p3⟩
    unfold fn_X18_onLocal
    simp only [b_model h.1, grd_true, l1, cal_s, if_neg (show ¬ (11 : Int32) = 13 by decide), lnk_s, l2, l3, l5, if_neg nm]
    unfold fn_X18_onLocal_B106
    simp only [b_model h.1, grd_true, h.goes, cal_s, if_neg one0, ↓reduceIte, lnk_s, l2, l3, l5, l6, sz, p1]
end
