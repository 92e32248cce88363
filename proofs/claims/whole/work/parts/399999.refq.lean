/-! THE REFERENCE'S MACHINE: references, numbers -/
section
variable {F n : Nat} {sh : Nat → Nat × Nat} {z z' : St} {H : Hp} {m : Nat} {fr : Nat → Fm} {nf na : Nat} {ak : Nat → Ask} {g lim : Nat}
theorem setH_T (x : Fm) (a : Nat) : (setH x a).2.2.1.1 = a := rfl
/-- the topmost slot gives way to a reference: 16, 17 (a part), 20 -/
theorem RM.ref20 (h : RM sh n z H m fr nf na ak g lim) (h1 : 1 ≤ (fr (nf - 1)).2.2.1.1) (h64 : (fr (nf - 1)).2.2.1.1 ≤ 64) (h0 : ((fr (nf - 1)).2.2.1.2 ((fr (nf - 1)).2.2.1.1 - 1)).2.1 ≠ 0) {b : Int32} (q : Sl) (hq : q.1 = ((fr (nf - 1)).2.2.1.2 ((fr (nf - 1)).2.2.1.1 - 1)).1) (hq0 : q.2.1 ≠ 0) : ∃ z', fn_X18_onReference F sh n z 337 20 b = some (z', ()) ∧ RM sh n z' H m (setF fr (nf - 1) (pshV (setH (fr (nf - 1)) ((fr (nf - 1)).2.2.1.1 - 1)) q)) nf na ak g lim ∧ FrR z z' := by
  obtain ⟨z1, p1, p2, p3⟩ := h.takeR (F := F) h1 h0
  obtain ⟨z', q1, q2, q3⟩ := p2.push (F := F) q (by rw [setF_s, setH_T]; omega)
  rw [rB1 hq0, hq] at q1
  rw [setF_s, setF_2] at q2
  refine ⟨z', ?_, q2, p3.trans q3⟩
  unfold fn_X18_onReference
  simp only [b_model h.1, grd_true, p1, cal_s, p2.goes, if_neg one0, ↓reduceIte, q1]
theorem RM.ref16 (hF : 300 ≤ F) (h : RM sh n z H m fr nf na ak g lim) (h1 : 1 ≤ (fr (nf - 1)).2.2.1.1) (h64 : (fr (nf - 1)).2.2.1.1 ≤ 64) (h0 : ((fr (nf - 1)).2.2.1.2 ((fr (nf - 1)).2.2.1.1 - 1)).2.1 ≠ 0) {o b : Nat} (ho : o = 16 ∨ o = 17) (ha : (H ((fr (nf - 1)).2.2.1.2 ((fr (nf - 1)).2.2.1.1 - 1)).1).1 ≠ 0) (hb : b < (kds H ((fr (nf - 1)).2.2.1.2 ((fr (nf - 1)).2.2.1.1 - 1)).1).length) (q : Sl) (hq : q.1 = (kds H ((fr (nf - 1)).2.2.1.2 ((fr (nf - 1)).2.2.1.1 - 1)).1)[b]) (hq0 : q.2.1 ≠ 0) : ∃ z', fn_X18_onReference F sh n z 337 (nI o) (nI b) = some (z', ()) ∧ RM sh n z' H m (setF fr (nf - 1) (pshV (setH (fr (nf - 1)) ((fr (nf - 1)).2.2.1.1 - 1)) q)) nf na ak g lim ∧ FrR z z' := by
  obtain ⟨z1, p1, p2, p3⟩ := h.takeR (F := F) h1 h0
  obtain ⟨z', q1, q2, q3⟩ := p2.push (F := F) q (by rw [setF_s, setH_T]; omega)
  rw [rB1 hq0, hq] at q1
  rw [setF_s, setF_2] at q2
  refine ⟨z', ?_, q2, p3.trans q3⟩
  have hl := h.2.2.1.len ha
  have pt := tpart_t (F := F) hF p2.1 p2.2.2.1 ha (k := b) (by omega)
  rw [drop_c hb, show ∀ a as, hm1 (a :: as) = nI a from fun _ _ => rfl] at pt
  have kal := h.2.2.1.cl ha _ (List.getElem_mem hb)
  have nm : ¬ nI (kds H ((fr (nf - 1)).2.2.1.2 ((fr (nf - 1)).2.2.1.1 - 1)).1)[b] = -1 := nI_m1 (by have := (h.2.2.1.lt kal).2; omega)
  have n20 : ¬ nI o = 20 := fun e => by have := (nIe (x := 20) 20 rfl (by omega) (by omega)).mp e; omega
  have n18 : ¬ nI o = 18 := fun e => by have := (nIe (x := 18) 18 rfl (by omega) (by omega)).mp e; omega
  have n19 : ¬ nI o = 19 := fun e => by have := (nIe (x := 19) 19 rfl (by omega) (by omega)).mp e; omega
  unfold fn_X18_onReference
  simp only [b_model h.1, b_model p2.1, grd_true, p1, cal_s, p2.goes, if_neg one0, if_neg n20, if_neg n18, if_neg n19, lnk_s, nI_l (show b < 2 ^ 31 by omega), pt, if_neg nm, q1]
/-- 18 -/
theorem RM.read (hF : 300 ≤ F) (h : RM sh n z H m fr nf na ak g lim) (pu : PU H) (dd : ∀ i, (H i).1 = 0 → H i = (0, 0, 0, [])) (h1 : 1 ≤ (fr (nf - 1)).2.2.1.1) (h64 : (fr (nf - 1)).2.2.1.1 ≤ 64) (h0 : ((fr (nf - 1)).2.2.1.2 ((fr (nf - 1)).2.2.1.1 - 1)).2.1 ≠ 0) {d t : Nat} {b : Int32} (tr : Tr H d ((fr (nf - 1)).2.2.1.2 ((fr (nf - 1)).2.2.1.1 - 1)).1) (hd : d ≤ 48) (hm : m + szM H d ((fr (nf - 1)).2.2.1.2 ((fr (nf - 1)).2.2.1.1 - 1)).1 ≤ 24576) : (g + szM H d ((fr (nf - 1)).2.2.1.2 ((fr (nf - 1)).2.2.1.1 - 1)).1 ≤ lim → ∃ z' H' u' o, fn_X18_onReference F sh n z 337 18 b = some (z', ()) ∧ CpM H m d ((fr (nf - 1)).2.2.1.2 ((fr (nf - 1)).2.2.1.1 - 1)).1 H' u' o ∧ RM sh n z' H' u' (setF fr (nf - 1) (pshV (setH (fr (nf - 1)) ((fr (nf - 1)).2.2.1.1 - 1)) (m, 0, t, 0, false))) nf na ak (g + szM H d ((fr (nf - 1)).2.2.1.2 ((fr (nf - 1)).2.2.1.1 - 1)).1) lim ∧ FrR z z') ∧ (lim < g + szM H d ((fr (nf - 1)).2.2.1.2 ((fr (nf - 1)).2.2.1.1 - 1)).1 → ∃ z', fn_X18_onReference F sh n z 337 18 b = some (z', ()) ∧ RE sh n z' 2 5 lim ∧ FrR z z') := by
  obtain ⟨z1, p1, p2, p3⟩ := h.takeR (F := F) h1 h0
  have sz := sizeM_t (F := F) hF p2.1 p2.2.2.1 d _ 48 tr hd
  have n20 : ¬ (18 : Int32) = 20 := by decide
  constructor
  · intro hg
    obtain ⟨z2, s1, s2, s3⟩ := p2.spend (F := F) hg
    obtain ⟨z3, z', H', u', o, c1, c2, cL, c3, c4, c5⟩ := RM.cpy (F := F) (t := t) hF s2 pu dd tr hd hm (by rw [setF_s, setH_T]; omega)
    rw [setF_s, setF_2] at c4
    refine ⟨z', H', u', o, ?_, c3, c4, p3.trans (s3.trans c5)⟩
    unfold fn_X18_onReference
    simp only [b_model h.1, b_model p2.1, b_model s2.1, grd_true, p1, cal_s, p2.goes, if_neg one0, if_neg n20, ↓reduceIte, lnk_s, sz, s1, c1, c2]
  · intro hg
    obtain ⟨z2, s1, s2, s3⟩ := p2.spendE (F := F) hg (by omega)
    refine ⟨z2, ?_, s2, p3.trans s3⟩
    unfold fn_X18_onReference
    simp only [b_model h.1, b_model p2.1, grd_true, p1, cal_s, p2.goes, if_neg one0, if_neg n20, ↓reduceIte, lnk_s, sz, s1]
/-- 19 -/
theorem RM.wr (h : RM sh n z H m fr nf na ak g lim) (h2 : 2 ≤ (fr (nf - 1)).2.2.1.1) (h9 : ((fr (nf - 1)).2.2.1.2 ((fr (nf - 1)).2.2.1.1 - 1)).2.1 ≠ 0) (h0 : ((fr (nf - 1)).2.2.1.2 ((fr (nf - 1)).2.2.1.1 - 2)).2.1 = 0) {b : Int32} (ha : (H ((fr (nf - 1)).2.2.1.2 ((fr (nf - 1)).2.2.1.1 - 1)).1).1 ≠ 0) (hb : (H ((fr (nf - 1)).2.2.1.2 ((fr (nf - 1)).2.2.1.1 - 2)).1).1 = (H ((fr (nf - 1)).2.2.1.2 ((fr (nf - 1)).2.2.1.1 - 1)).1).1) (hne : ((fr (nf - 1)).2.2.1.2 ((fr (nf - 1)).2.2.1.1 - 1)).1 ≠ ((fr (nf - 1)).2.2.1.2 ((fr (nf - 1)).2.2.1.1 - 2)).1) (hr : Rt H ((fr (nf - 1)).2.2.1.2 ((fr (nf - 1)).2.2.1.1 - 2)).1) : ∃ z', fn_X18_onReference F sh n z 337 19 b = some (z', ()) ∧ RM sh n z' (upH (upH H ((fr (nf - 1)).2.2.1.2 ((fr (nf - 1)).2.2.1.1 - 1)).1 (H ((fr (nf - 1)).2.2.1.2 ((fr (nf - 1)).2.2.1.1 - 2)).1)) ((fr (nf - 1)).2.2.1.2 ((fr (nf - 1)).2.2.1.1 - 2)).1 (0, 0, 0, [])) m (setF fr (nf - 1) (setH (fr (nf - 1)) ((fr (nf - 1)).2.2.1.1 - 2))) nf na ak g lim ∧ FrR z z' := by
  obtain ⟨z1, p1, p2, p3⟩ := h.takeR (F := F) (by omega) h9
  have e21 : (fr (nf - 1)).2.2.1.1 - 1 - 1 = (fr (nf - 1)).2.2.1.1 - 2 := by omega
  obtain ⟨z2, q1, q2, q3⟩ := p2.takeV (F := F) (by rw [setF_s, setH_T]; omega) (by rw [setF_s]; simp only [setH]; rw [e21]; exact h0)
  rw [setF_s, setF_2] at q2
  rw [setF_s] at q1
  simp only [setH] at q1 q2
  rw [e21] at q1 q2
  have hb0 : (H ((fr (nf - 1)).2.2.1.2 ((fr (nf - 1)).2.2.1.1 - 2)).1).1 ≠ 0 := by rw [hb]; exact ha
  obtain ⟨hL, hr', hM, hf, hA, g1, g2, g3, g4⟩ := q2
  have bt := become_t (F := F) hL hM ha hb0
  have fr1 : Fr 349 354 z2 (bcS z2 ((fr (nf - 1)).2.2.1.2 ((fr (nf - 1)).2.2.1.1 - 1)).1 ((fr (nf - 1)).2.2.1.2 ((fr (nf - 1)).2.2.1.1 - 2)).1) := bc_fr
  have e337 := fr1.2 337 (by omega)
  refine ⟨_, ?_, ⟨fr1.lay hL, by unfold Run; rw [e337.1]; exact hr', bc_H hM ha hb0 hne hr, hf.of (by rw [e337.1]) (by rw [e337.1]) (fun c a b => (fr1.2 c (by omega)).1), hA.of (by rw [e337.1]) (fun c a b => fr1.2 c (by omega)), by rw [e337.1]; exact g1, by rw [e337.1]; exact g2, g3, g4⟩, p3.trans (q3.trans (tr_frR fr1))⟩
  obtain ⟨b1, b2⟩ := hM.i1 ha
  obtain ⟨c1, c2⟩ := hM.i1 hb0
  unfold fn_X18_onReference
  simp only [b_model h.1, grd_true, p1, cal_s, p2.goes, if_neg one0, if_neg (show ¬ (19 : Int32) = 20 by decide), if_neg (show ¬ (19 : Int32) = 18 by decide), ↓reduceIte, q1, goes_t hL hr', b_model hL, b_trees hL, lnk_s, b1, b2, c1, c2, (hM.row ha).1, (hM.row hb0).1, hb, bt]
/-- constants -/
theorem RM.const (h : RM sh n z H m fr nf na ak g lim) {o : Nat} {a b : Int64} (ho : (5 ≤ o ∧ o ≤ 10) ∨ o = 46) (hm : m < 24576) (h64 : (fr (nf - 1)).2.2.1.1 < 64) : ∃ z', fn_X18_constant F sh n z 337 (nI o) a b = some (z', ()) ∧ RM sh n z' (upH H m (if o = 5 then 2 else if o = 6 then 3 else if o = 7 then 4 else if o < 10 then 1 else 5, if o = 7 then a else 0, if o = 7 then b else if o = 8 then 1 else if o = 9 then 0 else if o = 46 then z.2.1 337 24 else a, [])) (m + 1) (setF fr (nf - 1) (pshV (fr (nf - 1)) (m, 0, if o = 5 then 2 else if o = 6 then 3 else if o = 7 then 4 else if o < 10 then 1 else 5, 0, false))) nf na ak g lim ∧ FrR z z' := by
  have go : ∀ (k t : Nat) (x y : Int64), k < 8 → ∃ z', fn_X18_make F sh n z 337 (nI k) x y = some (z', ()) ∧ RM sh n z' (upH H m (k, x, y, [])) (m + 1) (setF fr (nf - 1) (pshV (fr (nf - 1)) (m, 0, t, 0, false))) nf na ak g lim ∧ FrR z z' := fun k t x y hk => h.make (F := F) t hk hm h64
  have hcases : o = 5 ∨ o = 6 ∨ o = 7 ∨ o = 8 ∨ o = 9 ∨ o = 10 ∨ o = 46 := by omega
  rcases hcases with e | e | e | e | e | e | e <;> subst e
  · obtain ⟨z', p1, p2, p3⟩ := go 2 2 0 a (by omega)
    refine ⟨z', ?_, p2, p3⟩
    unfold fn_X18_constant
    rw [if_pos (by rfl), show (2 : Int32) = nI 2 from rfl, p1]
    simp only [b_model h.1, grd_true, cal_s]
  · obtain ⟨z', p1, p2, p3⟩ := go 3 3 0 a (by omega)
    refine ⟨z', ?_, p2, p3⟩
    unfold fn_X18_constant
    rw [if_neg (by decide), if_pos (by rfl), show (3 : Int32) = nI 3 from rfl, p1]
    simp only [b_model h.1, grd_true, cal_s]
  · obtain ⟨z', p1, p2, p3⟩ := go 4 4 a b (by omega)
    refine ⟨z', ?_, p2, p3⟩
    unfold fn_X18_constant
    rw [if_neg (by decide), if_neg (by decide), if_pos (by rfl), show (4 : Int32) = nI 4 from rfl, p1]
    simp only [b_model h.1, grd_true, cal_s]
  · obtain ⟨z', p1, p2, p3⟩ := go 1 1 0 1 (by omega)
    refine ⟨z', ?_, p2, p3⟩
    unfold fn_X18_constant
    rw [if_neg (by decide), if_neg (by decide), if_neg (by decide), if_neg (by decide), if_pos (by rfl), show (1 : Int32) = nI 1 from rfl, p1]
    simp only [b_model h.1, grd_true, cal_s]
  · obtain ⟨z', p1, p2, p3⟩ := go 1 1 0 0 (by omega)
    refine ⟨z', ?_, p2, p3⟩
    unfold fn_X18_constant
    rw [if_neg (by decide), if_neg (by decide), if_neg (by decide), if_neg (by decide), if_neg (by decide), show (1 : Int32) = nI 1 from rfl, p1]
    simp only [b_model h.1, grd_true, cal_s]
  · obtain ⟨z', p1, p2, p3⟩ := go 5 5 0 a (by omega)
    refine ⟨z', ?_, p2, p3⟩
    unfold fn_X18_constant
    rw [if_neg (by decide), if_neg (by decide), if_neg (by decide), if_pos (by decide), if_pos (by rfl), show (5 : Int32) = nI 5 from rfl, p1]
    simp only [b_model h.1, grd_true, cal_s]
  · obtain ⟨z', p1, p2, p3⟩ := go 5 5 0 (z.2.1 337 24) (by omega)
    refine ⟨z', ?_, p2, p3⟩
    unfold fn_X18_constant
    rw [if_neg (by decide), if_neg (by decide), if_neg (by decide), if_pos (by decide), if_neg (by decide), show (5 : Int32) = nI 5 from rfl, p1]
    simp only [b_model h.1, grd_true, cal_s]
/-- 42, 43, 44 -/
theorem RM.conv (h : RM sh n z H m fr nf na ak g lim) (h1 : 1 ≤ (fr (nf - 1)).2.2.1.1) (h64 : (fr (nf - 1)).2.2.1.1 ≤ 64) (h0 : ((fr (nf - 1)).2.2.1.2 ((fr (nf - 1)).2.2.1.1 - 1)).2.1 = 0) (ha : (H ((fr (nf - 1)).2.2.1.2 ((fr (nf - 1)).2.2.1.1 - 1)).1).1 ≠ 0) {k : Nat} (hk : k = 2 ∨ k = 3 ∨ k = 4) (hm : m < 24576) {b : Bool} (hb : ∀ z, fn_X17_isOf F sh n z (H ((fr (nf - 1)).2.2.1.2 ((fr (nf - 1)).2.2.1.1 - 1)).1).2.1 (H ((fr (nf - 1)).2.2.1.2 ((fr (nf - 1)).2.2.1.1 - 1)).1).2.2.1 (nI (if k = 2 then 8 else if k = 4 then 128 else 64)) = some (z, bI b)) : (b = true → ∃ z', fn_X18_convert F sh n z 337 (nI k) = some (z', ()) ∧ RM sh n z' (upH H m (k, (H ((fr (nf - 1)).2.2.1.2 ((fr (nf - 1)).2.2.1.1 - 1)).1).2.1, (H ((fr (nf - 1)).2.2.1.2 ((fr (nf - 1)).2.2.1.1 - 1)).1).2.2.1, [])) (m + 1) (setF fr (nf - 1) (pshV (setH (fr (nf - 1)) ((fr (nf - 1)).2.2.1.1 - 1)) (m, 0, k, 0, false))) nf na ak g lim ∧ FrR z z') ∧ (b = false → ∃ z', fn_X18_convert F sh n z 337 (nI k) = some (z', ()) ∧ RE sh n z' 2 1 g ∧ FrR z z') := by
  obtain ⟨z1, p1, p2, p3⟩ := h.takeV (F := F) h1 h0
  obtain ⟨b1, b2⟩ := p2.2.2.1.i1 ha
  obtain ⟨r1, r2, r3, _, _⟩ := p2.2.2.1.row ha
  have bits : ∀ z, fn_X18_bitsOf F sh n z (nI k) = some (z, nI (if k = 2 then 8 else if k = 4 then 128 else 64)) := fun z => by
    unfold fn_X18_bitsOf
    rcases hk with e | e | e <;> subst e <;> rfl
  constructor
  · intro hb1
    obtain ⟨z', q1, q2, q3⟩ := p2.make (F := F) (k := k) (x := (H ((fr (nf - 1)).2.2.1.2 ((fr (nf - 1)).2.2.1.1 - 1)).1).2.1) (y := (H ((fr (nf - 1)).2.2.1.2 ((fr (nf - 1)).2.2.1.1 - 1)).1).2.2.1) k (by omega) hm (by rw [setF_s, setH_T]; omega)
    rw [setF_s, setF_2] at q2
    refine ⟨z', ?_, q2, p3.trans q3⟩
    unfold fn_X18_convert
    simp only [b_model h.1, b_model p2.1, b_trees p2.1, grd_true, p1, cal_s, p2.goes, if_neg one0, lnk_s, b1, b2, r2, r3, bits, hb, hb1, bI_t, q1]
  · intro hb0
    obtain ⟨z', q1, q2, q3⟩ := p2.fin (F := F) 2 1
    refine ⟨z', ?_, q2, p3.trans q3⟩
    unfold fn_X18_convert
    simp only [b_model h.1, b_model p2.1, b_trees p2.1, grd_true, p1, cal_s, p2.goes, if_neg one0, lnk_s, b1, b2, r2, r3, bits, hb, hb0, bI_f, ↓reduceIte, show (2 : Int32) = nI 2 from rfl, q1]
end
