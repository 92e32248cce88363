/-! THE REFERENCE'S MACHINE: reckoning, vectors -/
section
variable {F n : Nat} {sh : Nat → Nat × Nat} {z z' : St} {H : Hp} {m : Nat} {fr : Nat → Fm} {nf na : Nat} {ak : Nat → Ask} {g lim : Nat}
theorem RM.mov (h : RM sh n z H m fr nf na ak g lim) {H' : Hp} {m' : Nat} (eL : z'.2.2 = z.2.2) (e0 : z'.1 337 = z.1 337) (e1 : ∀ k, 385 ≤ k → k ≤ 398 → z'.1 k = z.1 k) (e2 : ∀ k, 385 ≤ k → k ≤ 390 → z'.2.1 k = z.2.1 k) (hM : HM z' H' m') : RM sh n z' H' m' fr nf na ak g lim := by
  obtain ⟨hL, hr, _, hf, ha, h1, h2, h3, h4⟩ := h
  exact ⟨hL.of eL, by unfold Run; rw [e0]; exact hr, hM, hf.of (by rw [e0]) (by rw [e0]) (fun c a b => e1 c (by omega) b), ha.of (by rw [e0]) (fun c a b => ⟨e1 c a (by omega), e2 c a b⟩), by rw [e0]; exact h1, by rw [e0]; exact h2, h3, h4⟩
theorem RM.tree (h : RM sh n z H m fr nf na ak g lim) {H' : Hp} {m' : Nat} (f : Fr 349 354 z z') (hM : HM z' H' m') : RM sh n z' H' m' fr nf na ak g lim ∧ FrR z z' := ⟨h.mov f.1 (f.2 337 (by omega)).1 (fun k a b => (f.2 k (by omega)).1) (fun k a b => (f.2 k (by omega)).2) hM, tr_frR f⟩
/-- two values are taken -/
theorem RM.take2 (h : RM sh n z H m fr nf na ak g lim) (h2 : 2 ≤ (fr (nf - 1)).2.2.1.1) (h0 : ((fr (nf - 1)).2.2.1.2 ((fr (nf - 1)).2.2.1.1 - 1)).2.1 = 0) (h1 : ((fr (nf - 1)).2.2.1.2 ((fr (nf - 1)).2.2.1.1 - 2)).2.1 = 0) : ∃ z1 z2, fn_X18_takeAny F sh n z 337 0 = some (z1, nI ((fr (nf - 1)).2.2.1.2 ((fr (nf - 1)).2.2.1.1 - 1)).1) ∧ fn_X18_takeAny F sh n z1 337 0 = some (z2, nI ((fr (nf - 1)).2.2.1.2 ((fr (nf - 1)).2.2.1.1 - 2)).1) ∧ RM sh n z2 H m (setF fr (nf - 1) (setH (fr (nf - 1)) ((fr (nf - 1)).2.2.1.1 - 2))) nf na ak g lim ∧ FrR z z2 := by
  obtain ⟨z1, p1, p2, p3⟩ := h.takeV (F := F) (by omega) h0
  have e21 : (fr (nf - 1)).2.2.1.1 - 1 - 1 = (fr (nf - 1)).2.2.1.1 - 2 := by omega
  obtain ⟨z2, q1, q2, q3⟩ := p2.takeV (F := F) (by rw [setF_s, setH_T]; omega) (by rw [setF_s]; simp only [setH]; rw [e21]; exact h1)
  rw [setF_s, setF_2] at q2
  rw [setF_s] at q1
  simp only [setH] at q1 q2
  rw [e21] at q1 q2
  exact ⟨z1, z2, p1, q1, q2, p3.trans q3⟩
/-- reckoning: what both values are, then the operation alone -/
theorem RM.reck0 (h : RM sh n z H m fr nf na ak g lim) (h2 : 2 ≤ (fr (nf - 1)).2.2.1.1) (h0 : ((fr (nf - 1)).2.2.1.2 ((fr (nf - 1)).2.2.1.1 - 1)).2.1 = 0) (h1 : ((fr (nf - 1)).2.2.1.2 ((fr (nf - 1)).2.2.1.1 - 2)).2.1 = 0) {a b : Nat} (ea : ((fr (nf - 1)).2.2.1.2 ((fr (nf - 1)).2.2.1.1 - 2)).1 = a) (eb : ((fr (nf - 1)).2.2.1.2 ((fr (nf - 1)).2.2.1.1 - 1)).1 = b) (ha : (H a).1 ≠ 0) (hb : (H b).1 = (H a).1) (o : Int32) : ∃ z2, RM sh n z2 H m (setF fr (nf - 1) (setH (fr (nf - 1)) ((fr (nf - 1)).2.2.1.1 - 2))) nf na ak g lim ∧ FrR z z2 ∧ fn_X18_reckon F sh n z 337 o = fn_X18_reckon_B44 F sh n 337 (nI a) (nI b) o z2 := by
  obtain ⟨z1, z2, p1, p2, p3, p4⟩ := h.take2 (F := F) h2 h0 h1
  rw [eb] at p1
  rw [ea] at p2
  have hb0 : (H b).1 ≠ 0 := by rw [hb]; exact ha
  obtain ⟨b1, b2⟩ := p3.2.2.1.i1 ha
  obtain ⟨c1, c2⟩ := p3.2.2.1.i1 hb0
  refine ⟨z2, p3, p4, ?_⟩
  unfold fn_X18_reckon
  simp only [b_model h.1, b_model p3.1, b_trees p3.1, grd_true, p1, p2, cal_s, p3.goes, if_neg one0, lnk_s, b1, b2, c1, c2, (p3.2.2.1.row ha).1, (p3.2.2.1.row hb0).1, hb, ↓reduceIte]
theorem RM.B44 (h : RM sh n z H m fr nf na ak g lim) {a b : Nat} (ha : (H a).1 ≠ 0) (hb : (H b).1 ≠ 0) {o : Nat} (ho : o < 60) : (o < 29 → fn_X18_reckon_B44 F sh n 337 (nI a) (nI b) (nI o) z = cal (fn_X18_bitsOf F sh n z (nI (H a).1)) (fun z_101 r_102 => cal (fn_X17_reckon F sh n z_101 368 (nI o) (H a).2.1 (H a).2.2.1 (H b).2.1 (H b).2.2.1 r_102) (fun z_104 r_105 => if r_105 = 0 then cal (fn_X18_end F sh n z_104 337 2 1) (fun z_109 _ => some (z_109, ())) else lnk (z_104.2.2 337 17) (fun k_111 => grd (okO sh n k_111 17) (lnk (z_104.2.2 337 17) (fun k_113 => grd (okO sh n k_113 17) (cal (fn_X18_make F sh n z_104 337 (nI (H a).1) (z_104.2.1 k_111 3) (z_104.2.1 k_113 4)) (fun z_115 _ => some (z_115, ()))))))))) := by
  obtain ⟨b1, b2⟩ := h.2.2.1.i1 ha
  obtain ⟨c1, c2⟩ := h.2.2.1.i1 hb
  obtain ⟨r1, r2, r3, _, _⟩ := h.2.2.1.row ha
  obtain ⟨s1, s2, s3, _, _⟩ := h.2.2.1.row hb
  intro h29
  have n29 : ¬ (29 : Int32) ≤ nI o := fun q => by have := (nIge (x := 29) 29 rfl (by omega) (by omega)).mp q; omega
  unfold fn_X18_reckon_B44
  simp only [b_model h.1, b_trees h.1, grd_true, h.goes, cal_s, if_neg one0, lnk_s, lt_t, b1, b2, c1, c2, r1, r2, r3, s2, s3, if_neg n29]
theorem bits_t {k : Nat} (hk : k < 8) : fn_X18_bitsOf F sh n z (nI k) = some (z, nI (if k = 2 then 8 else if k = 4 then 128 else 64)) := by
  unfold fn_X18_bitsOf
  have : ∀ k, k < 8 → (if nI k = 2 then (8 : Int32) else if nI k = 4 then 128 else 64) = nI (if k = 2 then 8 else if k = 4 then 128 else 64) := by decide
  have e := this k hk
  by_cases c2 : nI k = 2
  · rw [if_pos c2]; rw [if_pos c2] at e; rw [e]
  · rw [if_neg c2]; rw [if_neg c2] at e
    by_cases c4 : nI k = 4
    · rw [if_pos c4]; rw [if_pos c4] at e; rw [e]
    · rw [if_neg c4]; rw [if_neg c4] at e; rw [e]
/-- 24 .. 28 -/
theorem RM.arith (hF : 200 < F) (W : ∀ z, Lay sh n z → WM sh n z.2.2 368 369 370 371) (h : RM sh n z H m fr nf na ak g lim) (h2 : 2 ≤ (fr (nf - 1)).2.2.1.1) (h64 : (fr (nf - 1)).2.2.1.1 ≤ 64) (h0 : ((fr (nf - 1)).2.2.1.2 ((fr (nf - 1)).2.2.1.1 - 1)).2.1 = 0) (h1 : ((fr (nf - 1)).2.2.1.2 ((fr (nf - 1)).2.2.1.1 - 2)).2.1 = 0) {a b t : Nat} (ea : ((fr (nf - 1)).2.2.1.2 ((fr (nf - 1)).2.2.1.1 - 2)).1 = a) (eb : ((fr (nf - 1)).2.2.1.2 ((fr (nf - 1)).2.2.1.1 - 1)).1 = b) (ha : (H a).1 ≠ 0) (hb : (H b).1 = (H a).1) {o : Nat} (ho : 24 ≤ o) (ho2 : o < 29) (hm : m < 24576) : (∃ X x y, rk (nI o) (V2 (H a).2.1 (H a).2.2.1) (V2 (H b).2.1 (H b).2.2.1) = some X ∧ X < 2 ^ bb2 (nI (if (H a).1 = 2 then 8 else if (H a).1 = 4 then 128 else 64)) ∧ V2 x y = X ∧ ∃ z', fn_X18_reckon F sh n z 337 (nI o) = some (z', ()) ∧ RM sh n z' (upH H m ((H a).1, x, y, [])) (m + 1) (setF fr (nf - 1) (pshV (setH (fr (nf - 1)) ((fr (nf - 1)).2.2.1.1 - 2)) (m, 0, t, 0, false))) nf na ak g lim ∧ FrR z z') ∨ ((∀ X, rk (nI o) (V2 (H a).2.1 (H a).2.2.1) (V2 (H b).2.1 (H b).2.2.1) = some X → ¬ X < 2 ^ bb2 (nI (if (H a).1 = 2 then 8 else if (H a).1 = 4 then 128 else 64))) ∧ ∃ z', fn_X18_reckon F sh n z 337 (nI o) = some (z', ()) ∧ RE sh n z' 2 1 g ∧ FrR z z') := by
  obtain ⟨z2, p1, p2, p3⟩ := h.reck0 (F := F) h2 h0 h1 ea eb ha hb (nI o)
  have hb0 : (H b).1 ≠ 0 := by rw [hb]; exact ha
  have e := p1.B44 (F := F) ha hb0 (o := o) (by omega) (by omega)
  rw [p3, e, bits_t (h.2.2.1.k8 ha), cal_s]
  obtain ⟨z3, r, w1, w2, w3, w4, w5⟩ := reckM_t (W z2 p1.1) hF (nI o) (nI (if (H a).1 = 2 then 8 else if (H a).1 = 4 then 128 else 64)) (H a).2.1 (H a).2.2.1 (H b).2.1 (H b).2.2.1
  have hL3 : Lay sh n z3 := p1.1.of w3
  have M3 : RM sh n z3 H m (setF fr (nf - 1) (setH (fr (nf - 1)) ((fr (nf - 1)).2.2.1.1 - 2))) nf na ak g lim := p1.mov w3 (w2 337 (by decide) (by decide) (by decide)) (fun k a b => w2 k (by omega) (by omega) (by omega)) (fun k a b => w4 k (by omega)) (p1.2.2.1.fr (fun k a b => w2 k (by omega) (by omega) (by omega)) (fun k a b => w4 k (by omega)))
  have F3 : FrR z2 z3 := ⟨w3, fun k k1 k2 => ⟨w2 k (fun q => k2 (by rw [q]; right; left; omega)) (fun q => k2 (by rw [q]; right; left; omega)) (fun q => k2 (by rw [q]; right; left; omega)), w4 k (fun q => k2 (by rw [q]; right; left; omega))⟩, fun j _ => by rw [w2 337 (by decide) (by decide) (by decide), w4 337 (by decide)]; exact ⟨rfl, rfl⟩⟩
  rw [w1, cal_s]
  rcases w5 with ⟨hr, X, x1, x2, x3⟩ | ⟨hr, hx⟩
  · left
    obtain ⟨z', q1, q2, q3⟩ := M3.make (F := F) (k := (H a).1) (x := z3.2.1 368 3) (y := z3.2.1 368 4) t (h.2.2.1.k8 ha) hm (by rw [setF_s, setH_T]; omega)
    rw [setF_s, setF_2] at q2
    refine ⟨X, z3.2.1 368 3, z3.2.1 368 4, x1, x2, x3, z', ?_, q2, p2.trans (F3.trans q3)⟩
    rw [hr, if_neg one0]
    simp only [b_model hL3, grd_true, lnk_s, q1, cal_s]
  · right
    obtain ⟨z', q1, q2, q3⟩ := M3.fin (F := F) 2 1
    refine ⟨hx, z', ?_, q2, p2.trans (F3.trans q3)⟩
    rw [hr, if_pos rfl, show (2 : Int32) = nI 2 from rfl, q1, cal_s]
/-- the vector that a reference points to is taken -/
theorem RM.vec (h : RM sh n z H m fr nf na ak g lim) (h1 : 1 ≤ (fr (nf - 1)).2.2.1.1) (h0 : ((fr (nf - 1)).2.2.1.2 ((fr (nf - 1)).2.2.1.1 - 1)).2.1 ≠ 0) (ha : (H ((fr (nf - 1)).2.2.1.2 ((fr (nf - 1)).2.2.1.1 - 1)).1).1 = 7) (o : Int32) (p3 p5 : Int64) (p7 : Int32) : ∃ z1, RM sh n z1 H m (setF fr (nf - 1) (setH (fr (nf - 1)) ((fr (nf - 1)).2.2.1.1 - 1))) nf na ak g lim ∧ FrR z z1 ∧ fn_X18_onVector_B175 F sh n 337 o p3 p5 z p7 = fn_X18_onVector_B210 F sh n 337 o (nI ((fr (nf - 1)).2.2.1.2 ((fr (nf - 1)).2.2.1.1 - 1)).1) p7 p3 p5 z1 := by
  have hal : (H ((fr (nf - 1)).2.2.1.2 ((fr (nf - 1)).2.2.1.1 - 1)).1).1 ≠ 0 := by omega
  obtain ⟨z1, q1, q2, q3⟩ := h.takeR (F := F) h1 h0
  obtain ⟨b1, b2⟩ := q2.2.2.1.i1 hal
  have r1 := (q2.2.2.1.row hal).1
  rw [ha] at r1
  refine ⟨z1, q2, q3, ?_⟩
  unfold fn_X18_onVector_B175
  simp only [b_model h.1, b_model q2.1, b_trees q2.1, grd_true, q1, cal_s, q2.goes, if_neg one0, lnk_s, b1, b2, r1]
  rw [if_pos (by rfl)]
/-- 53 -/
theorem RM.v53 (hF : 300 ≤ F) (h : RM sh n z H m fr nf na ak g lim) (h1 : 1 ≤ (fr (nf - 1)).2.2.1.1) (h64 : (fr (nf - 1)).2.2.1.1 ≤ 64) (h0 : ((fr (nf - 1)).2.2.1.2 ((fr (nf - 1)).2.2.1.1 - 1)).2.1 ≠ 0) (ha : (H ((fr (nf - 1)).2.2.1.2 ((fr (nf - 1)).2.2.1.1 - 1)).1).1 = 7) {b : Int32} (hm : m < 24576) : ∃ z', fn_X18_onVector F sh n z 337 53 b = some (z', ()) ∧ RM sh n z' (upH H m (3, 0, lN (kds H ((fr (nf - 1)).2.2.1.2 ((fr (nf - 1)).2.2.1.1 - 1)).1).length, [])) (m + 1) (setF fr (nf - 1) (pshV (setH (fr (nf - 1)) ((fr (nf - 1)).2.2.1.1 - 1)) (m, 0, 3, 0, false))) nf na ak g lim ∧ FrR z z' := by
  have hal : (H ((fr (nf - 1)).2.2.1.2 ((fr (nf - 1)).2.2.1.1 - 1)).1).1 ≠ 0 := by omega
  obtain ⟨z1, q1, q2, q3⟩ := h.vec (F := F) h1 h0 ha 53 0 0 0
  have ct := count_t (F := F) hF q1.1 q1.2.2.1 hal
  have hl := h.2.2.1.len hal
  obtain ⟨z', s1, s2, s3⟩ := q1.make (F := F) (k := 3) (x := 0) (y := lN (kds H ((fr (nf - 1)).2.2.1.2 ((fr (nf - 1)).2.2.1.1 - 1)).1).length) 3 (by omega) hm (by rw [setF_s, setH_T]; omega)
  rw [setF_s, setF_2] at s2
  refine ⟨z', ?_, s2, q2.trans s3⟩
  unfold fn_X18_onVector
  rw [if_neg (by decide), if_neg (by decide), if_neg (by decide), if_neg (by decide), if_neg (by decide)]
  unfold fn_X18_onVector_B143
  rw [if_neg (by decide)]
  unfold fn_X18_onVector_B158
  rw [if_neg (by decide), q3]
  unfold fn_X18_onVector_B210
  rw [show (3 : Int32) = nI 3 from rfl]
  simp only [b_model q1.1, grd_true, q1.goes, cal_s, if_neg one0, ↓reduceIte, lnk_s, ct, nI_l (show (kds H ((fr (nf - 1)).2.2.1.2 ((fr (nf - 1)).2.2.1.1 - 1)).1).length < 2 ^ 31 by omega), s1]
end
