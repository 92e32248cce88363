/-! THE CLASS'S MACHINE: reckoning, operation by operation -/
theorem kb_nz {k : Nat} (h : k = 2 ∨ k = 3 ∨ k = 4) : kb (nI k) = bt k ∧ bb2 (nI (if k = 2 then 8 else if k = 4 then 128 else 64)) = bt k := by
  rcases h with e | e | e <;> subst e <;> exact ⟨by decide, by decide⟩
theorem bt_128 (k : Nat) : bt k ≤ 128 := by rcases bt_3 k with e | e | e <;> omega
theorem kb_1 (k : Nat) (hk : k < 6) (h : k ≠ 3) (h4 : k ≠ 4) : kb (nI k) = 8 := by
  have : k = 0 ∨ k = 1 ∨ k = 2 ∨ k = 5 := by omega
  rcases this with e | e | e | e <;> subst e <;> decide
section
variable {F n : Nat} {sh : Nat → Nat × Nat} {z z' : St} {pk : Nat → Nat} {kt : Nat} {H : Hp} {m : Nat} {sl0 : Int32} {fr : Nat → Fm} {cs cl : Nat → Nat → Nat} {nf g lim : Nat}
/-- 24 .. 28 -/
theorem CM.arith (hF : 300 ≤ F) (h : CM sh n z pk kt H m sl0 fr cs cl nf g lim) (h2 : 2 ≤ (fr (nf - 1)).2.2.1.1) {a b o : Nat} (ea : cs (nf - 1) ((fr (nf - 1)).2.2.1.1 - 2) = a) (eb : cs (nf - 1) ((fr (nf - 1)).2.2.1.1 - 1) = b) (ha : (H a).1 = 2 ∨ (H a).1 = 3 ∨ (H a).1 = 4) (hb : (H b).1 = (H a).1) (ho : 24 ≤ o) (ho2 : o < 29) (hm : m < 21600) (s : Sl) : (∀ X x y, rk (nI o) (V2 (H a).2.1 (H a).2.2.1) (V2 (H b).2.1 (H b).2.2.1) = some X → X < 2 ^ bt (H a).1 → V2 x y = X → ∃ z', fn_X4_reckon F sh n z 87 (nI o) = some (z', ()) ∧ CM sh n z' pk kt (upH H m ((H a).1, x, y, [])) (m + 1) sl0 (setF fr (nf - 1) (pshV (setH (fr (nf - 1)) ((fr (nf - 1)).2.2.1.1 - 2)) s)) (up2 cs (nf - 1) ((fr (nf - 1)).2.2.1.1 - 2) m) cl nf g lim ∧ FrD z z') ∧ ((∀ X, rk (nI o) (V2 (H a).2.1 (H a).2.2.1) (V2 (H b).2.1 (H b).2.2.1) = some X → ¬ X < 2 ^ bt (H a).1) → ∃ z', fn_X4_reckon F sh n z 87 (nI o) = some (z', ()) ∧ CE sh n z' 2 1 g sl0 ∧ FrD z z') := by
  obtain ⟨b1, _⟩ := h.2.2.1.2.2.2 (nf - 1) (by have := h.2.2.1.2.1; omega)
  have k14 : 1 ≤ (H a).1 ∧ (H a).1 ≤ 4 := by omega
  have al0 : (H a).1 ≠ 0 := by omega
  obtain ⟨z3, c1, c2, ⟨c3, c4, c5⟩, c6⟩ := h.reck0 (F := F) h2 ea eb (by omega) (by omega) (o := o) (by omega) (by omega) (.inr ⟨by omega, by omega, hb.symm⟩)
  have la := c1.2.1.leaf (i := a) (by omega) (by unfold inn; omega)
  have lb := c1.2.1.leaf (i := b) (by omega) (by unfold inn; omega)
  rw [if_pos ((nIlt (x := 36) 36 rfl (by omega) (by omega)).mpr (by omega)), if_pos ((nIlt (x := 32) 32 rfl (by omega) (by omega)).mpr (by omega)), lb.1, lb.2] at c6
  obtain ⟨z4, d1, d2, d3⟩ := combine_t (F := F) hF c1.1 ho ho2 (H b).2.1 (H b).2.2.1
  rw [c4, c5, la.1, la.2] at d3
  have C4 := c1.w93 d2
  have kbe := (kb_nz ha).1
  have k1 : (H a).1 ≠ 1 := by omega
  obtain ⟨e1, e2⟩ := C4.pushWide (F := F) (by rw [setF_s, setH_T]; omega) hm (k := (H a).1) k14 s
  rw [setF_s, setF_2, setH_T] at e1
  rw [kbe] at e1 e2
  constructor
  · intro X x y hX hlt hxy
    rcases d3 with ⟨f1, X', f2, f3, f4⟩ | ⟨f1, f2⟩
    · have : X' = X := by rw [hX] at f2; exact (Option.some.inj f2).symm
      subst this
      obtain ⟨q1, q2⟩ := V2_inj (f4.trans hxy.symm)
      obtain ⟨z5, g1, g2, g3⟩ := e1 (Or.inr ⟨f1, by rw [f4]; exact hlt⟩)
      rw [q1, q2] at g2
      exact ⟨z5, by rw [c6, d1, cal_s, rkW_t C4 al0, g1, cal_s], g2, (c2.trans d2.d).trans g3.d⟩
    · exact absurd (Nat.lt_of_lt_of_le hlt (Nat.pow_le_pow_right (by omega) (bt_128 _))) (f2 X hX)
  · intro hX
    have : ¬ (z4.1 93 2 = 0 ∧ V2 (z4.2.1 93 0) (z4.2.1 93 1) < 2 ^ bt (H a).1) := by
      rintro ⟨q1, q2⟩
      rcases d3 with ⟨f1, X', f2, f3, f4⟩ | ⟨f1, f2⟩
      · rw [f4] at q2; exact hX X' f2 q2
      · rw [q1] at f1; exact absurd f1 (by decide)
    obtain ⟨z5, g1, g2, g3⟩ := e2 k1 this
    exact ⟨z5, by rw [c6, d1, cal_s, rkW_t C4 al0, g1, cal_s], g2, (c2.trans d2.d).trans g3.d⟩
/-- 29 .. 31 -/
theorem cmb_29 (hL : Lay sh n z) {o : Nat} (ho : o = 29 ∨ o = 30 ∨ o = 31) (x y : Int64) : fn_X4_combine F sh n z 87 (nI o) x y = some (wS z (if o = 29 then z.2.1 93 0 &&& x else if o = 30 then z.2.1 93 0 ||| x else z.2.1 93 0 ^^^ x) (if o = 29 then z.2.1 93 1 &&& y else if o = 30 then z.2.1 93 1 ||| y else z.2.1 93 1 ^^^ y), ()) := by
  have mk := (b_mach hL).1
  have l3 := hL.2.2 87 3 93 rfl
  have ok := b_wide hL
  rcases ho with e | e | e <;> subst e
  · unfold fn_X4_combine
    rw [if_neg (by decide), if_neg (by decide), if_neg (by decide), if_neg (by decide), if_neg (by decide), if_pos (by decide), mk, grd_true, l3, lnk_s, lnk_s, ok, grd_true, lnk_s, ok, grd_true, grd_true, set93 hL, cal_s]
    rfl
  · unfold fn_X4_combine
    rw [if_neg (by decide), if_neg (by decide), if_neg (by decide), if_neg (by decide), if_neg (by decide), if_neg (by decide), if_pos (by decide), mk, grd_true, l3, lnk_s, lnk_s, ok, grd_true, lnk_s, ok, grd_true, grd_true, set93 hL, cal_s]
    rfl
  · unfold fn_X4_combine
    rw [if_neg (by decide), if_neg (by decide), if_neg (by decide), if_neg (by decide), if_neg (by decide), if_neg (by decide), if_neg (by decide), mk, grd_true, l3, lnk_s, lnk_s, ok, grd_true, lnk_s, ok, grd_true, grd_true, set93 hL, cal_s]
    rfl
theorem CM.bits (h : CM sh n z pk kt H m sl0 fr cs cl nf g lim) (h2 : 2 ≤ (fr (nf - 1)).2.2.1.1) {a b o : Nat} (ea : cs (nf - 1) ((fr (nf - 1)).2.2.1.1 - 2) = a) (eb : cs (nf - 1) ((fr (nf - 1)).2.2.1.1 - 1) = b) (ha0 : (H a).1 ≠ 0) (ha : (H a).1 < 5) (hb : (H b).1 = (H a).1) (ho : o = 29 ∨ o = 30 ∨ o = 31) (hm : m < 21600) (s : Sl) {x y : Int64} (hx : x = if o = 29 then (H a).2.1 &&& (H b).2.1 else if o = 30 then (H a).2.1 ||| (H b).2.1 else (H a).2.1 ^^^ (H b).2.1) (hy : y = if o = 29 then (H a).2.2.1 &&& (H b).2.2.1 else if o = 30 then (H a).2.2.1 ||| (H b).2.2.1 else (H a).2.2.1 ^^^ (H b).2.2.1) (hf : (H a).1 ≠ 1 → V2 x y < 2 ^ kb (nI (H a).1)) : ∃ z', fn_X4_reckon F sh n z 87 (nI o) = some (z', ()) ∧ CM sh n z' pk kt (upH H m ((H a).1, x, y, [])) (m + 1) sl0 (setF fr (nf - 1) (pshV (setH (fr (nf - 1)) ((fr (nf - 1)).2.2.1.1 - 2)) s)) (up2 cs (nf - 1) ((fr (nf - 1)).2.2.1.1 - 2) m) cl nf g lim ∧ FrD z z' := by
  obtain ⟨b1, _⟩ := h.2.2.1.2.2.2 (nf - 1) (by have := h.2.2.1.2.1; omega)
  obtain ⟨z3, c1, c2, ⟨c3, c4, c5⟩, c6⟩ := h.reck0 (F := F) h2 ea eb (by omega) (by omega) (o := o) (by omega) (by omega) (.inr ⟨by omega, by omega, hb.symm⟩)
  have la := c1.2.1.leaf (i := a) (by omega) (by unfold inn; omega)
  have lb := c1.2.1.leaf (i := b) (by omega) (by unfold inn; omega)
  rw [if_pos ((nIlt (x := 36) 36 rfl (by omega) (by omega)).mpr (by omega)), if_pos ((nIlt (x := 32) 32 rfl (by omega) (by omega)).mpr (by omega)), lb.1, lb.2, cmb_29 c1.1 ho, cal_s, c4, c5, la.1, la.2, ← hx, ← hy] at c6
  have C4 := c1.w93 (wS_fr (z := z3) (x := x) (y := y))
  obtain ⟨v1, v2, v3⟩ := wS_v z3 x y
  obtain ⟨e1, e2⟩ := C4.pushWide (F := F) (by rw [setF_s, setH_T]; omega) hm (k := (H a).1) (by omega) s
  rw [setF_s, setF_2, setH_T, v1, v2] at e1
  obtain ⟨z5, g1, g2, g3⟩ := e1 (by
    by_cases c : (H a).1 = 1
    · exact Or.inl c
    · exact Or.inr ⟨v3, hf c⟩)
  exact ⟨z5, by rw [c6, rkW_t C4 ha0, g1, cal_s], g2, (c2.trans wS_fr.d).trans g3.d⟩
theorem bitsC_t {k : Nat} (hk : k = 2 ∨ k = 3 ∨ k = 4) : fn_X10_bitsOf F sh n z (nI k) = some (z, nI (bt k)) := by
  rcases hk with e | e | e <;> subst e
  · unfold fn_X10_bitsOf; rw [if_pos (by decide)]; rfl
  · unfold fn_X10_bitsOf; rw [if_neg (by decide), if_pos (by decide)]; rfl
  · unfold fn_X10_bitsOf; rw [if_neg (by decide), if_neg (by decide)]; rfl
theorem cut_t (hL : Lay sh n z) {k : Nat} (hk : k = 2 ∨ k = 3 ∨ k = 4) : ∃ z', fn_X10_cut F sh n z 93 (nI k) = some (z', ()) ∧ FrW z z' ∧ z'.1 93 2 = z.1 93 2 ∧ V2 (z'.2.1 93 0) (z'.2.1 93 1) = V2 (z.2.1 93 0) (z.2.1 93 1) % 2 ^ bt k := by
  have ok := b_wide hL
  rcases hk with e | e | e <;> subst e
  · refine ⟨sl (sl z 93 0 0) 93 1 ((z.2.1 93 1) &&& 255), ?_, FrW.sl.trans FrW.sl, by simp [sl_1], ?_⟩
    · unfold fn_X10_cut
      rw [if_neg (by decide), ok, grd_true, lt_t]
      unfold fn_X10_cut_B10
      rw [if_pos (by decide), ok, grd_true, lt_t]
      simp [sl_2]
    · have e1 : (sl (sl z 93 0 0) 93 1 ((z.2.1 93 1) &&& 255)).2.1 93 0 = 0 := by simp [sl_2]
      have e2 : (sl (sl z 93 0 0) 93 1 ((z.2.1 93 1) &&& 255)).2.1 93 1 = (z.2.1 93 1) &&& 255 := by simp [sl_2]
      rw [e1, e2]
      unfold V2 bt
      rw [N_255, N_0, if_pos rfl]
      omega
  · refine ⟨sl z 93 0 0, ?_, FrW.sl, by simp [sl_1], ?_⟩
    · unfold fn_X10_cut
      rw [if_neg (by decide), ok, grd_true, lt_t]
      unfold fn_X10_cut_B10
      rw [if_neg (by decide)]
    · have e1 : (sl z 93 0 0).2.1 93 0 = 0 := by simp [sl_2]
      have e2 : (sl z 93 0 0).2.1 93 1 = z.2.1 93 1 := by simp [sl_2]
      have := N_lt (z.2.1 93 1)
      rw [e1, e2]
      unfold V2 bt
      rw [N_0, if_neg (by decide), if_neg (by decide)]
      omega
  · refine ⟨z, ?_, FrW.rfl', rfl, ?_⟩
    · unfold fn_X10_cut
      rw [if_pos (by decide)]
      unfold fn_X10_cut_B10
      rw [if_neg (by decide)]
    · rw [Nat.mod_eq_of_lt]
      exact V2_lt _ _
/-- 32, 33 -/
theorem CM.shift (hF : 300 ≤ F) (h : CM sh n z pk kt H m sl0 fr cs cl nf g lim) (h2 : 2 ≤ (fr (nf - 1)).2.2.1.1) {a b k : Nat} (up : Bool) (ea : cs (nf - 1) ((fr (nf - 1)).2.2.1.1 - 2) = a) (eb : cs (nf - 1) ((fr (nf - 1)).2.2.1.1 - 1) = b) (ha : (H a).1 = 2 ∨ (H a).1 = 3 ∨ (H a).1 = 4) (hb : (H b).1 = 2) (hk : (H b).2.2.1 = lN k) (hk2 : k < 256) (hA : V2 (H a).2.1 (H a).2.2.1 < 2 ^ bt (H a).1) (hm : m < 21600) (s : Sl) : (bt (H a).1 ≤ k → ∃ z', fn_X4_reckon F sh n z 87 (nI (if up then 32 else 33)) = some (z', ()) ∧ CE sh n z' 2 1 g sl0 ∧ FrD z z') ∧ (k < bt (H a).1 → ∀ x y, V2 x y = sh2 up (V2 (H a).2.1 (H a).2.2.1) k % 2 ^ bt (H a).1 → ∃ z', fn_X4_reckon F sh n z 87 (nI (if up then 32 else 33)) = some (z', ()) ∧ CM sh n z' pk kt (upH H m ((H a).1, x, y, [])) (m + 1) sl0 (setF fr (nf - 1) (pshV (setH (fr (nf - 1)) ((fr (nf - 1)).2.2.1.1 - 2)) s)) (up2 cs (nf - 1) ((fr (nf - 1)).2.2.1.1 - 2) m) cl nf g lim ∧ FrD z z') := by
  obtain ⟨b1, _⟩ := h.2.2.1.2.2.2 (nf - 1) (by have := h.2.2.1.2.1; omega)
  have k14 : 1 ≤ (H a).1 ∧ (H a).1 ≤ 4 := by clear hA; omega
  obtain ⟨z3, c1, c2, ⟨c3, c4, c5⟩, c6⟩ := h.reck0 (F := F) h2 ea eb (by omega) (by omega) (o := if up then 32 else 33) (by split <;> omega) (by split <;> omega) (.inl ⟨by cases up; exact .inr rfl; exact .inl rfl, hb⟩)
  have la := c1.2.1.leaf (i := a) (by omega) (by unfold inn; omega)
  have lb := c1.2.1.leaf (i := b) (by omega) (by unfold inn; omega)
  have ib := c1.2.1.i1 (i := b) (by omega)
  have o2 : okA sh n 90 102 (nI b) = true := by rw [lay_a h.1 90 102 21600 (by decide) rfl]; exact ib.1
  have hp := b_heap c1.1
  rw [la.1] at c4
  rw [la.2] at c5
  have kbe := (kb_nz ha).1
  have b3 := bt_128 (H a).1
  have E : fn_X4_reckon F sh n z 87 (nI (if up then 32 else 33)) = cal (fn_X4_shift F sh n z3 87 (bI up) (lN k) (nI (H a).1)) (fun z_47 _ => some (z_47, ())) := by
    rw [c6]
    cases up
    · rw [if_pos (by decide), if_neg (by decide), if_neg (by decide)]
      rw [rkB_t c1 (by omega) (by omega), lb.2, hk]
      rfl
    · rw [if_pos (by decide), if_neg (by decide), if_pos (by decide)]
      rw [rkB_t c1 (by omega) (by omega), lb.2, hk]
      rfl
  have mk := (b_mach c1.1).1
  have l3 := c1.1.2.2 87 3 93 rfl
  have ok := b_wide c1.1
  obtain ⟨w0, w1⟩ := lay93 c1.1
  constructor
  · intro hle
    obtain ⟨z4, d1, d2, d3⟩ := c1.fin (F := F) 2 1
    refine ⟨z4, ?_, d2, c2.trans d3.d⟩
    rw [E]
    unfold fn_X4_shift
    rw [bitsC_t ha, cal_s, nI_l (by omega), if_neg (fun q => by have := (pk_lLT (by omega) (by omega)).mp q; omega), mk, grd_true, show (2 : Int32) = nI 2 from rfl, d1, cal_s, cal_s]
  · intro hlt x y hxy
    have lt1 : lN k < (nI (bt (H a).1)).toInt64 := by rw [nI_l (by omega)]; exact (pk_lLT (by omega) (by omega)).mpr hlt
    have eK : (lN k).toInt32 = nI k := lN_i k
    cases up
    · obtain ⟨hh, ll, p1, p2⟩ := dnX (F := F) (z := z3) w0 w1 (k := k) (by omega)
      have f4 : FrW z3 (sl (sl z3 93 0 hh) 93 1 ll) := FrW.sl.trans FrW.sl
      have C4 := c1.w93 f4
      have v0 : (sl (sl z3 93 0 hh) 93 1 ll).2.1 93 0 = hh ∧ (sl (sl z3 93 0 hh) 93 1 ll).2.1 93 1 = ll ∧ (sl (sl z3 93 0 hh) 93 1 ll).1 93 2 = 0 := ⟨by simp [sl_2], by simp [sl_2], c3⟩
      rw [c4, c5] at p2
      have small : V2 hh ll < 2 ^ bt (H a).1 := by rw [p2]; exact Nat.lt_of_le_of_lt (Nat.div_le_self _ _) hA
      have eq : V2 hh ll = V2 x y := by
        rw [hxy, p2]
        unfold sh2
        rw [if_neg (by decide), Nat.mod_eq_of_lt (by rw [← p2]; exact small)]
      obtain ⟨q1, q2⟩ := V2_inj eq
      obtain ⟨e1, _⟩ := C4.pushWide (F := F) (by rw [setF_s, setH_T]; omega) hm (k := (H a).1) k14 s
      rw [setF_s, setF_2, setH_T, kbe, v0.1, v0.2.1, v0.2.2] at e1
      obtain ⟨z5, g1, g2, g3⟩ := e1 (Or.inr ⟨rfl, small⟩)
      rw [q1, q2] at g2
      refine ⟨z5, ?_, g2, (c2.trans f4.d).trans g3.d⟩
      rw [E]
      unfold fn_X4_shift
      rw [bitsC_t ha, cal_s, if_pos lt1, if_pos (by rfl), mk, grd_true, l3, lnk_s, ok, grd_true, eK, p1, cal_s, g1, cal_s, cal_s]
    · obtain ⟨hh, ll, p1, p2⟩ := upX (F := F) (z := z3) w0 w1 (k := k) (by omega)
      have f4 : FrW z3 (sl (sl z3 93 0 hh) 93 1 ll) := FrW.sl.trans FrW.sl
      have C4 := c1.w93 f4
      have v0 : (sl (sl z3 93 0 hh) 93 1 ll).2.1 93 0 = hh ∧ (sl (sl z3 93 0 hh) 93 1 ll).2.1 93 1 = ll ∧ (sl (sl z3 93 0 hh) 93 1 ll).1 93 2 = 0 := ⟨by simp [sl_2], by simp [sl_2], c3⟩
      obtain ⟨z5, r1, r2, r3, r4⟩ := cut_t (F := F) C4.1 ha
      rw [v0.1, v0.2.1, p2, c4, c5] at r4
      rw [v0.2.2] at r3
      have C5 := C4.w93 r2
      have eq : V2 (z5.2.1 93 0) (z5.2.1 93 1) = V2 x y := by
        rw [hxy, r4]
        unfold sh2
        rw [if_pos rfl]
      have small : V2 (z5.2.1 93 0) (z5.2.1 93 1) < 2 ^ bt (H a).1 := by rw [r4]; exact Nat.mod_lt _ (Nat.pow_pos (by omega))
      obtain ⟨q1, q2⟩ := V2_inj eq
      obtain ⟨e1, _⟩ := C5.pushWide (F := F) (by rw [setF_s, setH_T]; omega) hm (k := (H a).1) k14 s
      rw [setF_s, setF_2, setH_T, kbe] at e1
      obtain ⟨z6, g1, g2, g3⟩ := e1 (Or.inr ⟨r3, small⟩)
      rw [q1, q2] at g2
      refine ⟨z6, ?_, g2, ((c2.trans f4.d).trans r2.d).trans g3.d⟩
      rw [E]
      unfold fn_X4_shift
      rw [bitsC_t ha, cal_s, if_pos lt1, if_neg (by decide), mk, grd_true, l3, lnk_s, ok, grd_true, eK, p1, cal_s, C4.1.2.2 87 3 93 rfl, lnk_s, ok, grd_true, r1, cal_s, g1, cal_s, cal_s]
end
