/-! THE CLASS'S MACHINE: comparing, truths, conversions -/
section
variable {F n : Nat} {sh : Nat → Nat × Nat} {z z' : St} {pk : Nat → Nat} {kt : Nat} {H : Hp} {m : Nat} {sl0 : Int32} {fr : Nat → Fm} {cs cl : Nat → Nat → Nat} {nf g lim : Nat}
theorem CM.truth (h : CM sh n z pk kt H m sl0 fr cs cl nf g lim) (h64 : (fr (nf - 1)).2.2.1.1 < 64) (hm : m < 21600) (b : Bool) (s : Sl) : ∃ z', fn_X4_compare_B174 F sh n 87 z (bI b) = some (z', ()) ∧ CM sh n z' pk kt (upH H m (1, 0, if b then 1 else 0, [])) (m + 1) sl0 (setF fr (nf - 1) (pshV (fr (nf - 1)) s)) (up2 cs (nf - 1) (fr (nf - 1)).2.2.1.1 m) cl nf g lim ∧ FrC z z' := by
  obtain ⟨z1, p1, p2, p3⟩ := h.make (F := F) h64 hm (k := 1) (x := 0) (y := if b then 1 else 0) (by omega) (by unfold inn; omega) s
  refine ⟨z1, ?_, p2, p3⟩
  unfold fn_X4_compare_B174
  cases b
  · rw [if_pos (by rfl), (b_mach h.1).1, grd_true, show (1 : Int32) = nI 1 from rfl]
    have : fn_X4_pushNumber F sh n z 87 (nI 1) 0 0 = some (z1, ()) := p1
    rw [this, cal_s]
  · rw [if_neg (show ¬ bI true = 0 by decide), (b_mach h.1).1, grd_true, show (1 : Int32) = nI 1 from rfl]
    have : fn_X4_pushNumber F sh n z 87 (nI 1) 0 1 = some (z1, ()) := p1
    rw [this, cal_s]
/-- 36, 37 -/
theorem CM.like (hF : 300 ≤ F) (h : CM sh n z pk kt H m sl0 fr cs cl nf g lim) (h2 : 2 ≤ (fr (nf - 1)).2.2.1.1) {a b o d : Nat} (ea : cs (nf - 1) ((fr (nf - 1)).2.2.1.1 - 2) = a) (eb : cs (nf - 1) ((fr (nf - 1)).2.2.1.1 - 1) = b) (ha : (H a).1 ≠ 0) (hb : (H b).1 ≠ 0) (hab : (H a).1 = (H b).1) (ta : Tr H d a) (tb : Tr H d b) (hd : d ≤ 40) (ho : o = 36 ∨ o = 37) (hm : m < 21600) (hsz : szA H d a + szA H d b < 2 ^ 30) (s : Sl) : (g + (szA H d a + szA H d b) ≤ lim → ∃ z', fn_X4_reckon F sh n z 87 (nI o) = some (z', ()) ∧ CM sh n z' pk kt (upH H m (1, 0, if alA H d a b = decide (o = 36) then 1 else 0, [])) (m + 1) sl0 (setF fr (nf - 1) (pshV (setH (fr (nf - 1)) ((fr (nf - 1)).2.2.1.1 - 2)) s)) (up2 cs (nf - 1) ((fr (nf - 1)).2.2.1.1 - 2) m) cl nf (g + (szA H d a + szA H d b)) lim ∧ FrD z z') ∧ (lim < g + (szA H d a + szA H d b) → ∃ z', fn_X4_reckon F sh n z 87 (nI o) = some (z', ()) ∧ CE sh n z' 2 5 lim sl0 ∧ FrD z z') := by
  obtain ⟨b1, _⟩ := h.2.2.1.2.2.2 (nf - 1) (by have := h.2.2.1.2.1; omega)
  obtain ⟨z3, c1, c2, _, c6⟩ := h.reck0 (F := F) h2 ea eb ha hb (o := o) (by omega) (by omega) (.inr ⟨by omega, by omega, hab⟩)
  have n36 : ¬ nI o < 36 := fun q => by have := (nIlt (x := 36) 36 rfl (by omega) (by omega)).mp q; omega
  rw [if_neg n36] at c6
  have sa := sizeOf_t (F := F) hF c1.1 c1.2.1 ta hd
  have sb := sizeOf_t (F := F) hF c1.1 c1.2.1 tb hd
  have qa := szB_q (H := H) d a
  have qb := szB_q (H := H) d b
  have ua := szB_b (H := H) d a
  have ub := szB_b (H := H) d b
  have l20 := c1.2.2.2.2.2.2.2
  unfold Szq at qa qb
  have n37 : ¬ (37 : Int32) < nI o := fun q => by have := (nIgt (x := 37) 37 rfl (by omega) (by omega)).mp q; omega
  have hp := b_heap c1.1
  have mk := (b_mach c1.1).1
  have l1 := c1.1.2.2 87 1 88 rfl
  constructor
  · intro hg
    rw [show szB H d a = szA H d a by omega] at sa
    rw [show szB H d b = szA H d b by omega] at sb
    obtain ⟨z4, d1, d2, d3⟩ := c1.pay (F := F) hg
    have al := areAlike_t (F := F) hF d2.1 d2.2.1 ta tb hd
    obtain ⟨z5, e1, e2, e3⟩ := d2.truth (F := F) (by rw [setF_s, setH_T]; omega) hm (decide (alA H d a b = decide (o = 36))) s
    rw [setF_s, setF_2, setH_T] at e2
    have eT : (if (decide (alA H d a b = decide (o = 36))) = true then (1 : Int64) else 0) = if alA H d a b = decide (o = 36) then 1 else 0 := by
      by_cases c : alA H d a b = decide (o = 36)
      · rw [if_pos c, if_pos (by simp [c])]
      · rw [if_neg c, if_neg (by simp [c])]
    rw [eT] at e2
    refine ⟨z5, ?_, e2, (c2.trans d3.d).trans e3.d⟩
    have eB : ∀ x : Int32, x = bI (decide (o = 36)) → fn_X4_compare_B51 F sh n (bI (alA H d a b)) 87 z4 x = some (z5, ()) := fun x hx => by
      subst hx
      unfold fn_X4_compare_B51
      by_cases c : alA H d a b = decide (o = 36)
      · rw [if_pos (bI_eq.mpr c)]
        unfold fn_X4_compare_B59
        rw [← e1]; simp [c, bI]
      · rw [if_neg (fun q => c (bI_eq.mp q))]
        unfold fn_X4_compare_B59
        rw [← e1]; simp [c, bI]
    rw [c6]
    unfold fn_X4_compare
    rw [if_neg n37, mk, grd_true, l1, lnk_s, hp.1, grd_true, sa, cal_s, l1, lnk_s, hp.1, grd_true, sb, cal_s, nI_add, d1, cal_s, if_neg one0, d2.1.2.2 87 1 88 rfl, lnk_s, hp.1, grd_true, al, cal_s]
    rcases ho with e | e
    · subst e; rw [if_pos (by rfl), eB 1 rfl, cal_s]
    · subst e; rw [if_neg (by decide), eB 0 rfl, cal_s]
  · intro hg
    obtain ⟨z4, d1, d2, d3⟩ := c1.payE (F := F) (c := szB H d a + szB H d b) (by omega) (by omega)
    refine ⟨z4, ?_, d2, c2.trans d3.d⟩
    rw [c6]
    unfold fn_X4_compare
    rw [if_neg n37, mk, grd_true, l1, lnk_s, hp.1, grd_true, sa, cal_s, l1, lnk_s, hp.1, grd_true, sb, cal_s, nI_add, d1, cal_s, if_pos rfl, cal_s]
theorem ord_c {A B o : Nat} (ho : 38 ≤ o) (ho2 : o ≤ 41) {X : Option (St × Unit)} {f : Int32 → Option (St × Unit)} (hX : f (bI (ordB o A B)) = X) : (if nI o = 38 then if (0 : Int32) ≤ (if A < B then -1 else if A = B then 0 else 1) then f 0 else f 1 else if nI o = 39 then if (0 : Int32) < (if A < B then -1 else if A = B then 0 else 1) then f 0 else f 1 else if nI o = 40 then if ((if A < B then -1 else if A = B then 0 else 1) : Int32) ≤ 0 then f 0 else f 1 else if ((if A < B then -1 else if A = B then 0 else 1) : Int32) < 0 then f 0 else f 1) = X := by
  have : o = 38 ∨ o = 39 ∨ o = 40 ∨ o = 41 := by omega
  have i38 : nI 38 = 38 := rfl
  have i39 : nI 39 = 39 := rfl
  have i40 : nI 40 = 40 := rfl
  have i41 : nI 41 = 41 := rfl
  subst hX
  rcases Nat.lt_trichotomy A B with c | c | c
  · have nc : ¬ B ≤ A := by omega
    have nd : ¬ B < A := by omega
    have ne : A ≤ B := by omega
    rcases this with e | e | e | e <;> subst e <;> simp [ordB, c, nc, nd, ne, bI, i38, i39, i40, i41]
  · subst c
    rcases this with e | e | e | e <;> subst e <;> simp [ordB, bI, i38, i39, i40, i41]
  · have nc : ¬ A < B := by omega
    have nd : ¬ A = B := by omega
    have ne : ¬ A ≤ B := by omega
    have nf : B ≤ A := by omega
    rcases this with e | e | e | e <;> subst e <;> simp [ordB, c, nc, nd, ne, nf, bI, i38, i39, i40, i41]
/-- 38 .. 41 -/
theorem CM.order (h : CM sh n z pk kt H m sl0 fr cs cl nf g lim) (h2 : 2 ≤ (fr (nf - 1)).2.2.1.1) {a b o : Nat} (ea : cs (nf - 1) ((fr (nf - 1)).2.2.1.1 - 2) = a) (eb : cs (nf - 1) ((fr (nf - 1)).2.2.1.1 - 1) = b) (ha : (H a).1 ≠ 0) (ha2 : (H a).1 < 6) (hb : (H b).1 = (H a).1) (ho : 38 ≤ o) (ho2 : o ≤ 41) (hm : m < 21600) (s : Sl) : ∃ z', fn_X4_reckon F sh n z 87 (nI o) = some (z', ()) ∧ CM sh n z' pk kt (upH H m (1, 0, if ordB o (V2 (H a).2.1 (H a).2.2.1) (V2 (H b).2.1 (H b).2.2.1) then 1 else 0, [])) (m + 1) sl0 (setF fr (nf - 1) (pshV (setH (fr (nf - 1)) ((fr (nf - 1)).2.2.1.1 - 2)) s)) (up2 cs (nf - 1) ((fr (nf - 1)).2.2.1.1 - 2) m) cl nf g lim ∧ FrD z z' := by
  obtain ⟨b1, _⟩ := h.2.2.1.2.2.2 (nf - 1) (by have := h.2.2.1.2.1; omega)
  obtain ⟨z3, c1, c2, _, c6⟩ := h.reck0 (F := F) h2 ea eb ha (by omega) (o := o) (by omega) (by omega) (.inr ⟨by omega, by omega, hb.symm⟩)
  have n36 : ¬ nI o < 36 := fun q => by have := (nIlt (x := 36) 36 rfl (by omega) (by omega)).mp q; omega
  rw [if_neg n36] at c6
  have n37 : (37 : Int32) < nI o := (nIgt (x := 37) 37 rfl (by omega) (by omega)).mpr (by omega)
  have hp := b_heap c1.1
  have mk := (b_mach c1.1).1
  have l1 := c1.1.2.2 87 1 88 rfl
  have la := c1.2.1.leaf (i := a) (by omega) (by unfold inn; omega)
  have lb := c1.2.1.leaf (i := b) (by omega) (by unfold inn; omega)
  have ia := c1.2.1.i1 (i := a) (by omega)
  have ib := c1.2.1.i1 (i := b) (by omega)
  have oa : okA sh n 90 102 (nI a) = true := by rw [lay_a h.1 90 102 21600 (by decide) rfl]; exact ia.1
  have oa1 : okA sh n 91 102 (nI a) = true := by rw [lay_a h.1 91 102 21600 (by decide) rfl]; exact ia.1
  have ob : okA sh n 90 102 (nI b) = true := by rw [lay_a h.1 90 102 21600 (by decide) rfl]; exact ib.1
  have ob1 : okA sh n 91 102 (nI b) = true := by rw [lay_a h.1 91 102 21600 (by decide) rfl]; exact ib.1
  obtain ⟨z5, e1, e2, e3⟩ := c1.truth (F := F) (by rw [setF_s, setH_T]; omega) hm (ordB o (V2 (H a).2.1 (H a).2.2.1) (V2 (H b).2.1 (H b).2.2.1)) s
  rw [setF_s, setF_2, setH_T] at e2
  refine ⟨z5, ?_, e2, c2.trans e3.d⟩
  have key := ord_c (A := V2 (H a).2.1 (H a).2.2.1) (B := V2 (H b).2.1 (H b).2.2.1) ho ho2 (X := some (z5, ())) (f := fun x => fn_X4_compare_B172 F sh n 87 z3 x) e1
  rw [c6]
  unfold fn_X4_compare
  rw [if_pos n37, mk, grd_true, l1, lnk_s, hp.1, grd_true, hp.2.2.2.1, lnk_s, oa1, grd_true, lnk_s, hp.1, grd_true, hp.2.2.1, lnk_s, oa, grd_true, lnk_s, hp.1, grd_true, hp.2.2.2.1, lnk_s, ob1, grd_true, lnk_s, hp.1, grd_true, hp.2.2.1, lnk_s, ob, grd_true, ia.2, ib.2, la.1, la.2, lb.1, lb.2, cmpX_t, cal_s, key, cal_s]
/-- 34 -/
theorem CM.not (h : CM sh n z pk kt H m sl0 fr cs cl nf g lim) (h1 : 1 ≤ (fr (nf - 1)).2.2.1.1) {v : Nat} (ev : cs (nf - 1) ((fr (nf - 1)).2.2.1.1 - 1) = v) (hv : (H v).1 = 1) (hm : m < 21600) (s : Sl) : ∃ z', fn_X4_reckon F sh n z 87 34 = some (z', ()) ∧ CM sh n z' pk kt (upH H m (1, 0, 1 - (H v).2.2.1, [])) (m + 1) sl0 (setF fr (nf - 1) (pshV (setH (fr (nf - 1)) ((fr (nf - 1)).2.2.1.1 - 1)) s)) (up2 cs (nf - 1) ((fr (nf - 1)).2.2.1.1 - 1) m) cl nf g lim ∧ FrC z z' := by
  obtain ⟨b1, _⟩ := h.2.2.1.2.2.2 (nf - 1) (by have := h.2.2.1.2.1; omega)
  obtain ⟨z1, p1, p2, p3⟩ := h.popOf (F := F) h1 (k := 1) (x := 1) rfl (by rw [ev]; exact hv) (by omega)
  rw [ev] at p1
  have lv := p2.2.1.leaf (i := v) (by omega) (by unfold inn; omega)
  have iv := p2.2.1.i1 (i := v) (by omega)
  have ov : okA sh n 90 102 (nI v) = true := by rw [lay_a h.1 90 102 21600 (by decide) rfl]; exact iv.1
  obtain ⟨z2, q1, q2, q3⟩ := p2.make (F := F) (by rw [setF_s, setH_T]; omega) hm (k := 1) (x := 0) (y := 1 - (H v).2.2.1) (by omega) (by unfold inn; omega) s
  rw [setF_s, setF_2, setH_T] at q2
  refine ⟨z2, ?_, q2, p3.trans q3⟩
  have hp := b_heap h.1
  unfold fn_X4_reckon
  rw [if_pos rfl, (b_mach h.1).1, grd_true, h.1.2.2 87 1 88 rfl, lnk_s, hp.1, grd_true, hp.2.2.1, lnk_s, p1, cal_s, ov, grd_true, iv.2, lv.2, show (1 : Int32) = nI 1 from rfl, q1, cal_s]
/-- 42 .. 44 -/
theorem CM.conv (h : CM sh n z pk kt H m sl0 fr cs cl nf g lim) (h1 : 1 ≤ (fr (nf - 1)).2.2.1.1) {v k : Nat} (ev : cs (nf - 1) ((fr (nf - 1)).2.2.1.1 - 1) = v) (hv : (H v).1 ≠ 0) (hv2 : (H v).1 < 6) (hk : k = 2 ∨ k = 3 ∨ k = 4) (hm : m < 21600) (s : Sl) : (V2 (H v).2.1 (H v).2.2.1 < 2 ^ bt k → ∃ z', fn_X4_reckon F sh n z 87 (nI (40 + k)) = some (z', ()) ∧ CM sh n z' pk kt (upH H m (k, (H v).2.1, (H v).2.2.1, [])) (m + 1) sl0 (setF fr (nf - 1) (pshV (setH (fr (nf - 1)) ((fr (nf - 1)).2.2.1.1 - 1)) s)) (up2 cs (nf - 1) ((fr (nf - 1)).2.2.1.1 - 1) m) cl nf g lim ∧ FrD z z') ∧ (¬ V2 (H v).2.1 (H v).2.2.1 < 2 ^ bt k → ∃ z', fn_X4_reckon F sh n z 87 (nI (40 + k)) = some (z', ()) ∧ CE sh n z' 2 1 g sl0 ∧ FrD z z') := by
  obtain ⟨b1, _⟩ := h.2.2.1.2.2.2 (nf - 1) (by have := h.2.2.1.2.1; omega)
  obtain ⟨z1, p1, p2, p3⟩ := h.pop (F := F) h1
  rw [ev] at p1
  have lv := p2.2.1.leaf (i := v) (by omega) (by unfold inn; omega)
  have iv := p2.2.1.i1 (i := v) (by omega)
  have o90 : okA sh n 90 102 (nI v) = true := by rw [lay_a h.1 90 102 21600 (by decide) rfl]; exact iv.1
  have o91 : okA sh n 91 102 (nI v) = true := by rw [lay_a h.1 91 102 21600 (by decide) rfl]; exact iv.1
  have hp := b_heap p2.1
  have fw : FrW z1 (wS z1 (H v).2.1 (H v).2.2.1) := wS_fr
  obtain ⟨v1, v2, v3⟩ := wS_v z1 (H v).2.1 (H v).2.2.1
  have s3 := set93 (F := F) p2.1 (H v).2.1 (H v).2.2.1
  have C2 := p2.w93 fw
  have kbe := (kb_nz hk).1
  obtain ⟨e1, e2⟩ := C2.pushWide (F := F) (by rw [setF_s, setH_T]; omega) hm (k := k) (by omega) s
  rw [setF_s, setF_2, setH_T, v1, v2, v3, kbe] at e1
  rw [v1, v2, v3, kbe] at e2
  have n34 : ¬ nI (40 + k) = 34 := fun q => by have := (nI_ij (a := 40 + k) (b := 34) (by omega) (by omega)).mp q; omega
  have n32 : ¬ nI (40 + k) = 32 := fun q => by have := (nI_ij (a := 40 + k) (b := 32) (by omega) (by omega)).mp q; omega
  have n33 : ¬ nI (40 + k) = 33 := fun q => by have := (nI_ij (a := 40 + k) (b := 33) (by omega) (by omega)).mp q; omega
  have n42 : ¬ nI (40 + k) < 42 := fun q => by have := (nIlt (x := 42) 42 rfl (by omega) (by omega)).mp q; omega
  have e40 : nI (40 + k) - 40 = nI k := by
    have := pk_sub (a := 40 + k) (b := 40) (by omega)
    rw [Nat.add_sub_cancel_left] at this
    exact this
  have E : fn_X4_reckon F sh n z 87 (nI (40 + k)) = cal (fn_X4_pushWide F sh n (wS z1 (H v).2.1 (H v).2.2.1) 87 (nI k)) (fun z_64 _ => some (z_64, ())) := by
    unfold fn_X4_reckon
    rw [if_neg n34, if_neg n32, if_neg n33, (b_mach h.1).1, grd_true, p1, cal_s]
    unfold fn_X4_reckon_B52
    rw [if_neg n42, (b_mach h.1).1, grd_true, p2.1.2.2 87 3 93 rfl, lnk_s, p2.1.2.2 87 1 88 rfl, lnk_s, hp.1, grd_true, hp.2.2.2.1, lnk_s, o91, grd_true, lnk_s, hp.1, grd_true, hp.2.2.1, lnk_s, o90, grd_true, iv.2, lv.1, lv.2, b_wide h.1, grd_true, s3, cal_s, e40]
  constructor
  · intro hc
    obtain ⟨z5, g1, g2, g3⟩ := e1 (Or.inr ⟨rfl, hc⟩)
    exact ⟨z5, by rw [E, g1, cal_s], g2, (p3.d.trans fw.d).trans g3.d⟩
  · intro hc
    have k1 : k ≠ 1 := by omega
    obtain ⟨z5, g1, g2, g3⟩ := e2 k1 (fun q => hc q.2)
    exact ⟨z5, by rw [E, g1, cal_s], g2, (p3.d.trans fw.d).trans g3.d⟩
end
