/-! THE REFERENCE'S MACHINE: vectors, comparing, bits -/
section
variable {F n : Nat} {sh : Nat → Nat × Nat} {z z' : St} {H : Hp} {m : Nat} {fr : Nat → Fm} {nf na : Nat} {ak : Nat → Ask} {g lim : Nat}
/-- 57 -/
theorem RM.v57 (hF : 300 ≤ F) (h : RM sh n z H m fr nf na ak g lim) (pu : PU H) (h1 : 1 ≤ (fr (nf - 1)).2.2.1.1) (h64 : (fr (nf - 1)).2.2.1.1 ≤ 64) (h0 : ((fr (nf - 1)).2.2.1.2 ((fr (nf - 1)).2.2.1.1 - 1)).2.1 ≠ 0) {v : Nat} (ev : ((fr (nf - 1)).2.2.1.2 ((fr (nf - 1)).2.2.1.1 - 1)).1 = v) (ha : (H v).1 = 7) (nd : (kds H v).Nodup) {b : Int32} {t : Nat} : (kds H v = [] → ∃ z', fn_X18_onVector F sh n z 337 57 b = some (z', ()) ∧ RE sh n z' 2 2 g ∧ FrR z z') ∧ ∀ cs c, kds H v = cs ++ [c] → ∃ z', fn_X18_onVector F sh n z 337 57 b = some (z', ()) ∧ RM sh n z' (upH H v (setC (H v) cs)) m (setF fr (nf - 1) (pshV (setH (fr (nf - 1)) ((fr (nf - 1)).2.2.1.1 - 1)) (c, 0, t, 0, false))) nf na ak g lim ∧ FrR z z' := by
  subst ev
  have hal : (H ((fr (nf - 1)).2.2.1.2 ((fr (nf - 1)).2.2.1.1 - 1)).1).1 ≠ 0 := by omega
  obtain ⟨z1, q1, q2, q3⟩ := h.vec (F := F) h1 h0 ha 57 0 0 0
  obtain ⟨b1, b2⟩ := q1.2.2.1.i1 hal
  obtain ⟨_, _, _, r4, _⟩ := q1.2.2.1.row hal
  have start : fn_X18_onVector F sh n z 337 57 b = fn_X18_onVector_B210 F sh n 337 57 (nI ((fr (nf - 1)).2.2.1.2 ((fr (nf - 1)).2.2.1.1 - 1)).1) 0 0 0 z1 := by
    unfold fn_X18_onVector
    rw [if_neg (by decide), if_neg (by decide), if_neg (by decide), if_neg (by decide), if_neg (by decide)]
    unfold fn_X18_onVector_B143
    rw [if_neg (by decide)]
    unfold fn_X18_onVector_B158
    rw [if_neg (by decide), q3]
  rw [start]
  constructor
  · intro hk
    obtain ⟨z', s1, s2, s3⟩ := q1.fin (F := F) 2 2
    refine ⟨z', ?_, s2, q2.trans s3⟩
    rw [hk] at r4
    unfold fn_X18_onVector_B210
    simp only [b_model q1.1, b_trees q1.1, grd_true, q1.goes, cal_s, if_neg one0, if_neg (show ¬ (57 : Int32) = 53 by decide), if_neg (show ¬ (57 : Int32) = 56 by decide), ↓reduceIte, lnk_s, b1, b2, r4]
    rw [if_pos (show hm1 [] = -1 from rfl), show fn_X18_end F sh n z1 337 2 2 = some (z', ()) from s1, cal_s]
  · intro cs c hk
    have tl := takeLast_t (F := F) hF q1.1 q1.2.2.1 hal hk
    have hH := tl_H q1.2.2.1 hal hk nd pu
    obtain ⟨m1, m2⟩ := q1.tree tl_fr hH
    obtain ⟨z', s1, s2, s3⟩ := m1.push (F := F) (c, 0, t, 0, false) (by rw [setF_s, setH_T]; omega)
    rw [rB0 rfl] at s1
    rw [setF_s, setF_2] at s2
    refine ⟨z', ?_, s2, q2.trans (m2.trans s3)⟩
    have nn : ¬ hm1 (kds H ((fr (nf - 1)).2.2.1.2 ((fr (nf - 1)).2.2.1.1 - 1)).1) = -1 := by
      rw [hk]
      have hx : ∀ x, x ∈ cs ++ [c] → x < 24576 := fun x hx => (h.2.2.1.lt (h.2.2.1.cl hal x (by rw [hk]; exact hx))).2
      cases cs with
      | nil => exact nI_m1 (by have := hx c (by simp); omega)
      | cons y ys => exact nI_m1 (by have := hx y (by simp); omega)
    unfold fn_X18_onVector_B210
    simp only [b_model q1.1, b_trees q1.1, grd_true, q1.goes, cal_s, if_neg one0, if_neg (show ¬ (57 : Int32) = 53 by decide), if_neg (show ¬ (57 : Int32) = 56 by decide), ↓reduceIte, lnk_s, b1, b2, r4, if_neg nn, tl]
    rw [show fn_X18_push F sh n _ 337 (nI c) 0 = some (z', ()) from s1, cal_s]
/-- 56 -/
theorem RM.v56 (hF : 300 ≤ F) (h : RM sh n z H m fr nf na ak g lim) (pu : PU H) (h2 : 2 ≤ (fr (nf - 1)).2.2.1.1) {v x : Nat} (ev : ((fr (nf - 1)).2.2.1.2 ((fr (nf - 1)).2.2.1.1 - 2)).1 = v) (ex : ((fr (nf - 1)).2.2.1.2 ((fr (nf - 1)).2.2.1.1 - 1)).1 = x) (h0 : ((fr (nf - 1)).2.2.1.2 ((fr (nf - 1)).2.2.1.1 - 2)).2.1 ≠ 0) (hx0 : ((fr (nf - 1)).2.2.1.2 ((fr (nf - 1)).2.2.1.1 - 1)).2.1 = 0) (ha : (H v).1 = 7) (hx : (H x).1 ≠ 0) (hr : Rt H x) (nd : (kds H v).Nodup) {b : Int32} : ((kds H v).length = 256 → ∃ z', fn_X18_onVector F sh n z 337 56 b = some (z', ()) ∧ RE sh n z' 2 4 g ∧ FrR z z') ∧ ((kds H v).length < 256 → ∃ z', fn_X18_onVector F sh n z 337 56 b = some (z', ()) ∧ RM sh n z' (upH H v (setC (H v) (kds H v ++ [x]))) m (setF fr (nf - 1) (setH (fr (nf - 1)) ((fr (nf - 1)).2.2.1.1 - 2))) nf na ak g lim ∧ FrR z z') := by
  subst ev ex
  have hal : (H ((fr (nf - 1)).2.2.1.2 ((fr (nf - 1)).2.2.1.1 - 2)).1).1 ≠ 0 := by omega
  have e21 : (fr (nf - 1)).2.2.1.1 - 1 - 1 = (fr (nf - 1)).2.2.1.1 - 2 := by omega
  obtain ⟨z0, t1, t2, t3⟩ := h.takeV (F := F) (by omega) hx0
  obtain ⟨z1, q1, q2, q3⟩ := t2.vec (F := F) (by rw [setF_s, setH_T]; omega) (by rw [setF_s]; simp only [setH]; rw [e21]; exact h0) (by rw [setF_s]; simp only [setH]; rw [e21]; exact ha) 56 0 0 (nI ((fr (nf - 1)).2.2.1.2 ((fr (nf - 1)).2.2.1.1 - 1)).1)
  rw [setF_s, setF_2] at q1
  rw [setF_s] at q3
  simp only [setH] at q1 q3
  rw [e21] at q1 q3
  have ct := count_t (F := F) hF q1.1 q1.2.2.1 hal
  have start : fn_X18_onVector F sh n z 337 56 b = fn_X18_onVector_B210 F sh n 337 56 (nI ((fr (nf - 1)).2.2.1.2 ((fr (nf - 1)).2.2.1.1 - 2)).1) (nI ((fr (nf - 1)).2.2.1.2 ((fr (nf - 1)).2.2.1.1 - 1)).1) 0 0 z1 := by
    unfold fn_X18_onVector
    rw [if_neg (by decide), if_neg (by decide), if_neg (by decide), if_neg (by decide), if_neg (by decide)]
    unfold fn_X18_onVector_B143
    rw [if_neg (by decide)]
    unfold fn_X18_onVector_B158
    rw [if_pos rfl, t1, cal_s, q3]
    simp only [b_model h.1, grd_true]
  rw [start]
  constructor
  · intro hl
    obtain ⟨z', s1, s2, s3⟩ := q1.fin (F := F) 2 4
    refine ⟨z', ?_, s2, t3.trans (q2.trans s3)⟩
    rw [hl] at ct
    unfold fn_X18_onVector_B210
    simp only [b_model q1.1, grd_true, q1.goes, cal_s, if_neg one0, if_neg (show ¬ (56 : Int32) = 53 by decide), ↓reduceIte, lnk_s, ct]
    rw [if_pos (show nI 256 = 256 from rfl), show fn_X18_end F sh n z1 337 2 4 = some (z', ()) from s1, cal_s]
  · intro hl
    have hn : ((fr (nf - 1)).2.2.1.2 ((fr (nf - 1)).2.2.1.1 - 1)).1 ∉ kds H ((fr (nf - 1)).2.2.1.2 ((fr (nf - 1)).2.2.1.1 - 2)).1 := hr _
    have ad := tadd_t (F := F) hF q1.1 q1.2.2.1 hal hx hn
    have hH := ad_H q1.2.2.1 hal hx hr hl nd pu
    obtain ⟨m1, m2⟩ := q1.tree ad_fr hH
    refine ⟨_, ?_, m1, t3.trans (q2.trans m2)⟩
    have n256 : ¬ nI (kds H ((fr (nf - 1)).2.2.1.2 ((fr (nf - 1)).2.2.1.1 - 2)).1).length = 256 := fun q => by have := (nIe (x := 256) 256 rfl (by omega) (by omega)).mp q; omega
    unfold fn_X18_onVector_B210
    simp only [b_model q1.1, grd_true, q1.goes, cal_s, if_neg one0, if_neg (show ¬ (56 : Int32) = 53 by decide), ↓reduceIte, lnk_s, ct, if_neg n256, ad]
/-- a part of a vector by a long -/
theorem part_x (hF : 300 ≤ F) (hL : Lay sh n z) (h : HM z H m) {v : Nat} (hv : (H v).1 ≠ 0) (x : Int64) : (∃ (j : Nat) (hj : j < (kds H v).length), x = lN j ∧ fn_X15_part F sh n z 349 (nI v) x = some (z, nI (kds H v)[j])) ∨ ((∀ j, j < (kds H v).length → x ≠ lN j) ∧ fn_X15_part F sh n z 349 (nI v) x = some (z, -1)) := by
  have hl := h.len hv
  by_cases c : x < 0
  · right
    refine ⟨fun j hj e => ?_, part_neg c⟩
    subst e
    have h1 := Int64.lt_iff_toInt_lt.mp c
    rw [pk_lT (by omega)] at h1
    have : (0 : Int64).toInt = 0 := rfl
    omega
  · obtain ⟨k, k1, k2⟩ := pk_lOf c
    subst k2
    have pt := tpart_t (F := F) hF hL h hv k1
    by_cases ck : k < (kds H v).length
    · left
      rw [drop_c ck] at pt
      exact ⟨k, ck, rfl, pt⟩
    · right
      rw [List.drop_eq_nil_of_le (by omega)] at pt
      exact ⟨fun j hj e => by have := (pk_lEQ k1 (by omega)).mp e; omega, pt⟩
/-- 54, 55 -/
theorem RM.v54 (hF : 300 ≤ F) (h : RM sh n z H m fr nf na ak g lim) {o : Nat} (ho : o = 54 ∨ o = 55) (h2 : 2 ≤ (fr (nf - 1)).2.2.1.1) (h64 : (fr (nf - 1)).2.2.1.1 ≤ 64) {v x : Nat} (ev : ((fr (nf - 1)).2.2.1.2 ((fr (nf - 1)).2.2.1.1 - 2)).1 = v) (ex : ((fr (nf - 1)).2.2.1.2 ((fr (nf - 1)).2.2.1.1 - 1)).1 = x) (h0 : ((fr (nf - 1)).2.2.1.2 ((fr (nf - 1)).2.2.1.1 - 2)).2.1 ≠ 0) (hx0 : ((fr (nf - 1)).2.2.1.2 ((fr (nf - 1)).2.2.1.1 - 1)).2.1 = 0) (ha : (H v).1 = 7) (hx : (H x).1 = 3) {b : Int32} : ((∀ j, j < (kds H v).length → (H x).2.2.1 ≠ lN j) → ∃ z', fn_X18_onVector F sh n z 337 (nI o) b = some (z', ()) ∧ RE sh n z' 2 2 g ∧ FrR z z') ∧ ∀ (j : Nat) (hj : j < (kds H v).length) (q : Sl), (H x).2.2.1 = lN j → q.1 = (kds H v)[j] → q.2.1 ≠ 0 → ∃ z', fn_X18_onVector F sh n z 337 (nI o) b = some (z', ()) ∧ RM sh n z' H m (setF fr (nf - 1) (pshV (setH (fr (nf - 1)) ((fr (nf - 1)).2.2.1.1 - 2)) q)) nf na ak g lim ∧ FrR z z' := by
  subst ev ex
  have hal : (H ((fr (nf - 1)).2.2.1.2 ((fr (nf - 1)).2.2.1.1 - 2)).1).1 ≠ 0 := by omega
  have e21 : (fr (nf - 1)).2.2.1.1 - 1 - 1 = (fr (nf - 1)).2.2.1.1 - 2 := by omega
  obtain ⟨z0, t1, t2, t3⟩ := h.takeL (F := F) (by omega) hx0 hx
  obtain ⟨z1, q1, q2, q3⟩ := t2.vec (F := F) (by rw [setF_s, setH_T]; omega) (by rw [setF_s]; simp only [setH]; rw [e21]; exact h0) (by rw [setF_s]; simp only [setH]; rw [e21]; exact ha) (nI o) (H ((fr (nf - 1)).2.2.1.2 ((fr (nf - 1)).2.2.1.1 - 1)).1).2.2.1 0 0
  rw [setF_s, setF_2] at q1
  rw [setF_s] at q3
  simp only [setH] at q1 q3
  rw [e21] at q1 q3
  have n52 : ¬ nI o = 52 := by rcases ho with e | e <;> subst e <;> decide
  have n53 : ¬ nI o = 53 := by rcases ho with e | e <;> subst e <;> decide
  have n56 : ¬ nI o = 56 := by rcases ho with e | e <;> subst e <;> decide
  have n57 : ¬ nI o = 57 := by rcases ho with e | e <;> subst e <;> decide
  have n58 : ¬ nI o = 58 := by rcases ho with e | e <;> subst e <;> decide
  have n59 : ¬ nI o = 59 := by rcases ho with e | e <;> subst e <;> decide
  have start : fn_X18_onVector F sh n z 337 (nI o) b = fn_X18_onVector_B210 F sh n 337 (nI o) (nI ((fr (nf - 1)).2.2.1.2 ((fr (nf - 1)).2.2.1.1 - 2)).1) 0 (H ((fr (nf - 1)).2.2.1.2 ((fr (nf - 1)).2.2.1.1 - 1)).1).2.2.1 0 z1 := by
    have b135 : fn_X18_onVector_B135 F sh n 337 (nI o) z = fn_X18_onVector_B210 F sh n 337 (nI o) (nI ((fr (nf - 1)).2.2.1.2 ((fr (nf - 1)).2.2.1.1 - 2)).1) 0 (H ((fr (nf - 1)).2.2.1.2 ((fr (nf - 1)).2.2.1.1 - 1)).1).2.2.1 0 z1 := by
      unfold fn_X18_onVector_B135
      rw [t1, cal_s]
      simp only [b_model h.1, grd_true]
      unfold fn_X18_onVector_B143
      rw [if_neg (n58)]
      unfold fn_X18_onVector_B158
      rw [if_neg (n56), q3]
    unfold fn_X18_onVector
    rw [if_neg (n52), if_neg (n59), if_neg (n58)]
    rcases ho with e | e
    · subst e; rw [if_pos (by rfl)]; exact b135
    · subst e; rw [if_neg (by decide), if_pos (by rfl)]; exact b135
  rw [start]
  have px := part_x (F := F) hF q1.1 q1.2.2.1 hal (H ((fr (nf - 1)).2.2.1.2 ((fr (nf - 1)).2.2.1.1 - 1)).1).2.2.1
  constructor
  · intro hno
    obtain ⟨z', s1, s2, s3⟩ := q1.fin (F := F) 2 2
    refine ⟨z', ?_, s2, t3.trans (q2.trans s3)⟩
    rcases px with ⟨j, hj, e, _⟩ | ⟨_, px⟩
    · exact absurd e (hno j hj)
    · unfold fn_X18_onVector_B210
      simp only [b_model q1.1, grd_true, q1.goes, cal_s, if_neg one0, lnk_s, px]
      rw [if_neg n53, if_neg n56, if_neg n57, if_neg n58]
      unfold fn_X18_onVector_B371
      rw [if_pos rfl, show fn_X18_end F sh n z1 337 2 2 = some (z', ()) from s1, cal_s]
  · intro j hj q e hq hq0
    obtain ⟨z', s1, s2, s3⟩ := q1.push (F := F) q (by rw [setF_s]; show (fr (nf - 1)).2.2.1.1 - 2 < 64; omega)
    rw [rB1 hq0, hq] at s1
    rw [setF_s, setF_2] at s2
    refine ⟨z', ?_, s2, t3.trans (q2.trans s3)⟩
    rcases px with ⟨j', hj', e', px⟩ | ⟨px, _⟩
    · have hl := h.2.2.1.len hal
      have ej : j' = j := (pk_lEQ (by omega) (by omega)).mp (e'.symm.trans e)
      subst ej
      have kal := h.2.2.1.cl hal _ (List.getElem_mem hj)
      have nm := nI_m1 (show (kds H ((fr (nf - 1)).2.2.1.2 ((fr (nf - 1)).2.2.1.1 - 2)).1)[j'] < 2 ^ 31 by have := (h.2.2.1.lt kal).2; omega)
      unfold fn_X18_onVector_B210
      simp only [b_model q1.1, grd_true, q1.goes, cal_s, if_neg one0, lnk_s, px]
      rw [if_neg (n53), if_neg (n56), if_neg (n57), if_neg (n58)]
      unfold fn_X18_onVector_B371
      rw [if_neg nm, if_neg nm, if_neg (n58), s1, cal_s]
    · exact absurd e (px j hj)
end
