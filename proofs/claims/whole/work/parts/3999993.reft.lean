/-! THE REFERENCE'S MACHINE: exchange, bits, likeness, order -/
section
variable {F n : Nat} {sh : Nat → Nat × Nat} {z z' : St} {H : Hp} {m : Nat} {fr : Nat → Fm} {nf na : Nat} {ak : Nat → Ask} {g lim : Nat}
/-- 58 -/
theorem RM.v58 (hF : 300 ≤ F) (h : RM sh n z H m fr nf na ak g lim) (h3 : 3 ≤ (fr (nf - 1)).2.2.1.1) {v x y : Nat} (ev : ((fr (nf - 1)).2.2.1.2 ((fr (nf - 1)).2.2.1.1 - 3)).1 = v) (ex : ((fr (nf - 1)).2.2.1.2 ((fr (nf - 1)).2.2.1.1 - 1)).1 = x) (ey : ((fr (nf - 1)).2.2.1.2 ((fr (nf - 1)).2.2.1.1 - 2)).1 = y) (h0 : ((fr (nf - 1)).2.2.1.2 ((fr (nf - 1)).2.2.1.1 - 3)).2.1 ≠ 0) (hx0 : ((fr (nf - 1)).2.2.1.2 ((fr (nf - 1)).2.2.1.1 - 1)).2.1 = 0) (hy0 : ((fr (nf - 1)).2.2.1.2 ((fr (nf - 1)).2.2.1.1 - 2)).2.1 = 0) (ha : (H v).1 = 7) (hx : (H x).1 = 3) (hy : (H y).1 = 3) {b : Int32} : (((∀ j, j < (kds H v).length → (H x).2.2.1 ≠ lN j) ∨ (∀ j, j < (kds H v).length → (H y).2.2.1 ≠ lN j)) → ∃ z', fn_X18_onVector F sh n z 337 58 b = some (z', ()) ∧ RE sh n z' 2 2 g ∧ FrR z z') ∧ ∀ (i j : Nat) (hi : i < (kds H v).length) (hj : j < (kds H v).length), (H x).2.2.1 = lN i → (H y).2.2.1 = lN j → ∃ z', fn_X18_onVector F sh n z 337 58 b = some (z', ()) ∧ RM sh n z' (upH (upH H (kds H v)[i] (H (kds H v)[j])) (kds H v)[j] (H (kds H v)[i])) m (setF fr (nf - 1) (setH (fr (nf - 1)) ((fr (nf - 1)).2.2.1.1 - 3))) nf na ak g lim ∧ FrR z z' := by
  subst ev ex ey
  have hal : (H ((fr (nf - 1)).2.2.1.2 ((fr (nf - 1)).2.2.1.1 - 3)).1).1 ≠ 0 := by omega
  have e21 : (fr (nf - 1)).2.2.1.1 - 1 - 1 = (fr (nf - 1)).2.2.1.1 - 2 := by omega
  have e31 : (fr (nf - 1)).2.2.1.1 - 2 - 1 = (fr (nf - 1)).2.2.1.1 - 3 := by omega
  obtain ⟨z0, t1, t2, t3⟩ := h.takeL (F := F) (by omega) hx0 hx
  obtain ⟨z5, u1, u2, u3⟩ := t2.takeL (F := F) (by rw [setF_s, setH_T]; omega) (by rw [setF_s]; simp only [setH]; rw [e21]; exact hy0) (by rw [setF_s]; simp only [setH]; rw [e21]; exact hy)
  rw [setF_s, setF_2] at u2
  rw [setF_s] at u1
  simp only [setH] at u1 u2
  rw [e21] at u1 u2
  obtain ⟨z1, q1, q2, q3⟩ := u2.vec (F := F) (by rw [setF_s]; show 1 ≤ (fr (nf - 1)).2.2.1.1 - 2; omega) (by rw [setF_s]; show ((fr (nf - 1)).2.2.1.2 ((fr (nf - 1)).2.2.1.1 - 2 - 1)).2.1 ≠ 0; rw [e31]; exact h0) (by rw [setF_s]; show (H ((fr (nf - 1)).2.2.1.2 ((fr (nf - 1)).2.2.1.1 - 2 - 1)).1).1 = 7; rw [e31]; exact ha) 58 (H ((fr (nf - 1)).2.2.1.2 ((fr (nf - 1)).2.2.1.1 - 1)).1).2.2.1 (H ((fr (nf - 1)).2.2.1.2 ((fr (nf - 1)).2.2.1.1 - 2)).1).2.2.1 0
  rw [setF_s, setF_2] at q1
  rw [setF_s] at q3
  simp only [setH] at q1 q3
  rw [e31] at q1 q3
  have start : fn_X18_onVector F sh n z 337 58 b = fn_X18_onVector_B210 F sh n 337 58 (nI ((fr (nf - 1)).2.2.1.2 ((fr (nf - 1)).2.2.1.1 - 3)).1) 0 (H ((fr (nf - 1)).2.2.1.2 ((fr (nf - 1)).2.2.1.1 - 1)).1).2.2.1 (H ((fr (nf - 1)).2.2.1.2 ((fr (nf - 1)).2.2.1.1 - 2)).1).2.2.1 z1 := by
    unfold fn_X18_onVector
    rw [if_neg (by decide), if_neg (by decide), if_pos rfl]
    unfold fn_X18_onVector_B135
    rw [t1, cal_s]
    simp only [b_model h.1, grd_true]
    unfold fn_X18_onVector_B143
    rw [if_pos rfl, u1, cal_s]
    simp only [b_model t2.1, grd_true]
    unfold fn_X18_onVector_B158
    rw [if_neg (by decide), q3]
  rw [start]
  have px := part_x (F := F) hF q1.1 q1.2.2.1 hal (H ((fr (nf - 1)).2.2.1.2 ((fr (nf - 1)).2.2.1.1 - 1)).1).2.2.1
  have py := part_x (F := F) hF q1.1 q1.2.2.1 hal (H ((fr (nf - 1)).2.2.1.2 ((fr (nf - 1)).2.2.1.1 - 2)).1).2.2.1
  have kal : ∀ (j : Nat) (hj : j < (kds H ((fr (nf - 1)).2.2.1.2 ((fr (nf - 1)).2.2.1.1 - 3)).1).length), (H (kds H ((fr (nf - 1)).2.2.1.2 ((fr (nf - 1)).2.2.1.1 - 3)).1)[j]).1 ≠ 0 := fun j hj => h.2.2.1.cl hal _ (List.getElem_mem hj)
  have nm : ∀ (j : Nat) (hj : j < (kds H ((fr (nf - 1)).2.2.1.2 ((fr (nf - 1)).2.2.1.1 - 3)).1).length), ¬ nI (kds H ((fr (nf - 1)).2.2.1.2 ((fr (nf - 1)).2.2.1.1 - 3)).1)[j] = -1 := fun j hj => nI_m1 (by have := (h.2.2.1.lt (kal j hj)).2; omega)
  have body : ∀ r q : Int32, fn_X15_part F sh n z1 349 (nI ((fr (nf - 1)).2.2.1.2 ((fr (nf - 1)).2.2.1.1 - 3)).1) (H ((fr (nf - 1)).2.2.1.2 ((fr (nf - 1)).2.2.1.1 - 1)).1).2.2.1 = some (z1, r) → fn_X15_part F sh n z1 349 (nI ((fr (nf - 1)).2.2.1.2 ((fr (nf - 1)).2.2.1.1 - 3)).1) (H ((fr (nf - 1)).2.2.1.2 ((fr (nf - 1)).2.2.1.1 - 2)).1).2.2.1 = some (z1, q) → fn_X18_onVector_B210 F sh n 337 58 (nI ((fr (nf - 1)).2.2.1.2 ((fr (nf - 1)).2.2.1.1 - 3)).1) 0 (H ((fr (nf - 1)).2.2.1.2 ((fr (nf - 1)).2.2.1.1 - 1)).1).2.2.1 (H ((fr (nf - 1)).2.2.1.2 ((fr (nf - 1)).2.2.1.1 - 2)).1).2.2.1 z1 = fn_X18_onVector_B371 F sh n r 337 58 z1 q := by
    intro r q hr hq
    unfold fn_X18_onVector_B210
    simp only [b_model q1.1, grd_true, q1.goes, cal_s, if_neg one0, if_neg (show ¬ (58 : Int32) = 53 by decide), if_neg (show ¬ (58 : Int32) = 56 by decide), if_neg (show ¬ (58 : Int32) = 57 by decide), ↓reduceIte, lnk_s, hr, hq]
  constructor
  · intro hno
    obtain ⟨z', s1, s2, s3⟩ := q1.fin (F := F) 2 2
    refine ⟨z', ?_, s2, t3.trans (u3.trans (q2.trans s3))⟩
    have s1' : fn_X18_end F sh n z1 337 2 2 = some (z', ()) := s1
    rcases px with ⟨i, hi, e, px⟩ | ⟨_, px⟩
    · rcases py with ⟨j, hj, e', py⟩ | ⟨_, py⟩
      · rcases hno with q | q
        · exact absurd e (q i hi)
        · exact absurd e' (q j hj)
      · rw [body _ _ px py]
        unfold fn_X18_onVector_B371
        rw [if_neg (nm i hi), if_pos rfl, s1', cal_s]
    · rcases py with ⟨j, hj, e', py⟩ | ⟨_, py⟩
      · rw [body _ _ px py]
        unfold fn_X18_onVector_B371
        rw [if_pos rfl, s1', cal_s]
      · rw [body _ _ px py]
        unfold fn_X18_onVector_B371
        rw [if_pos rfl, s1', cal_s]
  · intro i j hi hj exi eyj
    have hl := h.2.2.1.len hal
    rcases px with ⟨i', hi', e, px⟩ | ⟨q, _⟩
    · rcases py with ⟨j', hj', e', py⟩ | ⟨q, _⟩
      · have ei : i' = i := (pk_lEQ (by omega) (by omega)).mp (e.symm.trans exi)
        have ej : j' = j := (pk_lEQ (by omega) (by omega)).mp (e'.symm.trans eyj)
        subst ei ej
        have sw := tswap_t (F := F) q1.1 q1.2.2.1 (kal i' hi) (kal j' hj)
        obtain ⟨m1, m2⟩ := q1.tree sm_fr (sm_H q1.2.2.1 (kal i' hi) (kal j' hj))
        refine ⟨_, ?_, m1, t3.trans (u3.trans (q2.trans m2))⟩
        rw [body _ _ px py]
        unfold fn_X18_onVector_B371
        rw [if_neg (nm i' hi), if_neg (nm j' hj), if_pos rfl]
        simp only [b_model q1.1, grd_true, lnk_s, sw, cal_s]
      · exact absurd eyj (q j hj)
    · exact absurd exi (q i hi)
/-- 29, 30, 31 -/
theorem RM.bits (h : RM sh n z H m fr nf na ak g lim) (h2 : 2 ≤ (fr (nf - 1)).2.2.1.1) (h64 : (fr (nf - 1)).2.2.1.1 ≤ 64) (h0 : ((fr (nf - 1)).2.2.1.2 ((fr (nf - 1)).2.2.1.1 - 1)).2.1 = 0) (h1 : ((fr (nf - 1)).2.2.1.2 ((fr (nf - 1)).2.2.1.1 - 2)).2.1 = 0) {a b t : Nat} (ea : ((fr (nf - 1)).2.2.1.2 ((fr (nf - 1)).2.2.1.1 - 2)).1 = a) (eb : ((fr (nf - 1)).2.2.1.2 ((fr (nf - 1)).2.2.1.1 - 1)).1 = b) (ha : (H a).1 ≠ 0) (hb : (H b).1 = (H a).1) {o : Nat} (ho : o = 29 ∨ o = 30 ∨ o = 31) (hm : m < 24576) : ∃ z', fn_X18_reckon F sh n z 337 (nI o) = some (z', ()) ∧ RM sh n z' (upH H m ((H a).1, if o = 29 then (H a).2.1 &&& (H b).2.1 else if o = 30 then (H a).2.1 ||| (H b).2.1 else (H a).2.1 ^^^ (H b).2.1, if o = 29 then (H a).2.2.1 &&& (H b).2.2.1 else if o = 30 then (H a).2.2.1 ||| (H b).2.2.1 else (H a).2.2.1 ^^^ (H b).2.2.1, [])) (m + 1) (setF fr (nf - 1) (pshV (setH (fr (nf - 1)) ((fr (nf - 1)).2.2.1.1 - 2)) (m, 0, t, 0, false))) nf na ak g lim ∧ FrR z z' := by
  obtain ⟨z2, p1, p2, p3⟩ := h.reck0 (F := F) h2 h0 h1 ea eb ha hb (nI o)
  have hb0 : (H b).1 ≠ 0 := by rw [hb]; exact ha
  obtain ⟨b1, b2⟩ := p1.2.2.1.i1 ha
  obtain ⟨c1, c2⟩ := p1.2.2.1.i1 hb0
  obtain ⟨r1, r2, r3, _, _⟩ := p1.2.2.1.row ha
  obtain ⟨s1, s2, s3, _, _⟩ := p1.2.2.1.row hb0
  rw [p3]
  have go : ∀ x y : Int64, ∃ z', fn_X18_make F sh n z2 337 (nI (H a).1) x y = some (z', ()) ∧ RM sh n z' (upH H m ((H a).1, x, y, [])) (m + 1) (setF fr (nf - 1) (pshV (setH (fr (nf - 1)) ((fr (nf - 1)).2.2.1.1 - 2)) (m, 0, t, 0, false))) nf na ak g lim ∧ FrR z2 z' := fun x y => by
    obtain ⟨z', q1, q2, q3⟩ := p1.make (F := F) (k := (H a).1) (x := x) (y := y) t (h.2.2.1.k8 ha) hm (by rw [setF_s, setH_T]; omega)
    rw [setF_s, setF_2] at q2
    exact ⟨z', q1, q2, q3⟩
  rcases ho with e | e | e <;> subst e
  · obtain ⟨z', q1, q2, q3⟩ := go ((H a).2.1 &&& (H b).2.1) ((H a).2.2.1 &&& (H b).2.2.1)
    refine ⟨z', ?_, q2, p2.trans q3⟩
    unfold fn_X18_reckon_B44
    simp only [b_model p1.1, b_trees p1.1, grd_true, p1.goes, cal_s, if_neg one0, lnk_s, lt_t, b1, b2, c1, c2, r1, r2, r3, s2, s3]
    rw [if_pos (by decide), if_neg (by decide), if_pos (by rfl)]
    unfold fn_X18_reckon_B211
    rw [if_pos (by rfl), q1, cal_s]
  · obtain ⟨z', q1, q2, q3⟩ := go ((H a).2.1 ||| (H b).2.1) ((H a).2.2.1 ||| (H b).2.2.1)
    refine ⟨z', ?_, q2, p2.trans q3⟩
    unfold fn_X18_reckon_B44
    simp only [b_model p1.1, b_trees p1.1, grd_true, p1.goes, cal_s, if_neg one0, lnk_s, lt_t, b1, b2, c1, c2, r1, r2, r3, s2, s3]
    rw [if_pos (by decide), if_neg (by decide), if_neg (by decide), if_pos (by rfl)]
    unfold fn_X18_reckon_B211
    rw [if_neg (by decide), if_pos (by rfl), q1, cal_s]
  · obtain ⟨z', q1, q2, q3⟩ := go ((H a).2.1 ^^^ (H b).2.1) ((H a).2.2.1 ^^^ (H b).2.2.1)
    refine ⟨z', ?_, q2, p2.trans q3⟩
    unfold fn_X18_reckon_B44
    simp only [b_model p1.1, b_trees p1.1, grd_true, p1.goes, cal_s, if_neg one0, lnk_s, lt_t, b1, b2, c1, c2, r1, r2, r3, s2, s3]
    rw [if_pos (by decide), if_neg (by decide), if_neg (by decide), if_neg (by decide)]
    unfold fn_X18_reckon_B211
    rw [if_neg (by decide), if_neg (by decide), q1, cal_s]
theorem bI_eq {b c : Bool} : bI b = bI c ↔ b = c := by cases b <;> cases c <;> decide
/-- 36, 37 -/
theorem RM.like (hF : 300 ≤ F) (h : RM sh n z H m fr nf na ak g lim) (h2 : 2 ≤ (fr (nf - 1)).2.2.1.1) (h64 : (fr (nf - 1)).2.2.1.1 ≤ 64) (h0 : ((fr (nf - 1)).2.2.1.2 ((fr (nf - 1)).2.2.1.1 - 1)).2.1 = 0) (h1 : ((fr (nf - 1)).2.2.1.2 ((fr (nf - 1)).2.2.1.1 - 2)).2.1 = 0) {a b d : Nat} (ea : ((fr (nf - 1)).2.2.1.2 ((fr (nf - 1)).2.2.1.1 - 2)).1 = a) (eb : ((fr (nf - 1)).2.2.1.2 ((fr (nf - 1)).2.2.1.1 - 1)).1 = b) (ta : Tr H d a) (tb : Tr H d b) (hd : d ≤ 48) (hb : (H b).1 = (H a).1) {o : Nat} (ho : o = 36 ∨ o = 37) (hm : m < 24576) (hsz : szM H d a + szM H d b < 2 ^ 30) : (g + (szM H d a + szM H d b) ≤ lim → ∃ z', fn_X18_reckon F sh n z 337 (nI o) = some (z', ()) ∧ RM sh n z' (upH H m (1, 0, if alM H d a b = decide (o = 36) then 1 else 0, [])) (m + 1) (setF fr (nf - 1) (pshV (setH (fr (nf - 1)) ((fr (nf - 1)).2.2.1.1 - 2)) (m, 0, 1, 0, false))) nf na ak (g + (szM H d a + szM H d b)) lim ∧ FrR z z') ∧ (lim < g + (szM H d a + szM H d b) → ∃ z', fn_X18_reckon F sh n z 337 (nI o) = some (z', ()) ∧ RE sh n z' 2 5 lim ∧ FrR z z') := by
  have ha : (H a).1 ≠ 0 := by
    cases d with
    | zero => exact absurd ta (by simp [Tr])
    | succ d => exact ta.1
  obtain ⟨z2, p1, p2, p3⟩ := h.reck0 (F := F) h2 h0 h1 ea eb ha hb (nI o)
  have hb0 : (H b).1 ≠ 0 := by rw [hb]; exact ha
  obtain ⟨b1, b2⟩ := p1.2.2.1.i1 ha
  obtain ⟨c1, c2⟩ := p1.2.2.1.i1 hb0
  obtain ⟨r1, r2, r3, _, _⟩ := p1.2.2.1.row ha
  obtain ⟨s1, s2, s3, _, _⟩ := p1.2.2.1.row hb0
  have sa := sizeM_t (F := F) hF p1.1 p1.2.2.1 d a 48 ta hd
  have sb := sizeM_t (F := F) hF p1.1 p1.2.2.1 d b 48 tb hd
  have o29 : (29 : Int32) ≤ nI o := (nIge (x := 29) 29 rfl (by omega) (by omega)).mpr (by omega)
  have o32 : (32 : Int32) ≤ nI o := (nIge (x := 32) 32 rfl (by omega) (by omega)).mpr (by omega)
  have o38 : ¬ (38 : Int32) ≤ nI o := fun q => by have := (nIge (x := 38) 38 rfl (by omega) (by omega)).mp q; omega
  rw [p3]
  constructor
  · intro hg
    obtain ⟨z3, q1, q2, q3⟩ := p1.spend (F := F) hg
    have al := alikeM_t (F := F) hF q2.1 q2.2.2.1 d a b 48 ta tb hd
    obtain ⟨z', w1, w2, w3⟩ := q2.make (F := F) (k := 1) (x := 0) (y := if alM H d a b = decide (o = 36) then 1 else 0) 1 (by omega) hm (by rw [setF_s, setH_T]; omega)
    rw [setF_s, setF_2] at w2
    refine ⟨z', ?_, w2, p2.trans (q3.trans w3)⟩
    unfold fn_X18_reckon_B44
    simp only [b_model p1.1, b_model q2.1, b_trees p1.1, grd_true, p1.goes, cal_s, if_neg one0, lnk_s, lt_t, b1, b2, c1, c2, r1, r2, r3, s2, s3, if_pos o29, if_pos o32, if_neg o38, sa, sb, nI_add, q1, al]
    have fin : ∀ x : Bool, x = decide (o = 36) → fn_X18_reckon_B303 F sh n (bI (alM H d a b)) 337 z3 (bI x) = some (z', ()) := by
      intro x hx
      unfold fn_X18_reckon_B303
      by_cases c : alM H d a b = decide (o = 36)
      · rw [if_pos c] at w1
        rw [if_pos (by rw [bI_eq, hx]; exact c), show (1 : Int32) = nI 1 from rfl, w1, cal_s]
      · rw [if_neg c] at w1
        rw [if_neg (fun q => c (by rw [bI_eq, hx] at q; exact q)), show (1 : Int32) = nI 1 from rfl, w1, cal_s]
    rcases ho with e | e
    · rw [if_pos (by rw [e]; rfl)]
      exact fin true (by simp [e])
    · rw [if_neg (by rw [e]; decide)]
      exact fin false (by simp [e])
  · intro hg
    obtain ⟨z3, q1, q2, q3⟩ := p1.spendE (F := F) hg (by omega)
    refine ⟨z3, ?_, q2, p2.trans q3⟩
    unfold fn_X18_reckon_B44
    simp only [b_model p1.1, b_trees p1.1, grd_true, p1.goes, cal_s, if_neg one0, lnk_s, lt_t, b1, b2, c1, c2, r1, r2, r3, s2, s3, if_pos o29, if_pos o32, if_neg o38, sa, sb, nI_add, q1, ↓reduceIte]
end
