/-! BOTH MACHINES SIDE BY SIDE: taking away, branching, truths, comparing values -/
section
variable {E : Ev} {F n : Nat} {sh : Nat → Nat × Nat} {pk : Nat → Nat} {kt : Nat} {sl0 : Int32} {lim e : Nat} {zr zc zr' zc' : St} {H : Hp} {m : Nat} {ty : Nat → Nat} {fr : Nat → Fm} {nf na : Nat} {ak : Nat → Ask} {g g' : Nat} {Hc : Hp} {mc : Nat} {phi : Nat → Nat} {Rn : Nat → Option Nat} {cs cl : Nat → Nat → Nat} {cn : Nat → Nat} {ws : Nat → Int64 → Nat → Bool} {u : Nat} {U : Md} {ls : List Ty} {L L' : Lks} {R C : Option (St × Unit)}
/-- c are taken; the next instruction lies at nx -/
theorem Out.drp (h : Sm E sh n pk kt sl0 lim 1 zr zc H m ty fr nf na ak g Hc mc phi Rn cs cl cn ws) (fm : FM U ls (fr (nf - 1)) L) {c nx : Nat} {P : Nat → Prop} (hP : P nx) (hc : c ≤ L.1.1) (hg : g ≤ g') (er : R = some (zr', ())) (ec : C = some (zc', ())) (rm : RM sh n zr' H m (setF fr (nf - 1) (((fr (nf - 1)).1.1, (fr (nf - 1)).1.2.1, nx), (setH (fr (nf - 1)) ((fr (nf - 1)).2.2.1.1 - c)).2)) nf na ak g' lim) (cm : CM sh n zc' pk kt Hc mc sl0 (setF fr (nf - 1) (((fr (nf - 1)).1.1, (fr (nf - 1)).1.2.1, nx), (setH (fr (nf - 1)) ((fr (nf - 1)).2.2.1.1 - c)).2)) cs cl nf g' lim) (f1 : FrR zr zr') (f2 : FrD zc zc') : Out E sh n pk kt sl0 lim zr zc fr nf na ak g ws U ls ((L.1.1 - c, L.1.2), L.2) P R C := by
  have h' := h
  obtain ⟨I, _, _, cj, r, sr, an, na2, rn, rm1, rm2⟩ := h
  have fd := fm.drop c
  refine ⟨zr', zc', er, ec, f1, f2.x, .inr ⟨H, m, ty, (((fr (nf - 1)).1.1, (fr (nf - 1)).1.2.1, nx), (setH (fr (nf - 1)) ((fr (nf - 1)).2.2.1.1 - c)).2), na, ak, g', Hc, mc, phi, Rn, cs, cl, cn, ⟨(I.drp c).fcong (FmE.set ⟨⟨rfl, rfl⟩, rfl, rfl, fun _ _ => rfl, rfl⟩), rm, cm, cj.fd f2, r, sr.drp rfl (by omega) (fun x d k t c q _ => sr.1 _ _ _ _ _ q), an, na2, rn, by omega, by omega⟩, AkL.same (by omega), rfl, rfl, hP, fd⟩⟩
theorem RM.drop0 (h : RM sh n zr H m fr nf na ak g lim) (h1 : 1 ≤ (fr (nf - 1)).2.2.1.1) {x y : Int64} : ∃ z', oneD F sh n (nI 0) x y zr = some (z', ()) ∧ RM sh n z' H m (setF fr (nf - 1) (setH (fr (nf - 1)) ((fr (nf - 1)).2.2.1.1 - 1))) nf na ak g lim ∧ FrR zr z' := by
  obtain ⟨p1, p2⟩ := h.dropn (c := 1) h1
  refine ⟨_, ?_, p1, p2⟩
  obtain ⟨hL, hr, hM, ⟨f1, f2, f3, f4, f5⟩, _⟩ := h
  have a5 := (f5 (nf - 1) (by omega)).2.2.2.2.1
  have b64 := bsm_64 f5 nf (Nat.le_refl _)
  have bp := bsm_p (fr := fr) f2
  have e1 : nI nf - 1 = nI (nf - 1) := pk_sub (a := nf) (b := 1) f2
  have e2 : nI (bsm fr nf) - 1 = nI (bsm fr nf - 1) := pk_sub (a := bsm fr nf) (b := 1) (by omega)
  have ok : okA sh n 394 101 (nI (nf - 1)) = true := by rw [lay_a hL 394 101 32 (by decide) rfl]; exact okI_nI (by omega) (by omega)
  unfold oneD
  rw [if_pos (by rfl), hL.2.2 337 40 394 rfl, lnk_s, f1, e1, ok, grd_true, nI_clamp (by omega), a5, f4, if_neg (fun q => by have := (nI_ij (by omega) (by omega)).mp q; omega), e2, lt_t]
/-- 0 -/
theorem sim_0 (h : Sm E sh n pk kt sl0 lim 1 zr zc H m ty fr nf na ak g Hc mc phi Rn cs cl cn ws) (fm : FM U ls (fr (nf - 1)) L) (h1 : 1 ≤ L.1.1) {x y : Int64} {to : Int32} : Out E sh n pk kt sl0 lim zr zc fr nf na ak g ws U ls ((L.1.1 - 1, L.1.2), L.2) (fun i => i = (fr (nf - 1)).1.2.2) (oneD F sh n (nI 0) x y zr) (fn_X4_steer F sh n zc 87 (nI 0) to) := by
  have hh := fm.1
  obtain ⟨z1, q1, q2, q3⟩ := h.2.1.drop0 (F := F) (by omega) (x := x) (y := y)
  obtain ⟨z2, c1, c2, c3⟩ := h.2.2.1.drop (F := F) (by omega) (to := to)
  exact Out.drp h fm (c := 1) rfl h1 (Nat.le_refl _) q1 c1 q2 c2 q3 c3.d
/-- 35 -/
theorem sim_35 (h : Sm E sh n pk kt sl0 lim 1 zr zc H m ty fr nf na ak g Hc mc phi Rn cs cl cn ws) (fm : FM U ls (fr (nf - 1)) L) (er : R = some (zr, ())) (ec : C = some (zc, ())) : Out E sh n pk kt sl0 lim zr zc fr nf na ak g ws U ls L (fun i => i = (fr (nf - 1)).1.2.2) R C := by
  have e0 : setF fr (nf - 1) (((fr (nf - 1)).1.1, (fr (nf - 1)).1.2.1, (fr (nf - 1)).1.2.2), (setH (fr (nf - 1)) ((fr (nf - 1)).2.2.1.1 - 0)).2) = fr := by
    funext d
    by_cases q : d = nf - 1
    · subst q; rw [setF_s]; rfl
    · rw [setF_n q]
  exact Out.drp h fm (c := 0) (nx := (fr (nf - 1)).1.2.2) rfl (by omega) (Nat.le_refl _) er ec (by rw [e0]; exact h.2.1) (by rw [e0]; exact h.2.2.1) (by exact FrR.rfl') FrD.rfl'
/-- 2 -/
theorem sim_2 (h : Sm E sh n pk kt sl0 lim 1 zr zc H m ty fr nf na ak g Hc mc phi Rn cs cl cn ws) (fm : FM U ls (fr (nf - 1)) L) {to : Nat} : Out E sh n pk kt sl0 lim zr zc fr nf na ak g ws U ls L (fun i => i = to) (fn_X18_branch F sh n zr 337 (nI 2) (nI to)) (fn_X4_steer F sh n zc 87 (nI 2) (nI to)) := by
  obtain ⟨q1, q2⟩ := h.2.1.nx to
  obtain ⟨c2, c3⟩ := h.2.2.1.nx to
  exact Out.drp h fm (c := 0) (nx := to) rfl (by omega) (Nat.le_refl _) (h.2.1.br2 to) (h.2.2.1.go to) q1 c2 q2 c3.d
/-- 3, 4 -/
theorem sim_34 (h : Sm E sh n pk kt sl0 lim 1 zr zc H m ty fr nf na ak g Hc mc phi Rn cs cl cn ws) (fm : FM U ls (fr (nf - 1)) L) {o to : Nat} (ho : o = 3 ∨ o = 4) (h1 : 1 ≤ L.1.1) (t1 : (L.1.2 (L.1.1 - 1)).1 = [1]) : Out E sh n pk kt sl0 lim zr zc fr nf na ak g ws U ls ((L.1.1 - 1, L.1.2), L.2) (fun i => i = to ∨ i = (fr (nf - 1)).1.2.2) (fn_X18_branch F sh n zr 337 (nI o) (nI to)) (fn_X4_steer F sh n zc 87 (nI o) (nI to)) := by
  have hh := fm.1
  obtain ⟨b0, b1, pb1, pb2, pb3, pb4, pb5⟩ := h.top fm (i := 1) (by omega) (by omega) (by omega) (by omega) t1
  obtain ⟨r1, r2⟩ := h.2.1.br34 (F := F) ho to (by omega) b0 rfl pb1
  obtain ⟨z1, c1, c2, c3⟩ := h.2.2.1.br (F := F) (by omega) ho b1 pb2 to
  rw [pb4] at c3
  by_cases q : decide ((H ((fr (nf - 1)).2.2.1.2 ((fr (nf - 1)).2.2.1.1 - 1)).1).2.2.1 = 1) = decide (o = 3)
  · obtain ⟨z2, a1, a2, a3⟩ := r1 q
    rw [if_pos q] at c3
    obtain ⟨d1, d2⟩ := c1.nx to
    rw [setF_s, setF_2] at d1
    exact Out.drp h fm (c := 1) (nx := to) (.inl rfl) h1 (Nat.le_refl _) a1 c3 a2 d1 a3 (c2.trans d2).d
  · obtain ⟨z2, a1, a2, a3⟩ := r2 q
    rw [if_neg q] at c3
    exact Out.drp h fm (c := 1) (nx := (fr (nf - 1)).1.2.2) (.inr rfl) h1 (Nat.le_refl _) a1 c3 a2 c1 a3 c2.d
/-- 45 -/
theorem sim_45 (h : Sm E sh n pk kt sl0 lim 1 zr zc H m ty fr nf na ak g Hc mc phi Rn cs cl cn ws) (fm : FM U ls (fr (nf - 1)) L) (h1 : 1 ≤ L.1.1) (t1 : (L.1.2 (L.1.1 - 1)).1 = [3]) {x y : Int64} {to : Int32} {P : Nat → Prop} : Out E sh n pk kt sl0 lim zr zc fr nf na ak g ws U ls L' P (oneD F sh n (nI 45) x y zr) (fn_X4_steer F sh n zc 87 (nI 45) to) := by
  have hh := fm.1
  obtain ⟨b0, b1, pb1, pb2, pb3, pb4, pb5⟩ := h.top fm (i := 1) (by omega) (by omega) (by omega) (by omega) t1
  obtain ⟨z1, q1, q2, q3⟩ := h.2.1.abort (F := F) (by omega) b0 pb1 (r41 := y) (r36 := x)
  obtain ⟨z2, c1, c2, c3⟩ := h.2.2.1.abort (F := F) (by omega) b1 pb2 (to := to)
  rw [pb4] at c2
  exact Out.end 1 _ g (.inl rfl) (by rw [oneD_45]; exact q1) c1 q2 c2 q3 c3.x
/-- 34 -/
theorem oneD_34 {x y : Int64} : oneD F sh n (nI 34) x y zr = lnk (zr.2.2 337 15) (fun k_92 => grd (okO sh n k_92 15) (lnk (zr.2.2 k_92 2) (fun k_94 => cal (fn_X18_take F sh n zr 337 1) (fun z_95 r_96 => grd (okA sh n k_94 102 r_96) (cal (fn_X18_make F sh n z_95 337 1 0 (1 - (z_95.2.1 k_94 r_96.toNatClampNeg))) (fun z_99 _ => some (z_99, ()))))))) := by
  unfold oneD
  repeat (first | rw [if_pos (by decide)] | rw [if_neg (by decide)])
theorem oneD_35 {x y : Int64} : oneD F sh n (nI 35) x y zr = some (zr, ()) := by
  unfold oneD
  try unfold fn_X18_one_B379
  try unfold fn_X18_one_B402
  try unfold fn_X18_one_B443
  repeat (first | rw [if_pos (by decide)] | rw [if_neg (by decide)])
theorem sim_n (h : Sm E sh n pk kt sl0 lim 1 zr zc H m ty fr nf na ak g Hc mc phi Rn cs cl cn ws) (hE : EvOk E) (hU : UOk E u U) (fm : FM U ls (fr (nf - 1)) L) (h1 : 1 ≤ L.1.1) (t1 : (L.1.2 (L.1.1 - 1)).1 = [1]) {x y : Int64} (hp : lPush ([1], 0, false) ((L.1.1 - 1, L.1.2), L.2) = .ok L') : Out E sh n pk kt sl0 lim zr zc fr nf na ak g ws U ls L' (fun i => i = (fr (nf - 1)).1.2.2) (oneD F sh n (nI 34) x y zr) (fn_X4_reckon F sh n zc 87 (nI 34)) := by
  have hh := fm.1
  obtain ⟨r1, r2⟩ := h.rooms
  obtain ⟨b0, b1, pb1, pb2, pb3, pb4, pb5⟩ := h.top fm (i := 1) (by omega) (by omega) (by omega) (by omega) t1
  obtain ⟨z1, z2, q1, q2, q3, q4, q5⟩ := h.2.1.not (F := F) (by omega) h.h64 b0 pb1 (by omega)
  obtain ⟨z3, c1, c2, c3⟩ := h.2.2.1.not (F := F) (by omega) b1 pb2 (by omega) (m, 0, 1, 0, false)
  rw [pb4] at c2
  have hv : ((fr (nf - 1)).2.2.1.2 ((fr (nf - 1)).2.2.1.1 - 1)).1 < m := (h.ht.2 _ (by rw [pb1]; decide)).1
  have ov : okA sh n 352 102 (nI ((fr (nf - 1)).2.2.1.2 ((fr (nf - 1)).2.2.1.1 - 1)).1) = true := by rw [lay_a h.2.1.1 352 102 24576 (by decide) rfl]; exact okI_nI (by omega) (by omega)
  have er : oneD F sh n (nI 34) x y zr = some (z2, ()) := by
    rw [oneD_34, h.2.1.1.2.2 337 15 349 rfl, lnk_s, (b_trees h.2.1.1).1, grd_true, (b_trees h.2.1.1).2.2.2.1, lnk_s, q1, cal_s, ov, grd_true, nI_clamp (by omega), q2, q3, cal_s]
  have lt : LTm E 1 (1, 0, 1 - (H ((fr (nf - 1)).2.2.1.2 ((fr (nf - 1)).2.2.1.1 - 1)).1).2.2.1, []) [] := LTm_tr (by
    rcases pb5.tr.2.2 with q | q
    · rw [q]; exact .inr rfl
    · rw [q]; exact .inl rfl)
  exact Out.num h hE hU fm (c := 1) h1 (by omega) (by omega) lt hp (Nat.le_refl _) er c1 q4 c2 q5 c3.d
end
