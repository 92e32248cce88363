/-! THE CLASS'S MACHINE: references (16 .. 20) -/
section
variable {F n : Nat} {sh : Nat → Nat × Nat} {z z' : St} {pk : Nat → Nat} {kt : Nat} {H : Hp} {m : Nat} {sl0 : Int32} {fr : Nat → Fm} {cs cl : Nat → Nat → Nat} {nf g lim : Nat}
/-- what 16 .. 19 begin with -/
theorem CM.ref0 (h : CM sh n z pk kt H m sl0 fr cs cl nf g lim) (h1 : 1 ≤ (fr (nf - 1)).2.2.1.1) {r t : Nat} (er : cs (nf - 1) ((fr (nf - 1)).2.2.1.1 - 1) = r) (hr : (H r).1 = 8) (ht : (H r).2.2.1 = lN t) (h0 : 0 < t) (ht2 : t < 2 ^ 31) : ∃ z1, fn_X4_pop F sh n z 87 = some (z1, nI r) ∧ fn_X4_target F sh n z1 87 (nI r) = some (z1, nI t) ∧ CM sh n z1 pk kt H m sl0 (setF fr (nf - 1) (setH (fr (nf - 1)) ((fr (nf - 1)).2.2.1.1 - 1))) cs cl nf g lim ∧ FrC z z1 := by
  obtain ⟨z1, p1, p2, p3⟩ := h.pop (F := F) h1
  rw [er] at p1
  exact ⟨z1, p1, p2.target hr ht h0 ht2, p2, p3⟩
/-- 18 -/
theorem CM.read (h : CM sh n z pk kt H m sl0 fr cs cl nf g lim) (h1 : 1 ≤ (fr (nf - 1)).2.2.1.1) {r t : Nat} (er : cs (nf - 1) ((fr (nf - 1)).2.2.1.1 - 1) = r) (hr : (H r).1 = 8) (ht : (H r).2.2.1 = lN t) (h0 : 0 < t) (ht2 : t < 2 ^ 31) {x1 : Int32} : ∃ z1, fn_X4_refer F sh n z 87 18 x1 = fn_X4_pushCopy F sh n z1 87 (nI t) ∧ CM sh n z1 pk kt H m sl0 (setF fr (nf - 1) (setH (fr (nf - 1)) ((fr (nf - 1)).2.2.1.1 - 1))) cs cl nf g lim ∧ FrC z z1 := by
  obtain ⟨z1, p1, p2, p3, p4⟩ := h.ref0 (F := F) h1 er hr ht h0 ht2
  refine ⟨z1, ?_, p3, p4⟩
  unfold fn_X4_refer
  rw [if_neg (by decide), (b_mach h.1).1, grd_true, p1, cal_s, p2, cal_s, if_pos (by decide), if_pos rfl, cal_id]
/-- 19 -/
theorem CM.wr (h : CM sh n z pk kt H m sl0 fr cs cl nf g lim) (h1 : 2 ≤ (fr (nf - 1)).2.2.1.1) {r t v : Nat} (er : cs (nf - 1) ((fr (nf - 1)).2.2.1.1 - 1) = r) (ev : cs (nf - 1) ((fr (nf - 1)).2.2.1.1 - 2) = v) (hr : (H r).1 = 8) (ht : (H r).2.2.1 = lN t) (h0 : 0 < t) (ht2 : t < 2 ^ 31) (ha : (H t).1 ≠ 0) (hb : (H v).1 ≠ 0) (hn : t ≠ v) (hroot : rootH H v) {x1 : Int32} : ∃ z', fn_X4_refer F sh n z 87 19 x1 = some (z', ()) ∧ CM sh n z' pk kt (upH (upH H t (H v)) v (0, 0, 0, [])) m sl0 (setF fr (nf - 1) (setH (fr (nf - 1)) ((fr (nf - 1)).2.2.1.1 - 2))) cs cl nf g lim ∧ FrC z z' := by
  obtain ⟨z1, p1, p2, p3, p4⟩ := h.ref0 (F := F) (by omega) er hr ht h0 ht2
  obtain ⟨z2, q1, q2, q3⟩ := p3.pop (F := F) (by rw [setF_s, setH_T]; omega)
  have e21 : (fr (nf - 1)).2.2.1.1 - 1 - 1 = (fr (nf - 1)).2.2.1.1 - 2 := by omega
  rw [setF_s, setH_T, e21, setF_2] at q2
  rw [setF_s, setH_T, e21, ev] at q1
  have as := assign_t (F := F) q2.1 q2.2.1 ha hb
  obtain ⟨w1, w2⟩ := q2.heap as_fr (as_H q2.2.1 ha hb hn hroot)
  refine ⟨_, ?_, w1, (p4.trans q3).trans w2⟩
  unfold fn_X4_refer
  rw [if_neg (by decide), (b_mach h.1).1, grd_true, p1, cal_s, p2, cal_s, if_pos (by decide), if_neg (by decide), p3.1.2.2 87 1 88 rfl, lnk_s, q1, cal_s, (b_heap h.1).1, grd_true, as, cal_s]
/-- 20 -/
theorem ref20C {x1 : Int32} : fn_X4_refer F sh n z 87 20 x1 = some (z, ()) := by
  unfold fn_X4_refer
  rw [if_pos rfl]
/-- 16, 17: hH by RC.point -/
theorem CM.field (hF : 300 ≤ F) (h : CM sh n z pk kt H m sl0 fr cs cl nf g lim) (h1 : 1 ≤ (fr (nf - 1)).2.2.1.1) {r t i c o : Nat} {H' : Hp} (ho : o = 16 ∨ o = 17) (er : cs (nf - 1) ((fr (nf - 1)).2.2.1.1 - 1) = r) (hr : (H r).1 = 8) (ht : (H r).2.2.1 = lN t) (h0 : 0 < t) (ht2 : t < 2 ^ 31) (ha : (H t).1 ≠ 0) (hi : inn (H t).1) (hl : i < (H t).2.2.2.length) (hl2 : i < 2 ^ 31) (hc : hd0 ((H t).2.2.2.drop ((H t).2.2.2.length - 1 - i)) = c) (hc2 : c < 2 ^ 31) (h64 : (fr (nf - 1)).2.2.1.1 ≤ 64) (hH : ∀ z1, HC z1 H m sl0 → HC (sl z1 90 r (lN c)) H' m sl0) (s : Sl) : ∃ z', fn_X4_refer F sh n z 87 (nI o) (nI i) = some (z', ()) ∧ CM sh n z' pk kt H' m sl0 (setF fr (nf - 1) (pshV (setH (fr (nf - 1)) ((fr (nf - 1)).2.2.1.1 - 1)) s)) (up2 cs (nf - 1) ((fr (nf - 1)).2.2.1.1 - 1) r) cl nf g lim ∧ FrC z z' := by
  obtain ⟨z1, p1, p2, p3, p4⟩ := h.ref0 (F := F) h1 er hr ht h0 ht2
  have ch := child_t (F := F) hF p3.1 p3.2.1 ha hi hl
  rw [hc] at ch
  have f1 : Fr 88 92 z1 (sl z1 90 r (lN c)) := Fr.rfl'.sl (by omega)
  obtain ⟨w1, w2⟩ := p3.heap f1 (hH z1 p3.2.1)
  obtain ⟨z2, q1, q2, q3⟩ := w1.push (F := F) (by rw [setF_s, setH_T]; omega) s r
  rw [setF_s, setF_2, setH_T] at q2
  refine ⟨z2, ?_, q2, (p4.trans w2).trans q3⟩
  have al : (H r).1 ≠ 0 := by omega
  obtain ⟨b1, b2⟩ := p3.2.1.i1 al
  have o2 : okA sh n 90 102 (nI r) = true := by rw [lay_a h.1 90 102 21600 (by decide) rfl]; exact b1
  have n20 : ¬ nI o = 20 := fun q => by have := (nI_ij (a := o) (b := 20) (by omega) (by omega)).mp q; omega
  have n17 : ¬ (17 : Int32) < nI o := by
    rw [Int32.not_lt]
    exact (nI_leI (b := 17) (by omega) (by omega)).mpr (by omega)
  have hp := b_heap p3.1
  unfold fn_X4_refer
  rw [if_neg n20, (b_mach h.1).1, grd_true, p1, cal_s, p2, cal_s, if_neg n17, p3.1.2.2 87 1 88 rfl, lnk_s, hp.1, grd_true, hp.2.2.1, lnk_s, lnk_s, hp.1, grd_true, nI_l hl2, ch, cal_s, o2, grd_true, b2, nI_l hc2, lt_t, q1, cal_s]
end
