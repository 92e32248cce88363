/-! THE CLASS'S MACHINE: references (16 .. 20) -/
section
variable {F n : Nat} {sh : Nat → Nat × Nat} {z z' : St} {pk : Nat → Nat} {kt : Nat} {H : Hp} {m : Nat} {sl0 : Int32} {fr : Nat → Fm} {cs cl : Nat → Nat → Nat} {nf g lim : Nat}
/-- what 16 .. 19 begin with -/
theorem CM.ref0 (h : CM sh n z pk kt H m sl0 fr cs cl nf g lim) (h1 : 1 ≤ (fr (nf - 1)).2.2.1.1) {r t : Nat} (er : cs (nf - 1) ((fr (nf - 1)).2.2.1.1 - 1) = r) (hr : (H r).1 = 8) (ht : (H r).2.2.1 = lN t) (h0 : 0 < t) (ht2 : t < 2 ^ 31) : ∃ z1, fn_X4_pop F sh n z 87 = some (z1, nI r) ∧ fn_X4_target F sh n z1 87 (nI r) = some (z1, nI t) ∧ CM sh n z1 pk kt H m sl0 (setF fr (nf - 1) (setH (fr (nf - 1)) ((fr (nf - 1)).2.2.1.1 - 1))) cs cl nf g lim ∧ FrC z z1 := by
  obtain ⟨z1, p1, p2, p3⟩ := h.pop (F := F) h1
  rw [er] at p1
  exact ⟨z1, p1, p2.target hr ht h0 ht2, p2, p3⟩
/-- 18 -/
theorem CM.read (h : CM sh n z pk kt H m sl0 fr cs cl nf g lim) (h1 : 1 ≤ (fr (nf - 1)).2.2.1.1) {r t : Nat} (er : cs (nf - 1) ((fr (nf - 1)).2.2.1.1 - 1) = r) (hr : (H r).1 = 8) (ht : (H r).2.2.1 = lN t) (h0 : 0 < t) (ht2 : t < 2 ^ 31) {x1 : Int32} : ∃ z1, fn_X4_refer F sh n z 87 18 x1 = fn_X4_pushCopy F sh n z1 87 (nI t) ∧ CM sh n z1 pk kt H m sl0 (setF fr (nf - 1) (setH (fr (nf - 1)) ((fr (nf - 1)).2.2.1.1 - 1))) cs cl nf g lim ∧ FrC z z1 := by
  obtain ⟨z1, p1, p2, p3, p4⟩ := h.ref0 (F := F) h1 er hr ht h0 ht2
  refine ⟨z1, ?_, p3, p4⟩
  unfold fn_X4_refer
  rw [if_neg (by decide), (b_mach h.1).1, grd_true, p1, cal_s, p2, cal_s, if_pos (by decide), if_pos rfl, cal_id]
/-- 19 -/
theorem CM.wr (h : CM sh n z pk kt H m sl0 fr cs cl nf g lim) (h1 : 2 ≤ (fr (nf - 1)).2.2.1.1) {r t v : Nat} (er : cs (nf - 1) ((fr (nf - 1)).2.2.1.1 - 1) = r) (ev : cs (nf - 1) ((fr (nf - 1)).2.2.1.1 - 2) = v) (hr : (H r).1 = 8) (ht : (H r).2.2.1 = lN t) (h0 : 0 < t) (ht2 : t < 2 ^ 31) (ha : (H t).1 ≠ 0) (hb : (H v).1 ≠ 0) (hn : t ≠ v) (hroot : rootH H v) {x1 : Int32} : ∃ z', fn_X4_refer F sh n z 87 19 x1 = some (z', ()) ∧ CM sh n z' pk kt (upH (upH H t (H v)) v (0, 0, 0, [])) m sl0 (setF fr (nf - 1) (setH (fr (nf - 1)) ((fr (nf - 1)).2.2.1.1 - 2))) cs cl nf g lim ∧ FrC z z' := by
  obtain ⟨z1, p1, p2, p3, p4⟩ := h.ref0 (F := F) (by omega) er hr ht h0 ht2
  obtain ⟨z2, q1, q2, q3⟩ := p3.pop (F := F) (by rw [setF_s, setH_T]; omega)
  have e21 : (fr (nf - 1)).2.2.1.1 - 1 - 1 = (fr (nf - 1)).2.2.1.1 - 2 := by omega
  rw [setF_s, setH_T, e21, setF_2] at q2
  rw [setF_s, setH_T, e21, ev] at q1
  have as := assign_t (F := F) q2.1 q2.2.1 ha hb
  obtain ⟨w1, w2⟩ := q2.heap as_fr (as_H q2.2.1 ha hb hn hroot)
  refine ⟨_, ?_, w1, (p4.trans q3).trans w2⟩
  unfold fn_X4_refer
  rw [if_neg (by decide), (b_mach h.1).1, grd_true, p1, cal_s, p2, cal_s, if_pos (by decide), if_neg (by decide), p3.1.2.2 87 1 88 rfl, lnk_s, q1, cal_s, (b_heap h.1).1, grd_true, as, cal_s]
/-- 20 -/
theorem ref20C {x1 : Int32} : fn_X4_refer F sh n z 87 20 x1 = some (z, ()) := by
  unfold fn_X4_refer
  rw [if_pos rfl]
end
