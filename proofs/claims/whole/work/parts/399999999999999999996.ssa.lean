/-! THE CLASS'S READER: which structures each one holds; the first that holds itself -/
section
variable {F n : Nat} {sh : Nat → Nat × Nat} {z z' : St} {kp kb len : Nat} {b : Nat → Nat} {M : MP} {J : Bool} {r : Ex Nat}
theorem flS_at : ∀ (ss : List SP) (s i : Nat), s < ss.length → i < (ss.getD s dSP).2.2.length → (flS (ss.take s)).length + i < (flS ss).length ∧ (flS ss).getD ((flS (ss.take s)).length + i) [] = (ss.getD s dSP).2.2.getD i []
  | [], s, i, h, _ => absurd h (by simp)
  | t :: ts, 0, i, _, hi => by
    have hi' : i < t.2.2.length := hi
    rw [flS_c]
    show (flS []).length + i < _ ∧ (t.2.2 ++ flS ts).getD ((flS []).length + i) [] = t.2.2.getD i []
    rw [show (flS []).length + i = i by show 0 + i = i; omega, List.length_append]
    refine ⟨by omega, ?_⟩
    rw [List.getD_eq_getElem?_getD, List.getD_eq_getElem?_getD, List.getElem?_append_left hi']
  | t :: ts, s + 1, i, h, hi => by
    have ih := flS_at ts s i (by simpa using h) hi
    rw [List.take_succ_cons, flS_c, flS_c, List.length_append, List.length_append]
    refine ⟨by omega, ?_⟩
    rw [List.getD_eq_getElem?_getD, List.getElem?_append_right (by omega), ← List.getD_eq_getElem?_getD, show t.2.2.length + (flS (ts.take s)).length + i - t.2.2.length = (flS (ts.take s)).length + i by omega]
    exact ih.2
/-- a program that holds a picture -/
def CPo (sh : Nat → Nat × Nat) (n : Nat) (z : St) (kp : Nat) (b : Nat → Nat) (len : Nat) (M : MP) : Prop := Lay sh n z ∧ isP kp ∧ TMc z kp b M ∧ PicOk b len M
theorem CPo.fr (h : CPo sh n z kp b len M) (f2 : z'.2 = z.2) (f1 : ∀ k, kp ≤ k → k ≤ kp + 4 → z'.1 k = z.1 k) : CPo sh n z' kp b len M := by
  obtain ⟨a1, a2, a3, a4⟩ := h
  refine ⟨a1.of (by rw [f2]), a2, ?_, a4⟩
  obtain ⟨t1, t2, t3, t4, t5, t6, t7, t8, t9⟩ := a3
  have g0 := f1 kp (by omega) (by omega)
  have g2 := f1 (kp + 2) (by omega) (by omega)
  have g3 := f1 (kp + 3) (by omega) (by omega)
  have g4 := f1 (kp + 4) (by omega) (by omega)
  refine ⟨by rw [g0]; exact t1, fun k hk => ?_, fun k hk => ?_, fun k hk => ?_, fun k hk => ?_, ?_, ?_, t8, t9⟩
  · have := t2 k hk; unfold SRo at this ⊢; rw [g3]; exact this
  · have := t3 k hk; unfold FoR at this ⊢; rw [g3]; exact this
  · have := t4 k hk; unfold CRo at this ⊢; rw [g4]; exact this
  · have := t5 k hk; unfold GRo at this ⊢; rw [g4]; exact this
  · unfold TyT at t6 ⊢; rw [g0, f2]; exact t6
  · unfold SrT at t7 ⊢; rw [g0, g2]; exact t7
theorem CPo.sCol (h : CPo sh n z kp b len M) {s c : Nat} {ic : Int32} (ec : ic = nI c) (hs : s < M.1.length + M.2.1.length) (hc : c < 7) : fn_X5_structureColumn F sh n z kp (nI s) ic = some (z, z.1 (kp + 3) (7 * s + c)) := by
  subst ec
  obtain ⟨a1, a2, a3, a4⟩ := h
  obtain ⟨p0, p1, p2, p3, p4, p5, p6, p7, p8⟩ := b_prog a1 a2
  have l1 := a4.1.1
  have l2 := a4.2.1.1
  have ei : nI s * 7 + nI c = nI (7 * s + c) := by rw [show (7 : Int32) = nI 7 from rfl, pk_mul, nI_add, Nat.mul_comm]
  unfold fn_X5_structureColumn
  rw [if_neg (fun y => by have := (nIlt (x := 0) 0 rfl (by omega) (by omega)).mp y; omega), p0, grd_true, a3.1.2.2.1, if_pos ((nI_ltI (by omega) (by omega)).mpr hs), p3, lnk_s, ei, p7, okI_nI (by omega) (by omega), grd_true, nI_clamp (by omega)]
theorem CPo.typeAt (h : CPo sh n z kp b len M) {i : Nat} (hi : i < (allT M).length) : fn_X5_typeAt F sh n z kp (nI i) = some (z, tL ((allT M).getD i [])) := by
  obtain ⟨a1, a2, a3, a4⟩ := h
  obtain ⟨p0, p1, p2, p3, p4, p5, p6, p7, p8⟩ := b_prog a1 a2
  have a5 := a3.2.2.2.2.2.2.2.1
  obtain ⟨t1, t2⟩ := a3.2.2.2.2.2.1
  unfold fn_X5_typeAt
  rw [if_neg (fun y => by have := (nIlt (x := 0) 0 rfl (by omega) (by omega)).mp y; omega), p0, grd_true, t1, if_pos ((nI_ltI (by omega) (by omega)).mpr hi), p1, lnk_s, p5, okI_nI (by omega) (by omega), grd_true, nI_clamp (by omega), t2 i hi]
theorem CPo.fields (h : CPo sh n z kp b len M) {s : Nat} (hs : s < M.1.length) : fn_X5_fieldCount F sh n z kp (nI s) = some (z, nI (M.1.getD s dSP).2.2.length) := by
  obtain ⟨p0, _⟩ := b_prog h.1 h.2.1
  have t := (h.2.2.1.2.1 s hs).2.2.2.1
  rw [Nat.zero_add] at t
  unfold fn_X5_fieldCount
  rw [p0, grd_true, h.sCol (c := 3) (ic := 3) rfl (by omega) (by omega), cal_s, t]
theorem CPo.field (h : CPo sh n z kp b len M) {s i : Nat} (hs : s < M.1.length) (hi : i < (M.1.getD s dSP).2.2.length) : fn_X5_fieldType F sh n z kp (nI s) (nI i) = some (z, tL ((M.1.getD s dSP).2.2.getD i [])) := by
  obtain ⟨p0, _⟩ := b_prog h.1 h.2.1
  have t := (h.2.2.1.2.1 s hs).2.2.1
  rw [Nat.zero_add, Nat.zero_add] at t
  have f := flS_at M.1 s i hs hi
  have al : allT M = flS M.1 ++ (flC M.2.2.1 ++ (M.2.2.2.1.map (fun e => e.2) ++ flG M.2.2.2.2)) := by unfold allT; simp only [List.append_assoc]
  have lt : (flS (M.1.take s)).length + i < (allT M).length := by rw [al, List.length_append]; omega
  have ge : (allT M).getD ((flS (M.1.take s)).length + i) [] = (M.1.getD s dSP).2.2.getD i [] := by
    rw [al, List.getD_eq_getElem?_getD, List.getElem?_append_left f.1, ← List.getD_eq_getElem?_getD]; exact f.2
  unfold fn_X5_fieldType
  rw [p0, grd_true, h.sCol (c := 2) (ic := 2) rfl (by omega) (by omega), cal_s, t, nI_add, h.typeAt lt, cal_s, ge]
theorem CPo.tb (hb : ∀ q, q < len → b q < 256) (h : CPo sh n z kp b len M) (hj : jM b M = none) {s i : Nat} (hs : s < M.1.length) (hi : i < (M.1.getD s dSP).2.2.length) : TB ((M.1.getD s dSP).2.2.getD i []) := by
  have st := h.2.2.2.1.2 (M.1.getD s dSP) (getD_m hs)
  have := (AtL.nth (M.1.getD s dSP).2.2 _ i st.2.2.2.2.2.2 hi).1
  obtain ⟨j1, _⟩ := orE_0 hj
  obtain ⟨j1, _⟩ := orE_0 j1
  obtain ⟨j1, _⟩ := orE_0 j1
  have := AtL.ls hb (M.1.getD s dSP).2.2 _ st.2.2.2.2.2.2 (jSs_n M.1 j1 _ (getD_m hs)) ((M.1.getD s dSP).2.2.getD i []) (getD_m hi)
  exact this.1.1.1
end
