/-! THE CLASS'S LOOKER: one operation -/
section
variable {F n : Nat} {sh : Nat → Nat × Nat} {z z' : St} {kp f w ns : Nat} {ls : List Ty} {L M : Lks} {U : Md}
theorem CK.oper (hF : 300 ≤ F) (h : CK sh n z kp f (locOf U f) U.1.2.2 L) (hn : LcO (locOf U f) L.2) (h63 : N63 L) (hu : ∀ z', FrQc z z' → CnL F sh n z' kp U) (he : ∀ e, ∃ r, fn_X5_elementType F sh n z kp e = some (z, r)) (hm : MdO U) (hf : f < faOf U) (hl : ∀ k, k < (locOf U f).length → LsO U.1.2.2 ((locOf U f).getD k [])) (hd : DrO z U (locOf U f)) {i o w a0 : Nat} {x y : Int64} (e4 : z.1 62 4 = nI i) (hp : fn_X5_instructionPlace F sh n z kp (nI f) (nI i) = some (z, nI w)) (ci : CIn F sh n z kp w o a0 x y) (hi : InOk U f o x.toInt.toNat y.toInt.toNat) (hy : 52 ≤ o → y.toInt.toNat < 256) : ∃ z', fn_X3_operate F sh n z 62 = fn_X3_operate_B248 F sh n 62 (nI w) (nI o) z' ∧ CR sh n z' kp f (locOf U f) U.1.2.2 (aOp U f o x.toInt.toNat y.toInt.toNat L) ∧ FrQc z z' := by
  obtain ⟨i59, i11, i16, i21, i47, i23, i52⟩ := hi
  obtain ⟨r1, ⟨r2, r2b, r2c⟩, ⟨b1, r3, r3b⟩, _⟩ := ci
  have E : ∀ (m : Nat) (x : Int32), x = nI m → m < 100 → (nI o = x ↔ o = m) := fun m x e hm => nIe m e (by omega) (by omega)
  have LE : ∀ (m : Nat) (x : Int32), x = nI m → m < 100 → (nI o ≤ x ↔ o ≤ m) := fun m x e hm => nIle m e (by omega) (by omega)
  have GT : ∀ (m : Nat) (x : Int32), x = nI m → m < 100 → (x < nI o ↔ m < o) := fun m x e hm => nIgt m e (by omega) (by omega)
  have nE : ∀ (m : Nat) (x : Int32), x = nI m → m < 100 → o ≠ m → ¬ nI o = x := fun _ _ e hm q p => q ((E _ _ e hm).mp p)
  have nLE : ∀ (m : Nat) (x : Int32), x = nI m → m < 100 → m < o → ¬ nI o ≤ x := fun _ _ e hm q p => by have := (LE _ _ e hm).mp p; omega
  have nGT : ∀ (m : Nat) (x : Int32), x = nI m → m < 100 → o ≤ m → ¬ x < nI o := fun _ _ e hm q p => by have := (GT _ _ e hm).mp p; omega
  have un := hu z FrQc.rfl'
  have l2 := h.2.1
  have c40 := h.2.2.2.2.2.1.1
  have ea : o = 5 ∨ (11 ≤ o ∧ o ≤ 17) ∨ (21 ≤ o ∧ o ≤ 23) ∨ (47 ≤ o ∧ o ≤ 58) → x.toInt.toNat = a0 := fun q => by rw [r2c q]; exact lN_tI (by omega)
  have eb : o = 16 ∨ o = 17 ∨ o = 52 → b1 = nI y.toInt.toNat := fun q => by
    obtain ⟨b, b2, b3, b4⟩ := r3b q
    rw [b4, b3, lN_tI (by omega)]
  unfold fn_X3_operate
  rw [h.cb.o3, grd_true, l2, lnk_s, un.1, grd_true, h.2.2.1, e4, hp, cal_s, l2, lnk_s, un.1, grd_true, r1, cal_s, l2, lnk_s, un.1, grd_true, r2, cal_s, l2, lnk_s, un.1, grd_true, r3, cal_s]
  generalize ex : x.toInt.toNat = a at *
  generalize ey : y.toInt.toNat = b at *
  by_cases c1 : o = 1
  · obtain ⟨z1, q1, q2, q3⟩ := h.giveBack (F := F) hF hu hm hf hd
    rw [if_pos ((E 1 1 rfl (by omega)).mpr c1), q1, cal_s]
    refine ⟨z1, rfl, ?_, q3⟩
    subst c1
    exact q2
  rw [if_neg (nE 1 1 rfl (by omega) c1)]
  have st : (o = 0 ∨ o = 2 ∨ o = 3 ∨ o = 4 ∨ o = 45) → ∃ z', fn_X3_operate_B71 F sh n 62 (nI o) (nI w) z = fn_X3_operate_B248 F sh n 62 (nI w) (nI o) z' ∧ CR sh n z' kp f (locOf U f) U.1.2.2 (aOp U f o a b L) ∧ FrQc z z' := fun ho => by
    obtain ⟨z1, q1, q2, q3⟩ := h.steer (F := F) hF hu hm ho a b
    unfold fn_X3_operate_B71
    rw [q1, cal_s]
    exact ⟨z1, rfl, q2, q3⟩
  by_cases c4 : o ≤ 4
  · rw [if_pos ((LE 4 4 rfl (by omega)).mpr c4)]
    exact st (by omega)
  rw [if_neg (nLE 4 4 rfl (by omega) (by omega))]
  by_cases c45 : o = 45
  · rw [if_pos ((E 45 45 rfl (by omega)).mpr c45)]
    exact st (by omega)
  rw [if_neg (nE 45 45 rfl (by omega) c45)]
  have se : ((5 ≤ o ∧ o ≤ 10) ∨ o = 35 ∨ o = 46) → ∃ z', fn_X3_operate_B97 F sh n 62 (nI o) (nI w) z = fn_X3_operate_B248 F sh n 62 (nI w) (nI o) z' ∧ CR sh n z' kp f (locOf U f) U.1.2.2 (aOp U f o a b L) ∧ FrQc z z' := fun ho => by
    obtain ⟨z1, q1, q2, q3⟩ := h.set (F := F) ho a b
    unfold fn_X3_operate_B97
    rw [q1, cal_s]
    exact ⟨z1, rfl, q2, q3⟩
  by_cases c10 : o ≤ 10
  · rw [if_pos ((LE 10 10 rfl (by omega)).mpr c10)]
    exact se (by omega)
  rw [if_neg (nLE 10 10 rfl (by omega) (by omega))]
  by_cases c35 : o = 35
  · rw [if_pos ((E 35 35 rfl (by omega)).mpr c35)]
    exact se (by omega)
  rw [if_neg (nE 35 35 rfl (by omega) c35)]
  by_cases c46 : o = 46
  · rw [if_pos ((E 46 46 rfl (by omega)).mpr c46)]
    exact se (by omega)
  rw [if_neg (nE 46 46 rfl (by omega) c46)]
  unfold aOp
  show ∃ z', _ ∧ CR sh n z' kp f (locOf U f) U.1.2.2 (if o = 0 then _ else if o = 1 then _ else if o < 5 then _ else if o < 11 then _ else if o < 16 then _ else if o < 21 then _ else if o < 23 then _ else if o = 23 then _ else if o = 35 then _ else if o < 45 then _ else if o = 45 then _ else if o = 46 then _ else if o < 52 then _ else _) ∧ _
  rw [if_neg (show ¬ o = 0 by omega), if_neg c1, if_neg (show ¬ o < 5 by omega), if_neg (show ¬ o < 11 by omega)]
  by_cases c13 : o ≤ 13
  · have hx := ea (by omega)
    have ha := i11 (by omega) (by omega)
    rw [if_neg (nGT 13 13 rfl (by omega) c13), if_neg (fun q => by have := (nIgt (x := 39) (k := a0) 39 rfl (by omega) (by omega)).mp q; omega), lt_t, if_pos (show o < 16 by omega), ← hx]
    obtain ⟨z1, q1, q2, q3⟩ := h.useLocal (F := F) hF hn hu hm (a := a) (o := o) ha (by omega)
    rw [q1, cal_s]
    exact ⟨z1, rfl, q2, q3⟩
  rw [if_pos ((GT 13 13 rfl (by omega)).mpr (by omega))]
  by_cases c15 : o ≤ 15
  · have hx := ea (by omega)
    have ha := i11 (by omega) (by omega)
    rw [if_neg (nGT 15 15 rfl (by omega) c15), if_pos (show o < 16 by omega)]
    obtain ⟨z1, q1, q2, q3⟩ := h.borrowLocal (F := F) (U := U) hF (a := a) (o := o) ha (fun q => (hl a ha).2 q) (by omega)
    have b143 : ∀ p, p = bI (o == 15) → ∃ z', fn_X3_operate_B143 F sh n (nI a0) 62 (nI w) (nI o) z p = fn_X3_operate_B248 F sh n 62 (nI w) (nI o) z' ∧ CR sh n z' kp f (locOf U f) U.1.2.2 (aLocal U (locOf U f) o a L) ∧ FrQc z z' := fun p ep => by
      unfold fn_X3_operate_B143
      rw [if_neg (fun q => by have := (nIgt (x := 39) (k := a0) 39 rfl (by omega) (by omega)).mp q; omega), lt_t, ep, ← hx, q1, cal_s]
      exact ⟨z1, rfl, q2, q3⟩
    by_cases d : o = 15
    · rw [if_pos ((E 15 15 rfl (by omega)).mpr d)]
      exact b143 1 (by rw [d]; rfl)
    · rw [if_neg (nE 15 15 rfl (by omega) d)]
      exact b143 0 (by rw [show (o == 15) = false from beq_eq_false_iff_ne.mpr d]; rfl)
  rw [if_pos ((GT 15 15 rfl (by omega)).mpr (by omega)), if_neg (show ¬ o < 16 by omega)]
  by_cases c20 : o ≤ 20
  · rw [if_neg (nGT 20 20 rfl (by omega) c20), if_pos (show o < 21 by omega)]
    obtain ⟨z1, q1, q2, q3⟩ := h.refer (F := F) hF hu hm (o := o) (a := a) (b := b) (xa := nI a0) (xb := b1) (fun q => ⟨by rw [ea (by omega)], eb (by omega)⟩) (by omega) (by omega) i16
    rw [q1, cal_s]
    exact ⟨z1, rfl, q2, q3⟩
  rw [if_pos ((GT 20 20 rfl (by omega)).mpr (by omega)), if_neg (show ¬ o < 21 by omega)]
  by_cases c22 : o ≤ 22
  · rw [if_neg (nGT 22 22 rfl (by omega) c22), if_pos (show o < 23 by omega)]
    have hx := ea (by omega)
    obtain ⟨z1, q1, q2, q3⟩ := h.pack (F := F) hF hu hm (o := o) (a := a) (by omega) (i21 (by omega))
    have b190 : ∀ p, p = bI (o == 21) → ∃ z', fn_X3_operate_B190 F sh n 62 (nI a0) (nI w) (nI o) z p = fn_X3_operate_B248 F sh n 62 (nI w) (nI o) z' ∧ CR sh n z' kp f (locOf U f) U.1.2.2 (aPack U o a L) ∧ FrQc z z' := fun p ep => by
      unfold fn_X3_operate_B190
      rw [ep, ← hx, q1, cal_s]
      exact ⟨z1, rfl, q2, q3⟩
    by_cases d : o = 21
    · rw [if_pos ((E 21 21 rfl (by omega)).mpr d)]
      exact b190 1 (by rw [d]; rfl)
    · rw [if_neg (nE 21 21 rfl (by omega) d)]
      exact b190 0 (by rw [show (o == 21) = false from beq_eq_false_iff_ne.mpr d]; rfl)
  rw [if_pos ((GT 22 22 rfl (by omega)).mpr (by omega)), if_neg (show ¬ o < 23 by omega)]
  by_cases c23 : o = 23
  · have hx := ea (by omega)
    obtain ⟨z1, q1, q2, q3⟩ := h.enter (F := F) hF h63 hu hm hf (a := a) (i23 c23)
    rw [if_pos ((E 23 23 rfl (by omega)).mpr c23), if_pos c23, ← hx, q1, cal_s]
    exact ⟨z1, rfl, q2, q3⟩
  rw [if_neg (nE 23 23 rfl (by omega) c23), if_neg c23, if_neg c35]
  by_cases c44 : o ≤ 44
  · rw [if_neg (nGT 44 44 rfl (by omega) c44), if_pos (show o < 45 by omega)]
    obtain ⟨z1, q1, q2, q3⟩ := h.reckon (F := F) hF hu hm (o := o) (by omega) (by omega) c35
    rw [q1, cal_s]
    exact ⟨z1, rfl, q2, q3⟩
  rw [if_pos ((GT 44 44 rfl (by omega)).mpr (by omega)), if_neg (show ¬ o < 45 by omega), if_neg c45, if_neg c46]
  by_cases c51 : o ≤ 51
  · have hx := ea (by omega)
    obtain ⟨z1, q1, q2, q3⟩ := h.keep (F := F) hF hu hm hf (o := o) (a := a) (by omega) (by omega) (i47 (by omega) c51)
    rw [if_neg (nGT 51 51 rfl (by omega) c51), if_pos (show o < 52 by omega), ← hx, q1, cal_s]
    exact ⟨z1, rfl, q2, q3⟩
  · obtain ⟨z1, q1, q2, q3⟩ := h.lineUp (F := F) hF hu hm (o := o) (a := a) (b := b) (xa := nI a0) (xb := b1) (he (nI a0)) (fun q => by rw [ea (by omega)]) (fun q => eb (by omega)) (hy (by omega)) (by omega) (by omega) (fun q => i52 (by omega) (by omega))
    rw [if_pos ((GT 51 51 rfl (by omega)).mpr (by omega)), if_neg (show ¬ o < 52 by omega), q1, cal_s]
    exact ⟨z1, rfl, q2, q3⟩
end
