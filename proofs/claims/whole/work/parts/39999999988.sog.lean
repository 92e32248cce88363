/-! THE REFERENCE'S LOOKER: one operation -/
section
variable {F n : Nat} {sh : Nat → Nat × Nat} {z z' : St} {ku f w ns : Nat} {ls : List Ty} {L M : Lks} {U : Md}
/-- operations that name something -/
def namesA (o : Nat) : Prop := (11 ≤ o ∧ o ≤ 17) ∨ (21 ≤ o ∧ o ≤ 23) ∨ (47 ≤ o ∧ o ≤ 58)
theorem opR_c {X : Option (St × Unit)} {r : Px Lks} (h : OpR sh n z ku f ls ns X r) : OpR sh n z ku f ls ns (cal X (fun z9 _ => some (z9, ()))) r := by
  obtain ⟨z1, q1, q2, q3⟩ := h
  exact ⟨z1, by rw [q1, cal_s], q2, q3⟩
theorem RK.operate (hF : 300 ≤ F) (h : RK sh n z ku f (locOf U f) U.1.2.2 0 L) (hu : ∀ z', FrLk z z' → UnL F sh n z' ku U) (hm : MdO U) (hf : f < faOf U) (hl : ∀ k, k < (locOf U f).length → LsO U.1.2.2 ((locOf U f).getD k [])) {o a b : Nat} {x y : Int32} (hx : namesA o → x = nI a) (hy : o = 16 ∨ o = 17 ∨ 52 ≤ o → y = nI b ∧ b < 256) (hi : InOk U f o a b) : OpR sh n z ku f (locOf U f) U.1.2.2 (fn_X13_operate F sh n z 355 (nI o) x y) (aOp U f o a b L) := by
  obtain ⟨i59, i11, i16, i21, i47, i23, i52⟩ := hi
  have E : ∀ (m : Nat) (x : Int32), x = nI m → m < 100 → (nI o = x ↔ o = m) := fun m x e hm => nIe m e (by omega) (by omega)
  have G : ∀ (m : Nat) (x : Int32), x = nI m → m < 100 → (x ≤ nI o ↔ m ≤ o) := fun m x e hm => nIge m e (by omega) (by omega)
  have h0 : RR sh n z ku f (locOf U f) U.1.2.2 (.ok L) := h
  have gv : ∀ t : Ty, TBr U.1.2.2 t → OpR sh n z ku f (locOf U f) U.1.2.2 (fn_X13_give F sh n z 355 (tL t)) (lPush (t, 0, false) L) := fun t ht => by
    obtain ⟨z1, q1, q2, q3⟩ := h.giveP (F := F) hF ht
    exact ⟨z1, q1, q2, q3⟩
  have tk : ∀ k, 1 ≤ k → k ≤ 5 → OpR sh n z ku f (locOf U f) U.1.2.2 (fn_X13_take_ F sh n z 355 (tL [k])) (lTakeT [k] L) := fun k k1 k5 => by
    obtain ⟨z1, q1, q2, q3⟩ := h0.takeT (F := F) (TBk k1 k5)
    exact ⟨z1, q1, q2, q3⟩
  unfold fn_X13_operate aOp
  show OpR sh n z ku f (locOf U f) U.1.2.2 _ (if o = 0 then _ else _)
  by_cases c0 : o = 0
  · subst c0
    rw [if_pos rfl, if_pos (show nI 0 = 0 from rfl), h.o13, grd_true]
    obtain ⟨z1, q1, q2, q3⟩ := h.takeP (F := F)
    rw [q1, cal_s]
    cases r : lTake L with
    | error w =>
      rw [r] at q2
      obtain ⟨w0, M, k⟩ := q2
      rw [if_neg (k.ee w0)]
      exact ⟨z1, rfl, ⟨w0, M, k⟩, q3⟩
    | ok q =>
      rw [r] at q2
      obtain ⟨k1, k2, k3⟩ := q2
      obtain ⟨z2, s1, s2, s3, s4, s5⟩ := k1.nd (F := F) (hasD U q.1.1) (v := 4) (by omega) (by omega)
      have s1' : fn_X13_need F sh n z1 355 (bI (hasD U q.1.1)) 4 = some (z2, ()) := s1
      rw [if_pos k1.e0, k2.1, (k1.has hF (hu z1 q3) hm k3).2.1, cal_s, s1', cal_s, ok_b]
      cases d : hasD U q.1.1 with
      | true => exact ⟨z2, rfl, s4 d, q3.trans s2⟩
      | false => exact ⟨z2, rfl, ⟨by decide, _, s5 d⟩, q3.trans s2⟩
  rw [if_neg c0, if_neg (fun q => c0 ((E 0 0 rfl (by omega)).mp q))]
  by_cases c1 : o = 1
  · subst c1
    rw [if_pos rfl, if_pos (show nI 1 = 1 from rfl), h.o13, grd_true]
    exact opR_c (h.giveBack hF hu hm hf)
  rw [if_neg c1, if_neg (fun q => c1 ((E 1 1 rfl (by omega)).mp q))]
  by_cases c5 : o < 5
  · rw [if_pos c5, if_neg (fun q => by have := (G 5 5 rfl (by omega)).mp q; omega)]
    have b59 : ∀ z1 rr, RR sh n z1 ku f (locOf U f) U.1.2.2 rr → FrLk z z1 → OpR sh n z ku f (locOf U f) U.1.2.2 (fn_X13_operate_B59 F sh n 355 z1) (rr >>= fun L => nd_ (L.1.1 == 0) 8 >>= fun _ => .ok L) := fun z1 rr T fz => by
      unfold fn_X13_operate_B59
      rw [T.o13, grd_true]
      cases rr with
      | error w =>
        obtain ⟨w0, M, k⟩ := T
        have e1 := k.need_e (F := F) w0 true 8
        have e0 := k.need_e (F := F) w0 false 8
        have e1' : fn_X13_need F sh n z1 355 1 8 = some (z1, ()) := e1
        have e0' : fn_X13_need F sh n z1 355 0 8 = some (z1, ()) := e0
        refine ⟨z1, ?_, ⟨w0, M, k⟩, fz⟩
        by_cases c : z1.1 355 14 = 0
        · rw [if_pos c, e1', cal_s]
        · rw [if_neg c, e0', cal_s]
      | ok M =>
        have k : RK sh n z1 ku f (locOf U f) U.1.2.2 0 M := T
        have b64 := k.2.2.1.2.1
        rw [k.2.2.1.1, ok_b]
        obtain ⟨z2, s1, s2, s3, s4, s5⟩ := k.nd (F := F) (M.1.1 == 0) (v := 8) (by omega) (by omega)
        by_cases c : M.1.1 = 0
        · have eb : (M.1.1 == 0) = true := beq_iff_eq.mpr c
          rw [eb] at s1
          have s1' : fn_X13_need F sh n z1 355 1 8 = some (z2, ()) := s1
          rw [if_pos (by rw [c]; rfl), s1', cal_s, eb]
          exact ⟨z2, rfl, s4 eb, fz.trans s2⟩
        · have eb : (M.1.1 == 0) = false := beq_eq_false_iff_ne.mpr c
          rw [eb] at s1
          have s1' : fn_X13_need F sh n z1 355 0 8 = some (z2, ()) := s1
          rw [if_neg (nI_ne0 (by omega) (by omega)), s1', cal_s, eb]
          exact ⟨z2, rfl, ⟨by decide, _, s5 eb⟩, fz.trans s2⟩
    by_cases c2 : 2 < o
    · rw [if_pos c2, if_neg (fun q => by have := (nIle (x := 2) 2 rfl (by omega) (by omega)).mp q; omega), h.o13, grd_true]
      obtain ⟨z1, q1, q2, q3⟩ := tk 1 (by omega) (by omega)
      have q1' : fn_X13_take_ F sh n z 355 1 = some (z1, ()) := q1
      rw [q1', cal_s]
      exact b59 z1 _ q2 q3
    · rw [if_neg c2, if_pos ((nIle (x := 2) 2 rfl (by omega) (by omega)).mpr (by omega))]
      exact b59 z _ h0 FrLk.rfl'
  rw [if_neg c5, if_pos ((G 5 5 rfl (by omega)).mpr (by omega))]
  by_cases c11 : o < 11
  · rw [if_pos c11, if_neg (fun q => by have := (G 11 11 rfl (by omega)).mp q; omega)]
    by_cases c8 : o < 8
    · rw [if_pos c8, if_neg (fun q => by have := (G 8 8 rfl (by omega)).mp q; omega), h.o13, grd_true]
      have ek : (nI o).toInt64 - 3 = tL [o - 3] := by
        have : o = 5 ∨ o = 6 ∨ o = 7 := by omega
        rcases this with e | e | e <;> subst e <;> rfl
      rw [ek]
      exact opR_c (gv _ (TBrk (by omega) (by omega)))
    · rw [if_neg c8, if_pos ((G 8 8 rfl (by omega)).mpr (by omega))]
      by_cases c10 : o < 10
      · rw [if_pos c10, if_neg (fun q => by have := (G 10 10 rfl (by omega)).mp q; omega), h.o13, grd_true]
        exact opR_c (gv [1] (TBrk (by omega) (by omega)))
      · rw [if_neg c10, if_pos ((G 10 10 rfl (by omega)).mpr (by omega)), h.o13, grd_true]
        exact opR_c (gv [5] (TBrk (by omega) (by omega)))
  rw [if_neg c11, if_pos ((G 11 11 rfl (by omega)).mpr (by omega))]
  by_cases c16 : o < 16
  · rw [if_pos c16, if_neg (fun q => by have := (G 16 16 rfl (by omega)).mp q; omega), h.o13, grd_true, hx (Or.inl (by omega))]
    exact opR_c (h.onLocal hF hu hm (by omega) c16 (i11 (by omega) (by omega)) (hl a (i11 (by omega) (by omega))).2)
  rw [if_neg c16, if_pos ((G 16 16 rfl (by omega)).mpr (by omega))]
  by_cases c21 : o < 21
  · rw [if_pos c21, if_neg (fun q => by have := (G 21 21 rfl (by omega)).mp q; omega), h.o13, grd_true]
    by_cases c17 : o = 16 ∨ o = 17
    · rw [hx (Or.inl (by omega)), (hy (by omega)).1]
      exact opR_c (h.onReference hF hu hm (by omega) c21 i16)
    · have e := h.onReference (F := F) hF hu hm (a := a) (b := b) (by omega) c21 i16
      have e2 : fn_X13_onReference F sh n z 355 (nI o) x y = fn_X13_onReference F sh n z 355 (nI o) (nI a) (nI b) := by
        unfold fn_X13_onReference
        have n16 : ¬ nI o = 16 := fun q => by have := (E 16 16 rfl (by omega)).mp q; omega
        have n17 : ¬ nI o = 17 := fun q => by have := (E 17 17 rfl (by omega)).mp q; omega
        conv => lhs; rw [if_neg n16, if_neg n17]
        conv => rhs; rw [if_neg n16, if_neg n17]
      rw [e2]
      exact opR_c e
  rw [if_neg c21, if_pos ((G 21 21 rfl (by omega)).mpr (by omega))]
  by_cases c23 : o < 23
  · rw [if_pos c23, if_neg (fun q => by have := (G 23 23 rfl (by omega)).mp q; omega), h.o13, hx (Or.inr (Or.inl (by omega)))]
    have e := h.pack (F := F) hF hu hm (o := o) (a := a) (by omega) (i21 (by omega))
    by_cases c : o = 21
    · subst c
      rw [if_pos (show nI 21 = 21 from rfl), grd_true]
      exact opR_c e
    · have c' : o = 22 := by omega
      subst c'
      rw [if_neg (fun q => c ((E 21 21 rfl (by omega)).mp q)), grd_true]
      exact opR_c e
  rw [if_neg c23, if_pos ((G 23 23 rfl (by omega)).mpr (by omega))]
  by_cases c : o = 23
  · subst c
    rw [if_pos rfl, if_pos (show nI 23 = 23 from rfl), h.o13, grd_true, hx (Or.inr (Or.inl (by omega)))]
    exact opR_c (h.call hF hu hm hf (i23 rfl))
  rw [if_neg c, if_neg (fun q => c ((E 23 23 rfl (by omega)).mp q))]
  by_cases c35 : o = 35
  · subst c35
    rw [if_pos rfl, if_pos (show nI 35 = 35 from rfl)]
    exact ⟨z, rfl, h, FrLk.rfl'⟩
  rw [if_neg c35, if_neg (fun q => c35 ((E 35 35 rfl (by omega)).mp q))]
  by_cases c45 : o < 45
  · rw [if_pos c45, if_neg (fun q => by have := (G 45 45 rfl (by omega)).mp q; omega), h.o13, grd_true]
    exact opR_c (h.onNumbers hF hu hm (by omega) c45 c35)
  rw [if_neg c45, if_pos ((G 45 45 rfl (by omega)).mpr (by omega))]
  by_cases e45 : o = 45
  · subst e45
    rw [if_pos rfl, if_pos (show nI 45 = 45 from rfl), h.o13, grd_true]
    exact opR_c (tk 3 (by omega) (by omega))
  rw [if_neg e45, if_neg (fun q => e45 ((E 45 45 rfl (by omega)).mp q))]
  by_cases e46 : o = 46
  · subst e46
    rw [if_pos rfl, if_pos (show nI 46 = 46 from rfl), h.o13, grd_true]
    exact opR_c (gv [5] (TBrk (by omega) (by omega)))
  rw [if_neg e46, if_neg (fun q => e46 ((E 46 46 rfl (by omega)).mp q))]
  by_cases c52 : o < 52
  · rw [if_pos c52, if_neg (fun q => by have := (G 52 52 rfl (by omega)).mp q; omega), h.o13, grd_true, hx (Or.inr (Or.inr (by omega)))]
    exact opR_c (h.onResource hF hu hm hf (by omega) c52 (i47 (by omega) (by omega)))
  rw [if_neg c52, if_pos ((G 52 52 rfl (by omega)).mpr (by omega)), h.o13, grd_true, (hy (by omega)).1]
  have e2 : fn_X13_onVector F sh n z 355 (nI o) x (nI b) = fn_X13_onVector F sh n z 355 (nI o) (nI a) (nI b) := by
    by_cases c59 : o = 59
    · unfold fn_X13_onVector
      rw [if_pos ((E 59 59 rfl (by omega)).mpr c59), if_pos ((E 59 59 rfl (by omega)).mpr c59)]
    · rw [hx (Or.inr (Or.inr (by omega)))]
  rw [e2]
  exact opR_c (h.onVector hF hu hm (by omega) (by omega) (fun _ => i52 (by omega) (by omega)) (hy (by omega)).2)
end
