/-! THE REFERENCE'S UNIT: functions are passed over -/
def allC (gs : List GP) : List Nat := (gs.map (fun g => g.2.2.2.2.2)).flatten
def offC (gs : List GP) (f : Nat) : Nat := (allC (gs.take f)).length
theorem allC_a (gs : List GP) (g : GP) : allC (gs ++ [g]) = allC gs ++ g.2.2.2.2.2 := by unfold allC; rw [List.map_append, List.flatten_append]; simp
theorem offC_l (gs : List GP) (g : GP) {f : Nat} (h : f ≤ gs.length) : offC (gs ++ [g]) f = offC gs f := by unfold offC; rw [List.take_append_of_le_length h]
theorem offC_e (gs : List GP) : offC gs gs.length = (allC gs).length := by unfold offC; rw [List.take_length]
/-- where functions are, and where their instructions begin -/
def TFn (z : St) (ku : Nat) (gs : List GP) : Prop := ∀ f, f < gs.length → z.1 (ku + 5) f = nI (gs.getD f (0, 0, [], [], [], [])).1 ∧ z.1 (ku + 6) f = nI (offC gs f) ∧ z.1 (ku + 6) (f + 1) = nI (offC gs (f + 1))
theorem getD_l {α : Type} {l : List α} {x d : α} {j : Nat} (h : j < l.length) : (l ++ [x]).getD j d = l.getD j d := by rw [List.getD_eq_getElem?_getD, List.getD_eq_getElem?_getD, List.getElem?_append_left h]
theorem getD_e {α : Type} {l : List α} {x d : α} : (l ++ [x]).getD l.length d = x := by rw [List.getD_eq_getElem?_getD, List.getElem?_append_right (Nat.le_refl _), Nat.sub_self]; rfl
section
variable {F n : Nat} {sh : Nat → Nat × Nat} {z z' : St} {ku len p : Nat} {b : Nat → Nat}
theorem US.overIs {m : Nat} (hm : m < 2 ^ 20) (x0 : Int32) : ∀ k r g z p cs, r + k = m → k < g → US sh n z ku b len p → TI z ku cs → cs.length ≤ p → ∃ z', fn_X16_overFunction_L95 F sh n (nI m) ku x0 g z (nI r) = fn_X16_overFunction_B118 F sh n ku x0 z' ∧ UP sh n z' ku b len (pIs b len k p) ∧ (∀ q, pIs b len k p = .ok q → TI z' ku (cs ++ q.1) ∧ (cs ++ q.1).length ≤ q.2) ∧ FrOw ku [ku + 7] [2, 3, 4, 10] z z' := by
  intro k
  induction k with
  | zero =>
    intro r g z p cs ek hg h T hc
    obtain ⟨g, rfl⟩ : ∃ k, g = k + 1 := ⟨g - 1, by omega⟩
    unfold fn_X16_overFunction_L95 pIs
    rw [if_pos ((nI_leI (by omega) (by omega)).mpr (by omega))]
    exact ⟨z, rfl, h, fun q x => by cases x; rw [List.append_nil]; exact ⟨T, hc⟩, FrOw.rfl'⟩
  | succ k ih =>
    intro r g z p cs ek hg h T hc
    obtain ⟨g, rfl⟩ : ∃ k, g = k + 1 := ⟨g - 1, by omega⟩
    obtain ⟨z1, s1, s2, s3, s4⟩ := h.overInstruction (F := F) T hc
    conv => enter [1, z', 1, 1]; unfold fn_X16_overFunction_L95
    unfold pIs
    rw [if_neg (fun x => by have := (nI_leI (by omega) (by omega)).mp x; omega), h.good, cal_s, if_neg (by decide), s1, cal_s, nI_1]
    cases e : pI1 b len p with
    | error x =>
      rw [e] at s2
      obtain ⟨g', rfl⟩ : ∃ k, g = k + 1 := ⟨g - 1, by omega⟩
      refine ⟨z1, ?_, s2, (fun q x => by cases x), s4⟩
      unfold fn_X16_overFunction_L95
      rw [UF.good (F := F) s2, cal_s, if_pos rfl]
      by_cases c : nI m ≤ nI (r + 1)
      · rw [if_pos c]
      · rw [if_neg c]
    | ok x =>
      have s3' := s3 x e
      obtain ⟨i1, i2, i3⟩ := pI1_ok e
      rw [e] at s2
      have s2' : US sh n z1 ku b len x.2 := s2
      obtain ⟨z2, t1, t2, t3, t4⟩ := ih (r + 1) g z1 x.2 (cs ++ [p]) (by omega) (by omega) s2' s3' (by rw [List.length_append]; show cs.length + 1 ≤ x.2; omega)
      refine ⟨z2, t1, ?_, fun q y => ?_, s4.trans t4⟩
      · rw [ok_bq]
        cases e2 : pIs b len k x.2 with
        | error y => rw [e2] at t2; exact t2
        | ok y => rw [e2] at t2; exact t2
      · rw [ok_bq] at y
        cases e2 : pIs b len k x.2 with
        | error y2 => rw [e2] at y; cases y
        | ok y2 =>
          rw [e2] at y
          cases y
          have := t3 y2 e2
          rw [List.append_assoc] at this
          exact this
theorem US.overLists (hF : 300 ≤ F) (h : US sh n z ku b len p) : ∃ z', fn_X16_overLists F sh n z ku 8 = some (z', ()) ∧ UP sh n z' ku b len (pLs b len none 8 p >>= fun t => pLs b len none 8 t.2 >>= fun g => pLs b len none 32 g.2 >>= fun l => .ok ((t.1, g.1, l.1), l.2)) ∧ FrCu ku z z' := by
  have e26 : ∀ {z w q}, UF sh n z ku b len w q → fn_X16_overLists_B26 F sh n ku z = some (z, ()) := fun h => by
    unfold fn_X16_overLists_B26
    rw [h.good, cal_s, if_pos rfl]
  have e13 : ∀ {z w q}, UF sh n z ku b len w q → fn_X16_overLists_B13 F sh n ku 8 z = some (z, ()) := fun h => by
    unfold fn_X16_overLists_B13
    rw [h.good, cal_s, if_pos rfl, e26 h]
  obtain ⟨z1, s1, s2, s3⟩ := h.overList (F := F) hF (most := 8) (by omega)
  have s1' : fn_X16_overList F sh n z ku 8 1 = some (z1, ()) := s1
  unfold fn_X16_overLists
  rw [h.1.o, grd_true, h.good, cal_s, if_neg (show ¬ (1 : Int32) = 0 by decide), s1', cal_s]
  cases a1 : pLs b len none 8 p with
  | error x => rw [a1] at s2; exact ⟨z1, e13 s2, s2, s3⟩
  | ok x =>
    rw [a1] at s2
    have s2' : US sh n z1 ku b len x.2 := s2
    obtain ⟨z2, t1, t2, t3⟩ := s2'.overList (F := F) hF (most := 8) (by omega)
    have t1' : fn_X16_overList F sh n z1 ku 8 1 = some (z2, ()) := t1
    unfold fn_X16_overLists_B13
    rw [s2'.good, cal_s, if_neg (show ¬ (1 : Int32) = 0 by decide), t1', cal_s, ok_bq]
    cases a2 : pLs b len none 8 x.2 with
    | error y => rw [a2] at t2; exact ⟨z2, e26 t2, t2, s3.trans t3⟩
    | ok y =>
      rw [a2] at t2
      have t2' : US sh n z2 ku b len y.2 := t2
      obtain ⟨z3, v1, v2, v3⟩ := t2'.overList (F := F) hF (most := 32) (by omega)
      have v1' : fn_X16_overList F sh n z2 ku 32 1 = some (z3, ()) := v1
      unfold fn_X16_overLists_B26
      rw [t2'.good, cal_s, if_neg (show ¬ (1 : Int32) = 0 by decide), v1', cal_s, ok_bq]
      refine ⟨z3, rfl, ?_, (s3.trans t3).trans v3⟩
      cases a3 : pLs b len none 32 y.2 with
      | error w => rw [a3] at v2; exact v2
      | ok w => rw [a3] at v2; exact v2
theorem fn118 (h : UB sh n z ku b len) {f : Nat} (hf : f < 64) : fn_X16_overFunction_B118 F sh n ku (nI f) z = some (si z (ku + 6) (f + 1) (z.1 ku 10), ()) := by
  obtain ⟨u0, u1, _, _, _, _, u6, u7, _, _, _, _, _, _, u14, _⟩ := b_unit h.1 h.2.1
  have ok : okA sh n (ku + 6) 101 (nI (f + 1)) = true := by rw [u14]; exact okI_nI (by omega) (by omega)
  unfold fn_X16_overFunction_B118
  rw [u6, lnk_s, nI_1, ok, grd_true, lt_t, nI_clamp (by omega)]
end
