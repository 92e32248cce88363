/-! THE REFERENCE'S UNIT: all functions; elements -/
def StG {α : Type} (sh : Nat → Nat × Nat) (n ku : Nat) (b : Nat → Nat) (len : Nat) (X : Option (St × Unit)) (B : St → Option (St × Unit)) (z' : St) (T : α → Prop) : Ex (α × Nat) → Prop
  | .ok q => X = B z' ∧ US sh n z' ku b len q.2 ∧ T q.1
  | .error e => X = some (z', ()) ∧ UF sh n z' ku b len e.1 e.2
def pFs (b : Nat → Nat) (len : Nat) : Nat → List GP → Nat → Ex (List GP × Nat)
  | 0, gs, p => .ok (gs, p)
  | k + 1, gs, p => pF b len (allC gs).length p >>= fun q => pFs b len k (gs ++ [q.1]) q.2
/-- element types, with where they are -/
def pEs (b : Nat → Nat) (len : Nat) : Nat → Nat → Ex (List (Nat × Ty) × Nat)
  | 0, p => .ok ([], p)
  | k + 1, p => rT b len none false p >>= fun t => pEs b len k t.2 >>= fun r => .ok ((p, t.1) :: r.1, r.2)
def TEl (z : St) (ku i : Nat) (es : List (Nat × Ty)) : Prop := ∀ k, k < es.length → z.1 (ku + 4) (i + k) = nI (es.getD k (0, [])).1
section
variable {F n : Nat} {sh : Nat → Nat × Nat} {z z' : St} {ku len p : Nat} {b : Nat → Nat}
theorem US.fns (hF : 1100 ≤ F) {m : Nat} (hm : m ≤ 64) : ∀ k g z gs p, gs.length + k = m → k < g → z.1 ku 9 = nI m → US sh n z ku b len p → TI z ku (allC gs) → (allC gs).length ≤ p → TFn z ku gs → ∃ z', StG sh n ku b len (fn_X16_overAll_L469 F sh n ku g z (nI gs.length)) (fn_X16_overAll_B495 F sh n ku) z' (fun gs' => TI z' ku (allC gs') ∧ TFn z' ku gs') (pFs b len k gs p) ∧ FrOw ku [ku + 5, ku + 6, ku + 7] [2, 3, 4, 10] z z' := by
  intro k
  induction k with
  | zero =>
    intro g z gs p ek hg e9 h T hc TF
    obtain ⟨g, rfl⟩ : ∃ k, g = k + 1 := ⟨g - 1, by omega⟩
    refine ⟨z, ⟨?_, h, T, TF⟩, FrOw.rfl'⟩
    unfold fn_X16_overAll_L469
    rw [e9, if_pos ((nI_leI (by omega) (by omega)).mpr (by omega))]
  | succ k ih =>
    intro g z gs p ek hg e9 h T hc TF
    obtain ⟨g, rfl⟩ : ∃ k, g = k + 1 := ⟨g - 1, by omega⟩
    obtain ⟨z1, s1, s2, s3, s4⟩ := h.overFunction (F := F) hF (gs := gs) (by omega) T hc TF
    have hd : fn_X16_overAll_L469 F sh n ku (g + 1) z (nI gs.length) = fn_X16_overAll_L469 F sh n ku g z1 (nI (gs.length + 1)) := by
      conv => lhs; unfold fn_X16_overAll_L469
      rw [e9, if_neg (fun x => by have := (nI_leI (by omega) (by omega)).mp x; omega), h.good, cal_s, if_neg (by decide), s1, cal_s, nI_1]
    rw [hd]
    unfold pFs
    cases e : pF b len (allC gs).length p with
    | error x =>
      rw [e] at s2
      obtain ⟨g', rfl⟩ : ∃ k, g = k + 1 := ⟨g - 1, by omega⟩
      have s2' : UF sh n z1 ku b len x.1 x.2 := s2
      refine ⟨z1, ⟨?_, s2'⟩, s4⟩
      unfold fn_X16_overAll_L469
      rw [s2'.good, cal_s, if_pos rfl, s2'.e495]
      by_cases c : z1.1 ku 9 ≤ nI (gs.length + 1)
      · rw [if_pos c]
      · rw [if_neg c]
    | ok x =>
      rw [e] at s2
      obtain ⟨t1, t2, t3⟩ := s3 x e
      have s2' : US sh n z1 ku b len x.2 := s2
      obtain ⟨z2, v1, v2⟩ := ih g z1 (gs ++ [x.1]) x.2 (by rw [List.length_append]; show gs.length + 1 + k = m; omega) (by omega) (by rw [s4.2.2 9 (by simp)]; exact e9) s2' t1 t2 t3
      rw [List.length_append] at v1
      exact ⟨z2, v1, s4.trans v2⟩
theorem US.els (hF : 1100 ≤ F) {m : Nat} (hm : m ≤ 32) : ∀ k i g z p, i + k = m → k < g → z.1 ku 8 = nI m → US sh n z ku b len p → ∃ z', StG sh n ku b len (fn_X16_overAll_L409 F sh n ku g z (nI i)) (fn_X16_overAll_B445 F sh n ku) z' (fun es => TEl z' ku i es ∧ ∀ j, j < i → z'.1 (ku + 4) j = z.1 (ku + 4) j) (pEs b len k p) ∧ FrOw ku [ku + 4] [2, 3, 4, 5, 6, 7, 8, 9] z z' ∧ ((∃ q, pEs b len k p = .ok q) → FrOw ku [ku + 4] [2, 3, 4] z z') := by
  intro k
  induction k with
  | zero =>
    intro i g z p ek hg e8 h
    obtain ⟨g, rfl⟩ : ∃ k, g = k + 1 := ⟨g - 1, by omega⟩
    refine ⟨z, ⟨?_, h, fun k hk => absurd hk (by simp), fun _ _ => rfl⟩, FrOw.rfl', fun _ => FrOw.rfl'⟩
    unfold fn_X16_overAll_L409
    rw [e8, if_pos ((nI_leI (by omega) (by omega)).mpr (by omega))]
  | succ k ih =>
    intro i g z p ek hg e8 h
    obtain ⟨g, rfl⟩ : ∃ k, g = k + 1 := ⟨g - 1, by omega⟩
    obtain ⟨u0, u1, _, _, u4, _, _, _, _, _, _, _, u12, _⟩ := b_unit h.1.1 h.1.2.1
    have ok4 : okA sh n (ku + 4) 101 (nI i) = true := by rw [u12]; exact okI_nI (by omega) (by omega)
    have f0 : FrOw ku [ku + 4] [] z (si z (ku + 4) i (nI p)) := FrOw.si (.inr ⟨by omega, by simp⟩)
    have h0 : US sh n (si z (ku + 4) i (nI p)) ku b len p := h.frw f0 (by simp) (by simp)
    obtain ⟨z1, s1, s2, s3⟩ := h0.overType (F := F) (by omega) false
    have s1' : fn_X16_overType F sh n (si z (ku + 4) i (nI p)) ku 0 = some (z1, ()) := s1
    have f1 : FrOw ku [ku + 4] [2, 3, 4] z z1 := (f0.mono (fun _ h => h) (by simp)).trans (s3.w (by simp))
    have hd : fn_X16_overAll_L409 F sh n ku (g + 1) z (nI i) = fn_X16_overAll_L409 F sh n ku g z1 (nI (i + 1)) := by
      conv => lhs; unfold fn_X16_overAll_L409
      rw [e8, if_neg (fun x => by have := (nI_leI (by omega) (by omega)).mp x; omega), h.good, cal_s, if_neg (by decide), u4, lnk_s, ok4, grd_true, lt_t, nI_clamp (by omega), h.2.1, s1', cal_s, nI_1]
    rw [hd]
    unfold pEs
    have mon : ∀ {za zb : St}, FrOw ku [ku + 4] [2, 3, 4] za zb → FrOw ku [ku + 4] [2, 3, 4, 5, 6, 7, 8, 9] za zb := fun f => f.mono (fun _ h => h) (fun j hj => by simp at hj ⊢; omega)
    cases e : rT b len none false p with
    | error x =>
      rw [e] at s2
      obtain ⟨g', rfl⟩ : ∃ k, g = k + 1 := ⟨g - 1, by omega⟩
      have s2' : UF sh n z1 ku b len x.1 x.2 := s2
      obtain ⟨z2, t1, t2, t3⟩ := s2'.e445 (F := F) (by omega)
      refine ⟨z2, ⟨?_, t2⟩, (mon f1).trans (t3.mono (by simp) (fun j hj => by simp at hj ⊢; omega)), fun ⟨q, x⟩ => by cases x⟩
      unfold fn_X16_overAll_L409
      rw [s2'.good, cal_s, if_pos rfl, t1]
      by_cases c : z1.1 ku 8 ≤ nI (i + 1)
      · rw [if_pos c]
      · rw [if_neg c]
    | ok x =>
      rw [e] at s2
      have s2' : US sh n z1 ku b len x.2 := s2
      obtain ⟨z2, v1, v2, v3⟩ := ih (i + 1) g z1 x.2 (by omega) (by omega) (by rw [f1.2.2 8 (by simp)]; exact e8) s2'
      rw [ok_bq]
      refine ⟨z2, ?_, (mon f1).trans v2, fun ⟨q, y⟩ => ?_⟩
      · cases e2 : pEs b len k x.2 with
        | error y => rw [e2] at v1; exact v1
        | ok y =>
          rw [e2] at v1
          obtain ⟨w1, w2, w3, w4⟩ := v1
          refine ⟨w1, w2, fun j hj => ?_, fun j hj => ?_⟩
          · cases j with
            | zero =>
              show z2.1 (ku + 4) i = nI p
              rw [w4 i (by omega), s3.2.1 (ku + 4) (by omega), si_ss]
            | succ j =>
              have := w3 j (by have : j + 1 < y.1.length + 1 := hj; omega)
              rw [show i + (j + 1) = i + 1 + j by omega, this]; rfl
          · rw [w4 j (by omega), s3.2.1 (ku + 4) (by omega), si_oj (by omega)]
      · cases e2 : pEs b len k x.2 with
        | error y2 => rw [e2] at y; cases y
        | ok y2 => exact f1.trans (v3 ⟨y2, e2⟩)
end
