/-! THE REFERENCE'S UNIT: behind a fault nothing more is passed over -/
section
variable {F n : Nat} {sh : Nat → Nat × Nat} {z z' : St} {ku len w q : Nat} {b : Nat → Nat}
abbrev FrE (ku : Nat) (z z' : St) : Prop := FrOw ku [] [5, 6, 7, 8, 9] z z'
theorem UF.e495 (h : UF sh n z ku b len w q) : fn_X16_overAll_B495 F sh n ku z = some (z, ()) := by
  unfold fn_X16_overAll_B495
  rw [h.good, cal_s, if_pos rfl]
theorem UF.set (h : UF sh n z ku b len w q) {j : Nat} (hj : 5 ≤ j ∧ j ≤ 9) (v : Int32) : UF sh n (si z ku j v) ku b len w q ∧ FrE ku z (si z ku j v) := ⟨h.frw (ks := []) (js := [j]) (FrOw.si (.inl ⟨rfl, by simp⟩)) (by simp) (by simp; omega), FrOw.si (.inl ⟨rfl, by simp; omega⟩)⟩
theorem UF.e464 (hF : 0 < F) (h : UF sh n z ku b len w q) (v : Int32) : ∃ z', fn_X16_overAll_B464 F sh n ku z v = some (z', ()) ∧ UF sh n z' ku b len w q ∧ FrE ku z z' := by
  obtain ⟨h1, f1⟩ := h.set (j := 9) (by omega) v
  refine ⟨_, ?_, h1, f1⟩
  unfold fn_X16_overAll_B464
  rw [lt_t]
  have : ∀ G, 0 < G → fn_X16_overAll_L469 F sh n ku G (si z ku 9 v) 0 = some (si z ku 9 v, ()) := fun G hG => by
    obtain ⟨G, rfl⟩ : ∃ k, G = k + 1 := ⟨G - 1, by omega⟩
    unfold fn_X16_overAll_L469
    rw [h1.good, cal_s, if_pos rfl, h1.e495]
    by_cases c : (si z ku 9 v).1 ku 9 ≤ 0
    · rw [if_pos c]
    · rw [if_neg c]
  exact this F hF
theorem UF.e445 (hF : 0 < F) (h : UF sh n z ku b len w q) : ∃ z', fn_X16_overAll_B445 F sh n ku z = some (z', ()) ∧ UF sh n z' ku b len w q ∧ FrE ku z z' := by
  unfold fn_X16_overAll_B445
  rw [h.good, cal_s, if_pos rfl]
  exact h.e464 hF 0
theorem UF.e404 (hF : 0 < F) (h : UF sh n z ku b len w q) (v : Int32) : ∃ z', fn_X16_overAll_B404 F sh n ku z v = some (z', ()) ∧ UF sh n z' ku b len w q ∧ FrE ku z z' := by
  obtain ⟨h1, f1⟩ := h.set (j := 8) (by omega) v
  obtain ⟨z2, s1, s2, s3⟩ := h1.e445 (F := F) hF
  refine ⟨z2, ?_, s2, f1.trans s3⟩
  unfold fn_X16_overAll_B404
  rw [lt_t]
  have : ∀ G, 0 < G → fn_X16_overAll_L409 F sh n ku G (si z ku 8 v) 0 = some (z2, ()) := fun G hG => by
    obtain ⟨G, rfl⟩ : ∃ k, G = k + 1 := ⟨G - 1, by omega⟩
    unfold fn_X16_overAll_L409
    rw [h1.good, cal_s, if_pos rfl, s1]
    by_cases c : (si z ku 8 v).1 ku 8 ≤ 0
    · rw [if_pos c]
    · rw [if_neg c]
  exact this F hF
theorem UF.e385 (hF : 0 < F) (h : UF sh n z ku b len w q) : ∃ z', fn_X16_overAll_B385 F sh n ku z = some (z', ()) ∧ UF sh n z' ku b len w q ∧ FrE ku z z' := by
  unfold fn_X16_overAll_B385
  rw [h.good, cal_s, if_pos rfl]
  exact h.e404 hF 0
theorem UF.e300 (hF : 0 < F) (h : UF sh n z ku b len w q) (v : Int32) : ∃ z', fn_X16_overAll_B300 F sh n ku z v = some (z', ()) ∧ UF sh n z' ku b len w q ∧ FrE ku z z' := by
  obtain ⟨h1, f1⟩ := h.set (j := 7) (by omega) v
  obtain ⟨z2, s1, s2, s3⟩ := h1.e385 (F := F) hF
  refine ⟨z2, ?_, s2, f1.trans s3⟩
  unfold fn_X16_overAll_B300
  rw [lt_t]
  have : ∀ G, 0 < G → fn_X16_overAll_L305 F sh n ku G (si z ku 7 v) 0 = some (z2, ()) := fun G hG => by
    obtain ⟨G, rfl⟩ : ∃ k, G = k + 1 := ⟨G - 1, by omega⟩
    unfold fn_X16_overAll_L305
    rw [h1.good, cal_s, if_pos rfl, s1]
    by_cases c : (si z ku 7 v).1 ku 7 ≤ 0
    · rw [if_pos c]
    · rw [if_neg c]
  exact this F hF
theorem UF.e281 (hF : 0 < F) (h : UF sh n z ku b len w q) : ∃ z', fn_X16_overAll_B281 F sh n ku z = some (z', ()) ∧ UF sh n z' ku b len w q ∧ FrE ku z z' := by
  unfold fn_X16_overAll_B281
  rw [h.good, cal_s, if_pos rfl]
  exact h.e300 hF 0
theorem UF.e219 (hF : 0 < F) (h : UF sh n z ku b len w q) (v : Int32) : ∃ z', fn_X16_overAll_B219 F sh n ku z v = some (z', ()) ∧ UF sh n z' ku b len w q ∧ FrE ku z z' := by
  obtain ⟨h1, f1⟩ := h.set (j := 6) (by omega) v
  obtain ⟨z2, s1, s2, s3⟩ := h1.e281 (F := F) hF
  refine ⟨z2, ?_, s2, f1.trans s3⟩
  unfold fn_X16_overAll_B219
  rw [lt_t]
  have : ∀ G, 0 < G → fn_X16_overAll_L224 F sh n ku G (si z ku 6 v) 0 = some (z2, ()) := fun G hG => by
    obtain ⟨G, rfl⟩ : ∃ k, G = k + 1 := ⟨G - 1, by omega⟩
    unfold fn_X16_overAll_L224
    rw [h1.good, cal_s, if_pos rfl, s1]
    by_cases c : (si z ku 6 v).1 ku 6 ≤ 0
    · rw [if_pos c]
    · rw [if_neg c]
  exact this F hF
theorem UF.e200 (hF : 0 < F) (h : UF sh n z ku b len w q) : ∃ z', fn_X16_overAll_B200 F sh n ku z = some (z', ()) ∧ UF sh n z' ku b len w q ∧ FrE ku z z' := by
  unfold fn_X16_overAll_B200
  rw [h.good, cal_s, if_pos rfl]
  exact h.e219 hF 0
theorem UF.e117 (hF : 0 < F) (h : UF sh n z ku b len w q) {g : Nat} (hg : 0 < g) (x : Int32) : ∃ z', fn_X16_overAll_L117 F sh n ku g z x = some (z', ()) ∧ UF sh n z' ku b len w q ∧ FrE ku z z' := by
  obtain ⟨z2, s1, s2, s3⟩ := h.e200 (F := F) hF
  obtain ⟨g, rfl⟩ : ∃ k, g = k + 1 := ⟨g - 1, by omega⟩
  refine ⟨z2, ?_, s2, s3⟩
  unfold fn_X16_overAll_L117
  rw [h.good, cal_s, if_pos rfl, s1]
  by_cases c : z.1 ku 5 ≤ x
  · rw [if_pos c]
  · rw [if_neg c]
theorem UF.e112 (hF : 0 < F) (h : UF sh n z ku b len w q) (v : Int32) : ∃ z', fn_X16_overAll_B112 F sh n ku z v = some (z', ()) ∧ UF sh n z' ku b len w q ∧ FrE ku z z' := by
  obtain ⟨h1, f1⟩ := h.set (j := 5) (by omega) v
  obtain ⟨z2, s1, s2, s3⟩ := h1.e117 (F := F) hF hF 0
  refine ⟨z2, ?_, s2, f1.trans s3⟩
  unfold fn_X16_overAll_B112
  rw [lt_t, s1]
theorem UF.e93 (hF : 0 < F) (h : UF sh n z ku b len w q) : ∃ z', fn_X16_overAll_B93 F sh n ku z = some (z', ()) ∧ UF sh n z' ku b len w q ∧ FrE ku z z' := by
  unfold fn_X16_overAll_B93
  rw [h.good, cal_s, if_pos rfl]
  exact h.e112 hF 0
theorem UF.e80 (hF : 0 < F) (h : UF sh n z ku b len w q) : ∃ z', fn_X16_overAll_B80 F sh n ku z = some (z', ()) ∧ UF sh n z' ku b len w q ∧ FrE ku z z' := by
  unfold fn_X16_overAll_B80
  rw [h.1.o, grd_true, h.good, cal_s, if_pos rfl]
  exact h.e93 hF
theorem UF.e2 (hF : 0 < F) (h : UF sh n z ku b len w q) {g : Nat} (hg : 0 < g) (x : Int32) : ∃ z', fn_X16_overAll_L2 F sh n ku g z x = some (z', ()) ∧ UF sh n z' ku b len w q ∧ FrE ku z z' := by
  obtain ⟨z2, s1, s2, s3⟩ := h.e80 (F := F) hF
  obtain ⟨g, rfl⟩ : ∃ k, g = k + 1 := ⟨g - 1, by omega⟩
  refine ⟨z2, ?_, s2, s3⟩
  unfold fn_X16_overAll_L2
  rw [h.1.o, grd_true, h.good, cal_s, if_pos rfl, s1]
  by_cases c : (4 : Int32) ≤ x
  · rw [if_pos c]
  · rw [if_neg c]
end
