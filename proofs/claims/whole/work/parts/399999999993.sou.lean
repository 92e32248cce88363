/-! THE CLASS'S LOOKER: behind a fault -/
def FrQc (z z' : St) : Prop := z'.2.2 = z.2.2 ∧ (∀ k, ¬ (63 ≤ k ∧ k ≤ 67) → k ≠ 62 → z'.1 k = z.1 k ∧ z'.2.1 k = z.2.1 k) ∧ (z'.2.1 66 = z.2.1 66) ∧ (∀ j, j ≠ 1 → j ≠ 8 → j ≠ 15 → z'.1 62 j = z.1 62 j) ∧ ∀ j, j ≠ 12 → j ≠ 13 → j ≠ 14 → z'.2.1 62 j = z.2.1 62 j
theorem FrQc.rfl' {z : St} : FrQc z z := ⟨rfl, fun _ _ _ => ⟨rfl, rfl⟩, rfl, fun _ _ _ _ => rfl, fun _ _ _ _ => rfl⟩
theorem FrQc.trans {z z' z'' : St} (f : FrQc z z') (g : FrQc z' z'') : FrQc z z'' := ⟨g.1.trans f.1, fun k a b => ⟨(g.2.1 k a b).1.trans (f.2.1 k a b).1, (g.2.1 k a b).2.trans (f.2.1 k a b).2⟩, g.2.2.1.trans f.2.2.1, fun j a b c => (g.2.2.2.1 j a b c).trans (f.2.2.2.1 j a b c), fun j a b c => (g.2.2.2.2 j a b c).trans (f.2.2.2.2 j a b c)⟩
theorem FrQc.si {z : St} {k j : Nat} {v : Int32} (h : (k = 62 ∧ (j = 1 ∨ j = 8 ∨ j = 15)) ∨ k = 65) : FrQc z (si z k j v) := ⟨rfl, fun i a b => ⟨by funext l; rw [si_ok (by omega)], rfl⟩, rfl, fun l a b c => by
  by_cases e : k = 62
  · subst e; rw [si_oj (by omega)]
  · rw [si_ok (fun q => e q.symm)], fun _ _ _ _ => rfl⟩
theorem FrQc.sl {z : St} {k j : Nat} {v : Int64} (h : (k = 62 ∧ (j = 12 ∨ j = 13 ∨ j = 14)) ∨ k = 63 ∨ k = 64 ∨ k = 67) : FrQc z (sl z k j v) := ⟨rfl, fun i a b => ⟨rfl, by funext l; rw [sl_ok (by omega)]⟩, by funext l; rw [sl_ok (by omega)], fun _ _ _ _ => rfl, fun l a b c => by
  by_cases e : k = 62
  · subst e; rw [sl_oj (by omega)]
  · rw [sl_ok (fun q => e q.symm)]⟩
/-- the looker's rows, whatever they hold -/
def CB (sh : Nat → Nat × Nat) (n : Nat) (z : St) (kp f w : Nat) : Prop := Lay sh n z ∧ z.2.2 62 2 = some kp ∧ z.1 62 3 = nI f ∧ (z.1 62 1 = nI w ∧ w < 16) ∧ ∃ d, z.1 62 8 = nI d ∧ d ≤ 64 ∧ ∀ k, k < d → okZ (z.1 65 k) = true
section
variable {F n : Nat} {sh : Nat → Nat × Nat} {z z' : St} {kp f w : Nat}
theorem CB.o3 (h : CB sh n z kp f w) : okO sh n 62 3 = true := lay_o h.1 62 3 0 (by decide) rfl
theorem CB.fail_e (h : CB sh n z kp f w) (hw : 0 < w) (v : Int32) : fn_X3_fail F sh n z 62 v = some (z, ()) := by
  unfold fn_X3_fail
  rw [h.o3, grd_true, h.2.2.2.1.1, if_neg (nI_ne0 hw (by have := h.2.2.2.1.2; omega))]
theorem CB.fail (h : CB sh n z kp f 0) {v : Nat} (hv : v < 16) : ∃ z', fn_X3_fail F sh n z 62 (nI v) = some (z', ()) ∧ CB sh n z' kp f v ∧ FrQc z z' := by
  unfold fn_X3_fail
  obtain ⟨a1, a2, a3, ⟨a4, _⟩, d, a5, a6, a7⟩ := h
  have o3 : okO sh n 62 3 = true := lay_o a1 62 3 0 (by decide) rfl
  rw [o3, grd_true, a4, if_pos (show nI 0 = 0 from rfl), lt_t]
  exact ⟨_, rfl, ⟨a1.of rfl, a2, by rw [si_oj (by omega)]; exact a3, ⟨si_ss, hv⟩, d, by rw [si_oj (by omega)]; exact a5, a6, fun k hk => by rw [si_ok (by omega)]; exact a7 k hk⟩, FrQc.si (.inl ⟨rfl, by omega⟩)⟩
theorem CB.take_e (h : CB sh n z kp f w) (hw : 0 < w) : ∃ z' x, fn_X3_take F sh n z 62 = some (z', x) ∧ CB sh n z' kp f w ∧ FrQc z z' := by
  have h' := h
  obtain ⟨a1, a2, a3, a4, d, a5, a6, a7⟩ := h
  unfold fn_X3_take
  rw [h'.o3, grd_true, a5]
  by_cases c : d = 0
  · rw [if_pos (by rw [c]; rfl), h'.fail_e hw, cal_s]
    exact ⟨z, _, rfl, h', FrQc.rfl'⟩
  · obtain ⟨m, em⟩ : ∃ m, d = m + 1 := ⟨d - 1, by omega⟩
    have e1 : nI d - 1 = nI m := by rw [em, ← nI_1, Int32.add_sub_cancel]
    have ok : ∀ k c, shF k = (c, 64) → k < 513 → okA sh n k c (nI m) = true := fun k c ee hk => by rw [lay_a a1 k c 64 hk ee]; exact okI_nI (by omega) (by omega)
    have cp : (nI m).toNatClampNeg = m := nI_clamp (by omega)
    have v1 : (si z 62 8 (nI m)).1 62 8 = nI m := si_ss
    have oz : okZ (z.1 65 m) = true := a7 m (by omega)
    rw [if_neg (nI_ne0 (by omega) (by omega)), e1, lt_t, si_3, a1.2.2 62 6 64 rfl, lnk_s, v1, ok 64 102 rfl (by omega), grd_true, lt_t, sl_3, si_3, a1.2.2 62 7 65 rfl, lnk_s, sl_1, v1, ok 65 103 rfl (by omega), grd_true, cp, si_ok (show (65 : Nat) ≠ 62 by omega), oz, grd_true, lt_t, si_3, sl_3, si_3, a1.2.2 62 5 63 rfl, lnk_s, si_oj (show (8 : Nat) ≠ 15 by omega), sl_1, v1, ok 63 102 rfl (by omega), grd_true]
    refine ⟨_, _, rfl, ⟨a1.of rfl, a2, ?_, ⟨?_, a4.2⟩, m, ?_, by omega, fun k hk => ?_⟩, ((FrQc.si (.inl ⟨rfl, by omega⟩)).trans (FrQc.sl (.inl ⟨rfl, by omega⟩))).trans (FrQc.si (.inl ⟨rfl, by omega⟩))⟩
    · rw [si_oj (by omega), sl_1, si_oj (by omega)]; exact a3
    · rw [si_oj (by omega), sl_1, si_oj (by omega)]; exact a4.1
    · rw [si_oj (by omega), sl_1, si_ss]
    · rw [si_ok (by omega), sl_1, si_ok (by omega)]; exact a7 k (by omega)
theorem CB.put_e (h : CB sh n z kp f w) (hw : 0 < w) (x o : Int64) (b : Bool) : ∃ z', fn_X3_putReference F sh n z 62 x o (bI b) = some (z', ()) ∧ CB sh n z' kp f w ∧ FrQc z z' := by
  have h' := h
  obtain ⟨a1, a2, a3, a4, d, a5, a6, a7⟩ := h
  unfold fn_X3_putReference
  rw [h'.o3, grd_true, a5]
  by_cases c : d < 64
  · have ok : ∀ k c, shF k = (c, 64) → k < 513 → okA sh n k c (nI d) = true := fun k c' ee hk => by rw [lay_a a1 k c' 64 hk ee]; exact okI_nI (by omega) (by omega)
    have cp : (nI d).toNatClampNeg = d := nI_clamp (by omega)
    have bz : okZ (bI b) = true := by cases b <;> rfl
    rw [if_pos ((nIlt (x := 64) 64 rfl (by omega) (by omega)).mpr c), a1.2.2 62 5 63 rfl, lnk_s, ok 63 102 rfl (by omega), grd_true, lt_t, cp, sl_3, a1.2.2 62 6 64 rfl, lnk_s, sl_1, a5, ok 64 102 rfl (by omega), grd_true, lt_t, sl_3, sl_3, a1.2.2 62 7 65 rfl, lnk_s, sl_1, sl_1, a5, ok 65 103 rfl (by omega), grd_true, lt_t, cp, nar_bI, si_ok (show (62 : Nat) ≠ 65 by omega), sl_1, sl_1, a5, nI_1, lt_t]
    refine ⟨_, rfl, ⟨a1.of rfl, a2, ?_, ⟨?_, a4.2⟩, d + 1, si_ss, by omega, fun k hk => ?_⟩, (((FrQc.sl (.inr (.inl rfl))).trans (FrQc.sl (.inr (.inr (.inl rfl))))).trans (FrQc.si (.inr rfl))).trans (FrQc.si (.inl ⟨rfl, by omega⟩))⟩
    · rw [si_oj (by omega), si_ok (by omega), sl_1, sl_1]; exact a3
    · rw [si_oj (by omega), si_ok (by omega), sl_1, sl_1]; exact a4.1
    · rw [si_ok (by omega)]
      by_cases e : k = d
      · subst e; rw [si_ss]; exact bz
      · rw [si_oj e, sl_1, sl_1]; exact a7 k (by omega)
  · rw [if_neg (fun q => c ((nIlt (x := 64) 64 rfl (by omega) (by omega)).mp q)), h'.fail_e hw, cal_s]
    exact ⟨z, rfl, h', FrQc.rfl'⟩
theorem CB.only_e (h : CB sh n z kp f w) (hw : 0 < w) (x : Int64) : ∃ z', fn_X3_takeOnly F sh n z 62 x = some (z', ()) ∧ CB sh n z' kp f w ∧ FrQc z z' := by
  obtain ⟨z1, y, q1, q2, q3⟩ := h.take_e (F := F) hw
  unfold fn_X3_takeOnly
  rw [h.o3, grd_true, q1, cal_s]
  by_cases c : y = x
  · rw [if_pos c]; exact ⟨z1, rfl, q2, q3⟩
  · rw [if_neg c, q2.fail_e hw, cal_s]; exact ⟨z1, rfl, q2, q3⟩
end
