/-! THE REFERENCE'S LOOKER: beginning, as a whole -/
section
variable {F n : Nat} {sh : Nat → Nat × Nat} {z z' : St} {ku f w ns : Nat} {U : Md}
/-- where jumps lead is marked -/
theorem begJ (hF : 1100 ≤ F) (hL : Lay sh n z) (l0 : z.2.2 355 0 = some ku) (e1 : z.1 355 1 = nI f) (e4 : z.1 355 4 = nI (codeOf U f).length) (hu : ∀ z', FrL3 z z' → UnL F sh n z' ku U ∧ UnI F sh n z' ku U f ∧ UnB F sh n z' ku U f) (hc : CdO U f) (T : Int32) : ∀ r p g z1, p + r = (codeOf U f).length → r < g → Onl [358] z z1 → (∀ t, t < 1025 → z1.1 358 t = bI (tgP U f p t)) → ∃ z', fn_X13_begin_L145 F sh n 355 T g z1 (nI p) = fn_X13_begin_L211 F sh n 355 T F (si z' 357 0 1) 0 ∧ Onl [358] z z' ∧ ∀ t, t < 1025 → z'.1 358 t = bI (tgOf U f t) := by
  have len := hc.1
  intro r
  induction r with
  | zero =>
    intro p g z1 ep hg O h
    obtain ⟨g, rfl⟩ : ∃ q, g = q + 1 := ⟨g - 1, by omega⟩
    have L1 : Lay sh n z1 := hL.of O.1
    have ok : okA sh n 357 103 0 = true := by rw [lay_a L1 357 103 1025 (by omega) rfl]; exact okI_nI (j := 0) (by omega) (by omega)
    conv => enter [1, z', 1, 1]; unfold fn_X13_begin_L145
    rw [(O.2 355 (by simp)).1, e4, if_pos ((nI_leI (by omega) (by omega)).mpr (by omega)), L1.2.2 355 6 357 rfl, lnk_s, ok, grd_true, lt_t]
    have ep' : p = (codeOf U f).length := by omega
    subst ep'
    exact ⟨z1, rfl, O, h⟩
  | succ r ih =>
    intro p g z1 ep hg O h
    obtain ⟨g, rfl⟩ : ∃ q, g = q + 1 := ⟨g - 1, by omega⟩
    have L1 : Lay sh n z1 := hL.of O.1
    obtain ⟨ul, ui, ub⟩ := hu z1 (O.l3 (fun k hk => by simp at hk; omega))
    have u0 : z1.2.2 355 0 = some ku := by rw [O.1]; exact l0
    have u1 : z1.1 355 1 = nI f := by rw [(O.2 355 (by simp)).1]; exact e1
    have il : p < (codeOf U f).length := by omega
    obtain ⟨o, x, y, hi⟩ : ∃ o x y, (codeOf U f)[p]? = some (o, x, y) := ⟨_, _, _, List.getElem?_eq_getElem il⟩
    obtain ⟨io, ix, iy, it⟩ := hc.2 p o x y hi
    obtain ⟨g1, g2, _⟩ := ui.2 p o x y hi
    have o59 := io.1
    have et : ∀ t, isTg (codeOf U f)[p]? t = (decide (2 ≤ o ∧ o < 5) && x.toInt.toNat == t) := fun t => by rw [hi]; rfl
    have skip : ¬ (2 ≤ o ∧ o < 5) → ∃ z', fn_X13_begin_B196 F sh n (nI p) (fun z9 q2 => fn_X13_begin_L145 F sh n 355 T g z9 q2) z1 = fn_X13_begin_L211 F sh n 355 T F (si z' 357 0 1) 0 ∧ Onl [358] z z' ∧ ∀ t, t < 1025 → z'.1 358 t = bI (tgOf U f t) := fun c => by
      unfold fn_X13_begin_B196
      rw [nI_1]
      refine ih (p + 1) g z1 (by omega) (by omega) O (fun t ht => ?_)
      rw [tgP_s, et, decide_eq_false c, Bool.false_and, Bool.or_false]
      exact h t ht
    conv => enter [1, z', 1, 1]; unfold fn_X13_begin_L145
    rw [(O.2 355 (by simp)).1, e4, if_neg (fun q => by have := (nI_leI (by omega) (by omega)).mp q; omega), u0, lnk_s, ul.1, grd_true, e1, g1, cal_s]
    by_cases c1 : o ≤ 1
    · rw [if_pos ((nIle (x := 1) 1 rfl (by omega) (by omega)).mpr c1)]
      exact skip (by omega)
    rw [if_neg (fun q => c1 ((nIle (x := 1) 1 rfl (by omega) (by omega)).mp q))]
    by_cases c5 : 5 ≤ o
    · rw [if_pos ((nIge (x := 5) 5 rfl (by omega) (by omega)).mpr c5)]
      exact skip (by omega)
    have tl := it (by omega) (by omega)
    have ok : okA sh n 358 103 (nI x.toInt.toNat) = true := by rw [lay_a L1 358 103 1025 (by omega) rfl]; exact okI_nI (by omega) (by omega)
    have ct : (nI x.toInt.toNat).toNatClampNeg = x.toInt.toNat := nI_clamp (by omega)
    rw [if_neg (fun q => c5 ((nIge (x := 5) 5 rfl (by omega) (by omega)).mp q)), L1.2.2 355 7 358 rfl, lnk_s, u0, lnk_s, ul.1, grd_true, u1, g2, cal_s, ix (Or.inr (by omega)), ok, grd_true, lt_t, ct]
    unfold fn_X13_begin_B196
    rw [nI_1]
    refine ih (p + 1) g _ (by omega) (by omega) (O.trans (Onl.si (by simp))) (fun t ht => ?_)
    rw [tgP_s, et, decide_eq_true (show 2 ≤ o ∧ o < 5 by omega), Bool.true_and]
    by_cases c : t = x.toInt.toNat
    · rw [c, si_ss, beq_self_eq_true, Bool.or_true]; rfl
    · rw [si_oj c, show (x.toInt.toNat == t) = false from beq_eq_false_iff_ne.mpr (fun q => c q.symm), Bool.or_false]
      exact h t ht
/-- what is known at the first instruction -/
theorem begR (hF : 1100 ≤ F) (h8 : (tksOf U f).length ≤ 8) (hL : Lay sh n z) (e2 : z.1 355 2 = nI (locOf U f).length) (h40 : (locOf U f).length ≤ 40) (hl : ∀ k, k < (locOf U f).length → LsO U.1.2.2 ((locOf U f).getD k [])) (e6 : ∀ k, k < (locOf U f).length → z.2.1 356 k = tL ((locOf U f).getD k [])) : ∀ r p g z1, p + r = (locOf U f).length → r < g → Onl [359, 360, 361] z z1 → (∀ k, k < p → rcA z1 k ((Q0 U f).1 k) ((Q0 U f).2.1 k) ((Q0 U f).2.2 k)) → ∃ z', fn_X13_begin_L211 F sh n 355 (nI (tksOf U f).length) g z1 (nI p) = some (z', ()) ∧ Onl [359, 360, 361] z z' ∧ ∀ k, k < (locOf U f).length → rcA z' k ((Q0 U f).1 k) ((Q0 U f).2.1 k) ((Q0 U f).2.2 k) := by
  have el : (locOf U f).length = (tksOf U f).length + (locL U f).length := List.length_append
  intro r
  induction r with
  | zero =>
    intro p g z1 ep hg O h
    obtain ⟨g, rfl⟩ : ∃ q, g = q + 1 := ⟨g - 1, by omega⟩
    conv => enter [1, z', 1, 1]; unfold fn_X13_begin_L211
    rw [(O.2 355 (by simp)).1, e2, if_pos ((nI_leI (by omega) (by omega)).mpr (by omega))]
    exact ⟨z1, rfl, O, fun k hk => h k (by omega)⟩
  | succ r ih =>
    intro p g z1 ep hg O h
    obtain ⟨g, rfl⟩ : ∃ q, g = q + 1 := ⟨g - 1, by omega⟩
    have L1 : Lay sh n z1 := hL.of O.1
    have hp : p < (locOf U f).length := by omega
    have okj : ∀ k' c, shF k' = (c, 41000) → k' < 513 → okA sh n k' c (nI p) = true := fun k' c ee hk => by rw [lay_a L1 k' c 41000 hk ee]; exact okI_nI (by omega) (by omega)
    have ok6 : okA sh n 356 102 (nI p) = true := by rw [lay_a L1 356 102 40 (by omega) rfl]; exact okI_nI (by omega) (by omega)
    have cp : (nI p).toNatClampNeg = p := nI_clamp (by omega)
    have t6 : z1.2.1 356 p = tL ((locOf U f).getD p []) := by rw [(O.2 356 (by simp)).2]; exact e6 p hp
    have o59 := okj 359 103 rfl (by omega)
    have o60 := okj 360 102 rfl (by omega)
    have o61 := okj 361 103 rfl (by omega)
    have nx := ih (p + 1) g (st3 z1 p ((Q0 U f).1 p) ((Q0 U f).2.1 p) ((Q0 U f).2.2 p)) (by omega) (by omega) (((O.trans (Onl.si (by simp))).trans (Onl.sl (by simp))).trans (Onl.si (by simp))) (fun k hk => by
      by_cases c : k = p
      · subst c; exact st3_A _ _ _ _ _
      · exact st3_O _ c _ _ _ (h k (by omega)))
    have b268 : ∀ b o, b = (Q0 U f).1 p → o = (Q0 U f).2.1 p → fn_X13_begin_B268 F sh n 360 (nI p) 355 (fun z9 q2 => fn_X13_begin_L211 F sh n 355 (nI (tksOf U f).length) g z9 q2) (si z1 359 p (bI b)) o = fn_X13_begin_L211 F sh n 355 (nI (tksOf U f).length) g (st3 z1 p ((Q0 U f).1 p) ((Q0 U f).2.1 p) ((Q0 U f).2.2 p)) (nI (p + 1)) := fun b o eb eo => by
      unfold fn_X13_begin_B268
      rw [o60, grd_true, lt_t, cp, sl_3, si_3, L1.2.2 355 10 361 rfl, lnk_s, o61, grd_true, lt_t, nI_1, eb, eo]
      rfl
    have b229 : ∀ b, b = (Q0 U f).1 p → fn_X13_begin_B229 F sh n 355 (nI p) (fun z9 q2 => fn_X13_begin_L211 F sh n 355 (nI (tksOf U f).length) g z9 q2) z1 (bI b) = fn_X13_begin_L211 F sh n 355 (nI (tksOf U f).length) g (st3 z1 p ((Q0 U f).1 p) ((Q0 U f).2.1 p) ((Q0 U f).2.2 p)) (nI (p + 1)) := fun b eb => by
      have eo : (Q0 U f).2.1 p = if (b && isR ((locOf U f).getD p [])) = true then bitO (40 + p) else 0 := by rw [eb]; rfl
      unfold fn_X13_begin_B229
      rw [L1.2.2 355 8 359 rfl, lnk_s, o59, grd_true, lt_t, cp, nar_bI, si_3, L1.2.2 355 9 360 rfl, lnk_s]
      cases b with
      | false =>
        rw [if_pos (show bI false = 0 from rfl)]
        exact b268 false 0 eb (by rw [eo]; rfl)
      | true =>
        rw [if_neg (show ¬ bI true = 0 from one0), L1.2.2 355 3 356 rfl, lnk_s, ok6, grd_true, si_2, t6, isRefR_t (by omega) (hl p hp).1.1, cal_s]
        cases c : isR ((locOf U f).getD p []) with
        | false =>
          rw [c] at eo
          rw [if_pos (show bI false = 0 from rfl)]
          exact b268 true 0 eb (by rw [eo]; rfl)
        | true =>
          rw [c] at eo
          have p8 : p < (tksOf U f).length := of_decide_eq_true eb.symm
          rw [if_neg (show ¬ bI true = 0 from one0), show (40 : Int32) + nI p = nI (40 + p) from nI_add 40 p, bit_l (by omega)]
          exact b268 true (bitO (40 + p)) eb (by rw [eo]; rfl)
    conv => enter [1, z', 1, 1]; unfold fn_X13_begin_L211
    rw [(O.2 355 (by simp)).1, e2, if_neg (fun q => by have := (nI_leI (by omega) (by omega)).mp q; omega)]
    by_cases c : (tksOf U f).length ≤ p
    · have := b229 false (show false = decide (p < (tksOf U f).length) from (decide_eq_false (by omega)).symm)
      have t2 : fn_X13_begin_B229 F sh n 355 (nI p) (fun z9 q2 => fn_X13_begin_L211 F sh n 355 (nI (tksOf U f).length) g z9 q2) z1 0 = _ := this
      rw [if_pos ((nI_leI (by omega) (by omega)).mpr c), t2]
      exact nx
    · have := b229 true (show true = decide (p < (tksOf U f).length) from (decide_eq_true (by omega)).symm)
      have t2 : fn_X13_begin_B229 F sh n 355 (nI p) (fun z9 q2 => fn_X13_begin_L211 F sh n 355 (nI (tksOf U f).length) g z9 q2) z1 1 = _ := this
      rw [if_neg (fun q => c ((nI_leI (by omega) (by omega)).mp q)), t2]
      exact nx
end
