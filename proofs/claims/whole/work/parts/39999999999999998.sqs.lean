/-! THE REFERENCE'S UNIT: UnI -/
theorem getD_s {α : Type} {l : List α} {d : α} {i : Nat} (h : i < l.length) : l[i]? = some (l.getD i d) := by rw [List.getD_eq_getElem?_getD, List.getElem?_eq_getElem h]; rfl
section
variable {F n : Nat} {sh : Nat → Nat × Nat} {z z' : St} {ku len : Nat} {b : Nat → Nat} {M : MP}
theorem UB.num (hF : 2100 ≤ F) (h : UB sh n z ku b len) {p k : Nat} (hk : p + k ≤ len) : fn_X16_number_ F sh n z ku (nI p) (nI k) = some (z, numB b p k) := by
  have l8 := h.2.2.2.1
  have lp : ∀ m j g, j + m = k → m < g → fn_X16_number__L5 F sh n (nI p) (nI k) ku g z (numB b p j) (nI (p + j)) = some (z, numB b p k) := by
    intro m
    induction m with
    | zero =>
      intro j g ej hg
      obtain ⟨g, rfl⟩ : ∃ q, g = q + 1 := ⟨g - 1, by omega⟩
      have ej' : j = k := by omega
      subst ej'
      unfold fn_X16_number__L5
      rw [nI_add, if_pos (Int32.le_refl _)]
    | succ m ih =>
      intro j g ej hg
      obtain ⟨g, rfl⟩ : ∃ q, g = q + 1 := ⟨g - 1, by omega⟩
      have b8 := (h.2.2.2.2 (p + j) (by omega)).2
      unfold fn_X16_number__L5
      rw [nI_add, if_neg (fun x => by have := (nI_leI (by omega) (by omega)).mp x; omega), h.o, grd_true, h.byte (by omega), cal_s, nI_l (by omega), lt_t, nI_1]
      exact ih (j + 1) g (by omega) (by omega)
  exact lp k 0 F (by omega) (by omega)
theorem opB_h : ∀ o, o < 60 → twoO o = true → opB o = 2 * (opB o / 2) := by decide
theorem UM.unI (hF : 3000 ≤ F) (h : UM sh n z ku b len M) (hA : (allC M.2.2.2.2).length ≤ len) {f : Nat} (hf : f < M.2.2.2.2.length) : UnI F sh n z ku (mdOf b M) f := by
  have hc := h
  obtain ⟨hb, ht, hp⟩ := hc
  obtain ⟨u0, u1, _, _, _, _, u6, u7, _, _, _, _, _, _, u14, u15, _⟩ := b_unit hb.1 hb.2.1
  have l8 := hb.2.2.2.1
  have l64 := hp.2.2.2.2.1
  obtain ⟨o1, o2, o3⟩ := offC_s M.2.2.2.2 hf
  obtain ⟨_, t2, t3⟩ := ht.2.2.2.2.2.2.2.2.2.2 f hf
  have tI := ht.2.2.2.2.2.2.2.2.2.1
  have ok6 : okA sh n (ku + 6) 101 (nI f) = true := by rw [u14]; exact okI_nI (by omega) (by omega)
  have ok6' : okA sh n (ku + 6) 101 (nI (f + 1)) = true := by rw [u14]; exact okI_nI (by omega) (by omega)
  have cl : codeOf (mdOf b M) f = (M.2.2.2.2.getD f dGP).2.2.2.2.2.map (fun p => (b p, opX b p, opY b p)) := rfl
  refine ⟨?_, fun i o x y hi => ?_⟩
  · unfold fn_X16_instructions
    rw [u0, grd_true, u6, lnk_s, nI_1, ok6', grd_true, lnk_s, ok6, grd_true, nI_clamp (by omega), nI_clamp (by omega), t2, t3, cl, List.length_map, pk_sub (by omega), show offC M.2.2.2.2 (f + 1) - offC M.2.2.2.2 f = (M.2.2.2.2.getD f dGP).2.2.2.2.2.length by omega]
  · rw [cl, List.getElem?_map] at hi
    have il : i < (M.2.2.2.2.getD f dGP).2.2.2.2.2.length := by
      by_cases c : i < (M.2.2.2.2.getD f dGP).2.2.2.2.2.length
      · exact c
      · rw [List.getElem?_eq_none (by omega)] at hi; cases hi
    obtain ⟨p, ep⟩ : ∃ p, p = (M.2.2.2.2.getD f dGP).2.2.2.2.2.getD i 0 := ⟨_, rfl⟩
    have ep2 : (M.2.2.2.2.getD f dGP).2.2.2.2.2[i]? = some p := by
      rw [ep]; exact getD_s il
    rw [ep2] at hi
    have hi' : some (b p, opX b p, opY b p) = some (o, x, y) := hi
    cases hi'
    have ip : InP b len p := (hp.2.2.2.2.2 _ (getD_m hf)).2.2.2.2.2.2.2 p (by rw [ep]; exact getD_m il)
    obtain ⟨p1, p2, p3, p4⟩ := ip
    have rowp : z.1 (ku + 7) (offC M.2.2.2.2 f + i) = nI p := by rw [tI.2 _ (by omega), o3 i il, ep]
    have ok7 : okA sh n (ku + 7) 101 (nI (offC M.2.2.2.2 f + i)) = true := by rw [u15]; exact okI_nI (by omega) (by omega)
    have c7 : (nI (offC M.2.2.2.2 f + i)).toNatClampNeg = offC M.2.2.2.2 f + i := nI_clamp (by omega)
    have cf : (nI f).toNatClampNeg = f := nI_clamp (by omega)
    have o60 : b p < 60 := by omega
    have ob16 := opB_16 (b p)
    refine ⟨?_, ?_⟩
    · unfold fn_X16_operation
      rw [u0, grd_true, u7, lnk_s, u6, lnk_s, ok6, grd_true, cf, t2, nI_add, ok7, grd_true, c7, rowp, hb.byte p1, cal_s]
    · have hd : ∀ w, fn_X16_operand F sh n z ku (nI f) (nI i) w = fn_X16_operand_B63 F sh n w ku (nI p) (nI (opB (b p))) z (bI (twoO (b p))) := fun w => by
        unfold fn_X16_operand
        rw [u0, grd_true, u7, lnk_s, u6, lnk_s, ok6, grd_true, cf, t2, nI_add, ok7, grd_true, c7, rowp, lt_t, hb.byte p1, cal_s, opB_t (by omega), cal_s]
        unfold fn_X16_operand_B58 twoO
        by_cases d1 : b p = 16
        · rw [if_pos ((nIe (x := 16) 16 rfl (by omega) (by omega)).mpr d1), d1]; rfl
        rw [if_neg (fun q => d1 ((nIe (x := 16) 16 rfl (by omega) (by omega)).mp q))]
        by_cases d2 : b p = 17
        · rw [if_pos ((nIe (x := 17) 17 rfl (by omega) (by omega)).mpr d2), d2]; rfl
        rw [if_neg (fun q => d2 ((nIe (x := 17) 17 rfl (by omega) (by omega)).mp q))]
        by_cases d3 : b p = 52
        · rw [if_pos ((nIe (x := 52) 52 rfl (by omega) (by omega)).mpr d3), d3]; rfl
        rw [if_neg (fun q => d3 ((nIe (x := 52) 52 rfl (by omega) (by omega)).mp q))]
        by_cases d4 : b p = 7
        · rw [if_pos ((nIe (x := 7) 7 rfl (by omega) (by omega)).mpr d4), d4]; rfl
        · rw [if_neg (fun q => d4 ((nIe (x := 7) 7 rfl (by omega) (by omega)).mp q)), beq_eq_false_iff_ne.mpr d1, beq_eq_false_iff_ne.mpr d2, beq_eq_false_iff_ne.mpr d3, beq_eq_false_iff_ne.mpr d4]; rfl
      rw [hd, hd]
      unfold fn_X16_operand_B63 opX opY
      cases tw : twoO (b p) with
      | false =>
        rw [if_pos (show bI false = 0 from rfl), if_pos rfl, if_pos (show bI false = 0 from rfl), if_neg (show ¬ (1 : Int32) = 0 by decide), nI_1, hb.num (by omega) (by omega), cal_s, if_neg (by simp), if_neg (by simp)]
        exact ⟨rfl, rfl⟩
      | true =>
        have h2 := opB_h (b p) o60 tw
        have d0 : (0 : Int32) * nI (opB (b p)) / 2 = nI 0 := by rw [Int32.zero_mul]; rfl
        have d1 : (1 : Int32) * nI (opB (b p)) / 2 = nI (opB (b p) / 2) := by
          rw [Int32.one_mul]
          have : ∀ o, o < 60 → nI (opB o) / 2 = nI (opB o / 2) := by decide
          exact this (b p) o60
        have d2 : nI (opB (b p)) / 2 = nI (opB (b p) / 2) := by rw [← d1, Int32.one_mul]
        rw [if_neg (show ¬ bI true = 0 from one0), if_neg (show ¬ bI true = 0 from one0), d0, d1, d2, nI_1, nI_add, nI_add, Nat.add_zero, hb.num (by omega) (by omega), cal_s, hb.num (by omega) (by omega), cal_s, if_pos rfl, if_pos rfl]
        exact ⟨rfl, rfl⟩
end
