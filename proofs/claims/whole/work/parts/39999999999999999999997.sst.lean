/-! MISFITS, THE CLASS: measuring as a whole, structures that are too deep -/
section
variable {F n : Nat} {sh : Nat → Nat × Nat} {z z' : St} {kp kb len : Nat} {b : Nat → Nat} {M : MP} {D : Nat → Nat} {ws : Nat → Md} {wc : Nat} {dp : Nat → Nat → Nat}
theorem CWo.frd (h : CWo sh n z ws wc dp) (hk : kp = 15 + 5 * (wc + 1)) (f : FrDp kp z z') : CWo sh n z' ws wc dp := by
  obtain ⟨h1, h2, h3, h4⟩ := h
  have g : ∀ k, k ≠ kp + 3 → z'.1 k = z.1 k := f.2.1
  refine ⟨h1.of (by rw [f.1]), by rw [g 3 (by omega)]; exact h2, h3, fun i hi => ?_⟩
  obtain ⟨⟨kb, b, len, M, c1, c2, c3, c4⟩, c5⟩ := h4 i hi
  refine ⟨⟨kb, b, len, M, ?_, c2, c3, c4⟩, fun s hs => by rw [g (15 + 5 * i + 3) (by omega)]; exact c5 s hs⟩
  obtain ⟨a, h2', h3', h4', h5'⟩ := c1
  refine ⟨a.fr f.1 (fun k q1 q2 => g k (by omega)), by rw [f.1]; exact h2', by rw [g _ (by omega)]; exact h3', h4', fun p hp => ?_⟩
  rw [rb_fr (g kb (by omega))]
  exact h5' p hp
theorem strOk_i {U : Md} {s : Nat} (h : strOk ws wc U s = true) : ∃ i, wfi ws (U.2.2.2.1 s / 256) (wc + 1) 0 = some i ∧ i ≤ wc ∧ U.2.2.2.1 s % 256 < (ws i).1.2.1 := by
  unfold strOk at h
  cases e : wfi ws (U.2.2.2.1 s / 256) (wc + 1) 0 with
  | none => rw [e] at h; cases h
  | some i =>
    rw [e] at h
    have h' : (decide (U.2.2.2.1 s % 256 < (ws i).1.2.1) && decide ((ws i).2.1 (U.2.2.2.1 s % 256) = U.2.1 s)) = true := h
    obtain ⟨_, w2, _⟩ := wfi_s e
    exact ⟨i, rfl, by omega, of_decide_eq_true (Bool.and_eq_true_iff.mp h').1⟩
theorem mD0_le (hW : CWo sh n z ws wc dp) (hS : ∀ s, M.1.length ≤ s → s < M.1.length + M.2.1.length → strOk ws wc (mdOf b M) s = true) : ∀ s, s < M.1.length + M.2.1.length → mD0 ws wc dp (mdOf b M) s ≤ 24 := fun s hs => by
  unfold mD0
  by_cases c : s < (mdOf b M).1.2.1
  · rw [if_pos c]; omega
  · rw [if_neg c]
    have c' : ¬ s < M.1.length := c
    obtain ⟨i, e1, e2, e3⟩ := strOk_i (hS s (by omega) hs)
    rw [e1]
    exact ((hW.2.2.2 i e2).2 _ e3).2
theorem CPr.measureT (hF : 1100 ≤ F) (hk : kp = 15 + 5 * (wc + 1)) (hkb : 513 ≤ kb) (hW : CWo sh n z ws wc dp) (h6w : ∀ i, i ≤ wc → (ws i).1.1 < 65536) (h : CPr sh n z kp kb b len M) (h6 : 6 ≤ len) (hj : jM b M = none) (hS : ∀ s, M.1.length ≤ s → s < M.1.length + M.2.1.length → strOk ws wc (mdOf b M) s = true) : ∃ z', fn_X5_measure F sh n z kp 3 = some (z', ()) ∧ CPr sh n z' kp kb b len M ∧ HD z' kp (M.1.length + M.2.1.length) (mAll ws wc dp (mdOf b M)) ∧ (∀ s, s < M.1.length + M.2.1.length → mAll ws wc dp (mdOf b M) s < 2 ^ 18) ∧ FrDp kp z z' := by
  have l1 := h.1.2.2.2.1.1
  have l2 := h.1.2.2.2.2.1.1
  have m0 := mD0_le hW hS
  have lp : ∀ r s g z, CWo sh n z ws wc dp → CPr sh n z kp kb b len M → s + r = M.1.length + M.2.1.length → r < g → HD z kp s (mD0 ws wc dp (mdOf b M)) → ∃ z', fn_X5_measure_L2 F sh n kp 3 g z (nI s) = fn_X5_measure_L68 F sh n kp F z' 0 ∧ CPr sh n z' kp kb b len M ∧ HD z' kp (M.1.length + M.2.1.length) (mD0 ws wc dp (mdOf b M)) ∧ FrDp kp z z' := by
    intro r
    induction r with
    | zero =>
      intro s g z hW h es hg hD
      obtain ⟨g, rfl⟩ : ∃ q, g = q + 1 := ⟨g - 1, by omega⟩
      unfold fn_X5_measure_L2
      rw [(b_prog h.1.1 h.1.2.1).1, grd_true, h.1.2.2.1.1.2.2.1, if_pos ((nI_leI (by omega) (by omega)).mpr (by omega))]
      have : s = M.1.length + M.2.1.length := by omega
      subst this
      exact ⟨z, rfl, h, hD, FrDp.rfl'⟩
    | succ r ih =>
      intro s g z hW h es hg hD
      obtain ⟨g, rfl⟩ : ∃ q, g = q + 1 := ⟨g - 1, by omega⟩
      have hs : s < M.1.length + M.2.1.length := by omega
      have pk := h.1.2.2.2
      -- what is put there
      have put : ∀ v, v = nI (mD0 ws wc dp (mdOf b M) s) → ∃ z', fn_X5_measure_L2 F sh n kp 3 g (si z (kp + 3) (7 * s + 6) v) (nI s + 1) = fn_X5_measure_L68 F sh n kp F z' 0 ∧ CPr sh n z' kp kb b len M ∧ HD z' kp (M.1.length + M.2.1.length) (mD0 ws wc dp (mdOf b M)) ∧ FrDp kp z z' := fun v ev => by
        have f1 : FrDp kp z (si z (kp + 3) (7 * s + 6) v) := FrDp.si
        obtain ⟨z2, s1, s2, s3, s4⟩ := ih (s + 1) g (si z (kp + 3) (7 * s + 6) v) (hW.frd hk f1) (h.frd hkb f1) (by omega) (by omega) (fun x hx => by
          by_cases c : x = s
          · subst c; rw [si_ss]; exact ev
          · rw [si_oj (by omega)]; exact hD x (by omega))
        rw [nI_1]
        exact ⟨z2, s1, s2, s3, f1.trans s4⟩
      unfold fn_X5_measure_L2 fn_X5_measure_B57 fn_X5_measure_B57_2 fn_X5_measure_B57_3
      rw [(b_prog h.1.1 h.1.2.1).1, grd_true, h.1.2.2.1.1.2.2.1, if_neg (fun y => by have := (nI_leI (by omega) (by omega)).mp y; omega), h.1.2.2.1.1.2.1]
      by_cases c : s < M.1.length
      · rw [if_neg (fun y => by have := (nI_leI (by omega) (by omega)).mp y; omega), h.setD (by omega), cal_s]
        exact put 0 (by unfold mD0; rw [if_pos (show s < (mdOf b M).1.2.1 from c)]; rfl)
      · obtain ⟨i, e1, e2, e3⟩ := strOk_i (hS s (by omega) hs)
        obtain ⟨c4, c5⟩ := h.home (F := F) hs
        have idl := id_lt pk h.hb h6 hs
        have fd := hW.find (F := F) (by omega) h6w idl
        rw [e1] at fd
        have fd' : fn_X7_findProgram F sh n z 3 (nI ((mdOf b M).2.2.2.1 s / 256)) = some (z, some (15 + 5 * i)) := fd
        obtain ⟨⟨kb', b', len', M', q1, q2, _⟩, q3⟩ := hW.2.2.2 i e2
        have l1' := q1.1.2.2.2.1.1
        have e3' : (mdOf b M).2.2.2.1 s % 256 < M'.1.length := by rw [q2] at e3; exact e3
        rw [if_pos ((nI_leI (by omega) (by omega)).mpr (by omega)), c4, cal_s, (b_state hW.1).1, grd_true, fd', cal_s, nul_s, c5, cal_s, (b_prog q1.1.1 q1.1.2.1).1, grd_true, q1.1.sCol (c := 6) (ic := 6) rfl (by omega) (by omega), cal_s, (q3 _ e3).1, h.setD (by omega), cal_s]
        refine put _ ?_
        unfold mD0
        rw [if_neg (show ¬ s < (mdOf b M).1.2.1 from c), e1]
  obtain ⟨z1, a1, a2, a3, a4⟩ := lp (M.1.length + M.2.1.length) 0 F z hW h (by omega) (by omega) (fun x hx => absurd hx (by omega))
  obtain ⟨z2, b1, b2, b3, b4, b5⟩ := CPr.m68 (F := F) (by omega) hkb hj M.1.length 0 F z1 _ 24 a2 a3 m0 (by omega) (by omega) (by omega)
  refine ⟨z2, ?_, b2, b3, fun s hs => by have := b4 s hs; show mTn (mdOf b M) M.1.length M.1.length (mD0 ws wc dp (mdOf b M)) s < _; omega, a4.trans b5⟩
  unfold fn_X5_measure
  have a1' : fn_X5_measure_L2 F sh n kp 3 F z 0 = fn_X5_measure_L68 F sh n kp F z1 0 := a1
  rw [a1']
  exact b1
theorem CPr.deep (hF : 100 ≤ F) (h : CPr sh n z kp kb b len M) (hD : HD z kp (M.1.length + M.2.1.length) D) (hB : ∀ s, s < M.1.length + M.2.1.length → D s < 2 ^ 18) : fn_X5_deepStructure F sh n z kp = some (z, nsR 0 (fbad (fun s => decide (D s ≤ 24)) M.1.length 0)) := by
  have l1 := h.1.2.2.2.1.1
  have l2 := h.1.2.2.2.2.1.1
  have p5 := (b_prog h.1.1 h.1.2.1).1
  have lp : ∀ r s g, s + r = M.1.length → r < g → fn_X5_deepStructure_L2 F sh n kp g z (nI s) = some (z, nsR 0 (fbad (fun s => decide (D s ≤ 24)) r s)) := by
    intro r
    induction r with
    | zero =>
      intro s g es hg
      obtain ⟨g, rfl⟩ : ∃ q, g = q + 1 := ⟨g - 1, by omega⟩
      unfold fn_X5_deepStructure_L2
      rw [p5, grd_true, h.1.2.2.1.1.2.1, if_pos ((nI_leI (by omega) (by omega)).mpr (by omega))]
      rfl
    | succ r ih =>
      intro s g es hg
      obtain ⟨g, rfl⟩ : ∃ q, g = q + 1 := ⟨g - 1, by omega⟩
      have hs : s < M.1.length + M.2.1.length := by omega
      have bs := hB s hs
      unfold fn_X5_deepStructure_L2 fbad
      rw [p5, grd_true, h.1.2.2.1.1.2.1, if_neg (fun y => by have := (nI_leI (by omega) (by omega)).mp y; omega), h.1.sCol (c := 6) (ic := 6) rfl hs (by omega), cal_s, hD s hs]
      by_cases c : D s ≤ 24
      · rw [if_pos ((nIle (x := 24) 24 rfl (by omega) (by omega)).mpr c), if_pos (decide_eq_true c), nI_1]
        exact ih (s + 1) g (by omega) (by omega)
      · rw [if_neg (fun y => c ((nIle (x := 24) 24 rfl (by omega) (by omega)).mp y)), if_neg (show ¬ decide _ = true from fun y => c (of_decide_eq_true y))]
        rfl
  exact lp M.1.length 0 F (by omega) (by omega)
end
