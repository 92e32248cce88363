/-! MISFITS, THE REFERENCE: measuring as a whole, structures that are too deep -/
section
variable {F n : Nat} {sh : Nat → Nat × Nat} {z z' : St} {ku len : Nat} {b : Nat → Nat} {M : MP} {D : Nat → Nat} {ws : Nat → Md} {wc u : Nat} {dp : Nat → Nat → Nat}
theorem RWo.l32 (h : RWo sh n z ws wc dp) : ∀ i, 1 ≤ i → i ≤ wc → (ws i).1.2.1 ≤ 32 := fun i h1 h2 => by
  obtain ⟨⟨b, len, M, c1, c2, _⟩, _⟩ := h.2.2.2 i h1 h2
  rw [c2]
  exact c1.2.2.1.1
theorem mD0_leR (h : RWo sh n z ws wc dp) (hN : WNo ws wc) (h0 : dp 0 0 = 2) (hS : ∀ s, M.1.length ≤ s → s < M.1.length + M.2.1.length → strOk ws wc (mdOf b M) s = true) : ∀ s, s < M.1.length + M.2.1.length → mD0 ws wc dp (mdOf b M) s ≤ 24 := fun s hs => by
  unfold mD0
  by_cases c : s < (mdOf b M).1.2.1
  · rw [if_pos c]; omega
  · rw [if_neg c]
    have c' : ¬ s < M.1.length := c
    obtain ⟨i, e1, e2, e3⟩ := strOk_i (hS s (by omega) hs)
    rw [e1]
    show dp i ((mdOf b M).2.2.2.1 s % 256) ≤ 24
    by_cases ci : i = 0
    · subst ci
      rw [hN.1] at e3
      have e3' : (mdOf b M).2.2.2.1 s % 256 < 1 := e3
      have : (mdOf b M).2.2.2.1 s % 256 = 0 := by omega
      rw [this, h0]; omega
    · exact ((h.2.2.2 i (by omega) e2).2 _ e3).2
theorem RWo.measureT (hF : 1100 ≤ F) (hu : u = wc + 1) (hk : ku = 423 + 9 * u) (hW : RWo sh n z ws wc dp) (hN : WNo ws wc) (h0 : dp 0 0 = 2) (h : UM sh n z ku b len M) (h6 : 6 ≤ len) (hj : jM b M = none) (hS : ∀ s, M.1.length ≤ s → s < M.1.length + M.2.1.length → strOk ws wc (mdOf b M) s = true) : ∃ z', fn_X18_measure F sh n z 337 (nI u) = some (z', ()) ∧ UM sh n z' ku b len M ∧ HR z' u (M.1.length + M.2.1.length) (mAll ws wc dp (mdOf b M)) ∧ (∀ s, s < M.1.length + M.2.1.length → mAll ws wc dp (mdOf b M) s < 2 ^ 18) ∧ FrMe u z z' := by
  have pk := h.2.2
  have hb : ∀ q, q < len → b q < 256 := fun q hq => (h.1.2.2.2.2 q hq).2
  have l1 := pk.1.1
  have l2 := pk.2.1.1
  have wc8 := hW.2.2.1
  have m0 := mD0_leR hW hN h0 hS
  have l32 := hW.l32
  have lp : ∀ r s g z, RWo sh n z ws wc dp → UM sh n z ku b len M → s + r = M.1.length + M.2.1.length → r < g → HR z u s (mD0 ws wc dp (mdOf b M)) → ∃ z', fn_X18_measure_L9 F sh n ku 337 (nI u) g z (nI s) = fn_X18_measure_L103 F sh n ku 337 (nI u) F z' 0 ∧ UM sh n z' ku b len M ∧ HR z' u (M.1.length + M.2.1.length) (mD0 ws wc dp (mdOf b M)) ∧ FrMe u z z' := by
    intro r
    induction r with
    | zero =>
      intro s g z hW h es hg hD
      obtain ⟨g, rfl⟩ : ∃ q, g = q + 1 := ⟨g - 1, by omega⟩
      unfold fn_X18_measure_L9 fn_X16_structureCount
      rw [h.1.o, grd_true, grd_true, h.2.1.1, h.2.1.2.2.1, nI_add, cal_s, if_pos ((nI_leI (by omega) (by omega)).mpr (by omega))]
      have : s = M.1.length + M.2.1.length := by omega
      subst this
      exact ⟨z, rfl, h, hD, FrMe.rfl'⟩
    | succ r ih =>
      intro s g z hW h es hg hD
      obtain ⟨g, rfl⟩ : ∃ q, g = q + 1 := ⟨g - 1, by omega⟩
      have hs : s < M.1.length + M.2.1.length := by omega
      have hL := h.1.1
      have m6 := hL.2.2 337 6 342 rfl
      have oa : ∀ i, okA sh n 342 101 i = okI i 640 := lay_a hL 342 101 640 (by decide) rfl
      have gi : (64 : Int32) * nI u + nI s = nI (64 * u + s) := by rw [show (64 : Int32) * nI u = nI (64 * u) from pk_mul 64 u, nI_add]
      have put : ∀ v, v = nI (mD0 ws wc dp (mdOf b M) s) → ∃ z', fn_X18_measure_B94 F sh n 342 (nI u) (nI s) (fun z9 q3 => fn_X18_measure_L9 F sh n ku 337 (nI u) g z9 q3) z v = fn_X18_measure_L103 F sh n ku 337 (nI u) F z' 0 ∧ UM sh n z' ku b len M ∧ HR z' u (M.1.length + M.2.1.length) (mD0 ws wc dp (mdOf b M)) ∧ FrMe u z z' := fun v ev => by
        have f1 : FrMe u z (si z 342 (64 * u + s) v) := FrMe.si (by omega)
        obtain ⟨z2, s1, s2, s3, s4⟩ := ih (s + 1) g (si z 342 (64 * u + s) v) (hW.fme hu f1 l32) (h.fme f1) (by omega) (by omega) (fun x hx => by
          by_cases c : x = s
          · subst c; rw [si_ss]; exact ev
          · rw [si_oj (by omega)]; exact hD x (by omega))
        unfold fn_X18_measure_B94
        rw [gi, oa, okI_nI (by omega) (by omega), grd_true, nI_clamp (by omega), lt_t, nI_1]
        exact ⟨z2, s1, s2, s3, f1.trans s4⟩
      unfold fn_X18_measure_L9 fn_X16_structureCount fn_X18_measure_B34
      rw [h.1.o, grd_true, grd_true, h.2.1.1, h.2.1.2.2.1, nI_add, cal_s, if_neg (fun y => by have := (nI_leI (by omega) (by omega)).mp y; omega), h.2.1.1]
      by_cases c : s < M.1.length
      · rw [if_neg (fun y => by have := (nI_leI (by omega) (by omega)).mp y; omega), m6, lnk_s, if_neg (fun y => by have := (nI_leI (by omega) (by omega)).mp y; omega)]
        exact put 0 (by unfold mD0; rw [if_pos (show s < (mdOf b M).1.2.1 from c)]; rfl)
      · have le : nI M.1.length ≤ nI s := (nI_leI (by omega) (by omega)).mpr (by omega)
        obtain ⟨i, e1, e2, e3⟩ := strOk_i (hS s (by omega) hs)
        have idl := id_lt pk hb h6 hs
        rw [if_pos le, h.identity h6 hs, cal_s, m6, lnk_s, h.2.1.1, if_pos le]
        have pv : mD0 ws wc dp (mdOf b M) s = dp i ((mdOf b M).2.2.2.1 s % 256) := by
          unfold mD0
          rw [if_neg (show ¬ s < (mdOf b M).1.2.1 from c), e1]
        generalize hid : (mdOf b M).2.2.2.1 s = id at *
        rw [nI_sar8 (by omega), nI_and255]
        by_cases c0 : id / 256 = 0
        · have i0 : i = 0 := by
            rw [c0, hN.zero] at e1
            cases e1; rfl
          subst i0
          rw [hN.1] at e3
          have e3' : id % 256 < 1 := e3
          rw [if_pos (by rw [c0]; rfl)]
          refine put 2 ?_
          rw [pv, show id % 256 = 0 by omega, h0]; rfl
        · have fd := hW.find (F := F) (by omega) hN (num := id / 256) (by omega) idl
          rcases wix_s hN (num := id / 256) (by omega) with ⟨q, _⟩ | ⟨q, q1, q2⟩
          · rw [q] at e1; cases e1
          rw [q] at e1
          have ei : wix ws wc (id / 256) = i := by cases e1; rfl
          rw [ei] at fd q1
          have i32 := l32 i q1 e2
          have gj : (64 : Int32) * nI i + nI (id % 256) = nI (64 * i + id % 256) := by rw [show (64 : Int32) * nI i = nI (64 * i) from pk_mul 64 i, nI_add]
          rw [if_neg (nI_ne0 (by omega) (by omega)), lnk_s, fd, cal_s, gj, oa, okI_nI (by omega) (by omega), grd_true, nI_clamp (by omega), ((hW.2.2.2 i q1 e2).2 _ e3).1]
          refine put _ ?_
          rw [pv]
  obtain ⟨z1, a1, a2, a3, a4⟩ := lp (M.1.length + M.2.1.length) 0 F z hW h (by omega) (by omega) (fun x hx => absurd hx (by omega))
  obtain ⟨z2, b1, b2, b3, b4, b5⟩ := UM.m103 (F := F) (by omega) hj (u := u) (by omega) M.1.length 0 F z1 _ 24 a2 a3 m0 (by omega) (by omega) (by omega)
  refine ⟨z2, ?_, b2, b3, fun s hs => by have := b4 s hs; show mTn (mdOf b M) M.1.length M.1.length (mD0 ws wc dp (mdOf b M)) s < _; omega, a4.trans b5⟩
  have hL := h.1.1
  unfold fn_X18_measure
  have a1' : fn_X18_measure_L9 F sh n ku 337 (nI u) F z 0 = fn_X18_measure_L103 F sh n ku 337 (nI u) F z1 0 := a1
  rw [(b_model hL).1, grd_true, hL.2.2 337 4 341 rfl, lnk_s, b_units_a hL, okI_nI (by omega) (by omega), grd_true, nI_clamp (by omega), (b_units hL (i := u) (by omega)).1, lnk_s, ← hk, a1']
  exact b1
theorem UM.l264 (hF : 100 ≤ F) (h : UM sh n z ku b len M) (hu : u < 10) (hD : HR z u (M.1.length + M.2.1.length) D) (hB : ∀ s, s < M.1.length + M.2.1.length → D s < 2 ^ 18) : ∀ r s g, s + r = M.1.length → r < g → fn_X18_takeModule_L264 F sh n ku 337 (nI u) g z (nI s) = tlR z 25 0 (fn_X18_takeModule_L310 F sh n ku 337 F z 0) (fbad (fun s => decide (D s ≤ 24)) r s) := by
  have l1 := h.2.2.1.1
  have l2 := h.2.2.2.1.1
  have hL := h.1.1
  have m6 := hL.2.2 337 6 342 rfl
  have oa : ∀ i, okA sh n 342 101 i = okI i 640 := lay_a hL 342 101 640 (by decide) rfl
  intro r
  induction r with
  | zero =>
    intro s g es hg
    obtain ⟨g, rfl⟩ : ∃ q, g = q + 1 := ⟨g - 1, by omega⟩
    unfold fn_X18_takeModule_L264
    rw [h.2.1.1, if_pos ((nI_leI (by omega) (by omega)).mpr (by omega))]
    rfl
  | succ r ih =>
    intro s g es hg
    obtain ⟨g, rfl⟩ : ∃ q, g = q + 1 := ⟨g - 1, by omega⟩
    have hs : s < M.1.length + M.2.1.length := by omega
    have bs := hB s hs
    have gi : (64 : Int32) * nI u + nI s = nI (64 * u + s) := by rw [show (64 : Int32) * nI u = nI (64 * u) from pk_mul 64 u, nI_add]
    unfold fn_X18_takeModule_L264 fn_X18_tell fbad
    rw [h.2.1.1, if_neg (fun y => by have := (nI_leI (by omega) (by omega)).mp y; omega), m6, lnk_s, gi, oa, okI_nI (by omega) (by omega), grd_true, nI_clamp (by omega), hD s hs]
    by_cases c : D s ≤ 24
    · rw [if_pos ((nIle (x := 24) 24 rfl (by omega) (by omega)).mpr c), if_pos (decide_eq_true c), nI_1]
      exact ih (s + 1) g (by omega) (by omega)
    · rw [if_neg (fun y => c ((nIle (x := 24) 24 rfl (by omega) (by omega)).mp y)), if_neg (show ¬ decide _ = true from fun y => c (of_decide_eq_true y)), (b_model hL).1, grd_true, lt_t, cal_s]
      rfl
end
