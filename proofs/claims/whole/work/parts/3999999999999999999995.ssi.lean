/-! MISFITS, THE CLASS: foreign structures -/
def nsR (own : Nat) : Option Nat → Int32
  | none => -1
  | some s => nI (s - own)
section
variable {F n : Nat} {sh : Nat → Nat × Nat} {z z' : St} {kp kb len : Nat} {b : Nat → Nat} {M : MP} {ws : Nat → Md} {wc : Nat} {dp : Nat → Nat → Nat}
theorem ab_lt (pk : PicOk b len M) {s : Nat} (hs : s < M.1.length + M.2.1.length) : (mdOf b M).2.1 s < 16 := by
  show (if s < M.1.length then b (M.1.getD s dSP).1 else b (M.2.1.getD (s - M.1.length) 0 + 3)) < 16
  by_cases c : s < M.1.length
  · have st := pk.1.2 _ (getD_m (d := dSP) c)
    rw [if_pos c, st.2.1]; have := st.2.2.1; omega
  · have fp := pk.2.1.2 _ (getD_m (d := 0) (show s - M.1.length < M.2.1.length by omega))
    rw [if_neg c]; have := fp.2; omega
theorem id_lt (pk : PicOk b len M) (hb : ∀ q, q < len → b q < 256) (h6 : 6 ≤ len) {s : Nat} (hs : s < M.1.length + M.2.1.length) : (mdOf b M).2.2.2.1 s / 256 < 65536 := by
  show (if s < M.1.length then 256 * shB b 4 + s else 256 * shB b (M.2.1.getD (s - M.1.length) 0) + b (M.2.1.getD (s - M.1.length) 0 + 2)) / 256 < 65536
  have l1 := pk.1.1
  by_cases c : s < M.1.length
  · have := shB_lt (b := b) (hb 4 (by omega)) (hb 5 (by omega))
    rw [if_pos c]; omega
  · have fp := pk.2.1.2 _ (getD_m (d := 0) (show s - M.1.length < M.2.1.length by omega))
    have f1 := fp.1
    have := shB_lt (b := b) (hb (M.2.1.getD (s - M.1.length) 0) (by omega)) (hb (M.2.1.getD (s - M.1.length) 0 + 1) (by omega))
    have b8 := hb (M.2.1.getD (s - M.1.length) 0 + 2) (by omega)
    rw [if_neg c]; omega
theorem CPr.strange (hF : 100 ≤ F) (hW : CWo sh n z ws wc dp) (h6w : ∀ i, i ≤ wc → (ws i).1.1 < 65536) (h : CPr sh n z kp kb b len M) (h6 : 6 ≤ len) : fn_X5_strangeStructure F sh n z kp 3 = some (z, nsR M.1.length (fbad (strOk ws wc (mdOf b M)) M.2.1.length M.1.length)) := by
  have pk := h.1.2.2.2
  have l1 := pk.1.1
  have l2 := pk.2.1.1
  have s7 := (b_state hW.1).1
  have p5 := (b_prog h.1.1 h.1.2.1).1
  have e8 := h.1.2.2.1.1.2.1
  have e9 := h.1.2.2.1.1.2.2.1
  have lp : ∀ r s g, M.1.length ≤ s → s + r = M.1.length + M.2.1.length → r < g → fn_X5_strangeStructure_L5 F sh n kp 3 g z (nI s) = some (z, nsR M.1.length (fbad (strOk ws wc (mdOf b M)) r s)) := by
    intro r
    induction r with
    | zero =>
      intro s g co es hg
      obtain ⟨g, rfl⟩ : ∃ q, g = q + 1 := ⟨g - 1, by omega⟩
      unfold fn_X5_strangeStructure_L5
      rw [e9, if_pos ((nI_leI (by omega) (by omega)).mpr (by omega))]
      rfl
    | succ r ih =>
      intro s g co es hg
      obtain ⟨g, rfl⟩ : ∃ q, g = q + 1 := ⟨g - 1, by omega⟩
      have hs : s < M.1.length + M.2.1.length := by omega
      obtain ⟨c4, c5⟩ := h.home (F := F) hs
      have idl := id_lt pk h.hb h6 hs
      have fd := hW.find (F := F) (by omega) h6w idl
      unfold fn_X5_strangeStructure_L5 fbad
      rw [e9, if_neg (fun y => by have := (nI_leI (by omega) (by omega)).mp y; omega), c4, cal_s, s7, grd_true, fd, cal_s, c5, cal_s]
      have em : (M.1.length ≤ s) → nI s - nI M.1.length = nI (s - M.1.length) := fun q => pk_sub q
      have so : strOk ws wc (mdOf b M) s = match wfi ws ((mdOf b M).2.2.2.1 s / 256) (wc + 1) 0 with
        | none => false
        | some i => decide ((mdOf b M).2.2.2.1 s % 256 < (ws i).1.2.1) && decide ((ws i).2.1 ((mdOf b M).2.2.2.1 s % 256) = (mdOf b M).2.1 s) := rfl
      · cases e : wfi ws ((mdOf b M).2.2.2.1 s / 256) (wc + 1) 0 with
        | none =>
          rw [e] at so
          rw [so, if_neg (by simp)]
          show nul none _ _ = _
          rw [nul_n, e8, em co]; rfl
        | some i =>
          rw [e] at so
          obtain ⟨w1, w2, w3⟩ := wfi_s e
          obtain ⟨⟨kb', b', len', M', c1, c2, c3⟩, _⟩ := hW.2.2.2 i (by omega)
          have pk' := c1.1.2.2.2
          have l1' := pk'.1.1
          show nul (some (15 + 5 * i)) _ _ = _
          rw [nul_s, cal_s, (b_prog c1.1.1 c1.1.2.1).1, grd_true, c1.1.2.2.1.1.2.1, e8]
          have so2 : strOk ws wc (mdOf b M) s = (decide ((mdOf b M).2.2.2.1 s % 256 < (ws i).1.2.1) && decide ((ws i).2.1 ((mdOf b M).2.2.2.1 s % 256) = (mdOf b M).2.1 s)) := so
          rw [c2] at so2
          have so' : strOk ws wc (mdOf b M) s = (decide ((mdOf b M).2.2.2.1 s % 256 < M'.1.length) && decide ((mdOf b' M').2.1 ((mdOf b M).2.2.2.1 s % 256) = (mdOf b M).2.1 s)) := so2
          by_cases d : (mdOf b M).2.2.2.1 s % 256 < M'.1.length
          · rw [if_neg (fun y => by have := (nI_leI (by omega) (by omega)).mp y; omega), c1.1.ab (by omega), cal_s, h.1.ab hs, cal_s]
            have a1 := ab_lt pk' (show (mdOf b M).2.2.2.1 s % 256 < M'.1.length + M'.2.1.length by omega)
            have a2 := ab_lt pk hs
            by_cases q : (mdOf b' M').2.1 ((mdOf b M).2.2.2.1 s % 256) = (mdOf b M).2.1 s
            · rw [if_pos (by rw [q]), so', decide_eq_true d, decide_eq_true q, show (true && true) = true from rfl, if_pos (show true = true from rfl), nI_1]
              exact ih (s + 1) g (by omega) (by omega) (by omega)
            · rw [if_neg (fun y => q ((nI_eq (by omega) (by omega)).mp y)), so', decide_eq_false q, Bool.and_false, if_neg (by simp), e8, em co]; rfl
          · rw [if_pos ((nI_leI (by omega) (by omega)).mpr (by omega)), so', decide_eq_false d, Bool.false_and, if_neg (by simp), em co]; rfl
  unfold fn_X5_strangeStructure
  rw [p5, grd_true, lt_t, e8]
  exact lp M.2.1.length M.1.length F (Nat.le_refl _) (by omega) (by omega)
end
