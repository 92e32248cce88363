/-! THE REFERENCE'S UNIT: rounds, structure by structure -/
def jRd (M : MP) : Nat → Nat → Flt
  | 0, _ => none
  | m + 1, k => if isRd M k = true then some (14, (M.1.getD k dSP).1) else jRd M m (k + 1)
def FtR (z : St) (ku : Nat) (r : Flt) : Prop := match r with | none => z.1 ku 3 = nI 0 | some e => z.1 ku 3 = nI e.1 ∧ 0 < e.1 ∧ e.1 < 16 ∧ z.1 ku 4 = nI e.2
section
variable {F n : Nat} {sh : Nat → Nat × Nat} {z z' : St} {ku len : Nat} {b : Nat → Nat} {M : MP}
theorem UM.rd71 (hF : 300 ≤ F) : ∀ m k g z, k + m = M.1.length → m < g → UM sh n z ku b len M → z.1 ku 3 = nI 0 → ∃ z', fn_X16_read_L71 F sh n ku g z (nI k) = some (z', z'.1 ku 3) ∧ UM sh n z' ku b len M ∧ FtR z' ku (jRd M m k) ∧ FrOw ku [ku + 8] [2, 3, 4] z z' := by
  intro m
  induction m with
  | zero =>
    intro k g z ek hg h e3
    obtain ⟨g, rfl⟩ : ∃ q, g = q + 1 := ⟨g - 1, by omega⟩
    have l32 := h.2.2.1.1
    unfold fn_X16_read_L71
    rw [h.2.1.1, if_pos ((nI_leI (by omega) (by omega)).mpr (by omega))]
    exact ⟨z, rfl, h, e3, FrOw.rfl'⟩
  | succ m ih =>
    intro k g z ek hg h e3
    obtain ⟨g, rfl⟩ : ∃ q, g = q + 1 := ⟨g - 1, by omega⟩
    have l32 := h.2.2.1.1
    have hk : k < M.1.length := by omega
    obtain ⟨z1, t1, t2, t3⟩ := h.isRound (F := F) hF hk
    have e31 : z1.1 ku 3 = nI 0 := by rw [t3.2.2 3 (by simp)]; exact e3
    have f1 : FrOw ku [ku + 8] [2, 3, 4] z z1 := t3.mono (fun _ h => h) (by simp)
    have gd : fn_X16_isGood F sh n z ku = some (z, 1) := h.1.good (w := 0) e3 (by omega)
    conv => enter [1, z', 1, 1]; unfold fn_X16_read_L71
    unfold fn_X16_read_B109
    rw [h.2.1.1, if_neg (fun x => by have := (nI_leI (by omega) (by omega)).mp x; omega), gd, cal_s, if_neg (by decide), t1, cal_s, nI_1]
    show ∃ z', _ ∧ _ ∧ FtR z' ku (if isRd M k = true then some (14, (M.1.getD k dSP).1) else jRd M m (k + 1)) ∧ _
    cases e : isRd M k with
    | false =>
      obtain ⟨z2, v1, v2, v3, v4⟩ := ih (k + 1) g z1 (by omega) (by omega) t2 e31
      rw [if_pos (show bI false = 0 from rfl), if_neg (by simp)]
      exact ⟨z2, v1, v2, v3, f1.trans v4⟩
    | true =>
      obtain ⟨s1, s2, s3, s4, s5⟩ := t2.sAt hk
      obtain ⟨z2, w1, w2⟩ := JS.fail (F := F) (z0 := z1) (z := z1) (r := none) t2 ⟨FrCu.rfl', e31⟩ (w := 14) (q := (M.1.getD k dSP).1) (by omega) (by omega)
      have w1' : fn_X16_fail F sh n z1 ku 14 (nI (M.1.getD k dSP).1) = some (z2, ()) := w1
      obtain ⟨y1, y2, y3, y4, y5⟩ := w2
      have um2 := t2.fr y1
      have gd2 : fn_X16_isGood F sh n z2 ku = some (z2, 0) := by
        have := um2.1.good (F := F) y2 y4
        exact this
      obtain ⟨g', rfl⟩ : ∃ q, g = q + 1 := ⟨g - 1, by omega⟩
      rw [if_neg (show ¬ bI true = 0 from one0), s1, lnk_s, s2, grd_true, s3, s4, w1', cal_s, if_pos rfl]
      refine ⟨z2, ?_, um2, ⟨y2, y3, y4, y5⟩, f1.trans (y1.w (by simp))⟩
      show fn_X16_read_L71 F sh n ku (g' + 1) z2 (nI (k + 1)) = _
      unfold fn_X16_read_L71
      rw [gd2, cal_s, if_pos rfl]
      by_cases c : z2.1 ku 5 ≤ nI (k + 1)
      · rw [if_pos c]
      · rw [if_neg c]
end
