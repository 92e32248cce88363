/-! A RESOURCE IS LOOKED FOR, whatever is asked -/
section
variable {F n : Nat} {sh : Nat → Nat × Nat} {y : St} {nc nr : Nat} {ac : Nat → Int64 × Int64 × Int64} {so : Nat → Option Rsc}
/-- names that no structure has -/
theorem cfindR_no (hF : 300 ≤ F) (hL : Lay sh n y) (h : CLg y nc ac nr so) {x : Int64} {a b : Int32} (hab : ∀ k, k < 2 ^ 24 → ¬ (a = nI (k / 256) ∧ b = nI (k % 256))) : ∀ r p g, p + r = 256 → r < g → fn_X7_findResource_L3 F sh n 3 x a b g y (nI p) = some (y, -1) := by
  intro r
  induction r with
  | zero =>
    intro p g h1 h2
    obtain ⟨g, rfl⟩ : ∃ q, g = q + 1 := ⟨g - 1, by omega⟩
    unfold fn_X7_findResource_L3
    rw [if_pos (show (256 : Int32) ≤ nI p from (nI_leW (a := 256) (by omega) (by omega)).mpr (by omega))]
  | succ r ih =>
    intro p g h1 h2
    obtain ⟨g, rfl⟩ : ∃ q, g = q + 1 := ⟨g - 1, by omega⟩
    have nx := ih (p + 1) g (by omega) (by omega)
    have S := b_state hL
    have oi : okI (nI p) 256 = true := okI_nI (by omega) (by omega)
    have ci : (nI p).toNatClampNeg = p := nI_clamp (by omega)
    have e1 : nI p + 1 = nI (p + 1) := nI_add p 1
    unfold fn_X7_findResource_L3
    rw [if_neg (show ¬ (256 : Int32) ≤ nI p from fun e => by have := (nI_leW (a := 256) (b := p) (by omega) (by omega)).mp e; omega), S.1, grd_true, S.2.2.2.2.2.2.2.2.1, lnk_s, lay_a hL 11 101 256 (by decide) rfl, oi, grd_true, ci]
    unfold fn_X7_findResource_B59
    cases e : so p with
    | none =>
      rw [(h.2.2.2 p (by omega)).1 e, if_pos (by decide), e1]
      exact nx
    | some v =>
      obtain ⟨s1, s2, s3, s4, s5, s6, s7, s8⟩ := (h.2.2.2 p (by omega)).2 v e
      rw [s5, if_neg (show ¬ nI v.2.2.length ≤ 0 from fun e => by have := (nI_leW (a := v.2.2.length) (b := 0) (by omega) (by omega)).mp e; omega), S.2.2.2.2.2.1, lnk_s, lay_a hL 8 102 256 (by decide) rfl, oi, grd_true, s1, S.2.2.2.2.2.2.1, lnk_s, lay_a hL 9 101 256 (by decide) rfl, oi, grd_true, s2, S.2.2.2.2.2.2.2.1, lnk_s, lay_a hL 10 101 256 (by decide) rfl, oi, grd_true, s3, e1]
      by_cases c1 : v.1 = x
      · rw [if_pos c1]
        by_cases c2 : nI (v.2.1 / 256) = a
        · rw [if_pos c2]
          by_cases c3 : nI (v.2.1 % 256) = b
          · exact absurd ⟨c2.symm, c3.symm⟩ (hab v.2.1 s4)
          · rw [if_neg c3]; exact nx
        · rw [if_neg c2]; exact nx
      · rw [if_neg c1]; exact nx
end
