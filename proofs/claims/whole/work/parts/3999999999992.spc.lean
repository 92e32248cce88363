/-! THE CLASS'S LOOKER: an empty stack's type -/
section
variable {F n : Nat} {sh : Nat → Nat × Nat} {z z' : St}
theorem hdZ (c : Nat) : ∀ g p, p ≤ c → c = 7 → p < g → ∀ G, fn_X5_head_L3 G sh n 0 g z (nI (8 * p)) = some (z, 0) ∧ fn_X5_headShift_L3 G sh n 0 g z (nI (8 * p)) = some (z, 0) := by
  intro g
  induction g with
  | zero => intro p a b h; omega
  | succ g ih =>
    intro p a b h G
    subst b
    unfold fn_X5_head_L3 fn_X5_headShift_L3
    by_cases c0 : p = 0
    · subst c0
      rw [if_pos (show nI (8 * 0) ≤ 0 by decide)]
      exact ⟨rfl, rfl⟩
    · obtain ⟨q, rfl⟩ : ∃ q, p = q + 1 := ⟨p - 1, by omega⟩
      have e : nI (8 * (q + 1)) + (-8) = nI (8 * q) := by
        rw [show 8 * (q + 1) = 8 * q + 8 by omega, ← nI_add]
        show nI (8 * q) + 8 + -8 = _
        rw [Int32.add_assoc, show (8 : Int32) + -8 = 0 from rfl, Int32.add_zero]
      have i := ih q (by omega) rfl (by omega) G
      have n0 : ¬ nI (8 * (q + 1)) ≤ 0 := fun w => by have := (nIle (x := 0) 0 rfl (by omega) (by omega)).mp w; omega
      have sz : ∀ s : UInt64, (((0 : Int64).toUInt64 >>> s).toInt64) = 0 := fun s => by
        show ((0 : UInt64) >>> s).toInt64 = 0
        rw [UInt64.zero_shiftRight]; rfl
      refine ⟨?_, ?_⟩
      · rw [if_neg n0, sz, if_pos rfl, e, i.1]
      · rw [if_neg n0, sz, if_pos rfl, e, i.2]
theorem head_0 (hF : 300 ≤ F) : fn_X5_head F sh n z 0 = some (z, 0) ∧ fn_X5_isReference F sh n z 0 = some (z, 0) ∧ fn_X5_pointee F sh n z 0 = some (z, 0) := by
  obtain ⟨a, b⟩ := hdZ (n := n) (sh := sh) (z := z) 7 F 7 (by omega) rfl (by omega) F
  have a' : fn_X5_head F sh n z 0 = some (z, 0) := a
  have b' : fn_X5_headShift F sh n z 0 = some (z, 0) := b
  refine ⟨a', ?_, ?_⟩
  · unfold fn_X5_isReference
    rw [a', cal_s, if_pos (by decide)]
  · unfold fn_X5_pointee
    rw [b', cal_s, Int64.zero_and]
end
