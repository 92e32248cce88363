/-! THE REFERENCE'S UNIT: what a type ends in -/
section
variable {F n : Nat} {sh : Nat → Nat × Nat} {z z' : St} {ku len : Nat} {b : Nat → Nat} {M : MP}
theorem RdT.last {p s : Nat} {rf : Bool} {t : Ty} (h : RdT b len p rf (t, p + t.length)) (es : endS t = some s) : 2 ≤ t.length ∧ b (p + t.length - 1) = s := by
  obtain ⟨_, _, _, _, pr, k, sfx, e, hr, hk, hs⟩ := h
  have et : t = pr ++ List.replicate k 7 ++ sfx := e
  rcases hs with ⟨c, hc, c1, c5⟩ | ⟨y, hy, ey⟩
  · exfalso
    have key : ∀ (u : Ty), (∀ x, x ∈ u → 6 < x) → endS (u ++ [c]) = none := by
      intro u
      induction u with
      | nil => intro _; rfl
      | cons a u ih =>
        intro hu
        cases u with
        | nil =>
          have : 6 < a := hu a (by simp)
          show endS [a, c] = none
          simp only [endS, if_neg (show ¬ a = 6 by omega)]
        | cons d u =>
          have i := ih (fun x hx => hu x (by simp [hx]))
          cases u with
          | nil => exact i
          | cons _ _ => exact i
    have : endS t = none := by
      rw [et, hc]
      refine key _ (fun x hx => ?_)
      rcases List.mem_append.mp hx with h1 | h1
      · rcases hr with q | ⟨_, q | q⟩ <;> rw [q] at h1
        · cases h1
        · have : x = 8 := by simpa using h1
          omega
        · have : x = 9 := by simpa using h1
          omega
      · have := (List.mem_replicate.mp h1).2; omega
    rw [es] at this; cases this
  · have key : ∀ (u : Ty), endS (u ++ [6, y]) = some y := by
      intro u
      induction u with
      | nil => rfl
      | cons a u ih =>
        cases u with
        | nil => rfl
        | cons d u =>
          cases u with
          | nil => exact ih
          | cons _ _ => exact ih
    have es2 : endS t = some y := by rw [et, hy]; exact key _
    rw [es] at es2
    have sy : s = y := by simpa using es2
    refine ⟨by rw [et, hy, List.length_append]; simp, ?_⟩
    rw [sy, ey]
/-- the own structure that a type ends in -/
def ownT (own : Nat) (t : Ty) : Option Nat := match endS t with | some s => if s < own then some s else none | none => none
theorem UM.ownIn (hF : 300 ≤ F) (h : UM sh n z ku b len M) {p : Nat} {rf : Bool} {t : Ty} (ht : RdT b len p rf (t, p + t.length)) : fn_X16_ownIn F sh n z ku (nI p) = some (z, match ownT M.1.length t with | some s => nI s | none => -1) := by
  have l32 := h.2.2.1.1
  have l8 := h.1.2.2.2.1
  have le : p + t.length ≤ len := ht.2.2.1
  have t1 : 1 ≤ t.length := by
    have w := ht.2.2.2.1
    cases t with
    | nil => exact w.elim
    | cons _ _ => simp
  obtain ⟨e1, e2⟩ := h.1.tyEnd (F := F) hF ht
  have em : nI (p + t.length) - 1 = nI (p + t.length - 1) := by
    obtain ⟨m, hm⟩ : ∃ m, p + t.length = m + 1 := ⟨p + t.length - 1, by omega⟩
    rw [hm, ← nI_1, Int32.add_sub_cancel, Nat.add_sub_cancel]
  have s8 := (h.1.2.2.2.2 (p + t.length - 1) (by omega)).2
  unfold fn_X16_ownIn ownT
  rw [h.1.o, grd_true, e1, cal_s, em, h.1.byte (by omega), cal_s, e2, cal_s, h.2.1.1]
  cases es : endS t with
  | none => rw [if_pos (show bI (none : Option Nat).isSome = 0 from rfl)]
  | some s =>
    obtain ⟨_, l2⟩ := ht.last es
    rw [l2] at s8
    rw [if_neg (show ¬ bI (some s).isSome = 0 from one0), l2]
    show _ = some (z, match (if s < M.1.length then some s else none : Option Nat) with | some s => nI s | none => -1)
    by_cases c : s < M.1.length
    · rw [if_neg (fun x => by have := (nI_leI (by omega) (by omega)).mp x; omega), if_pos c]
    · rw [if_pos ((nI_leI (by omega) (by omega)).mpr (by omega)), if_neg c]
end
