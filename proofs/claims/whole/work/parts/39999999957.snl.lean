/-! THE CLASS'S JOURNAL: does it fit -/
def cfT (ak : Nat → Ask) (sz : Nat → Nat) : Nat → Nat → Bool
  | 0, _ => false
  | r + 1, p => (decide ((ak p).1 = 3) && ((ak p).2.2.2.2.1 && decide (64 < sz p))) || cfT ak sz r (p + 1)
def cfC (ak : Nat → Ask) (ws : Nat → Int64 → Nat → Bool) : Nat → Nat → Int32 → Int32
  | 0, _, c => c
  | r + 1, p, c => cfC ak ws r (p + 1) (c + (bI (if (ak p).1 = 2 then true else (ak p).2.2.2.2.1) - bI (if (ak p).1 = 2 then true else ws (ak p).1 (ak p).2.1 (ak p).2.2.1)))
section
variable {F n : Nat} {sh : Nat → Nat × Nat} {z : St} {na : Nat} {ak : Nat → Ask} {cn : Nat → Nat} {ws : Nat → Int64 → Nat → Bool} {sz : Nat → Nat}
theorem fits_L (hL : Lay sh n z) (h : CJ z na ak cn ws) (hs : ∀ e, e < na → (ak e).1 = 3 → (ak e).2.2.2.2.1 = true → ∃ t, fn_X1_sizeOf F sh n z 88 (nI (cn e)) = some (z, nI t) ∧ t < 2 ^ 31 ∧ (t ≤ 64 ↔ sz e ≤ 64)) : ∀ r p f c, p + r = na → r < f → fn_X2_fits_L10 F sh n 104 f z c (nI p) = some (z, if cfT ak sz r p = true then 0 else if (256 : Int32) < cfC ak ws r p c then 0 else 1) := by
  obtain ⟨⟨a1, _⟩, a2, a3⟩ := h
  intro r
  induction r with
  | zero =>
    intro p f c e hf
    obtain ⟨f', rfl⟩ : ∃ q, f = q + 1 := ⟨f - 1, by omega⟩
    show (if ((z.1 104 7) : Int32) ≤ nI p then _ else _) = _
    rw [a1, if_pos ((nI_leI (by omega) (by omega)).mpr (by omega))]
    have e0 : (if cfT ak sz 0 p = true then (0 : Int32) else if (256 : Int32) < cfC ak ws 0 p c then 0 else 1) = if (256 : Int32) < c then 0 else 1 := if_neg (show ¬ (false = true) by decide)
    rw [e0]
    by_cases q : (256 : Int32) < c
    · rw [if_pos q, if_pos q]
    · rw [if_neg q, if_neg q]
  | succ r ih =>
    intro p f c e hf
    obtain ⟨f', rfl⟩ : ∃ q, f = q + 1 := ⟨f - 1, by omega⟩
    obtain ⟨k1, r1, _, r4, r5, r6, r7⟩ := a3 p (by omega)
    have kb := k1.b
    have ng : ¬ nI na ≤ nI p := fun q => by have := (nI_leI (by omega) (by omega)).mp q; omega
    have cp : (nI p).toNatClampNeg = p := nI_clamp (by omega)
    have ok : ∀ k w, 105 ≤ k → k ≤ 112 → shF k = (w, 24) → okA sh n k w (nI p) = true := fun k w k1 k2 e => by rw [lay_a hL k w 24 (by omega) e]; exact okI_nI (by omega) (by omega)
    have i3 : nI (ak p).1 = 3 ↔ (ak p).1 = 3 := nI_ij (b := 3) (by omega) (by omega)
    have one : ∀ b : Bool, bI b = 0 ↔ b = false := fun b => by cases b <;> decide
    have rest : fn_X2_fits_B57 F sh n 104 (nI p) c (fun z9 q1 q2 => fn_X2_fits_L10 F sh n 104 f' z9 q1 q2) z = some (z, if cfT ak sz r (p + 1) = true then 0 else if (256 : Int32) < cfC ak ws (r + 1) p c then 0 else 1) := by
      have w := ih (p + 1) f' (c + (bI (if (ak p).1 = 2 then true else (ak p).2.2.2.2.1) - bI (if (ak p).1 = 2 then true else ws (ak p).1 (ak p).2.1 (ak p).2.2.1))) (by omega) (by omega)
      unfold fn_X2_fits_B57
      rw [hL.2.2 104 8 110 rfl, lnk_s, ok 110 103 (by omega) (by omega) rfl, grd_true, cp, r5]
      have b72 : ∀ b : Bool, b = (if (ak p).1 = 2 then true else (ak p).2.2.2.2.1) → fn_X2_fits_B72 F sh n 104 (nI p) c (fun z9 q1 q2 => fn_X2_fits_L10 F sh n 104 f' z9 q1 q2) z (bI b) = some (z, if cfT ak sz r (p + 1) = true then 0 else if (256 : Int32) < cfC ak ws (r + 1) p c then 0 else 1) := fun b hb => by
        unfold fn_X2_fits_B72
        rw [hL.2.2 104 6 109 rfl, lnk_s, ok 109 103 (by omega) (by omega) rfl, grd_true, cp, r4]
        have b86 : ∀ v : Bool, v = (if (ak p).1 = 2 then true else ws (ak p).1 (ak p).2.1 (ak p).2.2.1) → fn_X2_fits_B86 F sh n c (bI b) (nI p) (fun z9 q1 q2 => fn_X2_fits_L10 F sh n 104 f' z9 q1 q2) z (bI v) = some (z, if cfT ak sz r (p + 1) = true then 0 else if (256 : Int32) < cfC ak ws (r + 1) p c then 0 else 1) := fun v hv => by
          unfold fn_X2_fits_B86
          rw [lt_t, hb, hv, nI_1]
          exact w
        cases q : (if (ak p).1 = 2 then true else ws (ak p).1 (ak p).2.1 (ak p).2.2.1) with
        | false => rw [if_pos (by decide)]; exact b86 false q.symm
        | true => rw [if_neg (by decide)]; exact b86 true q.symm
      cases q : (if (ak p).1 = 2 then true else (ak p).2.2.2.2.1) with
      | false => rw [if_pos (by decide)]; exact b72 false q.symm
      | true => rw [if_neg (by decide)]; exact b72 true q.symm
    show (if ((z.1 104 7) : Int32) ≤ nI p then _ else _) = _
    rw [a1, if_neg ng, hL.2.2 104 2 105 rfl, lnk_s, ok 105 101 (by omega) (by omega) rfl, grd_true, cp, r1]
    have e1 : cfT ak sz (r + 1) p = ((decide ((ak p).1 = 3) && ((ak p).2.2.2.2.1 && decide (64 < sz p))) || cfT ak sz r (p + 1)) := rfl
    by_cases c3 : (ak p).1 = 3
    · rw [if_pos (i3.mpr c3), hL.2.2 104 8 110 rfl, lnk_s, ok 110 103 (by omega) (by omega) rfl, grd_true, r5, if_neg (show ¬ (ak p).1 = 2 by omega)]
      cases th : (ak p).2.2.2.2.1 with
      | false =>
        rw [if_pos (by decide), rest, e1, th]
        simp
      | true =>
        obtain ⟨t, s1, s2, s3⟩ := hs p (by omega) c3 th
        rw [if_neg (by decide), hL.2.2 104 1 88 rfl, lnk_s, hL.2.2 104 10 112 rfl, lnk_s, ok 112 101 (by omega) (by omega) rfl, grd_true, (b_heap hL).1, grd_true, r7 c3 th, s1, cal_s]
        by_cases q : sz p ≤ 64
        · rw [if_pos ((nIle (k := t) (x := 64) 64 rfl s2 (by omega)).mpr (s3.mpr q)), rest, e1, th]
          have : ¬ 64 < sz p := by omega
          simp [this]
        · rw [if_neg (fun w => q (s3.mp ((nIle (k := t) (x := 64) 64 rfl s2 (by omega)).mp w))), e1, th]
          have : 64 < sz p := by omega
          simp [c3, this]
    · rw [if_neg (fun w => c3 (i3.mp w)), rest, e1]
      simp [c3]
end
