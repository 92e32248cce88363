/-! THE REFERENCE'S LEDGER: settling, turn by turn -/
section
variable {F n : Nat} {sh : Nat → Nat × Nat} {z z' : St} {nc nr : Nat} {ac : Nat → Int64 × Int64 × Int64} {rs : Nat → Int64 × Nat × Hp × Nat} {H : Hp} {m na : Nat} {ak : Nat → Ask}
theorem FrG.ras (f : FrG z z') (h : RAs z na ak) : RAs z' na ak := h.of (f.2.2.1 29 (by decide) (by decide) (by decide)) (fun c a b => f.2.1 c (by omega) (by omega))
theorem FrG.hm (f : FrG z z') (h : HM z H m) : HM z' H m := h.fr (fun k a b => (f.2.1 k (by omega) (by omega)).1) (fun k a b => (f.2.1 k (by omega) (by omega)).2)
theorem bI0 {b : Bool} : bI b = 0 ↔ b = false := by cases b <;> decide
/-- no removal at p -/
theorem setR0 (hL : Lay sh n z) (ha : RAs z na ak) {p f : Nat} (hp : p < na) (hb : (ak p).1 < 2 ^ 31) (h : (ak p).1 ≠ 3 ∨ (ak p).2.2.2.2.1 = true) : fn_X18_settle_L16 F sh n 337 (f + 1) z (nI p) = fn_X18_settle_L16 F sh n 337 f z (nI (p + 1)) := by
  obtain ⟨a1, a2, a3⟩ := ha
  obtain ⟨r1, r2, r3, r4, r5, r6⟩ := a3 p hp
  have ng : ¬ nI na ≤ nI p := fun q => by have := (nI_leI (by omega) (by omega)).mp q; omega
  have cp : (nI p).toNatClampNeg = p := nI_clamp (by omega)
  have ok : ∀ k w, 385 ≤ k → k ≤ 390 → shF k = (w, 24) → okA sh n k w (nI p) = true := fun k w k1 k2 e => by rw [lay_a hL k w 24 (by omega) e]; exact okI_nI (by omega) (by omega)
  conv => lhs; unfold fn_X18_settle_L16
  unfold fn_X18_settle_B72
  rw [a1, if_neg ng, hL.2.2 337 30 385 rfl, lnk_s, ok 385 101 (by omega) (by omega) rfl, grd_true, cp, r1, nI_1]
  by_cases c : (ak p).1 = 3
  · have ht := h.resolve_left (fun q => q c)
    rw [if_pos (by rw [c]; rfl), hL.2.2 337 35 390 rfl, lnk_s, ok 390 103 (by omega) (by omega) rfl, grd_true, r5, ht, if_neg (by decide)]
  · have n3 : ¬ nI (ak p).1 = 3 := fun q => c ((nI_ij (b := 3) hb (by omega)).mp q)
    rw [if_neg n3]
/-- a removal at p, if it is there -/
theorem setR1 (hF : 300 ≤ F) (hL : Lay sh n z) (ha : RAs z na ak) (hl : RLg z nc ac nr rs) {p f : Nat} (hp : p < na) (h3 : (ak p).1 = 3) (hk : (ak p).2.2.1 < 2 ^ 31) (h : (ak p).2.2.2.2.1 = false) : (fdR nr rs (ak p).2.1 (ak p).2.2.1 = none → fn_X18_settle_L16 F sh n 337 (f + 1) z (nI p) = fn_X18_settle_L16 F sh n 337 f z (nI (p + 1))) ∧ ∀ x, fdR nr rs (ak p).2.1 (ak p).2.2.1 = some x → ∃ z', fn_X18_settle_L16 F sh n 337 (f + 1) z (nI p) = fn_X18_settle_L16 F sh n 337 f z' (nI (p + 1)) ∧ RLg z' nc ac (nr - 1) (fun i => if i = x then rs (nr - 1) else rs i) ∧ FrG z z' := by
  obtain ⟨a1, a2, a3⟩ := ha
  obtain ⟨r1, r2, r3, r4, r5, r6⟩ := a3 p hp
  have ng : ¬ nI na ≤ nI p := fun q => by have := (nI_leI (by omega) (by omega)).mp q; omega
  have cp : (nI p).toNatClampNeg = p := nI_clamp (by omega)
  have ok : ∀ k w, 385 ≤ k → k ≤ 390 → shF k = (w, 24) → okA sh n k w (nI p) = true := fun k w k1 k2 e => by rw [lay_a hL k w 24 (by omega) e]; exact okI_nI (by omega) (by omega)
  have st : fn_X18_settle_L16 F sh n 337 (f + 1) z (nI p) = if (oI (fdR nr rs (ak p).2.1 (ak p).2.2.1) : Int32) < 0 then fn_X18_settle_L16 F sh n 337 f z (nI (p + 1)) else cal (fn_X18_removeResource F sh n z 337 (oI (fdR nr rs (ak p).2.1 (ak p).2.2.1))) (fun z_88 _ => fn_X18_settle_L16 F sh n 337 f z_88 (nI (p + 1))) := by
    conv => lhs; unfold fn_X18_settle_L16
    unfold fn_X18_settle_B72
    rw [a1, if_neg ng, hL.2.2 337 30 385 rfl, lnk_s, ok 385 101 (by omega) (by omega) rfl, grd_true, cp, r1, nI_1, if_pos (by rw [h3]; rfl), hL.2.2 337 35 390 rfl, lnk_s, ok 390 103 (by omega) (by omega) rfl, grd_true, r5, h, if_pos (by decide), hL.2.2 337 31 386 rfl, lnk_s, ok 386 102 (by omega) (by omega) rfl, grd_true, hL.2.2 337 32 387 rfl, lnk_s, ok 387 101 (by omega) (by omega) rfl, grd_true, r2, r3, findR_t hF hL hl hk, cal_s]
  rw [st]
  constructor
  · intro e
    rw [e, if_pos (by decide)]
  · intro x e
    obtain ⟨_, xl, _⟩ := fd_lt _ _ _ e
    have := hl.2.2.1
    obtain ⟨z', q1, q2, q3⟩ := remove_t (F := F) hF hL hl (x := x) (by omega)
    refine ⟨z', ?_, q2, q3⟩
    rw [e, if_neg (oI0 x (by omega)).2, show oI (some x) = nI x from rfl, q1, cal_s]
/-- removals are over -/
theorem setRE (ha : RAs z na ak) {f : Nat} : fn_X18_settle_L16 F sh n 337 (f + 1) z (nI na) = fn_X18_settle_L80 F sh n 337 F z 0 := by
  conv => lhs; unfold fn_X18_settle_L16
  rw [ha.1, if_pos ((nI_leI (by have := ha.2.1; omega) (by have := ha.2.1; omega)).mpr (Nat.le_refl _))]
theorem setWE (ha : RAs z na ak) {f : Nat} : fn_X18_settle_L80 F sh n 337 (f + 1) z (nI na) = some (z, ()) := by
  conv => lhs; unfold fn_X18_settle_L80
  rw [ha.1, if_pos ((nI_leI (by have := ha.2.1; omega) (by have := ha.2.1; omega)).mpr (Nat.le_refl _))]
/-- nothing is written at p -/
theorem setW0 (hL : Lay sh n z) (ha : RAs z na ak) {p f : Nat} (hp : p < na) (h : (ak p).1 = 2 ∨ (ak p).2.2.2.2.1 = false) : fn_X18_settle_L80 F sh n 337 (f + 1) z (nI p) = fn_X18_settle_L80 F sh n 337 f z (nI (p + 1)) := by
  obtain ⟨a1, a2, a3⟩ := ha
  obtain ⟨r1, r2, r3, r4, r5, r6⟩ := a3 p hp
  have ng : ¬ nI na ≤ nI p := fun q => by have := (nI_leI (by omega) (by omega)).mp q; omega
  have cp : (nI p).toNatClampNeg = p := nI_clamp (by omega)
  have ok : ∀ k w, 385 ≤ k → k ≤ 390 → shF k = (w, 24) → okA sh n k w (nI p) = true := fun k w k1 k2 e => by rw [lay_a hL k w 24 (by omega) e]; exact okI_nI (by omega) (by omega)
  conv => lhs; unfold fn_X18_settle_L80
  unfold fn_X18_settle_B234
  rw [a1, if_neg ng, hL.2.2 337 35 390 rfl, lnk_s, ok 390 103 (by omega) (by omega) rfl, grd_true, cp, r5, nI_1]
  by_cases c : (ak p).2.2.2.2.1 = false
  · rw [if_pos (bI0.mpr c)]
  · have h2 := h.resolve_right c
    rw [if_neg (fun q => c (bI0.mp q)), hL.2.2 337 30 385 rfl, lnk_s, ok 385 101 (by omega) (by omega) rfl, grd_true, r1, if_pos (by rw [h2]; rfl)]
end
