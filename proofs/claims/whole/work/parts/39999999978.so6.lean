/-! THE REFERENCE'S LOOKER: sole references, abilities -/
section
variable {F n : Nat} {sh : Nat → Nat × Nat} {z z' : St} {ku f w ns : Nat} {ls : List Ty} {L : Lks}
theorem mtB_0 {a b : Int64} : (a &&& b = 0) ↔ mtB a b = false := by
  unfold mtB
  constructor
  · intro h; rw [h]; rfl
  · intro h; simpa using h
theorem RK.sole (hF : 300 ≤ F) (h : RK sh n z ku f ls ns w L) (o : Int64) : fn_X13_isSole F sh n z 355 o = some (z, bI (lSole ls L o)) := by
  obtain ⟨a1, ⟨a2, a3, a4, a5, a6⟩, ⟨b1, b2, b3, b4⟩, c1, d1, d2⟩ := h
  have O := lay_o a1 355 13 0 (by decide) rfl
  have okz : ∀ x : Bool, okZ (bI x) = true := fun x => by cases x <;> rfl
  have l70 : ∀ r p g acc, p + r = ls.length → r < g → fn_X13_isSole_L70 F sh n 355 o g z (bI acc) (nI p) = some (z, bI (acc && (List.range' p r).all (fun k => !(L.2.1 k && mtB (L.2.2.1 k) o) || (hdT (ls.getD k []) == 9 && !L.2.2.2 k)))) := by
    intro r
    induction r with
    | zero =>
      intro p g acc e hg
      obtain ⟨g, rfl⟩ : ∃ q, g = q + 1 := ⟨g - 1, by omega⟩
      conv => lhs; unfold fn_X13_isSole_L70
      rw [a4, if_pos ((nI_leI (by omega) (by omega)).mpr (by omega)), okz, grd_true]
      simp
    | succ r ih =>
      intro p g acc e hg
      obtain ⟨g, rfl⟩ : ∃ q, g = q + 1 := ⟨g - 1, by omega⟩
      obtain ⟨e1, e2, e3⟩ := c1 p (by omega)
      obtain ⟨g1, g2⟩ := a6 p (by omega)
      have cp : (nI p).toNatClampNeg = p := nI_clamp (by omega)
      have ok : ∀ k c, shF k = (c, 40) → k < 513 → okA sh n k c (nI p) = true := fun k c ee hk => by rw [lay_a a1 k c 40 hk ee]; exact okI_nI (by omega) (by omega)
      have nx : ∀ a : Bool, fn_X13_isSole_B136 F sh n (nI p) (fun z9 q3 q4 => fn_X13_isSole_L70 F sh n 355 o g z9 q3 q4) z (bI a) = some (z, bI (a && (List.range' (p + 1) r).all (fun k => !(L.2.1 k && mtB (L.2.2.1 k) o) || (hdT (ls.getD k []) == 9 && !L.2.2.2 k)))) := fun a => by
        show fn_X13_isSole_L70 F sh n 355 o g z (bI a) (nI p + 1) = _
        rw [nI_1]; exact ih (p + 1) g a (by omega) (by omega)
      rw [rng_a]
      conv => lhs; unfold fn_X13_isSole_L70
      rw [a4, if_neg (fun q => by have := (nI_leI (by omega) (by omega)).mp q; omega), a1.2.2 355 15 365 rfl, lnk_s, ok 365 103 rfl (by omega), grd_true, cp, e1]
      cases t : L.2.1 p with
      | false =>
        rw [if_pos (show bI false = 0 from rfl), Bool.false_and, Bool.not_false, Bool.true_or, Bool.true_and]
        exact nx acc
      | true =>
        rw [if_neg (show ¬ bI true = 0 from one0), a1.2.2 355 16 366 rfl, lnk_s, ok 366 102 rfl (by omega), grd_true, e2, Bool.true_and]
        cases mt : mtB (L.2.2.1 p) o with
        | false =>
          rw [if_pos (mtB_0.mpr mt), Bool.not_false, Bool.true_or, Bool.true_and]
          exact nx acc
        | true =>
          rw [if_neg (fun q => by have := mtB_0.mp q; rw [mt] at this; exact absurd this (by simp)), Bool.not_true, Bool.false_or]
          cases acc with
          | false =>
            rw [if_pos (show bI false = 0 from rfl), Bool.false_and]
            have := nx false
            rw [Bool.false_and] at this
            exact this
          | true =>
            rw [if_neg (show ¬ bI true = 0 from one0), Bool.true_and, a1.2.2 355 3 356 rfl, lnk_s, ok 356 102 rfl (by omega), grd_true, g1, writesR_t hF g2.1, cal_s]
            cases e9 : (hdT (ls.getD p []) == 9) with
            | false =>
              rw [if_pos (show bI false = 0 from rfl), Bool.false_and, Bool.false_and]
              have := nx false
              rw [Bool.false_and] at this
              exact this
            | true =>
              rw [if_neg (show ¬ bI true = 0 from one0), a1.2.2 355 17 367 rfl, lnk_s, ok 367 103 rfl (by omega), grd_true, e3, Bool.true_and]
              cases wi : L.2.2.2 p with
              | false =>
                rw [if_pos (show bI false = 0 from rfl), Bool.not_false]
                exact nx true
              | true =>
                rw [if_neg (show ¬ bI true = 0 from one0), Bool.not_true]
                exact nx false
  have l5 : ∀ r p g acc, p + r = L.1.1 → r < g → fn_X13_isSole_L5 F sh n 355 o g z (bI acc) (nI p) = some (z, bI ((acc && (List.range' p r).all (fun k => !mtB (L.1.2 k).2.1 o || (hdT (L.1.2 k).1 == 9 && !(L.1.2 k).2.2))) && (List.range ls.length).all (fun k => !(L.2.1 k && mtB (L.2.2.1 k) o) || (hdT (ls.getD k []) == 9 && !L.2.2.2 k)))) := by
    intro r
    induction r with
    | zero =>
      intro p g acc e hg
      obtain ⟨g, rfl⟩ : ∃ q, g = q + 1 := ⟨g - 1, by omega⟩
      conv => lhs; unfold fn_X13_isSole_L5
      rw [O, grd_true, b1, if_pos ((nI_leI (by omega) (by omega)).mpr (by omega))]
      have := l70 ls.length 0 F acc (by omega) (by omega)
      rw [List.range_eq_range']
      simp only [List.range'_zero, List.all_nil, Bool.and_true]
      exact this
    | succ r ih =>
      intro p g acc e hg
      obtain ⟨g, rfl⟩ : ∃ q, g = q + 1 := ⟨g - 1, by omega⟩
      obtain ⟨e1, e2, e3, e4⟩ := b4 p (by omega)
      have cp : (nI p).toNatClampNeg = p := nI_clamp (by omega)
      have ok : ∀ k c, shF k = (c, 200) → k < 513 → okA sh n k c (nI p) = true := fun k c ee hk => by rw [lay_a a1 k c 200 hk ee]; exact okI_nI (by omega) (by omega)
      have nx : ∀ a : Bool, fn_X13_isSole_B60 F sh n (nI p) (fun z9 q3 q4 => fn_X13_isSole_L5 F sh n 355 o g z9 q3 q4) z (bI a) = some (z, bI ((a && (List.range' (p + 1) r).all (fun k => !mtB (L.1.2 k).2.1 o || (hdT (L.1.2 k).1 == 9 && !(L.1.2 k).2.2))) && (List.range ls.length).all (fun k => !(L.2.1 k && mtB (L.2.2.1 k) o) || (hdT (ls.getD k []) == 9 && !L.2.2.2 k)))) := fun a => by
        show fn_X13_isSole_L5 F sh n 355 o g z (bI a) (nI p + 1) = _
        rw [nI_1]; exact ih (p + 1) g a (by omega) (by omega)
      rw [rng_a]
      conv => lhs; unfold fn_X13_isSole_L5
      rw [O, grd_true, b1, if_neg (fun q => by have := (nI_leI (by omega) (by omega)).mp q; omega)]
      cases acc with
      | false =>
        rw [if_pos (show bI false = 0 from rfl), Bool.false_and]
        have := nx false
        rw [Bool.false_and] at this
        exact this
      | true =>
        rw [if_neg (show ¬ bI true = 0 from one0), Bool.true_and, a1.2.2 355 12 363 rfl, lnk_s, ok 363 102 rfl (by omega), grd_true, cp, e2]
        cases mt : mtB (L.1.2 p).2.1 o with
        | false =>
          rw [if_pos (mtB_0.mpr mt), Bool.not_false, Bool.true_or, Bool.true_and]
          exact nx true
        | true =>
          rw [if_neg (fun q => by have := mtB_0.mp q; rw [mt] at this; exact absurd this (by simp)), Bool.not_true, Bool.false_or, a1.2.2 355 11 362 rfl, lnk_s, ok 362 102 rfl (by omega), grd_true, e1, writesR_t hF e4.1, cal_s]
          cases e9 : (hdT (L.1.2 p).1 == 9) with
          | false =>
            rw [if_pos (show bI false = 0 from rfl), Bool.false_and, Bool.false_and]
            have := nx false
            rw [Bool.false_and] at this
            exact this
          | true =>
            rw [if_neg (show ¬ bI true = 0 from one0), a1.2.2 355 13 364 rfl, lnk_s, ok 364 103 rfl (by omega), grd_true, e3, Bool.true_and]
            cases wi : (L.1.2 p).2.2 with
            | false =>
              rw [if_pos (show bI false = 0 from rfl), Bool.not_false, Bool.true_and]
              exact nx true
            | true =>
              rw [if_neg (show ¬ bI true = 0 from one0), Bool.not_true, Bool.false_and]
              have := nx false
              rw [Bool.false_and] at this
              exact this
  have := l5 L.1.1 0 F true (by omega) (by omega)
  rw [Bool.true_and, ← List.range_eq_range'] at this
  exact this
/-- the module as the reference's looker reads it -/
def UnL (F : Nat) (sh : Nat → Nat × Nat) (n : Nat) (z : St) (ku : Nat) (U : Md) : Prop := okO sh n ku 16 = true ∧ (∀ g, g < faOf U → (fn_X16_many F sh n z ku (nI g) 0 = some (z, nI (tksOf U g).length) ∧ fn_X16_many F sh n z ku (nI g) 1 = some (z, nI (gvsOf U g).length) ∧ fn_X16_flags F sh n z ku (nI g) = some (z, nI (fnOf U g).1)) ∧ (∀ k, k < (tksOf U g).length → fn_X16_listed F sh n z ku (nI g) 0 (nI k) = some (z, tL ((tksOf U g).getD k []))) ∧ ∀ k, k < (gvsOf U g).length → fn_X16_listed F sh n z ku (nI g) 1 (nI k) = some (z, tL ((gvsOf U g).getD k []))) ∧ (∀ a, a < U.1.2.1 → fn_X16_fieldsOf F sh n z ku (nI a) = some (z, nI (fdsOf U a).length) ∧ ∀ b, b < (fdsOf U a).length → fn_X16_field F sh n z ku (nI a) (nI b) = some (z, tL ((fdsOf U a).getD b []))) ∧ (∀ s, s < U.1.2.2 → fn_X16_abilitiesOf F sh n z ku (nI s) = some (z, nI (U.2.1 s))) ∧ ∀ e, e < (elsOf U).length → fn_X16_element F sh n z ku (nI e) = some (z, tL ((elsOf U).getD e []))
/-- types of a module, as numbers -/
def PlO (ns : Nat) (t : Ty) : Prop := TBr ns t ∧ isR t = false ∧ t.length ≤ 6
def LsO (ns : Nat) (t : Ty) : Prop := TBr ns t ∧ (isR t = false → t.length ≤ 6)
def MdO (U : Md) : Prop := (∀ s, s < U.1.2.2 → U.2.1 s < 16) ∧ (U.1.2.1 ≤ U.1.2.2 ∧ U.1.2.2 ≤ 64) ∧ (∀ a, a < U.1.2.1 → (fdsOf U a).length ≤ 16 ∧ ∀ t, t ∈ fdsOf U a → PlO U.1.2.2 t) ∧ (∀ t, t ∈ elsOf U → PlO U.1.2.2 t) ∧ ∀ g, g < faOf U → (fnOf U g).1 < 8 ∧ (tksOf U g).length ≤ 8 ∧ (gvsOf U g).length ≤ 8 ∧ (∀ t, t ∈ tksOf U g → LsO U.1.2.2 t) ∧ ∀ t, t ∈ gvsOf U g → LsO U.1.2.2 t
theorem RK.has (hF : 300 ≤ F) {U : Md} (h : RK sh n z ku f ls U.1.2.2 w L) (hu : UnL F sh n z ku U) (hm : MdO U) {t : Ty} (ht : TBr U.1.2.2 t) : fn_X13_has F sh n z 355 (tL t) 1 = some (z, bI (hasC U t)) ∧ fn_X13_has F sh n z 355 (tL t) 2 = some (z, bI (hasD U t)) ∧ fn_X13_has F sh n z 355 (tL t) 8 = some (z, bI (hasK U t)) := by
  have hs : ∀ s, endS t = some s → fn_X16_abilitiesOf F sh n z ku (nI s) = some (z, nI (U.2.1 s)) ∧ U.2.1 s < 16 := fun s q => ⟨hu.2.2.2.1 s (ht.2.2 s q), hm.1 s (ht.2.2 s q)⟩
  have ab := abilR_t (F := F) hF h.1 ht.1 h.2.1.1 hu.1 hs
  have a16 : abT U t < 16 := abT_16 (fun s q => (hs s q).2)
  obtain ⟨m1, m2, m3⟩ := ab1 _ a16
  have O := h.o13
  refine ⟨?_, ?_, ?_⟩
  · unfold fn_X13_has hasC
    rw [O, grd_true, ab, cal_s]
    by_cases c : abT U t % 2 = 0
    · rw [if_pos (m1.mpr c), c]; rfl
    · rw [if_neg (fun q => c (m1.mp q)), show abT U t % 2 = 1 by omega]; rfl
  · unfold fn_X13_has hasD
    rw [O, grd_true, ab, cal_s]
    by_cases c : abT U t / 2 % 2 = 0
    · rw [if_pos (m2.mpr c), c]; rfl
    · rw [if_neg (fun q => c (m2.mp q)), show abT U t / 2 % 2 = 1 by omega]; rfl
  · unfold fn_X13_has hasK
    rw [O, grd_true, ab, cal_s]
    by_cases c : abT U t / 8 % 2 = 0
    · rw [if_pos (m3.mpr c), c]; rfl
    · rw [if_neg (fun q => c (m3.mp q)), show abT U t / 8 % 2 = 1 by omega]; rfl
end
