/-! THE REFERENCE'S LOOKER: beginning -/
def Onl (l : List Nat) (z z' : St) : Prop := z'.2.2 = z.2.2 ∧ ∀ k, k ∉ l → z'.1 k = z.1 k ∧ z'.2.1 k = z.2.1 k
theorem Onl.rfl' {l : List Nat} {z : St} : Onl l z z := ⟨rfl, fun _ _ => ⟨rfl, rfl⟩⟩
theorem Onl.trans {l : List Nat} {z z' z'' : St} (f : Onl l z z') (g : Onl l z' z'') : Onl l z z'' := ⟨g.1.trans f.1, fun k h => ⟨(g.2 k h).1.trans (f.2 k h).1, (g.2 k h).2.trans (f.2 k h).2⟩⟩
theorem Onl.si {l : List Nat} {z : St} {k j : Nat} {v : Int32} (h : k ∈ l) : Onl l z (si z k j v) := ⟨rfl, fun i hi => ⟨by funext q; rw [si_ok (fun e => hi (by rw [e]; exact h))], rfl⟩⟩
theorem Onl.sl {l : List Nat} {z : St} {k j : Nat} {v : Int64} (h : k ∈ l) : Onl l z (sl z k j v) := ⟨rfl, fun i hi => ⟨rfl, by funext q; rw [sl_ok (fun e => hi (by rw [e]; exact h))]⟩⟩
def locL (U : Md) (f : Nat) : List Ty := (fnOf U f).2.2.2
def UnB (F : Nat) (sh : Nat → Nat × Nat) (n : Nat) (z : St) (ku : Nat) (U : Md) (f : Nat) : Prop := fn_X16_many F sh n z ku (nI f) 2 = some (z, nI (locL U f).length) ∧ ∀ k, k < (locL U f).length → fn_X16_listed F sh n z ku (nI f) 2 (nI k) = some (z, tL ((locL U f).getD k []))
def FrL3 (z z' : St) : Prop := z'.2.2 = z.2.2 ∧ ∀ k, k < 355 ∨ 367 < k → z'.1 k = z.1 k ∧ z'.2.1 k = z.2.1 k
theorem FrL3.rfl' {z : St} : FrL3 z z := ⟨rfl, fun _ _ => ⟨rfl, rfl⟩⟩
theorem FrL3.trans {z z' z'' : St} (f : FrL3 z z') (g : FrL3 z' z'') : FrL3 z z'' := ⟨g.1.trans f.1, fun k h => ⟨(g.2 k h).1.trans (f.2 k h).1, (g.2 k h).2.trans (f.2 k h).2⟩⟩
theorem FrL2.l3 {z z' : St} (f : FrL2 z z') : FrL3 z z' := ⟨f.1, fun k h => f.2.1 k (by omega)⟩
theorem Onl.l3 {l : List Nat} {z z' : St} (f : Onl l z z') (h : ∀ k, k ∈ l → 355 ≤ k ∧ k ≤ 367) : FrL3 z z' := ⟨f.1, fun k q => f.2 k (fun m => by have := h k m; omega)⟩
/-- where jumps lead -/
def isTg (q : Option (Nat × Int64 × Int64)) (t : Nat) : Bool := match q with | none => false | some q => decide (2 ≤ q.1 ∧ q.1 < 5) && q.2.1.toInt.toNat == t
def tgP (U : Md) (f p t : Nat) : Bool := (List.range p).any (fun j => isTg (codeOf U f)[j]? t)
def tgOf (U : Md) (f t : Nat) : Bool := tgP U f (codeOf U f).length t
theorem tgP_s (U : Md) (f p t : Nat) : tgP U f (p + 1) t = (tgP U f p t || isTg (codeOf U f)[p]? t) := by
  unfold tgP
  rw [List.range_succ, List.any_append]
  show (_ || (isTg (codeOf U f)[p]? t || false)) = _
  rw [Bool.or_false]
theorem tgOf_j {U : Md} {f j o : Nat} {x y : Int64} (h : (codeOf U f)[j]? = some (o, x, y)) (h2 : 2 ≤ o) (h5 : o < 5) : tgOf U f x.toInt.toNat = true := by
  unfold tgOf tgP
  rw [List.any_eq_true]
  refine ⟨j, List.mem_range.mpr (List.getElem?_eq_some_iff.mp h).1, ?_⟩
  rw [h]
  show (decide (2 ≤ o ∧ o < 5) && x.toInt.toNat == x.toInt.toNat) = true
  rw [decide_eq_true (show 2 ≤ o ∧ o < 5 from ⟨h2, h5⟩), beq_self_eq_true]; rfl
def Q0 (U : Md) (f : Nat) : Lc := (fun k => decide (k < (tksOf U f).length), fun k => if (decide (k < (tksOf U f).length) && isR ((locOf U f).getD k [])) = true then bitO (40 + k) else 0, fun _ => false)
def R0 (U : Md) (f : Nat) : Nat → Option Lc := fun t => if t = 0 then some (Q0 U f) else none
section
variable {F n : Nat} {sh : Nat → Nat × Nat} {z z' : St} {ku f w ns : Nat} {U : Md}
/-- types of locals -/
theorem begK (hF : 1100 ≤ F) (hL : Lay sh n z) (l0 : z.2.2 355 0 = some ku) (e1 : z.1 355 1 = nI f) (e2 : z.1 355 2 = nI (locOf U f).length) (h40 : (locOf U f).length ≤ 40) (hu : ∀ z', FrL3 z z' → UnL F sh n z' ku U ∧ UnI F sh n z' ku U f ∧ UnB F sh n z' ku U f) (hf : f < faOf U) : ∀ r p g z1, p + r = (locOf U f).length → r < g → Onl [356] z z1 → (∀ k, k < p → z1.2.1 356 k = tL ((locOf U f).getD k [])) → ∃ z', fn_X13_begin_L58 F sh n 355 (nI (tksOf U f).length) g z1 (nI p) = fn_X13_begin_L116 F sh n 355 (nI (tksOf U f).length) F z' 0 ∧ Onl [356] z z' ∧ ∀ k, k < (locOf U f).length → z'.2.1 356 k = tL ((locOf U f).getD k []) := by
  have el : (locOf U f).length = (tksOf U f).length + (locL U f).length := List.length_append
  intro r
  induction r with
  | zero =>
    intro p g z1 ep hg O h
    obtain ⟨g, rfl⟩ : ∃ q, g = q + 1 := ⟨g - 1, by omega⟩
    conv => enter [1, z', 1, 1]; unfold fn_X13_begin_L58
    rw [(O.2 355 (by simp)).1, e2, if_pos ((nI_leI (by omega) (by omega)).mpr (by omega))]
    exact ⟨z1, rfl, O, fun k hk => h k (by omega)⟩
  | succ r ih =>
    intro p g z1 ep hg O h
    obtain ⟨g, rfl⟩ : ∃ q, g = q + 1 := ⟨g - 1, by omega⟩
    have L1 : Lay sh n z1 := hL.of O.1
    obtain ⟨ul, ui, ub1, ub2⟩ := hu z1 (O.l3 (fun k hk => by simp at hk; omega))
    have ok : okA sh n 356 102 (nI p) = true := by rw [lay_a L1 356 102 40 (by omega) rfl]; exact okI_nI (by omega) (by omega)
    have cp : (nI p).toNatClampNeg = p := nI_clamp (by omega)
    have u0 : z1.2.2 355 0 = some ku := by rw [O.1]; exact l0
    have u1 : z1.1 355 1 = nI f := by rw [(O.2 355 (by simp)).1]; exact e1
    have nx : ∀ x, x = tL ((locOf U f).getD p []) → ∃ z', fn_X13_begin_B107 F sh n 356 (nI p) (fun z9 q2 => fn_X13_begin_L58 F sh n 355 (nI (tksOf U f).length) g z9 q2) z1 x = fn_X13_begin_L116 F sh n 355 (nI (tksOf U f).length) F z' 0 ∧ Onl [356] z z' ∧ ∀ k, k < (locOf U f).length → z'.2.1 356 k = tL ((locOf U f).getD k []) := fun x ex => by
      unfold fn_X13_begin_B107
      rw [ok, grd_true, lt_t, cp, nI_1]
      refine ih (p + 1) g _ (by omega) (by omega) (O.trans (Onl.sl (by simp))) (fun k hk => ?_)
      by_cases c : k = p
      · subst c; rw [sl_ss]; exact ex
      · rw [sl_oj c]; exact h k (by omega)
    conv => enter [1, z', 1, 1]; unfold fn_X13_begin_L58
    rw [(O.2 355 (by simp)).1, e2, if_neg (fun q => by have := (nI_leI (by omega) (by omega)).mp q; omega), L1.2.2 355 3 356 rfl, lnk_s]
    by_cases c : (tksOf U f).length ≤ p
    · have ei : nI p - nI (tksOf U f).length = nI (p - (tksOf U f).length) := pk_sub c
      rw [if_pos ((nI_leI (by omega) (by omega)).mpr c), u0, lnk_s, ul.1, grd_true, e1, ei, ub2 _ (by omega), cal_s]
      refine nx _ ?_
      have : (locOf U f).getD p [] = (locL U f).getD (p - (tksOf U f).length) [] := by
        show ((tksOf U f) ++ (locL U f)).getD p [] = _
        rw [List.getD_eq_getElem?_getD, List.getD_eq_getElem?_getD, List.getElem?_append_right c]
      rw [this]
    · rw [if_neg (fun q => c ((nI_leI (by omega) (by omega)).mp q)), u0, lnk_s, ul.1, grd_true, e1, (ul.2.1 f hf).2.1 p (by omega), cal_s]
      refine nx _ ?_
      have : (locOf U f).getD p [] = (tksOf U f).getD p [] := by
        show ((tksOf U f) ++ (locL U f)).getD p [] = _
        rw [List.getD_eq_getElem?_getD, List.getD_eq_getElem?_getD, List.getElem?_append_left (by omega)]
      rw [this]
/-- nothing is reached, nothing is jumped to -/
theorem begC (hF : 1100 ≤ F) (hL : Lay sh n z) (T : Int32) : ∀ r p g z1, p + r = 1025 → r < g → Onl [357, 358] z z1 → (∀ k, k < p → z1.1 357 k = 0 ∧ z1.1 358 k = 0) → ∃ z', fn_X13_begin_L116 F sh n 355 T g z1 (nI p) = fn_X13_begin_L145 F sh n 355 T F z' 0 ∧ Onl [357, 358] z z' ∧ ∀ k, k < 1025 → z'.1 357 k = 0 ∧ z'.1 358 k = 0 := by
  intro r
  induction r with
  | zero =>
    intro p g z1 ep hg O h
    obtain ⟨g, rfl⟩ : ∃ q, g = q + 1 := ⟨g - 1, by omega⟩
    have ep' : p = 1025 := by omega
    subst ep'
    conv => enter [1, z', 1, 1]; unfold fn_X13_begin_L116
    rw [if_pos (show (1024 : Int32) < nI 1025 by decide)]
    exact ⟨z1, rfl, O, h⟩
  | succ r ih =>
    intro p g z1 ep hg O h
    obtain ⟨g, rfl⟩ : ∃ q, g = q + 1 := ⟨g - 1, by omega⟩
    have L1 : Lay sh n z1 := hL.of O.1
    have ok : ∀ k c, shF k = (c, 1025) → k < 513 → okA sh n k c (nI p) = true := fun k c ee hk => by rw [lay_a L1 k c 1025 hk ee]; exact okI_nI (by omega) (by omega)
    have cp : (nI p).toNatClampNeg = p := nI_clamp (by omega)
    have o7 := ok 357 103 rfl (by omega)
    have o8 := ok 358 103 rfl (by omega)
    have n24 : ¬ (1024 : Int32) < nI p := by
      rw [Int32.not_lt]
      exact (nIle (x := 1024) 1024 rfl (by omega) (by omega)).mpr (by omega)
    conv => enter [1, z', 1, 1]; unfold fn_X13_begin_L116
    rw [if_neg n24, L1.2.2 355 6 357 rfl, lnk_s, o7, grd_true, lt_t, cp, si_3, L1.2.2 355 7 358 rfl, lnk_s, o8, grd_true, lt_t, nI_1]
    refine ih (p + 1) g _ (by omega) (by omega) ((O.trans (Onl.si (by simp))).trans (Onl.si (by simp))) (fun k hk => ?_)
    by_cases c : k = p
    · subst c; exact ⟨by rw [si_ok (by omega), si_ss]; rfl, by rw [si_ss]; rfl⟩
    · exact ⟨by rw [si_ok (by omega), si_oj c]; exact (h k (by omega)).1, by rw [si_oj c, si_ok (by omega)]; exact (h k (by omega)).2⟩
end
