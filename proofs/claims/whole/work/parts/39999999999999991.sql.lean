/-! THE REFERENCE'S UNIT: types as they lie there -/
/-- types one after the other, from p on -/
def AtL (b : Nat → Nat) (len : Nat) (rf : Bool) : Nat → List Ty → Prop
  | _, [] => True
  | p, t :: ts => RdT b len p rf (t, p + t.length) ∧ AtL b len rf (p + t.length) ts
def endL : Nat → List Ty → Nat
  | p, [] => p
  | p, t :: ts => endL (p + t.length) ts
theorem pTs_at {b : Nat → Nat} {len : Nat} {J : Option Nat} {rf : Bool} : ∀ (k : Nat) {p : Nat} {q : List Ty × Nat}, pTs b len J rf k p = .ok q → AtL b len rf p q.1 ∧ q.2 = endL p q.1 := by
  intro k
  induction k with
  | zero => intro p q h; unfold pTs at h; cases h; exact ⟨trivial, rfl⟩
  | succ k ih =>
    intro p q h
    unfold pTs at h
    cases e : rT b len J rf p with
    | error x => rw [e] at h; cases h
    | ok x =>
      rw [e, ok_bq] at h
      cases e2 : pTs b len J rf k x.2 with
      | error y => rw [e2] at h; cases h
      | ok y =>
        rw [e2] at h; cases h
        have r := rT_at e
        have ex : x = (x.1, p + x.1.length) := by rw [← r.2.1]
        obtain ⟨i1, i2⟩ := ih e2
        rw [r.2.1] at i1 i2
        refine ⟨⟨?_, i1⟩, i2⟩
        show RdT b len p rf (x.1, p + x.1.length)
        rw [← ex]; exact r
theorem pLs_at {b : Nat → Nat} {len : Nat} {J : Option Nat} {most p : Nat} {q : List Ty × Nat} (h : pLs b len J most p = .ok q) : p < len ∧ b p = q.1.length ∧ q.1.length ≤ most ∧ AtL b len true (p + 1) q.1 ∧ q.2 = endL (p + 1) q.1 := by
  obtain ⟨l1, l2, l3, l4⟩ := pLs_le h
  unfold pLs at h
  cases e : rN b len 0 most p with
  | error x => rw [e] at h; cases h
  | ok x =>
    rw [e, ok_bq] at h
    obtain ⟨_, _, _, _, l5⟩ := rN_le e
    obtain ⟨i1, i2⟩ := pTs_at x.1 h
    rw [l5] at i1 i2
    exact ⟨l4, l3.symm, l2, i1, i2⟩
section
variable {F n : Nat} {sh : Nat → Nat × Nat} {z z' : St} {ku len : Nat} {b : Nat → Nat}
theorem UB.tyL2 (h : UB sh n z ku b len) : ∀ (t : Ty) (p g : Nat), AtT b p t → WfT t → p + t.length ≤ len → t.length < g → fn_X16_typeEnd_L2 F sh n ku g z (nI p) = some (z, nI (p + t.length)) ∧ fn_X16_isStructureType_L2 F sh n ku g z (nI p) = some (z, bI (endS t).isSome) := by
  have l8 := h.2.2.2.1
  intro t
  induction t with
  | nil => intro p g a w; exact w.elim
  | cons c t ih =>
    intro p g a w hl hg
    obtain ⟨a1, a2⟩ := a.tl
    have hl' : p + (t.length + 1) ≤ len := hl
    have hg' : t.length + 1 < g := hg
    obtain ⟨g, rfl⟩ : ∃ q, g = q + 1 := ⟨g - 1, by omega⟩
    have by1 := h.byte (F := F) (q := p) (by omega)
    have b8 := (h.2.2.2.2 p (by omega)).2
    unfold fn_X16_typeEnd_L2 fn_X16_isStructureType_L2
    rw [h.o, grd_true, grd_true, by1, cal_s, cal_s, by1, cal_s, cal_s, ← a1]
    cases t with
    | nil =>
      have w' : 1 ≤ c ∧ c ≤ 5 := w
      rw [if_pos ((nIle (x := 6) 6 rfl (by omega) (by omega)).mpr (by omega)), if_pos ((nIle (x := 6) 6 rfl (by omega) (by omega)).mpr (by omega)), if_neg (fun x => by have := (nIe (x := 6) 6 rfl (by omega) (by omega)).mp x; omega), if_neg (fun x => by have := (nIe (x := 6) 6 rfl (by omega) (by omega)).mp x; omega), nI_1]
      exact ⟨rfl, rfl⟩
    | cons d t =>
      have w' : (c = 6 ∧ t = []) ∨ (6 < c ∧ WfT (d :: t)) := w
      rcases w' with ⟨w1, w2⟩ | ⟨w1, w2⟩
      · subst w1; subst w2
        rw [if_pos (show nI 6 ≤ 6 by decide), if_pos (show nI 6 ≤ 6 by decide), if_pos (show nI 6 = 6 from rfl), if_pos (show nI 6 = 6 from rfl), show (2 : Int32) = nI 2 from rfl, nI_add]
        exact ⟨rfl, rfl⟩
      · rw [if_neg (fun x => by have := (nIle (x := 6) 6 rfl (by omega) (by omega)).mp x; omega), if_neg (fun x => by have := (nIle (x := 6) 6 rfl (by omega) (by omega)).mp x; omega), nI_1]
        have hl2 : p + (t.length + 1 + 1) ≤ len := hl
        obtain ⟨i1, i2⟩ := ih (p + 1) g a2 w2 (by show p + 1 + (t.length + 1) ≤ len; omega) (by show t.length + 1 < g; have : t.length + 1 + 1 < g + 1 := hg; omega)
        rw [i1, i2]
        refine ⟨by rw [show p + 1 + (d :: t).length = p + (c :: d :: t).length by simp only [List.length_cons]; omega], ?_⟩
        cases t with
        | nil =>
          have e6 : ¬ c = 6 := by omega
          simp only [endS, if_neg e6]
        | cons e t => rfl
theorem UB.tyEnd (hF : 300 ≤ F) (h : UB sh n z ku b len) {p : Nat} {rf : Bool} {t : Ty} (r : RdT b len p rf (t, p + t.length)) : fn_X16_typeEnd F sh n z ku (nI p) = some (z, nI (p + t.length)) ∧ fn_X16_isStructureType F sh n z ku (nI p) = some (z, bI (endS t).isSome) := by
  have l7 : t.length ≤ 7 := r.len.1
  exact h.tyL2 (F := F) t p F r.1 r.2.2.2.1 r.2.2.1 (by omega)
theorem tV_app : ∀ (t : Ty) (x : Nat), tV (t ++ [x]) = 256 * tV t + x
  | [], x => by simp [tV]
  | c :: t, x => by
    show c * 256 ^ (t ++ [x]).length + tV (t ++ [x]) = 256 * (c * 256 ^ t.length + tV t) + x
    rw [tV_app t x, List.length_append, show t.length + [x].length = t.length + 1 from rfl, Nat.pow_succ, Nat.mul_add, ← Nat.mul_assoc, Nat.mul_comm (c * 256 ^ t.length) 256]
    omega
theorem UB.tyAt (hF : 300 ≤ F) (h : UB sh n z ku b len) {p : Nat} {rf : Bool} {t : Ty} (r : RdT b len p rf (t, p + t.length)) : fn_X16_typeAt F sh n z ku (nI p) = some (z, tL t) := by
  have l8 := h.2.2.2.1
  have l7 : t.length ≤ 7 := r.len.1
  have le : p + t.length ≤ len := r.2.2.1
  have te := (h.tyEnd (F := F) hF r).1
  have lp : ∀ m k g, k + m = t.length → m < g → fn_X16_typeAt_L5 F sh n ku (nI p) g z (tL (t.take k)) (nI (p + k)) = some (z, tL t) := by
    intro m
    induction m with
    | zero =>
      intro k g ek hg
      obtain ⟨g, rfl⟩ : ∃ q, g = q + 1 := ⟨g - 1, by omega⟩
      unfold fn_X16_typeAt_L5
      rw [h.o, grd_true, te, cal_s, if_pos ((nI_leI (by omega) (by omega)).mpr (by omega)), List.take_of_length_le (by omega)]
    | succ m ih =>
      intro k g ek hg
      obtain ⟨g, rfl⟩ : ∃ q, g = q + 1 := ⟨g - 1, by omega⟩
      unfold fn_X16_typeAt_L5
      have kt : k < t.length := by omega
      have ev : (256 : Int64) * tL (t.take k) + (nI (b (p + k))).toInt64 = tL (t.take (k + 1)) := by
        have e1 : t.take (k + 1) = t.take k ++ [b (p + k)] := by
          rw [List.take_succ, List.getElem?_eq_getElem kt]
          have := r.1 k kt
          have this' : t.getD k 0 = b (p + k) := this
          rw [List.getD_eq_getElem?_getD, List.getElem?_eq_getElem kt] at this'
          have t2 : t[k] = b (p + k) := this'
          rw [t2]; rfl
        have b8 := (h.2.2.2.2 (p + k) (by omega)).2
        rw [e1]
        unfold tL
        rw [tV_app, nI_l (by omega), show (256 : Int64) = lN 256 from rfl]
        show Int64.ofNat 256 * Int64.ofNat (tV (t.take k)) + Int64.ofNat (b (p + k)) = Int64.ofNat (256 * tV (t.take k) + b (p + k))
        rw [← Int64.ofNat_mul, ← Int64.ofNat_add]
      rw [h.o, grd_true, te, cal_s, if_neg (fun x => by have := (nI_leI (by omega) (by omega)).mp x; omega), h.byte (by omega), cal_s, lt_t, ev, nI_1]
      exact ih (k + 1) g (by omega) (by omega)
  have e := lp t.length 0 F (by omega) (by omega)
  exact e
end
