/-! A MODULE AS BYTES: types that were judged -/
section
variable {b : Nat → Nat} {len : Nat}
theorem AtT.lt {p : Nat} {t : Ty} (hb : ∀ q, q < len → b q < 256) (h : AtT b p t) (hl : p + t.length ≤ len) : ∀ x, x ∈ t → x < 256 := by
  intro x hx
  obtain ⟨i, hi, e⟩ := List.getElem_of_mem hx
  have := h i hi
  rw [List.getD_eq_getElem?_getD, List.getElem?_eq_getElem hi] at this
  have this' : t[i] = b (p + i) := this
  rw [← e, this']
  exact hb _ (by omega)
theorem RdT.ls {p : Nat} {rf : Bool} {t : Ty} {all : Nat} (hb : ∀ q, q < len → b q < 256) (h : RdT b len p rf (t, p + t.length)) (hj : jT all p t = none) : LsO all t ∧ (rf = false → PlO all t) := by
  have hl := h.len
  have lt := AtT.lt hb h.1 h.2.2.1
  obtain ⟨_, _, _, _, r, k, s, e, hr, hk, hs⟩ := h
  have e' : t = r ++ List.replicate k 7 ++ s := e
  have hs1 : 1 ≤ hdT s ∧ hdT s ≤ 6 := by
    rcases hs with ⟨c, hc, c1, c5⟩ | ⟨y, hy, _⟩
    · rw [hc]; exact ⟨c1, by show c ≤ 6; omega⟩
    · rw [hy]; exact ⟨by show 1 ≤ 6; omega, Nat.le_refl _⟩
  -- a plain type
  have plain : ∀ k, (∀ x, x ∈ List.replicate k 7 ++ s → x < 256) → (List.replicate k 7 ++ s).length ≤ 7 → TB (List.replicate k 7 ++ s) ∧ isR (List.replicate k 7 ++ s) = false := fun k hx hl => by
    cases k with
    | zero =>
      rw [List.replicate_zero, List.nil_append] at hx hl ⊢
      refine ⟨⟨hl, ⟨hs1.1, by omega⟩, hx⟩, ?_⟩
      unfold isR
      rw [beq_eq_false_iff_ne.mpr (by omega), beq_eq_false_iff_ne.mpr (by omega)]; rfl
    | succ k =>
      rw [List.replicate_succ] at hx hl ⊢
      exact ⟨⟨hl, ⟨by show 1 ≤ 7; omega, by show 7 ≤ 9; omega⟩, hx⟩, rfl⟩
  have he : ∀ x, endS t = some x → x < all := fun x q => by
    unfold jT at hj
    rw [q] at hj
    by_cases c : all ≤ x
    · have hj' : (if all ≤ x then some (7, p + t.length - 1) else none : Flt) = none := hj
      rw [if_pos c] at hj'; cases hj'
    · omega
  have l7 : t.length ≤ 7 := hl.1
  have tbr : TBr all t := by
    rcases hr with q | ⟨_, q | q⟩
    · rw [q, List.nil_append] at e'
      rw [e'] at lt l7 he ⊢
      obtain ⟨p1, p2⟩ := plain k lt l7
      exact ⟨p1, (fun x => by rw [p2] at x; cases x), he⟩
    · rw [q] at e'
      have e2 : t = 8 :: (List.replicate k 7 ++ s) := e'
      rw [e2] at lt l7 he ⊢
      obtain ⟨p1, p2⟩ := plain k (fun x hx => lt x (by simp at hx ⊢; right; exact hx)) (by rw [List.length_cons] at l7; omega)
      exact ⟨⟨l7, ⟨by show 1 ≤ 8; omega, by show 8 ≤ 9; omega⟩, lt⟩, fun _ => ⟨p1, p2⟩, he⟩
    · rw [q] at e'
      have e2 : t = 9 :: (List.replicate k 7 ++ s) := e'
      rw [e2] at lt l7 he ⊢
      obtain ⟨p1, p2⟩ := plain k (fun x hx => lt x (by simp at hx ⊢; right; exact hx)) (by rw [List.length_cons] at l7; omega)
      exact ⟨⟨l7, ⟨by show 1 ≤ 9; omega, by show 9 ≤ 9; omega⟩, lt⟩, fun _ => ⟨p1, p2⟩, he⟩
  exact ⟨⟨tbr, hl.2.1⟩, fun q => ⟨tbr, hl.2.2 q, hl.2.1 (hl.2.2 q)⟩⟩
theorem orE_0 {r s : Flt} (h : orE r s = none) : r = none ∧ s = none := by
  cases r with
  | some e => cases h
  | none => exact ⟨rfl, h⟩
theorem AtL.ls {rf : Bool} {all : Nat} (hb : ∀ q, q < len → b q < 256) : ∀ (ts : List Ty) (p : Nat), AtL b len rf p ts → jTs all p ts = none → ∀ t, t ∈ ts → LsO all t ∧ (rf = false → PlO all t)
  | [], _, _, _, t, ht => by cases ht
  | u :: ts, p, h, hj, t, ht => by
    obtain ⟨j1, j2⟩ := orE_0 hj
    rcases List.mem_cons.mp ht with q | q
    · rw [q]; exact RdT.ls hb h.1 j1
    · exact AtL.ls hb ts (p + u.length) h.2 j2 t q
end
