/-! BOTH LEDGERS: what settling makes of places -/
/-- resources behind removing: old ones; what was taken away is gone -/
def RmR (ak : Nat → Ask) (na p nr : Nat) (rs : Nat → Int64 × Nat × Hp × Nat) (nr' : Nat) (rs' : Nat → Int64 × Nat × Hp × Nat) : Prop := ∀ i', i' < nr' → ∃ i, i < nr ∧ rs' i' = rs i ∧ ∀ j, p ≤ j → j < na → (ak j).1 = 3 → (ak j).2.2.2.2.1 = false → ¬ ((ak j).2.1 = (rs i).1 ∧ (ak j).2.2.1 = (rs i).2.1)
/-- resources behind writing: old ones that were not asked for, or trees that were kept -/
def WrR (H : Hp) (ak : Nat → Ask) (na p nr : Nat) (rs : Nat → Int64 × Nat × Hp × Nat) (nr' : Nat) (rs' : Nat → Int64 × Nat × Hp × Nat) : Prop := ∀ i', i' < nr' → (∃ i, i < nr ∧ rs' i' = rs i ∧ ∀ j, p ≤ j → j < na → (ak j).1 = 3 → (ak j).2.2.2.2.1 = true → ¬ ((ak j).2.1 = (rs i).1 ∧ (ak j).2.2.1 = (rs i).2.1)) ∨ ∃ j o, p ≤ j ∧ j < na ∧ (ak j).1 = 3 ∧ (ak j).2.2.2.2.1 = true ∧ (rs' i').1 = (ak j).2.1 ∧ (rs' i').2.1 = (ak j).2.2.1 ∧ (rs' i').2.2.2 = szM H 48 (ak j).2.2.2.2.2 ∧ o 0 = (ak j).2.2.2.2.2 ∧ ∀ i, i < szM H 48 (ak j).2.2.2.2.2 → Alk H (rs' i').2.2.1 o i
/-- accounts behind writing -/
def WrA (bk ak : Nat → Ask) (na p nc : Nat) (ac : Nat → Int64 × Int64 × Int64) (nc' : Nat) (ac' : Nat → Int64 × Int64 × Int64) : Prop := ∀ i', i' < nc' → (∃ i, i < nc ∧ ac' i' = ac i ∧ ∀ j, p ≤ j → j < na → (ak j).1 = 1 → (ak j).2.2.2.2.1 = true → (ak j).2.1 ≠ (ac i).1) ∨ ∃ j, p ≤ j ∧ j < na ∧ (ak j).1 = 1 ∧ (ak j).2.2.2.2.1 = true ∧ (ac' i').1 = (ak j).2.1 ∧ (ac' i').2.1 = (bk j).2.2.2.1
section
variable {H : Hp} {bk ak : Nat → Ask} {na p nr nr' nc nc' : Nat} {rs rs' : Nat → Int64 × Nat × Hp × Nat} {ac ac' : Nat → Int64 × Int64 × Int64}
theorem RmR.zero : RmR ak na na nr rs nr rs := fun i hi => ⟨i, hi, rfl, fun j a b => by omega⟩
theorem RmR.skip (h : RmR ak na (p + 1) nr rs nr' rs') (hn : ∀ i, i < nr → (ak p).1 = 3 → (ak p).2.2.2.2.1 = false → ¬ ((ak p).2.1 = (rs i).1 ∧ (ak p).2.2.1 = (rs i).2.1)) : RmR ak na p nr rs nr' rs' := fun i' hi => by
  obtain ⟨i, h1, h2, h3⟩ := h i' hi
  refine ⟨i, h1, h2, fun j a b c d => ?_⟩
  by_cases q : j = p
  · subst q; exact hn i h1 c d
  · exact h3 j (by omega) b c d
theorem RmR.rm (uq : ∀ i j, i < nr → j < nr → (rs i).1 = (rs j).1 → (rs i).2.1 = (rs j).2.1 → i = j) {x : Nat} (hx : fdR nr rs (ak p).2.1 (ak p).2.2.1 = some x) (h : RmR ak na (p + 1) (nr - 1) (fun i => if i = x then rs (nr - 1) else rs i) nr' rs') : RmR ak na p nr rs nr' rs' := fun i' hi => by
  obtain ⟨x1, x2, x3⟩ := fdR_k hx
  obtain ⟨i, h1, h2, h3⟩ := h i' hi
  by_cases q : i = x
  · simp only [if_pos q] at h2 h3
    refine ⟨nr - 1, by omega, h2, fun j a b c d w => ?_⟩
    by_cases e : j = p
    · subst e
      have := uq (nr - 1) x (by omega) x1 (by rw [← w.1, x2]) (by rw [← w.2, x3])
      omega
    · exact h3 j (by omega) b c d w
  · simp only [if_neg q] at h2 h3
    refine ⟨i, by omega, h2, fun j a b c d w => ?_⟩
    by_cases e : j = p
    · subst e
      exact q (uq i x (by omega) x1 (by rw [← w.1, x2]) (by rw [← w.2, x3]))
    · exact h3 j (by omega) b c d w
theorem WrR.zero : WrR H ak na na nr rs nr rs := fun i hi => .inl ⟨i, hi, rfl, fun j a b => by omega⟩
theorem WrR.skip (h : WrR H ak na (p + 1) nr rs nr' rs') (hn : ¬ ((ak p).1 = 3 ∧ (ak p).2.2.2.2.1 = true)) : WrR H ak na p nr rs nr' rs' := fun i' hi => by
  rcases h i' hi with ⟨i, h1, h2, h3⟩ | ⟨j, o, h1, h2⟩
  · refine .inl ⟨i, h1, h2, fun j a b c d => ?_⟩
    by_cases q : j = p
    · subst q; exact absurd ⟨c, d⟩ hn
    · exact h3 j (by omega) b c d
  · exact .inr ⟨j, o, by omega, h2⟩
theorem WrR.put {Q : Hp} {o : Nat → Nat} (hp : p < na) (h3 : (ak p).1 = 3) (ht : (ak p).2.2.2.2.1 = true) (o0 : o 0 = (ak p).2.2.2.2.2) (alk : ∀ i, i < szM H 48 (ak p).2.2.2.2.2 → Alk H Q o i) {x nr1 : Nat} {rs1 : Nat → Int64 × Nat × Hp × Nat} (e1 : rs1 x = ((ak p).2.1, (ak p).2.2.1, Q, szM H 48 (ak p).2.2.2.2.2)) (e2 : ∀ i, i < nr1 → i ≠ x → i < nr ∧ rs1 i = rs i ∧ ¬ ((ak p).2.1 = (rs i).1 ∧ (ak p).2.2.1 = (rs i).2.1)) (h : WrR H ak na (p + 1) nr1 rs1 nr' rs') : WrR H ak na p nr rs nr' rs' := fun i' hi => by
  rcases h i' hi with ⟨i, g1, g2, g3⟩ | ⟨j, o, g1, g2⟩
  · by_cases q : i = x
    · subst q
      refine .inr ⟨p, o, Nat.le_refl _, hp, h3, ht, by rw [g2, e1], by rw [g2, e1], by rw [g2, e1], o0, by rw [g2, e1]; exact alk⟩
    · obtain ⟨k1, k2, k3⟩ := e2 i g1 q
      refine .inl ⟨i, k1, by rw [g2, k2], fun j a b c d w => ?_⟩
      by_cases e : j = p
      · subst e; exact k3 w
      · exact g3 j (by omega) b c d (by rw [k2]; exact w)
  · exact .inr ⟨j, o, by omega, g2⟩
theorem WrA.zero : WrA bk ak na na nc ac nc ac := fun i hi => .inl ⟨i, hi, rfl, fun j a b => by omega⟩
theorem WrA.skip (h : WrA bk ak na (p + 1) nc ac nc' ac') (hn : ¬ ((ak p).1 = 1 ∧ (ak p).2.2.2.2.1 = true)) : WrA bk ak na p nc ac nc' ac' := fun i' hi => by
  rcases h i' hi with ⟨i, h1, h2, h3⟩ | ⟨j, h1, h2⟩
  · refine .inl ⟨i, h1, h2, fun j a b c d => ?_⟩
    by_cases q : j = p
    · subst q; exact absurd ⟨c, d⟩ hn
    · exact h3 j (by omega) b c d
  · exact .inr ⟨j, by omega, h2⟩
theorem WrA.put (hp : p < na) (h1 : (ak p).1 = 1) (ht : (ak p).2.2.2.2.1 = true) {x nc1 : Nat} {ac1 : Nat → Int64 × Int64 × Int64} (e1 : (ac1 x).1 = (ak p).2.1 ∧ (ac1 x).2.1 = (bk p).2.2.2.1) (e2 : ∀ i, i < nc1 → i ≠ x → i < nc ∧ ac1 i = ac i ∧ (ak p).2.1 ≠ (ac i).1) (h : WrA bk ak na (p + 1) nc1 ac1 nc' ac') : WrA bk ak na p nc ac nc' ac' := fun i' hi => by
  rcases h i' hi with ⟨i, g1, g2, g3⟩ | ⟨j, g1, g2⟩
  · by_cases q : i = x
    · subst q
      exact .inr ⟨p, Nat.le_refl _, hp, h1, ht, by rw [g2]; exact e1.1, by rw [g2]; exact e1.2⟩
    · obtain ⟨k1, k2, k3⟩ := e2 i g1 q
      refine .inl ⟨i, k1, by rw [g2, k2], fun j a b c d w => ?_⟩
      by_cases e : j = p
      · subst e; exact k3 w
      · exact g3 j (by omega) b c d (by rw [k2]; exact w)
  · exact .inr ⟨j, by omega, g2⟩
end
