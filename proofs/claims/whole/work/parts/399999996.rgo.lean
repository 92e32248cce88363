/-! THE REFERENCE'S LEDGER: a resource is kept -/
/-- the ledger but for the tree at x -/
def RLx (z : St) (nc : Nat) (ac : Nat → Int64 × Int64 × Int64) (nr : Nat) (rs : Nat → Int64 × Nat × Hp × Nat) (x : Nat) : Prop := (z.1 337 3 = nI nc ∧ nc ≤ 256 ∧ ∀ i, i < nc → z.2.1 338 i = (ac i).1 ∧ z.2.1 339 i = (ac i).2.1 ∧ z.2.1 340 i = (ac i).2.2) ∧ z.1 337 9 = nI nr ∧ nr ≤ 256 ∧ ∀ i, i < nr → (z.2.1 343 i = (rs i).1 ∧ z.1 344 i = nI (rs i).2.1 ∧ (rs i).2.1 < 2 ^ 31) ∧ (i ≠ x → Pre (rs i).2.2.1 48 0 (rs i).2.2.2 ∧ (rs i).2.2.2 ≤ 64 ∧ Kep z (rs i).2.2.1 (64 * i) 0 (rs i).2.2.2)
section
variable {F n : Nat} {sh : Nat → Nat × Nat} {z z' : St} {nc nr : Nat} {ac : Nat → Int64 × Int64 × Int64} {rs : Nat → Int64 × Nat × Hp × Nat} {H : Hp} {m : Nat}
theorem RLg.ex (h : RLg z nc ac nr rs) (x : Nat) : RLx z nc ac nr rs x := by
  obtain ⟨a, b1, b2, b3⟩ := h
  refine ⟨a, b1, b2, fun i hi => ?_⟩
  obtain ⟨c1, c2, c3, c4, c5, c6⟩ := b3 i hi
  exact ⟨⟨c1, c2, c3⟩, fun _ => ⟨c4, c5, c6⟩⟩
theorem keep_t (hF : 300 ≤ F) (hL : Lay sh n z) {x v : Nat} (h : RLx z nc ac nr rs x) (hM : HM z H m) (hx : x < nr) (tr : Tr H 48 v) (hs : szM H 48 v ≤ 64) : ∃ z', fn_X18_keep F sh n z 337 (nI x) (nI v) = some (z', ()) ∧ HM z' H m ∧ FrG z z' ∧ ∃ (Q : Hp) (o : Nat → Nat), o 0 = v ∧ (∀ i, i < szM H 48 v → Alk H Q o i) ∧ RLg z' nc ac nr (fun i => if i = x then ((rs i).1, (rs i).2.1, Q, szM H 48 v) else rs i) := by
  obtain ⟨⟨a1, a2, a3⟩, b1, b2, b3⟩ := h
  have L1 : Lay sh n (si z 337 14 (nI (64 * x))) := hL.of rfl
  have M1 : HM (si z 337 14 (nI (64 * x))) H m := hM.fr (fun k k1 k2 => by funext j; simp [si_1, show k ≠ 337 by omega]) (fun _ _ _ => rfl)
  obtain ⟨z2, q1, q2⟩ := keepM_t (F := F) hF 48 (si z 337 14 (nI (64 * x))) (64 * x) 0 v L1 M1 tr (by simp [si_1]) (by omega) hs
  rw [Nat.zero_add] at q2
  obtain ⟨Q, o, t1, t2, t3, t4, t5, t6, t7⟩ := q2 (fun _ => (0, 0, 0, [])) id
  have k1 : ∀ k, k ≠ 337 → ¬ (345 ≤ k ∧ k ≤ 348) → z2.1 k = z.1 k ∧ z2.2.1 k = z.2.1 k := fun k x1 x2 => by
    rw [(t7.2.1 k x1 x2).1, (t7.2.1 k x1 x2).2]
    exact ⟨by funext j; simp [si_1, x1], rfl⟩
  have k2 : ∀ j, j ≠ 14 → z2.1 337 j = z.1 337 j := fun j hj => by rw [t7.2.2.1 j hj]; simp [si_1, hj]
  refine ⟨z2, ?_, hM.fr (fun k x1 x2 => (k1 k (by omega) (by omega)).1) (fun k x1 x2 => (k1 k (by omega) (by omega)).2), ⟨t7.1, fun k x1 x2 => k1 k x1 (by omega), fun j _ _ j14 => k2 j j14, t7.2.2.2.1⟩, Q, o, t2, fun i hi => t5 i (Nat.zero_le _) hi, ⟨by rw [k2 3 (by decide)]; exact a1, a2, fun i hi => ?_⟩, by rw [k2 9 (by decide)]; exact b1, b2, fun i hi => ?_⟩
  · unfold fn_X18_keep
    rw [(b_model hL).1, grd_true, show (64 : Int32) = nI 64 from rfl, pk_mul, lt_t, q1, cal_s]
  · rw [(k1 338 (by omega) (by omega)).2, (k1 339 (by omega) (by omega)).2, (k1 340 (by omega) (by omega)).2]; exact a3 i hi
  · rw [(k1 343 (by omega) (by omega)).2, (k1 344 (by omega) (by omega)).1]
    obtain ⟨⟨c1, c2, c3⟩, c4⟩ := b3 i hi
    by_cases c : i = x
    · subst c
      simp only [if_true]
      exact ⟨c1, c2, c3, t1, hs, t3⟩
    · simp only [if_neg c]
      obtain ⟨d1, d2, d3⟩ := c4 c
      refine ⟨c1, c2, c3, d1, d2, fun w w1 w2 => ?_⟩
      have nn : ¬ (64 * x + 0 ≤ 64 * i + w ∧ 64 * i + w < 64 * x + szM H 48 v) := by omega
      rw [(t7.2.2.2.2 345 _ (by omega) (by omega) nn).1, (t7.2.2.2.2 346 _ (by omega) (by omega) nn).2, (t7.2.2.2.2 347 _ (by omega) (by omega) nn).2, (t7.2.2.2.2 348 _ (by omega) (by omega) nn).1]
      simp only [si_1, si_2]
      exact d3 w w1 w2
end
