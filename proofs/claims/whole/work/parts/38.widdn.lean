theorem cnt {i : Nat} (hi : i < 128) : nI (128 - i) + (-1) = nI (127 - i) := by
  rw [show 128 - i = (127 - i) + 1 by omega]
  exact pk_m1 (127 - i)
theorem divM_l {F : Nat} {sh : Nat → Nat × Nat} {n w A B : Nat} {z : St} {x0 x1 : Int32} {ah al bh bl : Int64} (hAV : V2 ah al = A) (hB : V2 bh bl = B) (hB0 : 0 < B) : ∀ (m i f : Nat) (rh rl qh ql : Int64), m + i = 128 → V2 rh rl = (dvs A B i).2 → V2 qh ql = (dvs A B i).1 → ∃ rh' rl' qh' ql', V2 rh' rl' = A % B ∧ V2 qh' ql' = A / B ∧ fn_X17_divide_L55 F sh n x0 w x1 bh bl al ah (f + m + 1) z rh rl qh ql (nI (128 - i) + (-1)) = fn_X17_divide_L55 F sh n x0 w x1 bh bl al ah (f + 1) z rh' rl' qh' ql' (nI 0 + (-1)) := by
  have hA : A < 2 ^ 128 := by rw [← hAV]; exact V2_lt _ _
  intro m
  induction m with
  | zero =>
    intro i f rh rl qh ql hi hR hQ
    have e : i = 128 := by omega
    subst e
    obtain ⟨e1, e2⟩ := dvs_end hA hB0
    exact ⟨rh, rl, qh, ql, by rw [hR, e2], by rw [hQ, e1], rfl⟩
  | succ m ih =>
    intro i f rh rl qh ql hi hR hQ
    obtain ⟨r1, r2, q1, q2, h1, h2, h3⟩ := divM_s (F := F) (sh := sh) (n := n) (w := w) (z := z) (x0 := x0) (x1 := x1) (f := f + m + 1) hAV hB hB0 (show i < 128 by omega) hR hQ
    obtain ⟨r3, r4, q3, q4, k1, k2, k3⟩ := ih (i + 1) f r1 r2 q1 q2 (by omega) h1 h2
    refine ⟨r3, r4, q3, q4, k1, k2, ?_⟩
    rw [show f + (m + 1) + 1 = (f + m + 1) + 1 by omega, cnt (by omega), h3, show 127 - i = 128 - (i + 1) by omega, k3]
theorem divM_t {F : Nat} {sh : Nat → Nat × Nat} {n w ka kb kr A B : Nat} {z : St} {x0 bits : Int32} (W : WM sh n z.2.2 w ka kb kr) (hF : 200 < F) (hA : A < 2 ^ 128) (hB : B < 2 ^ 128) (hB0 : 0 < B) (ha : ∀ i, i < 16 → z.1 ka i = nI (dg A i)) (hb : ∀ i, i < 16 → z.1 kb i = nI (dg B i)) : ∃ z' r, fn_X17_divide F sh n z w x0 bits = some (z', r) ∧ z'.1 = z.1 ∧ z'.2.2 = z.2.2 ∧ (∀ k, k ≠ w → z'.2.1 k = z.2.1 k) ∧ ((r = 1 ∧ (if x0 = 0 then A % B else A / B) < 2 ^ bb2 bits ∧ V2 (z'.2.1 w 3) (z'.2.1 w 4) = (if x0 = 0 then A % B else A / B)) ∨ (r = 0 ∧ ¬ (if x0 = 0 then A % B else A / B) < 2 ^ bb2 bits)) := by
  obtain ⟨d1, d2, d3, d4, d5, d6, d7, d8, d9, d10, d11, d12⟩ := W
  obtain ⟨ah, a1, a2⟩ := four_w (F := F) (z := z) (X := A) (x := 4) d3 d4 (by decide) (by decide) (fun i hi => ha (4 + i) (by omega))
  obtain ⟨al, a3, a4⟩ := four_w (F := F) (z := z) (X := A) (x := 0) d3 d4 (by decide) (by decide) (fun i hi => ha (0 + i) (by omega))
  obtain ⟨bh, b1, b2⟩ := four_w (F := F) (z := z) (X := B) (x := 4) d5 d6 (by decide) (by decide) (fun i hi => hb (4 + i) (by omega))
  obtain ⟨bl, b3, b4⟩ := four_w (F := F) (z := z) (X := B) (x := 0) d5 d6 (by decide) (by decide) (fun i hi => hb (0 + i) (by omega))
  have vA : V2 ah al = A := by unfold V2; rw [a2, a4]; omega
  have vB : V2 bh bl = B := by unfold V2; rw [b2, b4]; omega
  unfold fn_X17_divide
  rw [grd_t (okO_of d1 d2), lnk_t d9, cal_t (show fn_X17_four F sh n z ka 4 = some (z, ah) from a1), lnk_t d9, cal_t (show fn_X17_four F sh n z ka 0 = some (z, al) from a3), lnk_t d10, cal_t (show fn_X17_four F sh n z kb 4 = some (z, bh) from b1), lnk_t d10, cal_t (show fn_X17_four F sh n z kb 0 = some (z, bl) from b3)]
  obtain ⟨r1, r2, q1, q2, k1, k2, k3⟩ := divM_l (F := F) (sh := sh) (n := n) (w := w) (z := z) (x0 := x0) (x1 := bits) vA vB hB0 128 0 (F - 129) 0 0 0 0 rfl V2_00 V2_00
  rw [show F - 129 + 128 + 1 = F by omega, cnt (by decide)] at k3
  rw [show fn_X17_divide_L55 F sh n x0 w bits bh bl al ah F z 0 0 0 0 127 = _ from k3, fn_X17_divide_L55, if_pos (by decide)]
  have fin : ∀ h l : Int64, ∀ X, V2 h l = X → ∃ z' r, fn_X17_divide_B250 F sh n w bits (sl z w 3 h) l = some (z', r) ∧ z'.1 = z.1 ∧ z'.2.2 = z.2.2 ∧ (∀ k, k ≠ w → z'.2.1 k = z.2.1 k) ∧ ((r = 1 ∧ X < 2 ^ bb2 bits ∧ V2 (z'.2.1 w 3) (z'.2.1 w 4) = X) ∨ (r = 0 ∧ ¬ X < 2 ^ bb2 bits)) := by
    intro h l X hX
    have q3 : (sl (sl z w 3 h) w 4 l).2.1 w 3 = h := by simp [sl]
    have q4 : (sl (sl z w 3 h) w 4 l).2.1 w 4 = l := by simp [sl]
    unfold fn_X17_divide_B250
    rw [lt_t, cal_t (isOf_t _ _ bits), q3, q4, hX]
    have fr : ∀ k, k ≠ w → (sl (sl z w 3 h) w 4 l).2.1 k = z.2.1 k := fun k hk => by funext i; simp [sl, hk]
    by_cases c : X < 2 ^ bb2 bits
    · rw [if_pos c, grd_t (by decide)]
      exact ⟨_, _, rfl, rfl, rfl, fr, Or.inl ⟨rfl, c, by rw [q3, q4]; exact hX⟩⟩
    · rw [if_neg c, grd_t (by decide)]
      exact ⟨_, _, rfl, rfl, rfl, fr, Or.inr ⟨rfl, c⟩⟩
  by_cases q : x0 = 0
  · rw [if_pos q]
    unfold fn_X17_divide_B235
    rw [lt_t, if_pos q, if_pos q]
    exact fin r1 r2 _ k1
  · rw [if_neg q]
    unfold fn_X17_divide_B235
    rw [lt_t, if_neg q, if_neg q]
    exact fin q1 q2 _ k2
