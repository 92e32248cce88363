theorem divX_l {F : Nat} {sh : Nat → Nat × Nat} {n w A B : Nat} {z : St} {bh bl : Int64} {x2 : Int32} (hz : z.1 w 2 = 0) (hB : V2 bh bl = B) (hA : A < 2 ^ 128) (hB0 : 0 < B) : ∀ (m i f : Nat) (G : Nat → Int64), m + i = 128 → V2 (G 3) (G 4) = (dvs A B i).2 → V2 (G 0) (G 1) = A % 2 ^ (128 - i) * 2 ^ i + (dvs A B i).1 → ∃ G', V2 (G' 3) (G' 4) = A % B ∧ V2 (G' 0) (G' 1) = A / B ∧ fn_X10_divide_L34 F sh n x2 w bh bl (f + m + 1) (srl z w G) (nI i) = fn_X10_divide_L34 F sh n x2 w bh bl (f + 1) (srl z w G') (nI 128) := by
  intro m
  induction m with
  | zero =>
    intro i f G hi hR hQ
    have e : i = 128 := by omega
    subst e
    obtain ⟨e1, e2⟩ := dvs_end hA hB0
    refine ⟨G, by rw [hR, e2], ?_, rfl⟩
    rw [hQ, e1, show 128 - 128 = 0 from rfl, Nat.pow_zero, Nat.mod_one, Nat.zero_mul, Nat.zero_add]
  | succ m ih =>
    intro i f G hi hR hQ
    obtain ⟨G1, h1, h2, h3⟩ := divX_s (F := F) (sh := sh) (n := n) (w := w) (z := z) (x2 := x2) (f := f + m + 1) hz hB hA hB0 (show i < 128 by omega) G hR hQ
    obtain ⟨G2, k1, k2, k3⟩ := ih (i + 1) f G1 (by omega) h1 h2
    exact ⟨G2, k1, k2, by rw [show f + (m + 1) + 1 = (f + m + 1) + 1 by omega, h3, k3]⟩
theorem V2_00 : V2 0 0 = 0 := by
  unfold V2
  rw [N_0, Nat.zero_mul]
theorem divX_t {F : Nat} {sh : Nat → Nat × Nat} {n w : Nat} {z : St} (h0 : w < n) (h1 : (sh w).1 = 10) (hF : 200 < F) (bh bl : Int64) (x2 : Int32) : ∃ G, fn_X10_divide F sh n z w bh bl x2 = some (srl (si z w 2 (if V2 bh bl = 0 then 1 else 0)) w G, ()) ∧ (V2 bh bl ≠ 0 → V2 (G 0) (G 1) = if x2 = 0 then V2 (z.2.1 w 0) (z.2.1 w 1) / V2 bh bl else V2 (z.2.1 w 0) (z.2.1 w 1) % V2 bh bl) := by
  have hz0 : V2 bh bl = 0 ↔ bh = 0 ∧ bl = 0 := by
    rw [N_eq0, N_eq0]
    unfold V2
    omega
  have st : ∀ p : Int32, sl (sl (si z w 2 p) w 3 0) w 4 0 = srl (si z w 2 p) w (fun j => if j = 4 then 0 else if j = 3 then 0 else z.2.1 w j) := fun p => by
    simp only [sl_srl, srl_s, srl_srl]
    rfl
  by_cases c : V2 bh bl = 0
  · obtain ⟨c1, c2⟩ := hz0.mp c
    unfold fn_X10_divide
    rw [if_pos c1, if_pos c2, if_pos c]
    unfold fn_X10_divide_B18
    rw [grd_t (okO_of h0 h1), grd_t (by decide), lt_t, lt_t, lt_t, st]
    have e : fn_X10_divide_L34 F sh n x2 w bh bl F (srl (si z w 2 1) w (fun j => if j = 4 then 0 else if j = 3 then 0 else z.2.1 w j)) 0 = fn_X10_divide_B204 F sh n x2 w (srl (si z w 2 1) w (fun j => if j = 4 then 0 else if j = 3 then 0 else z.2.1 w j)) := by
      obtain ⟨f, hf⟩ : ∃ f, F = f + 1 := ⟨F - 1, by omega⟩
      conv => lhs; rw [hf]
      rw [fn_X10_divide_L34, if_neg (by decide), show (srl (si z w 2 1) w (fun j => if j = 4 then 0 else if j = 3 then 0 else z.2.1 w j)).1 w 2 = 1 by rw [srl_1]; simp [si], if1]
      rw [← hf]
    rw [e]
    unfold fn_X10_divide_B204
    by_cases q : x2 = 0
    · rw [if_pos q]
      exact ⟨_, rfl, fun h => absurd c h⟩
    · rw [if_neg q]
      simp only [lt_t, srl_s, sl_k]
      exact ⟨_, rfl, fun h => absurd c h⟩
  · have e17 : fn_X10_divide F sh n z w bh bl x2 = fn_X10_divide_B17 F sh n w x2 bh bl z := by
      unfold fn_X10_divide
      by_cases c1 : bh = 0
      · rw [if_pos c1, if_neg (fun q => c (hz0.mpr ⟨c1, q⟩))]
      · rw [if_neg c1]
    rw [e17, if_neg c]
    unfold fn_X10_divide_B17 fn_X10_divide_B18
    rw [grd_t (okO_of h0 h1), grd_t (by decide), lt_t, lt_t, lt_t, st]
    obtain ⟨G', k1, k2, k3⟩ := divX_l (F := F) (sh := sh) (n := n) (w := w) (z := si z w 2 0) (x2 := x2) (bh := bh) (bl := bl) (A := V2 (z.2.1 w 0) (z.2.1 w 1)) (by simp [si]) rfl (V2_lt _ _) (Nat.pos_of_ne_zero c) 128 0 (F - 129) (fun j => if j = 4 then 0 else if j = 3 then 0 else z.2.1 w j) rfl (by show V2 0 0 = 0; exact V2_00) (by
      show V2 (z.2.1 w 0) (z.2.1 w 1) = V2 (z.2.1 w 0) (z.2.1 w 1) % 2 ^ 128 * 2 ^ 0 + 0
      rw [Nat.mod_eq_of_lt (V2_lt _ _), Nat.pow_zero, Nat.mul_one, Nat.add_zero])
    rw [show F - 129 + 128 + 1 = F by omega] at k3
    rw [show fn_X10_divide_L34 F sh n x2 w bh bl F (srl (si z w 2 0) w (fun j => if j = 4 then 0 else if j = 3 then 0 else z.2.1 w j)) 0 = _ from k3, fn_X10_divide_L34, if_pos (show (128 : Int32) ≤ nI 128 by decide)]
    unfold fn_X10_divide_B204
    by_cases q : x2 = 0
    · rw [if_pos q]
      refine ⟨G', rfl, fun _ => ?_⟩
      rw [if_pos q]
      exact k2
    · rw [if_neg q]
      simp only [lt_t, srl_s, sl_k]
      refine ⟨_, rfl, fun _ => ?_⟩
      rw [if_neg q]
      exact k1
