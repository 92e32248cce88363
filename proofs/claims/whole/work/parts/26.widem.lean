/-! products -/
theorem sl_comm {z : St} {k j j' : Nat} {v v' : Int64} (h : j ≠ j') : sl (sl z k j v) k j' v' = sl (sl z k j' v') k j v := by
  unfold sl
  congr 2
  funext k' i
  by_cases h1 : k' = k
  · by_cases h2 : i = j
    · by_cases h3 : i = j'
      · exact absurd (h2.symm.trans h3) h
      · simp [h1, h2, h]
    · by_cases h3 : i = j'
      · simp [h1, h3, Ne.symm h]
      · simp [h1, h2, h3]
  · simp [h1]
theorem mul4 (x y u v c : Nat) : (x * c + y) * (u * c + v) = (x * u) * (c * c) + ((x * v) * c + (y * u) * c) + y * v := by
  rw [Nat.add_mul, Nat.mul_add, Nat.mul_add]
  have e1 : x * c * (u * c) = x * u * (c * c) := by rw [Nat.mul_assoc, Nat.mul_assoc, Nat.mul_left_comm c u c]
  have e2 : x * c * v = x * v * c := by rw [Nat.mul_assoc, Nat.mul_comm c v, Nat.mul_assoc]
  have e3 : y * (u * c) = y * u * c := (Nat.mul_assoc y u c).symm
  rw [e1, e2, e3]
  omega
theorem mul_b {x y : Nat} (hx : x < 2 ^ 32) (hy : y < 2 ^ 32) : x * y ≤ 18446744065119617025 := by
  have h : x * y ≤ (2 ^ 32 - 1) * (2 ^ 32 - 1) := Nat.mul_le_mul (by omega) (by omega)
  exact h
theorem mul_b64 {x y : Nat} (hx : x < 2 ^ 64) (hy : y < 2 ^ 64) : x * y ≤ 340282366920938463426481119284349108225 := by
  have h : x * y ≤ 18446744073709551615 * 18446744073709551615 := Nat.mul_le_mul (by omega) (by omega)
  exact h
theorem upX_t {F : Nat} {sh : Nat → Nat × Nat} {n : Nat} {z : St} (a b : Int64) : ∃ r, fn_X10_upperProduct F sh n z a b = some (z, r) ∧ N r = N a * N b / 2 ^ 64 := by
  have ha := N_lt a
  have hb := N_lt b
  have s32 : ∀ x : Int64, N ((x.toUInt64 >>> ((32 : Int32).toInt64.toUInt64 &&& Int64.toUInt64 63)).toInt64) = N x / 2 ^ 32 := fun x => N_ushr 32 (by rfl)
  unfold fn_X10_upperProduct
  refine ⟨_, rfl, ?_⟩
  have e0 : N a = N a / 2 ^ 32 * 2 ^ 32 + N a % 2 ^ 32 := by omega
  have e1 : N b = N b / 2 ^ 32 * 2 ^ 32 + N b % 2 ^ 32 := by omega
  have ep : N a * N b = (N a / 2 ^ 32 * (N b / 2 ^ 32)) * (2 ^ 32 * 2 ^ 32) + ((N a / 2 ^ 32 * (N b % 2 ^ 32)) * 2 ^ 32 + (N a % 2 ^ 32 * (N b / 2 ^ 32)) * 2 ^ 32) + N a % 2 ^ 32 * (N b % 2 ^ 32) := by
    conv => lhs; rw [e0, e1]
    exact mul4 _ _ _ _ _
  have b1 := mul_b (x := N a / 2 ^ 32) (y := N b / 2 ^ 32) (by omega) (by omega)
  have b2 := mul_b (x := N a / 2 ^ 32) (y := N b % 2 ^ 32) (by omega) (by omega)
  have b3 := mul_b (x := N a % 2 ^ 32) (y := N b / 2 ^ 32) (by omega) (by omega)
  have b4 := mul_b (x := N a % 2 ^ 32) (y := N b % 2 ^ 32) (by omega) (by omega)
  simp only [N_add, N_mul, s32, N_mask]
  rw [ep]
  generalize N a / 2 ^ 32 * (N b / 2 ^ 32) = p11 at b1 ⊢
  generalize N a / 2 ^ 32 * (N b % 2 ^ 32) = p10 at b2 ⊢
  generalize N a % 2 ^ 32 * (N b / 2 ^ 32) = p01 at b3 ⊢
  generalize N a % 2 ^ 32 * (N b % 2 ^ 32) = p00 at b4 ⊢
  omega
theorem mulF {F : Nat} {sh : Nat → Nat × Nat} {n w : Nat} {z : St} (al bl : Int64) (p : Int32) (cr : Int64) : ∃ r, N r = N al * N bl / 2 ^ 64 ∧ fn_X10_multiply_B111 F sh n al bl w z p cr = some (wz z w (r + cr) (al * bl) (if p = 0 then (if N (r + cr) < N cr then 1 else 0) else 1), ()) := by
  obtain ⟨r, e1, e2⟩ := upX_t (F := F) (sh := sh) (n := n) (z := z) al bl
  refine ⟨r, e2, ?_⟩
  unfold fn_X10_multiply_B111
  rw [cal_t e1]
  show (if p = 0 then _ else _) = _
  have ec : ∀ b : Int32, si (sl (sl z w 1 (al * bl)) w 0 (r + cr)) w 2 b = wz z w (r + cr) (al * bl) b := fun b => by
    rw [sl_comm (by decide)]
    rfl
  by_cases hp : p = 0
  · rw [if_pos hp, if_pos hp, show (sl (sl z w 1 (al * bl)) w 0 (r + cr)).2.1 w 0 = r + cr by simp [sl], cal_t (below_t (r + cr) cr)]
    by_cases c : N (r + cr) < N cr
    · rw [if_pos c, if1, ← ec]
      rfl
    · rw [if_neg c, if0, ← ec]
      rfl
  · rw [if_neg hp, if_neg hp, ← ec]
    rfl
theorem mulV (ah al bh bl : Int64) : V2 ah al * V2 bh bl = (N ah * N bh) * 340282366920938463463374607431768211456 + ((N ah * N bl) * 18446744073709551616 + (N al * N bh) * 18446744073709551616) + N al * N bl := mul4 (N ah) (N al) (N bh) (N bl) 18446744073709551616
theorem ar1 {p1 p2 r cr s : Nat} (b2 : p2 ≤ 340282366920938463426481119284349108225) (e1 : r = p2 / 2 ^ 64) (e7 : cr = p1 % 2 ^ 64) (z3 : p1 / 2 ^ 64 = 0) (e3 : s = (r + cr) % 2 ^ 64) (c4 : s < cr) : ¬ p1 * 18446744073709551616 + p2 < 2 ^ 128 := by
  omega
theorem ar2 {p1 p2 r cr s lo : Nat} (b2 : p2 ≤ 340282366920938463426481119284349108225) (e1 : r = p2 / 2 ^ 64) (e7 : cr = p1 % 2 ^ 64) (z3 : p1 / 2 ^ 64 = 0) (e3 : s = (r + cr) % 2 ^ 64) (e4 : lo = p2 % 2 ^ 64) (c4 : ¬ s < cr) : p1 * 18446744073709551616 + p2 < 2 ^ 128 ∧ s * 2 ^ 64 + lo = p1 * 18446744073709551616 + p2 := by
  omega
theorem ar3 {p1 p2 : Nat} (z3 : p1 / 2 ^ 64 ≠ 0) : ¬ p1 * 18446744073709551616 + p2 < 2 ^ 128 := by
  omega
theorem ar4 {p1 p2 p3 p4 : Nat} (h : 1 ≤ p3) : ¬ p3 * 340282366920938463463374607431768211456 + (p1 * 18446744073709551616 + p4 * 18446744073709551616) + p2 < 2 ^ 128 := by
  omega
theorem ar5 {p2 r s lo : Nat} (b2 : p2 ≤ 340282366920938463426481119284349108225) (e1 : r = p2 / 2 ^ 64) (e3 : s = (r + 0) % 2 ^ 64) (e4 : lo = p2 % 2 ^ 64) : p2 < 2 ^ 128 ∧ s * 2 ^ 64 + lo = p2 := by
  omega
/-- one cross product counts -/
theorem mulC {F : Nat} {sh : Nat → Nat × Nat} {n w : Nat} {z : St} (al bl x y : Int64) {P : Nat} (hP : P = N x * N y * 18446744073709551616 + N al * N bl) (p : Int32) (hp : (p = 0 ∧ N x * N y / 2 ^ 64 = 0) ∨ (p = 1 ∧ ¬ P < 2 ^ 128)) : ∃ h l b, fn_X10_multiply_B111 F sh n al bl w z p (x * y) = some (wz z w h l b, ()) ∧ ((b = 0 ∧ P < 2 ^ 128 ∧ V2 h l = P) ∨ (b = 1 ∧ ¬ P < 2 ^ 128)) := by
  obtain ⟨r, e1, e2⟩ := mulF (F := F) (sh := sh) (n := n) (w := w) (z := z) al bl p (x * y)
  have bb := mul_b64 (N_lt al) (N_lt bl)
  rcases hp with ⟨hp, hz⟩ | ⟨hp, hz⟩
  · subst hp
    subst hP
    by_cases c4 : N (r + x * y) < N (x * y)
    · exact ⟨_, _, _, e2, Or.inr ⟨by rw [if0, if_pos c4], ar1 bb e1 (N_mul x y) hz (N_add r (x * y)) c4⟩⟩
    · have h := ar2 bb e1 (N_mul x y) hz (N_add r (x * y)) (N_mul al bl) c4
      exact ⟨_, _, _, e2, Or.inl ⟨by rw [if0, if_neg c4], h.1, h.2⟩⟩
  · subst hp
    exact ⟨_, _, _, e2, Or.inr ⟨if1, hz⟩⟩
theorem multX_t {F : Nat} {sh : Nat → Nat × Nat} {n w : Nat} {z : St} (h0 : w < n) (h1 : (sh w).1 = 10) (bh bl : Int64) : ∃ h l b, fn_X10_multiply F sh n z w bh bl = some (wz z w h l b, ()) ∧ ((b = 0 ∧ V2 (z.2.1 w 0) (z.2.1 w 1) * V2 bh bl < 2 ^ 128 ∧ V2 h l = V2 (z.2.1 w 0) (z.2.1 w 1) * V2 bh bl) ∨ (b = 1 ∧ ¬ V2 (z.2.1 w 0) (z.2.1 w 1) * V2 bh bl < 2 ^ 128)) := by
  generalize ea : z.2.1 w 0 = ah
  generalize el : z.2.1 w 1 = al
  have ab := mulV ah al bh bl
  unfold fn_X10_multiply
  rw [grd_t (okO_of h0 h1), ea]
  by_cases c1 : ah = 0
  · have z1 : N ah = 0 := N_eq0.mp c1
    rw [z1, Nat.zero_mul, Nat.zero_mul, Nat.zero_mul, Nat.zero_mul, Nat.zero_add, Nat.zero_add] at ab
    rw [if_pos c1]
    unfold fn_X10_multiply_B19 fn_X10_multiply_B20
    rw [ea, el, lt_t, lt_t, if_pos c1]
    by_cases c2 : bh = 0
    · have z2 : N bh = 0 := N_eq0.mp c2
      rw [z2, Nat.mul_zero, Nat.zero_mul, Nat.zero_add] at ab
      rw [if_pos c2]
      obtain ⟨r, e1, e2⟩ := mulF (F := F) (sh := sh) (n := n) (w := w) (z := z) al bl 0 0
      have h := ar5 (mul_b64 (N_lt al) (N_lt bl)) e1 (N_add r 0) (N_mul al bl)
      refine ⟨_, _, _, e2, Or.inl ⟨?_, ?_, ?_⟩⟩
      · rw [if0, N_0, if_neg (Nat.not_lt_zero _)]
      · rw [ab]
        exact h.1
      · rw [ab]
        exact h.2
    · rw [if_neg c2, if0]
      obtain ⟨u, e5, e6⟩ := upX_t (F := F) (sh := sh) (n := n) (z := z) al bh
      rw [cal_t e5]
      by_cases c3 : u = 0
      · rw [if_pos c3]
        unfold fn_X10_multiply_B103
        rw [lt_t]
        exact mulC (F := F) (sh := sh) (n := n) (w := w) (z := z) al bl al bh ab 0 (Or.inl ⟨rfl, e6.symm.trans (N_eq0.mp c3)⟩)
      · rw [if_neg c3]
        unfold fn_X10_multiply_B98 fn_X10_multiply_B103
        rw [lt_t]
        exact mulC (F := F) (sh := sh) (n := n) (w := w) (z := z) al bl al bh ab 1 (Or.inr ⟨rfl, by rw [ab]; exact ar3 (fun e => c3 (N_eq0.mpr (e6.trans e)))⟩)
  · rw [if_neg c1]
    have key : ∀ p : Int32, (p = 0 ∧ bh = 0) ∨ (p = 1 ∧ bh ≠ 0) → ∃ h l b, fn_X10_multiply_B20 F sh n w bh bl z p = some (wz z w h l b, ()) ∧ ((b = 0 ∧ V2 ah al * V2 bh bl < 2 ^ 128 ∧ V2 h l = V2 ah al * V2 bh bl) ∨ (b = 1 ∧ ¬ V2 ah al * V2 bh bl < 2 ^ 128)) := by
      intro p hp
      unfold fn_X10_multiply_B20
      rw [ea, el, lt_t, lt_t, if_neg c1]
      rcases hp with ⟨hp, hb⟩ | ⟨hp, hb⟩
      · subst hp
        have z2 : N bh = 0 := N_eq0.mp hb
        rw [z2, Nat.mul_zero, Nat.mul_zero, Nat.zero_mul, Nat.zero_add, Nat.add_zero] at ab
        rw [if0]
        obtain ⟨u, e5, e6⟩ := upX_t (F := F) (sh := sh) (n := n) (z := z) ah bl
        rw [cal_t e5]
        by_cases c3 : u = 0
        · rw [if_pos c3]
          unfold fn_X10_multiply_B65
          rw [lt_t]
          exact mulC (F := F) (sh := sh) (n := n) (w := w) (z := z) al bl ah bl ab 0 (Or.inl ⟨rfl, e6.symm.trans (N_eq0.mp c3)⟩)
        · rw [if_neg c3]
          unfold fn_X10_multiply_B60 fn_X10_multiply_B65
          rw [lt_t]
          exact mulC (F := F) (sh := sh) (n := n) (w := w) (z := z) al bl ah bl ab 1 (Or.inr ⟨rfl, by rw [ab]; exact ar3 (fun e => c3 (N_eq0.mpr (e6.trans e)))⟩)
      · subst hp
        have hge : 1 ≤ N ah * N bh := Nat.mul_pos (Nat.pos_of_ne_zero (fun e => c1 (N_eq0.mpr e))) (Nat.pos_of_ne_zero (fun e => hb (N_eq0.mpr e)))
        rw [if1]
        unfold fn_X10_multiply_B60 fn_X10_multiply_B65
        rw [lt_t]
        obtain ⟨r, e1, e2⟩ := mulF (F := F) (sh := sh) (n := n) (w := w) (z := z) al bl 1 (ah * bl)
        exact ⟨_, _, _, e2, Or.inr ⟨if1, by rw [ab]; exact ar4 hge⟩⟩
    by_cases c2 : bh = 0
    · rw [if_pos c2]
      exact key 0 (Or.inl ⟨rfl, c2⟩)
    · rw [if_neg c2]
      exact key 1 (Or.inr ⟨rfl, c2⟩)
