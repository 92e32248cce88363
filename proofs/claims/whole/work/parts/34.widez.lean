/-! long division, bit by bit -/
def dvs (A B : Nat) : Nat → Nat × Nat
  | 0 => (0, 0)
  | i + 1 => if 2 * (dvs A B i).2 + A / 2 ^ (127 - i) % 2 < B then (2 * (dvs A B i).1, 2 * (dvs A B i).2 + A / 2 ^ (127 - i) % 2) else (2 * (dvs A B i).1 + 1, 2 * (dvs A B i).2 + A / 2 ^ (127 - i) % 2 - B)
theorem dvs_ok {A B : Nat} (hA : A < 2 ^ 128) (hB : 0 < B) : ∀ i, i ≤ 128 → A / 2 ^ (128 - i) = (dvs A B i).1 * B + (dvs A B i).2 ∧ (dvs A B i).2 < B ∧ (dvs A B i).1 < 2 ^ i := by
  intro i
  induction i with
  | zero =>
    intro _
    refine ⟨?_, hB, Nat.one_pos⟩
    show A / 2 ^ 128 = 0 * B + 0
    rw [Nat.div_eq_of_lt hA, Nat.zero_mul]
  | succ i ih =>
    intro hi
    obtain ⟨h1, h2, h3⟩ := ih (by omega)
    have e0 : 128 - i = (127 - i) + 1 := by omega
    have e1 : A / 2 ^ (127 - i) / 2 = (dvs A B i).1 * B + (dvs A B i).2 := by
      rw [Nat.div_div_eq_div_mul, ← Nat.pow_succ, show (127 - i).succ = 128 - i from e0.symm]
      exact h1
    have e2 : 128 - (i + 1) = 127 - i := by omega
    have e3 : 2 ^ (i + 1) = 2 * 2 ^ i := by rw [Nat.pow_succ, Nat.mul_comm]
    rw [e2, e3]
    have e4 : A / 2 ^ (127 - i) = 2 * (A / 2 ^ (127 - i) / 2) + A / 2 ^ (127 - i) % 2 := by omega
    rw [e1] at e4
    have hb : A / 2 ^ (127 - i) % 2 < 2 := Nat.mod_lt _ (by decide)
    rw [dvs]
    generalize A / 2 ^ (127 - i) % 2 = bit at *
    generalize (dvs A B i).1 = Q at *
    generalize (dvs A B i).2 = R at *
    by_cases c : 2 * R + bit < B
    · rw [if_pos c, e4]
      refine ⟨?_, c, by omega⟩
      show 2 * (Q * B + R) + bit = 2 * Q * B + (2 * R + bit)
      rw [Nat.mul_add, Nat.mul_assoc]
      omega
    · rw [if_neg c, e4]
      refine ⟨?_, ?_, ?_⟩
      · show 2 * (Q * B + R) + bit = (2 * Q + 1) * B + (2 * R + bit - B)
        rw [Nat.mul_add, Nat.add_mul, Nat.mul_assoc, Nat.one_mul]
        omega
      · show 2 * R + bit - B < B
        omega
      · show 2 * Q + 1 < 2 * 2 ^ i
        omega
theorem dvs_end {A B : Nat} (hA : A < 2 ^ 128) (hB : 0 < B) : (dvs A B 128).1 = A / B ∧ (dvs A B 128).2 = A % B := by
  obtain ⟨h1, h2, -⟩ := dvs_ok hA hB 128 (Nat.le_refl _)
  rw [show 128 - 128 = 0 from rfl, Nat.pow_zero, Nat.div_one] at h1
  have e : A / B = (dvs A B 128).1 := by
    conv => lhs; rw [h1]
    rw [Nat.add_comm, Nat.add_mul_div_right _ _ hB, Nat.div_eq_of_lt h2, Nat.zero_add]
  have e2 : A % B = (dvs A B 128).2 := by
    conv => lhs; rw [h1]
    rw [Nat.add_comm, Nat.add_mul_mod_self_right, Nat.mod_eq_of_lt h2]
  exact ⟨e.symm, e2.symm⟩
theorem N_or (x y : Int64) : N (x ||| y) = N x ||| N y := by
  unfold N
  rw [Int64.toBitVec_or, BitVec.toNat_or]
theorem N_shl1 (x : Int64) : N (x <<< ((1 : Int32).toInt64 &&& 63)) = 2 * (N x % 2 ^ 63) := by
  rw [N_shl 1 (by rw [Int64.toBitVec_shiftLeft]; rfl)]
  omega
theorem N_top (x : Int64) : N ((x.toUInt64 >>> ((63 : Int32).toInt64.toUInt64 &&& Int64.toUInt64 63)).toInt64) = N x / 2 ^ 63 := N_ushr 63 (by rfl)
theorem N_in1 {x b : Int64} (hb : N b < 2) : N ((x <<< ((1 : Int32).toInt64 &&& 63)) ||| b) = 2 * (N x % 2 ^ 63) + N b := by
  rw [N_or, N_shl1]
  exact (Nat.two_pow_add_eq_or_of_lt (i := 1) hb (N x % 2 ^ 63)).symm
/-- both halves moved up by one, a bit let in -/
theorem V2_shl {h l b : Int64} (hb : N b < 2) : V2 ((h <<< ((1 : Int32).toInt64 &&& 63)) ||| (l.toUInt64 >>> ((63 : Int32).toInt64.toUInt64 &&& Int64.toUInt64 63)).toInt64) ((l <<< ((1 : Int32).toInt64 &&& 63)) ||| b) = (2 * V2 h l + N b) % 2 ^ 128 := by
  have a1 := N_lt h
  have a2 := N_lt l
  unfold V2
  rw [N_in1 (by rw [N_top]; omega), N_in1 hb, N_top]
  omega
theorem V2_shl0 {h l : Int64} : V2 ((h <<< ((1 : Int32).toInt64 &&& 63)) ||| (l.toUInt64 >>> ((63 : Int32).toInt64.toUInt64 &&& Int64.toUInt64 63)).toInt64) (l <<< ((1 : Int32).toInt64 &&& 63)) = (2 * V2 h l) % 2 ^ 128 := by
  have a1 := N_lt h
  have a2 := N_lt l
  unfold V2
  rw [N_in1 (by rw [N_top]; omega), N_shl1, N_top]
  omega
theorem neg_top {x : Int64} : (0 : Int64) ≤ x ↔ N x < 2 ^ 63 := by
  have h := N_lt x
  rw [Int64.le_iff_toInt_le, top_toInt h]
  show (0 : Int) ≤ _ ↔ _
  by_cases c : N x < 2 ^ 63
  · rw [if_pos c]; omega
  · rw [if_neg c]; omega
theorem V2_sub {h l bh bl c : Int64} (hc : N c = if N l < N bl then 1 else 0) : V2 (h - bh - c) (l - bl) = (2 ^ 128 - V2 bh bl + V2 h l) % 2 ^ 128 := by
  have a1 := N_lt h
  have a2 := N_lt l
  have a3 := N_lt bh
  have a4 := N_lt bl
  have e1 := N_sub l bl
  have e2 := N_sub h bh
  have e3 := N_sub (h - bh) c
  unfold V2
  by_cases q : N l < N bl
  · rw [if_pos q] at hc
    rw [hc] at e3
    omega
  · rw [if_neg q] at hc
    rw [hc] at e3
    omega
