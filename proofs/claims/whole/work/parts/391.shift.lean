/-! shifts by any number below 64 -/
theorem ush_n : ∀ k, k < 64 → (((nI k).toInt64.toUInt64 &&& Int64.toUInt64 63).toBitVec % 64).toNat = k := by
  have h : (List.range 64).all (fun k => (((nI k).toInt64.toUInt64 &&& Int64.toUInt64 63).toBitVec % 64).toNat == k) = true := by decide +kernel
  intro k hk
  exact eq_of_beq (List.all_eq_true.mp h k (List.mem_range.mpr hk))
theorem N_ushK {x : Int64} {k : Nat} (hk : k < 64) : N ((x.toUInt64 >>> ((nI k).toInt64.toUInt64 &&& Int64.toUInt64 63)).toInt64) = N x / 2 ^ k := by
  apply N_ushr
  show x.toBitVec >>> (((nI k).toInt64.toUInt64 &&& Int64.toUInt64 63).toBitVec % 64).toNat = _
  rw [ush_n k hk]
theorem N_shlK {x : Int64} {k : Nat} (hk : k < 64) : N (x <<< ((nI k).toInt64 &&& 63)) = N x * 2 ^ k % 2 ^ 64 := by
  apply N_shl
  rw [Int64.toBitVec_shiftLeft]
  show x.toBitVec <<< (((nI k).toInt64 &&& 63).toBitVec.smod 64).toNat = _
  rw [shk_n k hk]
theorem pq {k : Nat} (hk : k ≤ 64) : 2 ^ k * 2 ^ (64 - k) = 2 ^ 64 := by rw [← Nat.pow_add]; congr 1; omega
theorem mul_cut {x P Q : Nat} (hPQ : P * Q = 2 ^ 64) : x * P % 2 ^ 64 = P * (x % Q) := by
  rw [← hPQ, Nat.mul_comm x P, Nat.mul_mod_mul_left]
theorem V2_up {h l : Int64} {k : Nat} (h0 : 0 < k) (hk : k < 64) : V2 ((h <<< ((nI k).toInt64 &&& 63)) ||| (l.toUInt64 >>> ((nI (64 - k)).toInt64.toUInt64 &&& Int64.toUInt64 63)).toInt64) (l <<< ((nI k).toInt64 &&& 63)) = V2 h l * 2 ^ k % 2 ^ 128 := by
  have hPQ := pq (k := k) (by omega)
  have a1 := N_lt h
  have a2 := N_lt l
  have hP : 0 < 2 ^ k := Nat.two_pow_pos _
  have hQ : 0 < 2 ^ (64 - k) := Nat.two_pow_pos _
  have hc : N l / 2 ^ (64 - k) < 2 ^ k := (Nat.div_lt_iff_lt_mul hQ).mpr (by rw [hPQ]; exact a2)
  unfold V2
  rw [N_or, N_shlK hk, N_shlK hk, N_ushK (by omega), mul_cut hPQ, mul_cut hPQ, ← Nat.two_pow_add_eq_or_of_lt hc]
  have eh := Nat.div_add_mod (N h) (2 ^ (64 - k))
  have el := Nat.div_add_mod (N l) (2 ^ (64 - k))
  have hb := Nat.mod_lt (N h) hQ
  have hd := Nat.mod_lt (N l) hQ
  generalize N h / 2 ^ (64 - k) = a at *
  generalize N h % 2 ^ (64 - k) = b at *
  generalize N l / 2 ^ (64 - k) = c at *
  generalize N l % 2 ^ (64 - k) = d at *
  rw [← eh, ← el]
  generalize 2 ^ (64 - k) = Q at *
  generalize 2 ^ k = P at *
  have e1 : ((Q * a + b) * 2 ^ 64 + (Q * c + d)) * P = a * 2 ^ 128 + (P * b * 2 ^ 64 + c * 2 ^ 64 + P * d) := by
    have x1 : Q * a * 2 ^ 64 * P = a * 2 ^ 128 := by
      rw [Nat.mul_comm (Q * a * 2 ^ 64) P, ← Nat.mul_assoc, ← Nat.mul_assoc, hPQ, Nat.mul_comm (2 ^ 64) a, Nat.mul_assoc]
    have x2 : b * 2 ^ 64 * P = P * b * 2 ^ 64 := by rw [Nat.mul_comm (b * 2 ^ 64) P, ← Nat.mul_assoc]
    have x3 : Q * c * P = c * 2 ^ 64 := by rw [Nat.mul_comm (Q * c) P, ← Nat.mul_assoc, hPQ, Nat.mul_comm]
    have x4 : d * P = P * d := Nat.mul_comm d P
    rw [Nat.add_mul, Nat.add_mul, Nat.add_mul, Nat.add_mul, x1, x2, x3, x4]
    omega
  have l1 : P * (b + 1) ≤ P * Q := Nat.mul_le_mul_left P hb
  have l2 : P * (d + 1) ≤ P * Q := Nat.mul_le_mul_left P hd
  rw [Nat.mul_add, hPQ] at l1 l2
  rw [e1]
  generalize P * b = pb1 at *
  generalize P * d = pd at *
  omega
