theorem V2_dn {h l : Int64} {k : Nat} (h0 : 0 < k) (hk : k < 64) : V2 ((h.toUInt64 >>> ((nI k).toInt64.toUInt64 &&& Int64.toUInt64 63)).toInt64) ((l.toUInt64 >>> ((nI k).toInt64.toUInt64 &&& Int64.toUInt64 63)).toInt64 ||| (h <<< ((nI (64 - k)).toInt64 &&& 63))) = V2 h l / 2 ^ k := by
  have hPQ := pq (k := k) (by omega)
  have hQP : 2 ^ (64 - k) * 2 ^ k = 2 ^ 64 := by rw [Nat.mul_comm]; exact hPQ
  have a1 := N_lt h
  have a2 := N_lt l
  have hP : 0 < 2 ^ k := Nat.two_pow_pos _
  have hc : N l / 2 ^ k < 2 ^ (64 - k) := (Nat.div_lt_iff_lt_mul hP).mpr (by rw [hQP]; exact a2)
  unfold V2
  rw [N_or, N_shlK (by omega), N_ushK hk, N_ushK hk, mul_cut hQP, Nat.or_comm, ← Nat.two_pow_add_eq_or_of_lt hc]
  have eh := Nat.div_add_mod (N h) (2 ^ k)
  have e : N h * 2 ^ 64 + N l = N l + 2 ^ k * (N h * 2 ^ (64 - k)) := by
    rw [← hPQ, Nat.mul_left_comm]
    omega
  rw [e, Nat.add_mul_div_left _ _ hP]
  have e2 : N h * 2 ^ (64 - k) = N h / 2 ^ k * 2 ^ 64 + 2 ^ (64 - k) * (N h % 2 ^ k) := by
    conv => lhs; rw [← eh]
    rw [Nat.add_mul, Nat.mul_comm (2 ^ k), Nat.mul_assoc, hPQ, Nat.mul_comm (N h % 2 ^ k)]
  rw [e2]
  generalize N h / 2 ^ k = a
  generalize 2 ^ (64 - k) * (N h % 2 ^ k) = y
  generalize N l / 2 ^ k = x
  clear e2 e eh hc a2 a1 hQP hPQ hP h0 hk
  omega
theorem V2_up64 {h l : Int64} {j : Nat} (hj : j < 64) : V2 (l <<< ((nI j).toInt64 &&& 63)) 0 = V2 h l * 2 ^ (64 + j) % 2 ^ 128 := by
  unfold V2
  rw [N_shlK hj, N_0, Nat.pow_add]
  have e : (N h * 2 ^ 64 + N l) * (2 ^ 64 * 2 ^ j) = (N h * 2 ^ j) * 2 ^ 128 + (N l * 2 ^ j) * 2 ^ 64 := by
    rw [Nat.add_mul]
    congr 1
    · rw [show (2 : Nat) ^ 128 = 2 ^ 64 * 2 ^ 64 from rfl, Nat.mul_assoc, Nat.mul_assoc, Nat.mul_left_comm (2 ^ j), Nat.mul_comm (2 ^ j)]
    · rw [Nat.mul_comm (2 ^ 64), ← Nat.mul_assoc]
  rw [e]
  generalize N l * 2 ^ j = x
  generalize N h * 2 ^ j = y
  omega
theorem V2_dn64 {h l : Int64} {j : Nat} (hj : j < 64) : V2 0 ((h.toUInt64 >>> ((nI j).toInt64.toUInt64 &&& Int64.toUInt64 63)).toInt64) = V2 h l / 2 ^ (64 + j) := by
  have a := N_lt l
  unfold V2
  rw [N_ushK hj, N_0, Nat.pow_add, ← Nat.div_div_eq_div_mul, show (N h * 2 ^ 64 + N l) / 2 ^ 64 = N h by omega, Nat.zero_mul, Nat.zero_add]
theorem sl_id {z : St} {w : Nat} : sl (sl z w 0 (z.2.1 w 0)) w 1 (z.2.1 w 1) = z := by
  have e : sl (sl z w 0 (z.2.1 w 0)) w 1 (z.2.1 w 1) = srl z w (z.2.1 w) := by
    simp only [sl_srl, srl_s, srl_srl]
    congr 1
    funext j
    by_cases h1 : j = 1
    · rw [if_pos h1, h1]
    · rw [if_neg h1]
      by_cases h0 : j = 0
      · rw [if_pos h0, h0]
      · rw [if_neg h0]
  rw [e, srl_id]
theorem upX {F : Nat} {sh : Nat → Nat × Nat} {n w k : Nat} {z : St} (h0 : w < n) (h1 : (sh w).1 = 10) (hk : k < 128) : ∃ h l, fn_X10_shiftUp F sh n z w (nI k) = some (sl (sl z w 0 h) w 1 l, ()) ∧ V2 h l = V2 (z.2.1 w 0) (z.2.1 w 1) * 2 ^ k % 2 ^ 128 := by
  have e9 : ∀ v : Int64, (sl z w 0 v).2.1 w 1 = z.2.1 w 1 := fun v => by simp [sl]
  have hv := V2_lt (z.2.1 w 0) (z.2.1 w 1)
  unfold fn_X10_shiftUp
  by_cases c : k < 64
  · rw [if_pos (show nI k < 64 from nI_lt (b := 64) c (by decide))]
    by_cases c0 : k = 0
    · subst c0
      rw [if_pos (by decide)]
      refine ⟨_, _, by rw [sl_id], ?_⟩
      rw [Nat.pow_zero, Nat.mul_one, Nat.mod_eq_of_lt hv]
    · rw [if_neg (show ¬ nI k ≤ 0 from nI_ge (a := 0) (by omega) (by omega)), grd_t (okO_of h0 h1), lt_t, lt_t, e9, show (64 : Int32) - nI k = nI (64 - k) from pk_sub (a := 64) (b := k) (by omega)]
      exact ⟨_, _, rfl, V2_up (by omega) c⟩
  · rw [if_neg (show ¬ nI k < 64 from nI_nlt (b := 64) (by omega) (by omega)), grd_t (okO_of h0 h1), lt_t, lt_t, show nI k - 64 = nI (k - 64) from pk_sub (a := k) (b := 64) (by omega)]
    refine ⟨_, _, rfl, ?_⟩
    rw [V2_up64 (h := z.2.1 w 0) (by omega), show 64 + (k - 64) = k by omega]
theorem dnX {F : Nat} {sh : Nat → Nat × Nat} {n w k : Nat} {z : St} (h0 : w < n) (h1 : (sh w).1 = 10) (hk : k < 128) : ∃ h l, fn_X10_shiftDown F sh n z w (nI k) = some (sl (sl z w 0 h) w 1 l, ()) ∧ V2 h l = V2 (z.2.1 w 0) (z.2.1 w 1) / 2 ^ k := by
  have e9 : ∀ v : Int64, (sl z w 1 v).2.1 w 0 = z.2.1 w 0 := fun v => by simp [sl]
  unfold fn_X10_shiftDown
  by_cases c : k < 64
  · rw [if_pos (show nI k < 64 from nI_lt (b := 64) c (by decide))]
    by_cases c0 : k = 0
    · subst c0
      rw [if_pos (by decide)]
      refine ⟨_, _, by rw [sl_id], ?_⟩
      rw [Nat.pow_zero, Nat.div_one]
    · rw [if_neg (show ¬ nI k ≤ 0 from nI_ge (a := 0) (by omega) (by omega)), grd_t (okO_of h0 h1), lt_t, lt_t, e9, show (64 : Int32) - nI k = nI (64 - k) from pk_sub (a := 64) (b := k) (by omega), sl_comm (by decide)]
      exact ⟨_, _, rfl, V2_dn (by omega) c⟩
  · rw [if_neg (show ¬ nI k < 64 from nI_nlt (b := 64) (by omega) (by omega)), grd_t (okO_of h0 h1), lt_t, lt_t, show nI k - 64 = nI (k - 64) from pk_sub (a := k) (b := 64) (by omega), sl_comm (by decide)]
    refine ⟨_, _, rfl, ?_⟩
    rw [V2_dn64 (l := z.2.1 w 1) (by omega), show 64 + (k - 64) = k by omega]
