/-! four digits as a long; the result; sums -/
theorem or4 {d0 d1 d2 d3 : Nat} (h0 : d0 < 65536) (h1 : d1 < 65536) (h2 : d2 < 65536) (h3 : d3 < 65536) : N ((((lN d3 <<< ((48 : Int32).toInt64 &&& 63)) ||| (lN d2 <<< ((32 : Int32).toInt64 &&& 63))) ||| (lN d1 <<< ((16 : Int32).toInt64 &&& 63))) ||| lN d0) = d3 * 2 ^ 48 + d2 * 2 ^ 32 + d1 * 2 ^ 16 + d0 := by
  have e3 : N (lN d3 <<< ((48 : Int32).toInt64 &&& 63)) = 2 ^ 48 * d3 := by
    rw [N_shl 48 (by rw [Int64.toBitVec_shiftLeft]; rfl)]
    show (lN d3).toBitVec.toNat * 2 ^ 48 % 2 ^ 64 = _
    rw [lN_nat (by omega)]
    omega
  have e2 : N (lN d2 <<< ((32 : Int32).toInt64 &&& 63)) = 2 ^ 32 * d2 := by
    rw [N_shl 32 (by rw [Int64.toBitVec_shiftLeft]; rfl)]
    show (lN d2).toBitVec.toNat * 2 ^ 32 % 2 ^ 64 = _
    rw [lN_nat (by omega)]
    omega
  have e1 : N (lN d1 <<< ((16 : Int32).toInt64 &&& 63)) = 2 ^ 16 * d1 := by
    rw [N_shl 16 (by rw [Int64.toBitVec_shiftLeft]; rfl)]
    show (lN d1).toBitVec.toNat * 2 ^ 16 % 2 ^ 64 = _
    rw [lN_nat (by omega)]
    omega
  have e0 : N (lN d0) = d0 := lN_nat (by omega)
  have eo : ∀ x y : Int64, N (x ||| y) = N x ||| N y := fun x y => by
    unfold N
    rw [Int64.toBitVec_or, BitVec.toNat_or]
  rw [eo, eo, eo, e3, e2, e1, e0, Nat.or_assoc, Nat.or_assoc, ← Nat.two_pow_add_eq_or_of_lt (i := 16) (by omega) d1, ← Nat.two_pow_add_eq_or_of_lt (i := 32) (by omega) d2, ← Nat.two_pow_add_eq_or_of_lt (i := 48) (by omega) d3]
  omega
theorem four_w {F : Nat} {sh : Nat → Nat × Nat} {n k len x : Nat} {z : St} {X : Nat} (h0 : k < n) (h1 : sh k = (101, len)) (hl : x + 4 ≤ len) (hl2 : len < 2 ^ 31) (hX : ∀ i, i < 4 → z.1 k (x + i) = nI (dg X (x + i))) : ∃ v, fn_X17_four F sh n z k (nI x) = some (z, v) ∧ N v = X / 2 ^ (16 * x) % 2 ^ 64 := by
  have c : ∀ i, i < 4 → okA sh n k 101 (nI (x + i)) = true := fun i hi => okA_nI h0 h1 (by omega) hl2
  have g0 : z.1 k x = nI (dg X x) := hX 0 (by decide)
  have A0 : okA sh n k 101 (nI x) = true := c 0 (by decide)
  unfold fn_X17_four
  rw [show nI x + 3 = nI (x + 3) from nI_add x 3, show nI x + 2 = nI (x + 2) from nI_add x 2, show nI x + 1 = nI (x + 1) from nI_add x 1, grd_t (c 3 (by decide)), grd_t (c 2 (by decide)), grd_t (c 1 (by decide)), grd_t A0, nI_clamp (show x + 3 < 2 ^ 31 by omega), nI_clamp (show x + 2 < 2 ^ 31 by omega), nI_clamp (show x + 1 < 2 ^ 31 by omega), nI_clamp (show x < 2 ^ 31 by omega), hX 3 (by decide), hX 2 (by decide), hX 1 (by decide), g0]
  have l0 := dg_lt X x
  have l1 := dg_lt X (x + 1)
  have l2 := dg_lt X (x + 2)
  have l3 := dg_lt X (x + 3)
  rw [nI_l (by omega), nI_l (by omega), nI_l (by omega), nI_l (by omega)]
  refine ⟨_, rfl, ?_⟩
  rw [or4 l0 l1 l2 l3]
  unfold dg
  have p1 : 2 ^ (16 * (x + 1)) = 2 ^ (16 * x) * 2 ^ 16 := by rw [← Nat.pow_add]; congr 1
  have p2 : 2 ^ (16 * (x + 2)) = 2 ^ (16 * x) * 2 ^ 32 := by rw [← Nat.pow_add]; congr 1
  have p3 : 2 ^ (16 * (x + 3)) = 2 ^ (16 * x) * 2 ^ 48 := by rw [← Nat.pow_add]; congr 1
  rw [p1, p2, p3, ← Nat.div_div_eq_div_mul, ← Nat.div_div_eq_div_mul, ← Nat.div_div_eq_div_mul]
  generalize X / 2 ^ (16 * x) = Y
  omega
theorem dg_end {X : Nat} : ∀ (m j : Nat), m + j = 32 → X < 2 ^ 512 → (∀ i, j ≤ i → i < 32 → dg X i = 0) → X < 2 ^ (16 * j) := by
  intro m
  induction m with
  | zero => intro j hj hX _; rw [show j = 32 by omega]; exact hX
  | succ m ih =>
    intro j hj hX hd
    have h := ih (j + 1) (by omega) hX (fun i a b => hd i (by omega) b)
    have h0 := hd j (Nat.le_refl j) (by omega)
    have hP : 0 < 2 ^ (16 * j) := Nat.two_pow_pos _
    have e1 : 2 ^ (16 * (j + 1)) = 2 ^ (16 * j) * 2 ^ 16 := by rw [← Nat.pow_add]; congr 1
    have h1 : X / 2 ^ (16 * j) < 2 ^ 16 := (Nat.div_lt_iff_lt_mul hP).mpr (by rw [Nat.mul_comm, ← e1]; exact h)
    unfold dg at h0
    rw [Nat.mod_eq_of_lt h1] at h0
    rcases Nat.lt_or_ge X (2 ^ (16 * j)) with q | q
    · exact q
    · exact absurd h0 (Nat.ne_of_gt (Nat.div_pos q hP))
theorem res_n {F : Nat} {sh : Nat → Nat × Nat} {n w ka kb kr X : Nat} {z : St} {bits : Int32} (W : WM sh n z.2.2 w ka kb kr) (hX : X < 2 ^ 512) (hr : ∀ i, i < 32 → z.1 kr i = nI (dg X i)) : ∀ (m j f : Nat), m + j = 32 → 8 ≤ j → (∀ i, 8 ≤ i → i < j → dg X i = 0) → ∃ z' r, fn_X17_result_L3 F sh n w bits (f + m + 1) z (nI j) = some (z', r) ∧ z'.1 = z.1 ∧ z'.2.2 = z.2.2 ∧ (∀ k, k ≠ w → z'.2.1 k = z.2.1 k) ∧ ((r = 1 ∧ X < 2 ^ bb2 bits ∧ V2 (z'.2.1 w 3) (z'.2.1 w 4) = X) ∨ (r = 0 ∧ ¬ X < 2 ^ bb2 bits)) := by
  obtain ⟨d1, d2, d3, d4, d5, d6, d7, d8, d9, d10, d11, d12⟩ := W
  have hbits : 2 ^ bb2 bits ≤ 2 ^ 128 := Nat.pow_le_pow_right (by decide) (by unfold bb2; split <;> (try split) <;> decide)
  intro m
  induction m with
  | zero =>
    intro j f hj h8 hd
    have e : j = 32 := by omega
    subst e
    have hlt : X < 2 ^ 128 := dg_end 24 8 rfl hX (fun i a b => hd i a b)
    obtain ⟨v1, f1, n1⟩ := four_w (F := F) (z := z) (X := X) (x := 4) d7 d8 (by decide) (by decide) (fun i hi => hr (4 + i) (by omega))
    obtain ⟨v0, f0, n0⟩ := four_w (F := F) (z := sl z w 3 v1) (X := X) (x := 0) d7 d8 (by decide) (by decide) (fun i hi => hr (0 + i) (by omega))
    rw [fn_X17_result_L3, if_pos (by decide), grd_t (okO_of d1 d2), lnk_t d11, cal_t (show fn_X17_four F sh n z kr 4 = some (z, v1) from f1), lt_t, lnk_t (show (sl z w 3 v1).2.2 w 2 = some kr from d11), cal_t (show fn_X17_four F sh n (sl z w 3 v1) kr 0 = some (sl z w 3 v1, v0) from f0), lt_t, cal_t (isOf_t _ _ bits)]
    have q3 : (sl (sl z w 3 v1) w 4 v0).2.1 w 3 = v1 := by simp [sl]
    have q4 : (sl (sl z w 3 v1) w 4 v0).2.1 w 4 = v0 := by simp [sl]
    have hV : V2 v1 v0 = X := by
      unfold V2
      rw [n1, n0]
      omega
    rw [q3, q4, hV]
    by_cases c : X < 2 ^ bb2 bits
    · rw [if_pos c, grd_t (by decide)]
      refine ⟨_, _, rfl, rfl, rfl, ?_, Or.inl ⟨rfl, c, ?_⟩⟩
      · intro k hk
        funext i
        simp [sl, hk]
      · rw [q3, q4]
        exact hV
    · rw [if_neg c, grd_t (by decide)]
      refine ⟨_, _, rfl, rfl, rfl, ?_, Or.inr ⟨rfl, c⟩⟩
      intro k hk
      funext i
      simp [sl, hk]
  | succ m ih =>
    intro j f hj h8 hd
    have hc : ¬ (32 : Int32) ≤ nI j := nI_ge (a := j) (b := 32) (by omega) (by decide)
    have hg := dg_lt X j
    rw [show f + (m + 1) + 1 = (f + m + 1) + 1 by omega, fn_X17_result_L3, if_neg hc, grd_t (okO_of d1 d2), lnk_t d11, grd_t (okA_nI d7 d8 (show j < 33 by omega) (by decide)), nI_clamp (by omega), hr j (by omega), show nI j + 1 = nI (j + 1) from nI_1 j]
    by_cases c : dg X j = 0
    · rw [c, if_pos (show nI 0 = 0 from rfl)]
      exact ih (j + 1) f (by omega) (by omega) (fun i a b => by
        by_cases e : i = j
        · rw [e]; exact c
        · exact hd i a (by omega))
    · rw [if_neg (nI_ne0 (by omega) (by omega))]
      refine ⟨z, 0, rfl, rfl, rfl, fun _ _ => rfl, Or.inr ⟨rfl, fun q => c ?_⟩⟩
      have h128 : X < 2 ^ 128 := by omega
      unfold dg
      have hp : 2 ^ 128 ≤ 2 ^ (16 * j) := Nat.pow_le_pow_right (by decide) (by omega)
      rw [Nat.div_eq_of_lt (by omega)]
