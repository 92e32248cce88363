/-! differences -/
def bw (A B k : Nat) : Nat := if A % 2 ^ (16 * k) < B % 2 ^ (16 * k) then 1 else 0
theorem bw_le (A B k : Nat) : bw A B k ≤ 1 := by
  unfold bw
  split <;> decide
theorem sub_dg {A B : Nat} (h : B ≤ A) (k : Nat) : dg (A - B) k = (65536 + dg A k - dg B k - bw A B k) % 65536 ∧ bw A B (k + 1) = (if dg A k < dg B k + bw A B k then 1 else 0) := by
  have hP : 0 < 2 ^ (16 * k) := Nat.two_pow_pos _
  generalize eP : 2 ^ (16 * k) = P at hP
  have e1 : 2 ^ (16 * (k + 1)) = P * 2 ^ 16 := by rw [← eP, ← Nat.pow_add]; congr 1
  have hA := Nat.mod_lt A hP
  have hB := Nat.mod_lt B hP
  have dA := Nat.div_add_mod A P
  have dB := Nat.div_add_mod B P
  have lA := dg_lt A k
  have lB := dg_lt B k
  have gA : dg A k = A / P % 2 ^ 16 := by unfold dg; rw [eP]
  have gB : dg B k = B / P % 2 ^ 16 := by unfold dg; rw [eP]
  have hb : bw A B k = if A % P < B % P then 1 else 0 := by unfold bw; rw [eP]
  have hge : B / P ≤ A / P := Nat.div_le_div_right h
  have es : (A - B) / P = A / P - B / P - bw A B k := by
    rw [hb]
    by_cases c : A % P < B % P
    · rw [if_pos c]
      have hgt : B / P < A / P := by
        rcases Nat.lt_or_ge (B / P) (A / P) with q | q
        · exact q
        · have : A / P = B / P := by omega
          rw [this] at dA
          omega
      have e : A - B = (A % P + P - B % P) + P * (A / P - B / P - 1) := by
        have h3 : P * (A / P) = P * (B / P) + P * (A / P - B / P - 1) + P := by
          rw [← Nat.mul_add, ← Nat.mul_succ]
          congr 1
          omega
        omega
      rw [e, Nat.add_mul_div_left _ _ hP, Nat.div_eq_of_lt (by omega)]
      omega
    · rw [if_neg c]
      have e : A - B = (A % P - B % P) + P * (A / P - B / P) := by
        have h3 : P * (A / P) = P * (B / P) + P * (A / P - B / P) := by
          rw [← Nat.mul_add]
          congr 1
          omega
        omega
      rw [e, Nat.add_mul_div_left _ _ hP, Nat.div_eq_of_lt (by omega)]
      omega
  have hlt : bw A B k = 1 → B / P < A / P := by
    intro h1
    rw [hb] at h1
    by_cases c : A % P < B % P
    · rcases Nat.lt_or_ge (B / P) (A / P) with q | q
      · exact q
      · have : A / P = B / P := by omega
        rw [this] at dA
        omega
    · rw [if_neg c] at h1
      exact absurd h1 (by decide)
  have hbl := bw_le A B k
  constructor
  · have g : dg (A - B) k = (A - B) / P % 2 ^ 16 := by unfold dg; rw [eP]
    rw [g, es, gA, gB]
    generalize A / P = x at *
    generalize B / P = y at *
    have : bw A B k = 0 ∨ bw A B k = 1 := by omega
    rcases this with q | q
    · rw [q]; omega
    · have := hlt q
      rw [q]; omega
  · have m1 : A % (P * 2 ^ 16) = dg A k * P + A % P := by rw [mod_split, gA]
    have m2 : B % (P * 2 ^ 16) = dg B k * P + B % P := by rw [mod_split, gB]
    have hd : bw A B (k + 1) = if dg A k * P + A % P < dg B k * P + B % P then 1 else 0 := by
      unfold bw
      rw [e1, m1, m2]
    rw [hd]
    generalize dg A k = x at *
    generalize dg B k = y at *
    have key : x * P + A % P < y * P + B % P ↔ x < y + bw A B k := by
      rw [hb]
      rcases Nat.lt_trichotomy x y with q | q | q
      · have h3 : x * P + P ≤ y * P := by
          rw [← Nat.succ_mul]
          exact Nat.mul_le_mul_right P q
        constructor
        · intro _; omega
        · intro _; omega
      · subst q
        by_cases c : A % P < B % P
        · rw [if_pos c]; omega
        · rw [if_neg c]; omega
      · have h3 : y * P + P ≤ x * P := by
          rw [← Nat.succ_mul]
          exact Nat.mul_le_mul_right P q
        constructor
        · intro _; omega
        · intro h4
          by_cases c : A % P < B % P
          · rw [if_pos c] at h4; omega
          · rw [if_neg c] at h4; omega
    by_cases c : x < y + bw A B k
    · rw [if_pos c, if_pos (key.mpr c)]
    · rw [if_neg c, if_neg (fun q => c (key.mp q))]
theorem vsub {x y b : Nat} (hx : x < 65536) (hy : y < 65536) (hb : b ≤ 1) : (nI x - nI y - nI b) &&& 65535 = nI ((65536 + x - y - b) % 65536) ∧ (0 ≤ nI x - nI y - nI b ↔ ¬ x < y + b) := by
  have e : (nI x - nI y - nI b).toBitVec.toNat = (2 ^ 32 + x - y - b) % 2 ^ 32 := by
    rw [Int32.toBitVec_sub, BitVec.toNat_sub, Int32.toBitVec_sub, BitVec.toNat_sub, pk_tn (by omega), pk_tn (by omega), pk_tn (by omega)]
    omega
  constructor
  · rw [pk_and _ 16 (by decide), e]
    congr 1
    omega
  · have e2 : (nI x - nI y - nI b).toInt = (x : Int) - y - b := by
      have e3 : nI x - nI y - nI b = nI x - nI (y + b) := by
        apply b32_nat
        rw [e, Int32.toBitVec_sub, BitVec.toNat_sub, pk_tn (by omega), pk_tn (by omega)]
        omega
      rw [e3, pk_sub_toInt (by omega) (by omega)]
      omega
    rw [Int32.le_iff_toInt_le, e2]
    show (0 : Int) ≤ _ ↔ _
    omega
theorem sub_n {F : Nat} {sh : Nat → Nat × Nat} {n w ka kb kr A B : Nat} {z : St} {bits : Int32} (W : WM sh n z.2.2 w ka kb kr) (hAB : B ≤ A) (ha : ∀ i, i < 16 → z.1 ka i = nI (dg A i)) (hb : ∀ i, i < 16 → z.1 kb i = nI (dg B i)) : ∀ (m j f : Nat) (g : Nat → Int32), m + j = 16 → (∀ i, i < j → g i = nI (dg (A - B) i)) → (∀ i, 16 ≤ i → i < 33 → g i = 0) → ∃ g', (∀ i, i < 16 → g' i = nI (dg (A - B) i)) ∧ (∀ i, 16 ≤ i → i < 33 → g' i = 0) ∧ fn_X17_subtract_L4 F sh n w bits (f + m + 1) (sr z kr g) (nI (bw A B j)) (nI j) = fn_X17_subtract_L4 F sh n w bits (f + 1) (sr z kr g') (nI (bw A B 16)) (nI 16) := by
  obtain ⟨d1, d2, d3, d4, d5, d6, d7, d8, d9, d10, d11, d12, d13, d14⟩ := W
  intro m
  induction m with
  | zero =>
    intro j f g hj hg h0
    have e : j = 16 := by omega
    subst e
    exact ⟨g, hg, h0, rfl⟩
  | succ m ih =>
    intro j f g hj hg h0
    have hc : ¬ (16 : Int32) ≤ nI j := nI_ge (a := j) (b := 16) (by omega) (by decide)
    obtain ⟨s1, s2⟩ := sub_dg hAB j
    have l1 := dg_lt A j
    have l2 := dg_lt B j
    obtain ⟨v1, v2⟩ := vsub l1 l2 (bw_le A B j)
    obtain ⟨g', k1, k2, k3⟩ := ih (j + 1) f (fun i => if i = j then nI (dg (A - B) j) else g i) (by omega) (fun i hi => by
      by_cases e : i = j
      · subst e; rw [if_pos rfl]
      · rw [if_neg e]; exact hg i (by omega)) (fun i a b => by
      rw [if_neg (by omega)]; exact h0 i a b)
    refine ⟨g', k1, k2, ?_⟩
    have ra : (sr z kr g).1 ka j = nI (dg A j) := by rw [sr_o d13]; exact ha j (by omega)
    have rb : (sr z kr g).1 kb j = nI (dg B j) := by rw [sr_o d14]; exact hb j (by omega)
    rw [show f + (m + 1) + 1 = (f + m + 1) + 1 by omega, fn_X17_subtract_L4, if_neg hc, grd_t (okO_of d1 d2), lnk_t (show (sr z kr g).2.2 w 0 = some ka from d9), grd_t (okA_nI d3 d4 (show j < 16 by omega) (by decide)), lnk_t (show (sr z kr g).2.2 w 1 = some kb from d10), grd_t (okA_nI d5 d6 (show j < 16 by omega) (by decide)), lt_t, nI_clamp (by omega), ra, rb, lnk_t (show (sr z kr g).2.2 w 2 = some kr from d11), grd_t (okA_nI d7 d8 (show j < 33 by omega) (by decide)), lt_t, si_k, v1, ← s1]
    rw [s2] at k3
    unfold fn_X17_subtract_B48
    rw [show nI j + 1 = nI (j + 1) from nI_1 j]
    by_cases c : dg A j < dg B j + bw A B j
    · rw [if_neg (fun q => (v2.mp q) c)]
      rw [if_pos c] at k3
      exact k3
    · rw [if_pos (v2.mpr c)]
      rw [if_neg c] at k3
      exact k3
theorem subM_t {F : Nat} {sh : Nat → Nat × Nat} {n w ka kb kr A B : Nat} {z : St} {bits : Int32} (W : WM sh n z.2.2 w ka kb kr) (hF : 64 < F) (hA : A < 2 ^ 128) (hAB : B ≤ A) (ha : ∀ i, i < 16 → z.1 ka i = nI (dg A i)) (hb : ∀ i, i < 16 → z.1 kb i = nI (dg B i)) (hr : ∀ i, i < 33 → z.1 kr i = 0) : ∃ z' r, fn_X17_subtract F sh n z w bits = some (z', r) ∧ (∀ k, k ≠ kr → z'.1 k = z.1 k) ∧ z'.2.2 = z.2.2 ∧ (∀ k, k ≠ w → z'.2.1 k = z.2.1 k) ∧ ((r = 1 ∧ A - B < 2 ^ bb2 bits ∧ V2 (z'.2.1 w 3) (z'.2.1 w 4) = A - B) ∨ (r = 0 ∧ ¬ A - B < 2 ^ bb2 bits)) := by
  obtain ⟨g', k1, k2, k3⟩ := sub_n (F := F) (bits := bits) W hAB ha hb 16 0 (F - 17) (z.1 kr) rfl (fun i hi => absurd hi (by omega)) (fun i a b => hr i b)
  rw [show F - 17 + 16 + 1 = F by omega, sr_id] at k3
  have hX : A - B < 2 ^ 512 := by
    have h : (2 : Nat) ^ 128 ≤ 2 ^ 512 := Nat.pow_le_pow_right (by decide) (by decide)
    omega
  obtain ⟨z', r, e1, e2, e3, e4, e5⟩ := res_n (F := F) (bits := bits) (z := sr z kr g') W hX (fun i hi => by
    rw [sr_s]
    by_cases c : i < 16
    · exact k1 i c
    · rw [k2 i (by omega) (by omega), dg_0' (by
        have h : (2 : Nat) ^ 128 ≤ 2 ^ (16 * i) := Nat.pow_le_pow_right (by decide) (by omega)
        omega)]
      rfl) 24 8 (F - 25) rfl (by decide) (fun i a b => absurd a (by omega))
  rw [show F - 25 + 24 + 1 = F by omega] at e1
  refine ⟨z', r, ?_, fun k hk => by rw [e2, sr_o hk], e3, fun k hk => (e4 k hk).trans rfl, e5⟩
  unfold fn_X17_subtract
  have c0 : bw A B 0 = 0 := by
    unfold bw
    simp [Nat.mod_one]
  have k4 : fn_X17_subtract_L4 F sh n w bits F z 0 0 = fn_X17_subtract_L4 F sh n w bits (F - 17 + 1) (sr z kr g') (nI (bw A B 16)) (nI 16) := by
    have h := k3
    rw [c0] at h
    exact h
  rw [k4, fn_X17_subtract_L4, if_pos (show (16 : Int32) ≤ nI 16 by decide), grd_t (okO_of W.1 W.2.1)]
  have e6 : fn_X17_result F sh n (sr z kr g') w bits = some (z', r) := by
    unfold fn_X17_result
    exact e1
  rw [cal_t e6, grd_t (by rcases e5 with ⟨h, -⟩ | ⟨h, -⟩ <;> rw [h] <;> decide)]
