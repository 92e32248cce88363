/-! the reference's sums and differences -/
theorem dg_0' {X j : Nat} (h : X < 2 ^ (16 * j)) : dg X j = 0 := by
  unfold dg
  rw [Nat.div_eq_of_lt h]
theorem add_n {F : Nat} {sh : Nat → Nat × Nat} {n w ka kb kr A B : Nat} {z : St} {bits : Int32} (W : WM sh n z.2.2 w ka kb kr) (ha : ∀ i, i < 16 → z.1 ka i = nI (dg A i)) (hb : ∀ i, i < 16 → z.1 kb i = nI (dg B i)) : ∀ (m j f : Nat) (g : Nat → Int32), m + j = 16 → (∀ i, i < j → g i = nI (dg (A + B) i)) → (∀ i, 16 ≤ i → i < 33 → g i = 0) → ∃ g', (∀ i, i < 16 → g' i = nI (dg (A + B) i)) ∧ (∀ i, 16 ≤ i → i < 33 → g' i = 0) ∧ fn_X17_add_L4 F sh n w bits (f + m + 1) (sr z kr g) (nI (cy2 A B j)) (nI j) = fn_X17_add_L4 F sh n w bits (f + 1) (sr z kr g') (nI (cy2 A B 16)) (nI 16) := by
  obtain ⟨d1, d2, d3, d4, d5, d6, d7, d8, d9, d10, d11, d12, d13, d14⟩ := W
  intro m
  induction m with
  | zero =>
    intro j f g hj hg h0
    have e : j = 16 := by omega
    subst e
    exact ⟨g, hg, h0, rfl⟩
  | succ m ih =>
    intro j f g hj hg h0
    have hc : ¬ (16 : Int32) ≤ nI j := nI_ge (a := j) (b := 16) (by omega) (by decide)
    obtain ⟨s1, s2, s3⟩ := sum_dg A B j
    have l1 := dg_lt A j
    have l2 := dg_lt B j
    obtain ⟨g', k1, k2, k3⟩ := ih (j + 1) f (fun i => if i = j then nI (dg (A + B) j) else g i) (by omega) (fun i hi => by
      by_cases e : i = j
      · subst e; rw [if_pos rfl]
      · rw [if_neg e]; exact hg i (by omega)) (fun i a b => by
      rw [if_neg (by omega)]; exact h0 i a b)
    refine ⟨g', k1, k2, ?_⟩
    have ra : (sr z kr g).1 ka j = nI (dg A j) := by rw [sr_o d13]; exact ha j (by omega)
    have rb : (sr z kr g).1 kb j = nI (dg B j) := by rw [sr_o d14]; exact hb j (by omega)
    have ev : nI (dg A j) + nI (dg B j) + nI (cy2 A B j) = nI (dg A j + dg B j + cy2 A B j) := by rw [nI_add, nI_add]
    have e1 : nI (dg A j + dg B j + cy2 A B j) &&& 65535 = nI (dg (A + B) j) := by rw [pk_andN (by omega) 16 (by decide), s1]
    have e2 : nI (dg A j + dg B j + cy2 A B j) >>> (16 &&& 31) = nI (cy2 A B (j + 1)) := by rw [pk_shrN (by omega) _ 16 (by decide), s2]
    rw [show f + (m + 1) + 1 = (f + m + 1) + 1 by omega, fn_X17_add_L4, if_neg hc, grd_t (okO_of d1 d2), lnk_t (show (sr z kr g).2.2 w 0 = some ka from d9), grd_t (okA_nI d3 d4 (show j < 16 by omega) (by decide)), lnk_t (show (sr z kr g).2.2 w 1 = some kb from d10), grd_t (okA_nI d5 d6 (show j < 16 by omega) (by decide)), lt_t, nI_clamp (by omega), ra, rb, ev, lnk_t (show (sr z kr g).2.2 w 2 = some kr from d11), grd_t (okA_nI d7 d8 (show j < 33 by omega) (by decide)), lt_t, si_k, e1, lt_t, e2, show nI j + 1 = nI (j + 1) from nI_1 j]
    exact k3
theorem addM_t {F : Nat} {sh : Nat → Nat × Nat} {n w ka kb kr A B : Nat} {z : St} {bits : Int32} (W : WM sh n z.2.2 w ka kb kr) (hF : 64 < F) (hA : A < 2 ^ 128) (hB : B < 2 ^ 128) (ha : ∀ i, i < 16 → z.1 ka i = nI (dg A i)) (hb : ∀ i, i < 16 → z.1 kb i = nI (dg B i)) (hr : ∀ i, i < 33 → z.1 kr i = 0) : ∃ z' r, fn_X17_add F sh n z w bits = some (z', r) ∧ (∀ k, k ≠ kr → z'.1 k = z.1 k) ∧ z'.2.2 = z.2.2 ∧ (∀ k, k ≠ w → z'.2.1 k = z.2.1 k) ∧ ((r = 1 ∧ A + B < 2 ^ bb2 bits ∧ V2 (z'.2.1 w 3) (z'.2.1 w 4) = A + B) ∨ (r = 0 ∧ ¬ A + B < 2 ^ bb2 bits)) := by
  obtain ⟨g', k1, k2, k3⟩ := add_n (F := F) (bits := bits) W ha hb 16 0 (F - 17) (z.1 kr) rfl (fun i hi => absurd hi (by omega)) (fun i a b => hr i b)
  rw [show F - 17 + 16 + 1 = F by omega, sr_id] at k3
  have hX : A + B < 2 ^ 512 := by
    have h : (2 : Nat) ^ 129 ≤ 2 ^ 512 := Nat.pow_le_pow_right (by decide) (by decide)
    omega
  obtain ⟨z', r, e1, e2, e3, e4, e5⟩ := res_n (F := F) (bits := bits) (z := sr z kr g') W hX (fun i hi => by
    rw [sr_s]
    by_cases c : i < 16
    · exact k1 i c
    · rw [k2 i (by omega) (by omega), dg_0' (by
        have h : (2 : Nat) ^ 129 ≤ 2 ^ (16 * i) := Nat.pow_le_pow_right (by decide) (by omega)
        omega)]
      rfl) 24 8 (F - 25) rfl (by decide) (fun i a b => absurd a (by omega))
  rw [show F - 25 + 24 + 1 = F by omega] at e1
  refine ⟨z', r, ?_, fun k hk => by rw [e2, sr_o hk], e3, fun k hk => (e4 k hk).trans rfl, e5⟩
  unfold fn_X17_add
  have c0 : cy2 A B 0 = 0 := by
    unfold cy2
    simp [Nat.mod_one]
  have k4 : fn_X17_add_L4 F sh n w bits F z 0 0 = fn_X17_add_L4 F sh n w bits (F - 17 + 1) (sr z kr g') (nI (cy2 A B 16)) (nI 16) := by
    have h := k3
    rw [c0] at h
    exact h
  rw [k4, fn_X17_add_L4, if_pos (show (16 : Int32) ≤ nI 16 by decide), grd_t (okO_of W.1 W.2.1)]
  have e6 : fn_X17_result F sh n (sr z kr g') w bits = some (z', r) := by
    unfold fn_X17_result
    exact e1
  rw [cal_t e6, grd_t (by rcases e5 with ⟨h, -⟩ | ⟨h, -⟩ <;> rw [h] <;> decide)]
