/-! the reference's wide object: rows of 16 digits, 33 for the result -/
def WM (sh : Nat → Nat × Nat) (n : Nat) (q : Nat → Nat → Option Nat) (w ka kb kr : Nat) : Prop := w < n ∧ (sh w).1 = 17 ∧ ka < n ∧ sh ka = (101, 16) ∧ kb < n ∧ sh kb = (101, 16) ∧ kr < n ∧ sh kr = (101, 33) ∧ q w 0 = some ka ∧ q w 1 = some kb ∧ q w 2 = some kr ∧ ka ≠ kb ∧ ka ≠ kr ∧ kb ≠ kr
theorem m16 (i : Nat) : (65535 : Int64).toBitVec.getLsbD i = decide (i < 16) := by
  show (BitVec.ofNat 64 65535).getLsbD i = _
  rw [BitVec.getLsbD_ofNat, show (65535 : Nat) = 2 ^ 16 - 1 from rfl, Nat.testBit_two_pow_sub_one]
  by_cases h : i < 16
  · simp [h]; omega
  · simp [h]
theorem dg_0 (h l : Int64) : ((l >>> (((16 * 0) : Int32).toInt64 &&& 63)) &&& 65535).toInt32 = nI (dg (V2 h l) 0) := by
  rw [asr_low 0 16 (by decide) (by rw [Int64.toBitVec_shiftRight]; rfl) m16 (by decide), lN_i]
  have a := N_lt l
  have b := N_lt h
  congr 1
  unfold dg V2
  omega
theorem dg_1 (h l : Int64) : ((l >>> (((16 * 1) : Int32).toInt64 &&& 63)) &&& 65535).toInt32 = nI (dg (V2 h l) 1) := by
  rw [asr_low 16 16 (by decide) (by rw [Int64.toBitVec_shiftRight]; rfl) m16 (by decide), lN_i]
  have a := N_lt l
  have b := N_lt h
  congr 1
  unfold dg V2
  omega
theorem dg_2 (h l : Int64) : ((l >>> (((16 * 2) : Int32).toInt64 &&& 63)) &&& 65535).toInt32 = nI (dg (V2 h l) 2) := by
  rw [asr_low 32 16 (by decide) (by rw [Int64.toBitVec_shiftRight]; rfl) m16 (by decide), lN_i]
  have a := N_lt l
  have b := N_lt h
  congr 1
  unfold dg V2
  omega
theorem dg_3 (h l : Int64) : ((l >>> (((16 * 3) : Int32).toInt64 &&& 63)) &&& 65535).toInt32 = nI (dg (V2 h l) 3) := by
  rw [asr_low 48 16 (by decide) (by rw [Int64.toBitVec_shiftRight]; rfl) m16 (by decide), lN_i]
  have a := N_lt l
  have b := N_lt h
  congr 1
  unfold dg V2
  omega
theorem dg_4 (h l : Int64) : ((h >>> (((16 * ((4 : Int32) - 4)) : Int32).toInt64 &&& 63)) &&& 65535).toInt32 = nI (dg (V2 h l) 4) := by
  rw [asr_low 0 16 (by decide) (by rw [Int64.toBitVec_shiftRight]; rfl) m16 (by decide), lN_i]
  have a := N_lt l
  have b := N_lt h
  congr 1
  unfold dg V2
  omega
theorem dg_5 (h l : Int64) : ((h >>> (((16 * ((5 : Int32) - 4)) : Int32).toInt64 &&& 63)) &&& 65535).toInt32 = nI (dg (V2 h l) 5) := by
  rw [asr_low 16 16 (by decide) (by rw [Int64.toBitVec_shiftRight]; rfl) m16 (by decide), lN_i]
  have a := N_lt l
  have b := N_lt h
  congr 1
  unfold dg V2
  omega
theorem dg_6 (h l : Int64) : ((h >>> (((16 * ((6 : Int32) - 4)) : Int32).toInt64 &&& 63)) &&& 65535).toInt32 = nI (dg (V2 h l) 6) := by
  rw [asr_low 32 16 (by decide) (by rw [Int64.toBitVec_shiftRight]; rfl) m16 (by decide), lN_i]
  have a := N_lt l
  have b := N_lt h
  congr 1
  unfold dg V2
  omega
theorem dg_7 (h l : Int64) : ((h >>> (((16 * ((7 : Int32) - 4)) : Int32).toInt64 &&& 63)) &&& 65535).toInt32 = nI (dg (V2 h l) 7) := by
  rw [asr_low 48 16 (by decide) (by rw [Int64.toBitVec_shiftRight]; rfl) m16 (by decide), lN_i]
  have a := N_lt l
  have b := N_lt h
  congr 1
  unfold dg V2
  omega
theorem dg_hi {h l : Int64} {j : Nat} (hj : 8 ≤ j) : dg (V2 h l) j = 0 := by
  have a := V2_lt h l
  have b : 2 ^ 128 ≤ 2 ^ (16 * j) := Nat.pow_le_pow_right (by decide) (by omega)
  unfold dg
  rw [Nat.div_eq_of_lt (by omega)]
theorem dg_lt (X j : Nat) : dg X j < 65536 := Nat.mod_lt _ (by decide)
theorem lay_1 {F : Nat} {sh : Nat → Nat × Nat} {n k : Nat} {z : St} (h0 : k < n) (h1 : sh k = (101, 16)) (h l : Int64) {j f : Nat} (hj : j < 16) (g : Nat → Int32) : fn_X17_lay_L3 F sh n k h l (f + 1) (sr z k g) (nI j) = fn_X17_lay_L3 F sh n k h l f (sr z k (fun i => if i = j then nI (dg (V2 h l) j) else g i)) (nI (j + 1)) := by
  have hc : ¬ (16 : Int32) ≤ nI j := nI_ge (a := j) (b := 16) hj (by decide)
  have key : ∀ v : Int32, v = nI (dg (V2 h l) j) → fn_X17_lay_B59 F sh n k (nI j) (fun z9 q5 => fn_X17_lay_L3 F sh n k h l f z9 q5) (sr z k g) v = fn_X17_lay_L3 F sh n k h l f (sr z k (fun i => if i = j then nI (dg (V2 h l) j) else g i)) (nI (j + 1)) := by
    intro v hv
    unfold fn_X17_lay_B59
    rw [grd_t (okA_nI h0 h1 hj (by decide)), lt_t, nI_clamp (by omega), si_k, hv, show nI j + 1 = nI (j + 1) from nI_1 j]
  rw [fn_X17_lay_L3, if_neg hc]
  by_cases c4 : j < 4
  · rw [if_neg (show ¬ (4 : Int32) ≤ nI j from nI_ge (a := j) (b := 4) c4 (by decide))]
    apply key
    have hh : j = 0 ∨ j = 1 ∨ j = 2 ∨ j = 3 := by omega
    rcases hh with e | e | e | e <;> subst e
    · exact dg_0 h l
    · exact dg_1 h l
    · exact dg_2 h l
    · exact dg_3 h l
  · rw [if_pos (show (4 : Int32) ≤ nI j from nI_le (a := 4) (by omega) (by omega))]
    by_cases c8 : j < 8
    · rw [if_neg (show ¬ (8 : Int32) ≤ nI j from nI_ge (a := j) (b := 8) c8 (by decide))]
      apply key
      have hh : j = 4 ∨ j = 5 ∨ j = 6 ∨ j = 7 := by omega
      rcases hh with e | e | e | e <;> subst e
      · exact dg_4 h l
      · exact dg_5 h l
      · exact dg_6 h l
      · exact dg_7 h l
    · rw [if_pos (show (8 : Int32) ≤ nI j from nI_le (a := 8) (by omega) (by omega))]
      apply key
      rw [dg_hi (by omega)]
      rfl
theorem lay_n {F : Nat} {sh : Nat → Nat × Nat} {n k : Nat} {z : St} (h0 : k < n) (h1 : sh k = (101, 16)) (h l : Int64) : ∀ (m j f : Nat) (g : Nat → Int32), m + j = 16 → (∀ i, i < j → g i = nI (dg (V2 h l) i)) → ∃ g', (∀ i, i < 16 → g' i = nI (dg (V2 h l) i)) ∧ fn_X17_lay_L3 F sh n k h l (f + m + 1) (sr z k g) (nI j) = some (sr z k g', ()) := by
  intro m
  induction m with
  | zero =>
    intro j f g hj hg
    have e : j = 16 := by omega
    subst e
    refine ⟨g, hg, ?_⟩
    rw [fn_X17_lay_L3, if_pos (by decide)]
  | succ m ih =>
    intro j f g hj hg
    obtain ⟨g', h2, h3⟩ := ih (j + 1) f (fun i => if i = j then nI (dg (V2 h l) j) else g i) (by omega) (fun i hi => by
      by_cases e : i = j
      · subst e; rw [if_pos rfl]
      · rw [if_neg e]; exact hg i (by omega))
    refine ⟨g', h2, ?_⟩
    rw [show f + (m + 1) + 1 = (f + m + 1) + 1 by omega, lay_1 h0 h1 h l (by omega) g]
    exact h3
theorem lay_t {F : Nat} {sh : Nat → Nat × Nat} {n k : Nat} {z : St} (h0 : k < n) (h1 : sh k = (101, 16)) (hF : 64 < F) (h l : Int64) : ∃ g, (∀ i, i < 16 → g i = nI (dg (V2 h l) i)) ∧ fn_X17_lay F sh n z k h l = some (sr z k g, ()) := by
  obtain ⟨g, h2, h3⟩ := lay_n (F := F) (z := z) h0 h1 h l 16 0 (F - 17) (z.1 k) rfl (fun i hi => absurd hi (by omega))
  rw [show F - 17 + 16 + 1 = F by omega, sr_id] at h3
  refine ⟨g, h2, ?_⟩
  unfold fn_X17_lay
  exact h3
theorem clr_n {F : Nat} {sh : Nat → Nat × Nat} {n w ka kb kr : Nat} {z : St} (W : WM sh n z.2.2 w ka kb kr) : ∀ (m j f : Nat) (g : Nat → Int32), m + j = 33 → (∀ i, i < j → g i = 0) → ∃ g', (∀ i, i < 33 → g' i = 0) ∧ fn_X17_clear_L2 F sh n w (f + m + 1) (sr z kr g) (nI j) = some (sr z kr g', ()) := by
  obtain ⟨d1, d2, d3, d4, d5, d6, d7, d8, d9, d10, d11, d12⟩ := W
  intro m
  induction m with
  | zero =>
    intro j f g hj hg
    have e : j = 33 := by omega
    subst e
    refine ⟨g, hg, ?_⟩
    rw [fn_X17_clear_L2, if_pos (by decide)]
  | succ m ih =>
    intro j f g hj hg
    have hc : ¬ (33 : Int32) ≤ nI j := nI_ge (a := j) (b := 33) (by omega) (by decide)
    obtain ⟨g', h2, h3⟩ := ih (j + 1) f (fun i => if i = j then 0 else g i) (by omega) (fun i hi => by
      by_cases e : i = j
      · rw [if_pos e]
      · rw [if_neg e]; exact hg i (by omega))
    refine ⟨g', h2, ?_⟩
    rw [show f + (m + 1) + 1 = (f + m + 1) + 1 by omega, fn_X17_clear_L2, if_neg hc, grd_t (okO_of d1 d2), lnk_t (show (sr z kr g).2.2 w 2 = some kr from d11), grd_t (okA_nI d7 d8 (show j < 33 by omega) (by decide)), lt_t, nI_clamp (by omega), si_k, show nI j + 1 = nI (j + 1) from nI_1 j]
    exact h3
/-- the digits of a sum, and what is carried -/
def cy2 (A B k : Nat) : Nat := (A % 2 ^ (16 * k) + B % 2 ^ (16 * k)) / 2 ^ (16 * k)
theorem mod_split (A P c : Nat) : A % (P * c) = A / P % c * P + A % P := by
  rw [Nat.mod_mul, Nat.mul_comm P, Nat.add_comm]
theorem div_one {x P : Nat} (h : x < 2 * P) (hP : 0 < P) : x / P ≤ 1 := by
  have : x / P < 2 := (Nat.div_lt_iff_lt_mul hP).mpr h
  omega
theorem sum_dg (A B k : Nat) : dg (A + B) k = (dg A k + dg B k + cy2 A B k) % 2 ^ 16 ∧ cy2 A B (k + 1) = (dg A k + dg B k + cy2 A B k) / 2 ^ 16 ∧ cy2 A B k ≤ 1 := by
  have hP : 0 < 2 ^ (16 * k) := Nat.two_pow_pos _
  generalize eP : 2 ^ (16 * k) = P at hP
  have e1 : 2 ^ (16 * (k + 1)) = P * 2 ^ 16 := by rw [← eP, ← Nat.pow_add]; congr 1
  have hA := Nat.mod_lt A hP
  have hB := Nat.mod_lt B hP
  have dA := Nat.div_add_mod A P
  have dB := Nat.div_add_mod B P
  have es : (A + B) / P = A / P + B / P + (A % P + B % P) / P := by
    have h : A + B = (A % P + B % P) + P * (A / P + B / P) := by
      rw [Nat.mul_add]
      omega
    rw [h, Nat.add_mul_div_left _ _ hP]
    omega
  unfold dg cy2
  rw [e1, eP, es]
  refine ⟨by omega, ?_, div_one (by omega) hP⟩
  rw [mod_split, mod_split, ← Nat.div_div_eq_div_mul]
  have h2 : A / P % 2 ^ 16 * P + A % P + (B / P % 2 ^ 16 * P + B % P) = (A % P + B % P) + P * (A / P % 2 ^ 16 + B / P % 2 ^ 16) := by
    rw [Nat.mul_add, Nat.mul_comm P, Nat.mul_comm P]
    omega
  rw [h2, Nat.add_mul_div_left _ _ hP]
  congr 1
  omega
