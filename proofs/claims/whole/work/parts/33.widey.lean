theorem mul_s {F : Nat} {sh : Nat → Nat × Nat} {n w ka kb kr i j f x y rp c : Nat} {z : St} {g : Nat → Int32} {ko : St → Int32 → Option (St × Int32)} (W : WM sh n z.2.2 w ka kb kr) (hi : i < 16) (hj : j < 16) (hx : x < 65536) (hy : y < 65536) (hr : rp < 65536) (hc : c < 65536) (ha : z.1 ka i = nI x) (hb : z.1 kb j = nI y) (hg : g (i + j) = nI rp) : fn_X17_multiply_L13 F sh n w (nI i) ko (f + 1) (sr z kr g) (lN c) (nI j) = fn_X17_multiply_L13 F sh n w (nI i) ko f (sr z kr (fun k => if k = i + j then nI ((x * y + rp + c) % 65536) else g k)) (lN ((x * y + rp + c) / 65536)) (nI (j + 1)) := by
  obtain ⟨d1, d2, d3, d4, d5, d6, d7, d8, d9, d10, d11, d12, d13, d14⟩ := W
  have hq : ¬ (16 : Int32) ≤ nI j := nI_ge (a := j) (b := 16) hj (by decide)
  have hxy : x * y ≤ 65535 * 65535 := Nat.mul_le_mul (by omega) (by omega)
  have ra : (sr z kr g).1 ka i = nI x := by rw [sr_o d13]; exact ha
  have rb : (sr z kr g).1 kb j = nI y := by rw [sr_o d14]; exact hb
  have rr : (sr z kr g).1 kr (i + j) = nI rp := by rw [sr_s]; exact hg
  have ev : lN x * lN y + lN rp + lN c = lN (x * y + rp + c) := by rw [lN_mul, lN_add, lN_add]
  rw [fn_X17_multiply_L13, if_neg hq, grd_t (okO_of d1 d2), lnk_t (show (sr z kr g).2.2 w 0 = some ka from d9), grd_t (okA_nI d3 d4 hi (by decide)), lnk_t (show (sr z kr g).2.2 w 1 = some kb from d10), grd_t (okA_nI d5 d6 hj (by decide)), lnk_t (show (sr z kr g).2.2 w 2 = some kr from d11), nI_add, grd_t (okA_nI d7 d8 (show i + j < 33 by omega) (by decide)), lt_t, nI_clamp (show i < 2 ^ 31 by omega), nI_clamp (show j < 2 ^ 31 by omega), nI_clamp (show i + j < 2 ^ 31 by omega), ra, rb, rr, nI_l (by omega), nI_l (by omega), nI_l (by omega), ev, lnk_t (show (sr z kr g).2.2 w 2 = some kr from d11), grd_t (okA_nI d7 d8 (show i + j < 33 by omega) (by decide)), lt_t, lN_and16 (by omega), si_k, lt_t, lN_shr16 (by omega), show nI j + 1 = nI (j + 1) from nI_1 j]
theorem mul_ar {R R' rp v c T x y Bj Wi Wj : Nat} (h1 : R' + rp * (Wi * Wj) = R + v % 65536 * (Wi * Wj)) (hv : v = x * y + rp + c) (h2 : R + c * (Wi * Wj) = T + x * Bj * Wi) : R' + v / 65536 * (Wi * Wj * 65536) = T + x * (y * Wj + Bj) * Wi := by
  have e1 : v / 65536 * (Wi * Wj * 65536) = (65536 * (v / 65536)) * (Wi * Wj) := by
    rw [Nat.mul_comm (Wi * Wj) 65536, ← Nat.mul_assoc, Nat.mul_comm (v / 65536) 65536]
  have e2 : v % 65536 * (Wi * Wj) + (65536 * (v / 65536)) * (Wi * Wj) = v * (Wi * Wj) := by
    rw [← Nat.add_mul]
    congr 1
    omega
  have e3 : v * (Wi * Wj) = x * y * (Wi * Wj) + rp * (Wi * Wj) + c * (Wi * Wj) := by rw [hv, Nat.add_mul, Nat.add_mul]
  have e4 : x * (y * Wj + Bj) * Wi = x * y * (Wi * Wj) + x * Bj * Wi := by
    rw [Nat.mul_add, Nat.add_mul]
    congr 1
    rw [← Nat.mul_assoc x y Wj, Nat.mul_assoc, Nat.mul_comm Wj Wi]
  rw [e1, e4]
  omega
theorem mul_j {F : Nat} {sh : Nat → Nat × Nat} {n w ka kb kr i x B T : Nat} {z : St} {ko : St → Int32 → Option (St × Int32)} (W : WM sh n z.2.2 w ka kb kr) (hi : i < 16) (hx : x < 65536) (ha : z.1 ka i = nI x) (hb : ∀ j, j < 16 → z.1 kb j = nI (dg B j)) : ∀ (m j f : Nat) (r : Nat → Nat) (g : Nat → Int32) (c : Nat), m + j = 16 → c < 65536 → (∀ k, k < 33 → g k = nI (r k)) → (∀ k, k < 33 → r k < 65536) → (∀ k, i + 16 ≤ k → k < 33 → r k = 0) → rv r 33 + c * 2 ^ (16 * (i + j)) = T + x * (B % 2 ^ (16 * j)) * 2 ^ (16 * i) → ∃ r' g' c', c' < 65536 ∧ (∀ k, k < 33 → g' k = nI (r' k)) ∧ (∀ k, k < 33 → r' k < 65536) ∧ (∀ k, i + 16 ≤ k → k < 33 → r' k = 0) ∧ rv r' 33 + c' * 2 ^ (16 * (i + 16)) = T + x * (B % 2 ^ (16 * 16)) * 2 ^ (16 * i) ∧ fn_X17_multiply_L13 F sh n w (nI i) ko (f + m + 1) (sr z kr g) (lN c) (nI j) = fn_X17_multiply_L13 F sh n w (nI i) ko (f + 1) (sr z kr g') (lN c') (nI 16) := by
  intro m
  induction m with
  | zero =>
    intro j f r g c hj hc h1 h2 h3 h4
    have e : j = 16 := by omega
    subst e
    exact ⟨r, g, c, hc, h1, h2, h3, h4, rfl⟩
  | succ m ih =>
    intro j f r g c hj hc h1 h2 h3 h4
    have ly := dg_lt B j
    have lr := h2 (i + j) (by omega)
    have hxy : x * dg B j ≤ 65535 * 65535 := Nat.mul_le_mul (by omega) (by omega)
    have up := rv_up (r := r) (p := i + j) (v := (x * dg B j + r (i + j) + c) % 65536) 33 (by omega)
    have eW : 2 ^ (16 * (i + j)) = 2 ^ (16 * i) * 2 ^ (16 * j) := by rw [← Nat.pow_add]; congr 1; omega
    have eW2 : 2 ^ (16 * (i + (j + 1))) = 2 ^ (16 * i) * 2 ^ (16 * j) * 65536 := by rw [← eW, show 16 * (i + (j + 1)) = 16 * (i + j) + 16 by omega, Nat.pow_add]
    have eB : B % 2 ^ (16 * (j + 1)) = dg B j * 2 ^ (16 * j) + B % 2 ^ (16 * j) := by
      rw [show 2 ^ (16 * (j + 1)) = 2 ^ (16 * j) * 2 ^ 16 by rw [← Nat.pow_add]; congr 1, mod_split]
      rfl
    rw [eW] at up h4
    obtain ⟨r', g', c', q1, q2, q3, q4, q5, q6⟩ := ih (j + 1) f (fun k => if k = i + j then (x * dg B j + r (i + j) + c) % 65536 else r k) (fun k => if k = i + j then nI ((x * dg B j + r (i + j) + c) % 65536) else g k) ((x * dg B j + r (i + j) + c) / 65536) (by omega) (by omega) (fun k hk => by
      by_cases e : k = i + j
      · rw [if_pos e, if_pos e]
      · rw [if_neg e, if_neg e]; exact h1 k hk) (fun k hk => by
      by_cases e : k = i + j
      · rw [if_pos e]; omega
      · rw [if_neg e]; exact h2 k hk) (fun k a b => by
      rw [if_neg (by omega)]; exact h3 k a b) (by
      rw [eW2, eB]
      exact mul_ar up rfl h4)
    refine ⟨r', g', c', q1, q2, q3, q4, q5, ?_⟩
    rw [show f + (m + 1) + 1 = (f + m + 1) + 1 by omega, mul_s W hi (show j < 16 by omega) hx ly lr hc ha (hb j (by omega)) (h1 (i + j) (by omega))]
    exact q6
theorem mul_i {F : Nat} {sh : Nat → Nat × Nat} {n w ka kb kr A B : Nat} {z : St} {bits : Int32} (W : WM sh n z.2.2 w ka kb kr) (hF : 64 < F) (hB : B < 2 ^ 128) (ha : ∀ j, j < 16 → z.1 ka j = nI (dg A j)) (hb : ∀ j, j < 16 → z.1 kb j = nI (dg B j)) : ∀ (m i f : Nat) (r : Nat → Nat) (g : Nat → Int32), m + i = 16 → (∀ k, k < 33 → g k = nI (r k)) → (∀ k, k < 33 → r k < 65536) → (∀ k, i + 16 ≤ k → k < 33 → r k = 0) → rv r 33 = A % 2 ^ (16 * i) * B → ∃ r' g', (∀ k, k < 33 → g' k = nI (r' k)) ∧ (∀ k, k < 33 → r' k < 65536) ∧ rv r' 33 = A % 2 ^ (16 * 16) * B ∧ fn_X17_multiply_L2 F sh n w bits (f + m + 1) (sr z kr g) (nI i) = fn_X17_multiply_L2 F sh n w bits (f + 1) (sr z kr g') (nI 16) := by
  intro m
  induction m with
  | zero =>
    intro i f r g hi h1 h2 h3 h4
    have e : i = 16 := by omega
    subst e
    exact ⟨r, g, h1, h2, h4, rfl⟩
  | succ m ih =>
    intro i f r g hi h1 h2 h3 h4
    have hc : ¬ (16 : Int32) ≤ nI i := nI_ge (a := i) (b := 16) (by omega) (by decide)
    obtain ⟨r1, g1, c1, q1, q2, q3, q4, q5, q6⟩ := mul_j (F := F) (z := z) (ko := fun z9 q2 => fn_X17_multiply_L2 F sh n w bits (f + m + 1) z9 q2) (T := A % 2 ^ (16 * i) * B) (B := B) W (show i < 16 by omega) (dg_lt A i) (ha i (by omega)) hb 16 0 (F - 17) r g 0 rfl (by decide) h1 h2 h3 (by
      rw [Nat.zero_mul, Nat.mul_zero, Nat.pow_zero, Nat.mod_one, Nat.mul_zero, Nat.zero_mul, h4])
    rw [show F - 17 + 16 + 1 = F by omega] at q6
    have up := rv_up (r := r1) (p := i + 16) (v := c1) 33 (by omega)
    rw [q4 (i + 16) (Nat.le_refl _) (by omega), Nat.zero_mul, Nat.add_zero] at up
    have eB : B % 2 ^ (16 * 16) = B := Nat.mod_eq_of_lt (by
      have h : (2 : Nat) ^ 128 ≤ 2 ^ (16 * 16) := Nat.pow_le_pow_right (by decide) (by decide)
      omega)
    have eA : A % 2 ^ (16 * (i + 1)) = dg A i * 2 ^ (16 * i) + A % 2 ^ (16 * i) := by
      rw [show 2 ^ (16 * (i + 1)) = 2 ^ (16 * i) * 2 ^ 16 by rw [← Nat.pow_add]; congr 1, mod_split]
      rfl
    obtain ⟨r', g', k1, k2, k3, k4⟩ := ih (i + 1) f (fun k => if k = i + 16 then c1 else r1 k) (fun k => if k = i + 16 then nI c1 else g1 k) (by omega) (fun k hk => by
      by_cases e : k = i + 16
      · rw [if_pos e, if_pos e]
      · rw [if_neg e, if_neg e]; exact q2 k hk) (fun k hk => by
      by_cases e : k = i + 16
      · rw [if_pos e]; exact q1
      · rw [if_neg e]; exact q3 k hk) (fun k a b => by
      rw [if_neg (by omega)]; exact q4 k (by omega) b) (by
      rw [up, q5, eB, eA, Nat.add_mul, Nat.mul_assoc (dg A i), Nat.mul_comm B, ← Nat.mul_assoc (dg A i)]
      omega)
    refine ⟨r', g', k1, k2, k3, ?_⟩
    obtain ⟨d1, d2, d3, d4, d5, d6, d7, d8, d9, d10, d11, d12, d13, d14⟩ := W
    rw [show f + (m + 1) + 1 = (f + m + 1) + 1 by omega, fn_X17_multiply_L2, if_neg hc]
    refine Eq.trans q6 ?_
    have r16 : (sr z kr g1).1 kr (i + 16) = 0 := by
      rw [sr_s, q2 (i + 16) (by omega), q4 (i + 16) (Nat.le_refl _) (by omega)]
      rfl
    rw [fn_X17_multiply_L13, if_pos (by decide), grd_t (okO_of d1 d2), lnk_t (show (sr z kr g1).2.2 w 2 = some kr from d11), show nI i + 16 = nI (i + 16) from nI_add i 16, grd_t (okA_nI d7 d8 (show i + 16 < 33 by omega) (by decide)), grd_t (okA_nI d7 d8 (show i + 16 < 33 by omega) (by decide)), lt_t, nI_clamp (show i + 16 < 2 ^ 31 by omega), r16, lN_i, show (0 : Int32) + nI c1 = nI c1 from (nI_add 0 c1).trans (by rw [Nat.zero_add]), si_k, show nI i + 1 = nI (i + 1) from nI_1 i]
    exact k4
theorem mulM_t {F : Nat} {sh : Nat → Nat × Nat} {n w ka kb kr A B : Nat} {z : St} {bits : Int32} (W : WM sh n z.2.2 w ka kb kr) (hF : 64 < F) (hA : A < 2 ^ 128) (hB : B < 2 ^ 128) (ha : ∀ i, i < 16 → z.1 ka i = nI (dg A i)) (hb : ∀ i, i < 16 → z.1 kb i = nI (dg B i)) (hr : ∀ i, i < 33 → z.1 kr i = 0) : ∃ z' r, fn_X17_multiply F sh n z w bits = some (z', r) ∧ (∀ k, k ≠ kr → z'.1 k = z.1 k) ∧ z'.2.2 = z.2.2 ∧ (∀ k, k ≠ w → z'.2.1 k = z.2.1 k) ∧ ((r = 1 ∧ A * B < 2 ^ bb2 bits ∧ V2 (z'.2.1 w 3) (z'.2.1 w 4) = A * B) ∨ (r = 0 ∧ ¬ A * B < 2 ^ bb2 bits)) := by
  have rz : ∀ n, rv (fun _ => 0) n = 0 := by
    intro n
    induction n with
    | zero => rfl
    | succ n ih => rw [rv, ih, Nat.zero_mul]
  obtain ⟨r', g', k1, k2, k3, k4⟩ := mul_i (F := F) (bits := bits) W hF hB ha hb 16 0 (F - 17) (fun _ => 0) (z.1 kr) rfl (fun k hk => hr k hk) (fun _ _ => by decide) (fun _ _ _ => rfl) (by rw [rz, Nat.mul_zero, Nat.pow_zero, Nat.mod_one, Nat.zero_mul])
  rw [show F - 17 + 16 + 1 = F by omega, sr_id] at k4
  have eA : A % 2 ^ (16 * 16) = A := Nat.mod_eq_of_lt (by
    have h : (2 : Nat) ^ 128 ≤ 2 ^ (16 * 16) := Nat.pow_le_pow_right (by decide) (by decide)
    omega)
  rw [eA] at k3
  have hX : A * B < 2 ^ 512 := by
    have h1 : A * B ≤ 2 ^ 128 * 2 ^ 128 := Nat.mul_le_mul (by omega) (by omega)
    have h2 : (2 : Nat) ^ 128 * 2 ^ 128 < 2 ^ 512 := by rw [← Nat.pow_add]; exact Nat.pow_lt_pow_right (by decide) (by decide)
    exact Nat.lt_of_le_of_lt h1 h2
  obtain ⟨z', r, e1, e2, e3, e4, e5⟩ := res_n (F := F) (bits := bits) (z := sr z kr g') W hX (fun i hi => by
    rw [sr_s, k1 i (by omega), ← k3, rv_dg 33 k2 (by omega)]) 24 8 (F - 25) rfl (by decide) (fun i a b => absurd a (by omega))
  rw [show F - 25 + 24 + 1 = F by omega] at e1
  refine ⟨z', r, ?_, fun k hk => by rw [e2, sr_o hk], e3, fun k hk => (e4 k hk).trans rfl, e5⟩
  unfold fn_X17_multiply
  refine Eq.trans k4 ?_
  rw [fn_X17_multiply_L2, if_pos (show (16 : Int32) ≤ nI 16 by decide), grd_t (okO_of W.1 W.2.1)]
  have e6 : fn_X17_result F sh n (sr z kr g') w bits = some (z', r) := by
    unfold fn_X17_result
    exact e1
  rw [cal_t e6, grd_t (by rcases e5 with ⟨h, -⟩ | ⟨h, -⟩ <;> rw [h] <;> decide)]
