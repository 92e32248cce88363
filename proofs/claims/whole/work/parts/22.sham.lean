/-! SHA-256's mixing as the reference does it: longs of 32 bits -/
def DgM (sh : Nat → Nat × Nat) (n : Nat) (q : Nat → Nat → Option Nat) (e km kw ks : Nat) : Prop := e < n ∧ (sh e).1 = 12 ∧ km < n ∧ sh km = (100, 4096) ∧ kw < n ∧ sh kw = (102, 8) ∧ ks < n ∧ sh ks = (102, 64) ∧ q e 0 = some km ∧ q e 2 = some kw ∧ q e 3 = some ks ∧ e ≠ km ∧ kw ≠ ks
theorem tu_2 {F : Nat} {sh : Nat → Nat × Nat} {n : Nat} {z : St} (x : Int32) : fn_X12_turned F sh n z (ux x) 2 = some (z, ux ((((x : Int32).toUInt32 >>> ((2 : Int32).toUInt32 &&& Int32.toUInt32 31)).toInt32) ||| (x <<< (30 &&& 31)))) := by
  unfold fn_X12_turned
  rw [ux_turn x 2 (by decide) (by decide) (a := (2 : Int32).toInt64 &&& 63) (b := ((32 - 2) : Int32).toInt64 &&& 63) (c := 0) (d := 30 &&& 31) (e := (2 : Int32).toUInt32 &&& Int32.toUInt32 31) (by rw [Int64.toBitVec_shiftRight]; rfl) (by rw [Int64.toBitVec_shiftLeft]; rfl) (by rfl) (by rw [Int32.toBitVec_shiftLeft]; rfl)]
theorem tu_6 {F : Nat} {sh : Nat → Nat × Nat} {n : Nat} {z : St} (x : Int32) : fn_X12_turned F sh n z (ux x) 6 = some (z, ux ((((x : Int32).toUInt32 >>> ((6 : Int32).toUInt32 &&& Int32.toUInt32 31)).toInt32) ||| (x <<< (26 &&& 31)))) := by
  unfold fn_X12_turned
  rw [ux_turn x 6 (by decide) (by decide) (a := (6 : Int32).toInt64 &&& 63) (b := ((32 - 6) : Int32).toInt64 &&& 63) (c := 0) (d := 26 &&& 31) (e := (6 : Int32).toUInt32 &&& Int32.toUInt32 31) (by rw [Int64.toBitVec_shiftRight]; rfl) (by rw [Int64.toBitVec_shiftLeft]; rfl) (by rfl) (by rw [Int32.toBitVec_shiftLeft]; rfl)]
theorem tu_7 {F : Nat} {sh : Nat → Nat × Nat} {n : Nat} {z : St} (x : Int32) : fn_X12_turned F sh n z (ux x) 7 = some (z, ux ((((x : Int32).toUInt32 >>> ((7 : Int32).toUInt32 &&& Int32.toUInt32 31)).toInt32) ||| (x <<< (25 &&& 31)))) := by
  unfold fn_X12_turned
  rw [ux_turn x 7 (by decide) (by decide) (a := (7 : Int32).toInt64 &&& 63) (b := ((32 - 7) : Int32).toInt64 &&& 63) (c := 0) (d := 25 &&& 31) (e := (7 : Int32).toUInt32 &&& Int32.toUInt32 31) (by rw [Int64.toBitVec_shiftRight]; rfl) (by rw [Int64.toBitVec_shiftLeft]; rfl) (by rfl) (by rw [Int32.toBitVec_shiftLeft]; rfl)]
theorem tu_11 {F : Nat} {sh : Nat → Nat × Nat} {n : Nat} {z : St} (x : Int32) : fn_X12_turned F sh n z (ux x) 11 = some (z, ux ((((x : Int32).toUInt32 >>> ((11 : Int32).toUInt32 &&& Int32.toUInt32 31)).toInt32) ||| (x <<< (21 &&& 31)))) := by
  unfold fn_X12_turned
  rw [ux_turn x 11 (by decide) (by decide) (a := (11 : Int32).toInt64 &&& 63) (b := ((32 - 11) : Int32).toInt64 &&& 63) (c := 0) (d := 21 &&& 31) (e := (11 : Int32).toUInt32 &&& Int32.toUInt32 31) (by rw [Int64.toBitVec_shiftRight]; rfl) (by rw [Int64.toBitVec_shiftLeft]; rfl) (by rfl) (by rw [Int32.toBitVec_shiftLeft]; rfl)]
theorem tu_13 {F : Nat} {sh : Nat → Nat × Nat} {n : Nat} {z : St} (x : Int32) : fn_X12_turned F sh n z (ux x) 13 = some (z, ux ((((x : Int32).toUInt32 >>> ((13 : Int32).toUInt32 &&& Int32.toUInt32 31)).toInt32) ||| (x <<< (19 &&& 31)))) := by
  unfold fn_X12_turned
  rw [ux_turn x 13 (by decide) (by decide) (a := (13 : Int32).toInt64 &&& 63) (b := ((32 - 13) : Int32).toInt64 &&& 63) (c := 0) (d := 19 &&& 31) (e := (13 : Int32).toUInt32 &&& Int32.toUInt32 31) (by rw [Int64.toBitVec_shiftRight]; rfl) (by rw [Int64.toBitVec_shiftLeft]; rfl) (by rfl) (by rw [Int32.toBitVec_shiftLeft]; rfl)]
theorem tu_17 {F : Nat} {sh : Nat → Nat × Nat} {n : Nat} {z : St} (x : Int32) : fn_X12_turned F sh n z (ux x) 17 = some (z, ux ((((x : Int32).toUInt32 >>> ((17 : Int32).toUInt32 &&& Int32.toUInt32 31)).toInt32) ||| (x <<< (15 &&& 31)))) := by
  unfold fn_X12_turned
  rw [ux_turn x 17 (by decide) (by decide) (a := (17 : Int32).toInt64 &&& 63) (b := ((32 - 17) : Int32).toInt64 &&& 63) (c := 0) (d := 15 &&& 31) (e := (17 : Int32).toUInt32 &&& Int32.toUInt32 31) (by rw [Int64.toBitVec_shiftRight]; rfl) (by rw [Int64.toBitVec_shiftLeft]; rfl) (by rfl) (by rw [Int32.toBitVec_shiftLeft]; rfl)]
theorem tu_18 {F : Nat} {sh : Nat → Nat × Nat} {n : Nat} {z : St} (x : Int32) : fn_X12_turned F sh n z (ux x) 18 = some (z, ux ((((x : Int32).toUInt32 >>> ((18 : Int32).toUInt32 &&& Int32.toUInt32 31)).toInt32) ||| (x <<< (14 &&& 31)))) := by
  unfold fn_X12_turned
  rw [ux_turn x 18 (by decide) (by decide) (a := (18 : Int32).toInt64 &&& 63) (b := ((32 - 18) : Int32).toInt64 &&& 63) (c := 0) (d := 14 &&& 31) (e := (18 : Int32).toUInt32 &&& Int32.toUInt32 31) (by rw [Int64.toBitVec_shiftRight]; rfl) (by rw [Int64.toBitVec_shiftLeft]; rfl) (by rfl) (by rw [Int32.toBitVec_shiftLeft]; rfl)]
theorem tu_19 {F : Nat} {sh : Nat → Nat × Nat} {n : Nat} {z : St} (x : Int32) : fn_X12_turned F sh n z (ux x) 19 = some (z, ux ((((x : Int32).toUInt32 >>> ((19 : Int32).toUInt32 &&& Int32.toUInt32 31)).toInt32) ||| (x <<< (13 &&& 31)))) := by
  unfold fn_X12_turned
  rw [ux_turn x 19 (by decide) (by decide) (a := (19 : Int32).toInt64 &&& 63) (b := ((32 - 19) : Int32).toInt64 &&& 63) (c := 0) (d := 13 &&& 31) (e := (19 : Int32).toUInt32 &&& Int32.toUInt32 31) (by rw [Int64.toBitVec_shiftRight]; rfl) (by rw [Int64.toBitVec_shiftLeft]; rfl) (by rfl) (by rw [Int32.toBitVec_shiftLeft]; rfl)]
theorem tu_22 {F : Nat} {sh : Nat → Nat × Nat} {n : Nat} {z : St} (x : Int32) : fn_X12_turned F sh n z (ux x) 22 = some (z, ux ((((x : Int32).toUInt32 >>> ((22 : Int32).toUInt32 &&& Int32.toUInt32 31)).toInt32) ||| (x <<< (10 &&& 31)))) := by
  unfold fn_X12_turned
  rw [ux_turn x 22 (by decide) (by decide) (a := (22 : Int32).toInt64 &&& 63) (b := ((32 - 22) : Int32).toInt64 &&& 63) (c := 0) (d := 10 &&& 31) (e := (22 : Int32).toUInt32 &&& Int32.toUInt32 31) (by rw [Int64.toBitVec_shiftRight]; rfl) (by rw [Int64.toBitVec_shiftLeft]; rfl) (by rfl) (by rw [Int32.toBitVec_shiftLeft]; rfl)]
theorem tu_25 {F : Nat} {sh : Nat → Nat × Nat} {n : Nat} {z : St} (x : Int32) : fn_X12_turned F sh n z (ux x) 25 = some (z, ux ((((x : Int32).toUInt32 >>> ((25 : Int32).toUInt32 &&& Int32.toUInt32 31)).toInt32) ||| (x <<< (7 &&& 31)))) := by
  unfold fn_X12_turned
  rw [ux_turn x 25 (by decide) (by decide) (a := (25 : Int32).toInt64 &&& 63) (b := ((32 - 25) : Int32).toInt64 &&& 63) (c := 0) (d := 7 &&& 31) (e := (25 : Int32).toUInt32 &&& Int32.toUInt32 31) (by rw [Int64.toBitVec_shiftRight]; rfl) (by rw [Int64.toBitVec_shiftLeft]; rfl) (by rfl) (by rw [Int32.toBitVec_shiftLeft]; rfl)]
theorem su_3 (x : Int32) : ux x >>> ((3 : Int32).toInt64 &&& 63) = ux (((x : Int32).toUInt32 >>> ((3 : Int32).toUInt32 &&& Int32.toUInt32 31)).toInt32) := ux_shr x 3 (by rw [Int64.toBitVec_shiftRight]; rfl) (by rfl)
theorem su_10 (x : Int32) : ux x >>> ((10 : Int32).toInt64 &&& 63) = ux (((x : Int32).toUInt32 >>> ((10 : Int32).toUInt32 &&& Int32.toUInt32 31)).toInt32) := ux_shr x 10 (by rw [Int64.toBitVec_shiftRight]; rfl) (by rfl)
theorem fs_CK : ∀ t, t < 64 → fs_C t = ux (fs_K t) := by
  have h : (List.range 64).all (fun t => fs_C t == ux (fs_K t)) = true := by decide +kernel
  intro t ht
  exact eq_of_beq (List.all_eq_true.mp h t (List.mem_range.mpr ht))
theorem cut1 (x y : Int32) : (ux x + ux y) &&& 4294967295 = ux (x + y) := by rw [ux_cut, ux_add, ux_32, ux_32]
theorem exW_s (k : Nat) (w : Nat → Int32) (j : Nat) : exW (k + 1) w j = if j = 16 + k then ((exW k w k + g0 (exW k w (k + 1))) + exW k w (k + 9)) + g1 (exW k w (14 + k)) else exW k w j := rfl
theorem exM_s {F : Nat} {sh : Nat → Nat × Nat} {n e km kw ks : Nat} {z : St} (D : DgM sh n z.2.2 e km kw ks) (w : Nat → Int32) {v : Nat → Int64} {i f : Nat} (hi : i < 48) (hv : ∀ j, j < 16 + i → v j = ux (exW i w j)) : ∃ v', (∀ j, j < 16 + (i + 1) → v' j = ux (exW (i + 1) w j)) ∧ fn_X12_block_L66 F sh n e (f + 1) (srl z ks v) (nI (16 + i)) = fn_X12_block_L66 F sh n e f (srl z ks v') (nI (16 + (i + 1))) := by
  obtain ⟨d1, d2, d3, d4, d5, d6, d7, d8, d9, d10, d11, d12⟩ := D
  have hc : ¬ (64 : Int32) ≤ nI (16 + i) := nI_ge (a := 16 + i) (b := 64) (by omega) (by decide)
  have e15 : nI (16 + i) - 15 = nI (i + 1) := (pk_sub (a := 16 + i) (b := 15) (by omega)).trans (by rw [show 16 + i - 15 = i + 1 by omega])
  have e2 : nI (16 + i) - 2 = nI (14 + i) := (pk_sub (a := 16 + i) (b := 2) (by omega)).trans (by rw [show 16 + i - 2 = 14 + i by omega])
  have e16 : nI (16 + i) - 16 = nI i := (pk_sub (a := 16 + i) (b := 16) (by omega)).trans (by rw [show 16 + i - 16 = i by omega])
  have e7 : nI (16 + i) - 7 = nI (i + 9) := (pk_sub (a := 16 + i) (b := 7) (by omega)).trans (by rw [show 16 + i - 7 = i + 9 by omega])
  have e1 : nI (16 + i) + 1 = nI (16 + (i + 1)) := nI_1 (16 + i)
  have A : ∀ j, j < 64 → okA sh n ks 102 (nI j) = true := fun j hj => okA_nI d7 d8 hj (by decide)
  rw [fn_X12_block_L66, if_neg hc, e15, e2, e16, e7, e1]
  simp only [grd_t (okO_of d1 d2), srl_3, lnk_t d11, grd_t (A (i + 1) (by omega)), grd_t (A (14 + i) (by omega)), grd_t (A i (by omega)), grd_t (A (i + 9) (by omega)), grd_t (A (16 + i) (by omega)), lt_t, srl_s, nI_clamp (show i + 1 < 2 ^ 31 by omega), nI_clamp (show 14 + i < 2 ^ 31 by omega), nI_clamp (show i < 2 ^ 31 by omega), nI_clamp (show i + 9 < 2 ^ 31 by omega), nI_clamp (show 16 + i < 2 ^ 31 by omega), sl_k, hv (i + 1) (by omega), hv (14 + i) (by omega), hv i (by omega), hv (i + 9) (by omega), cal_t (tu_7 _), cal_t (tu_18 _), cal_t (tu_17 _), cal_t (tu_19 _), ux_xor, su_3, su_10]
  refine ⟨_, ?_, rfl⟩
  intro j hj
  by_cases h : j = 16 + i
  · rw [if_pos h, exW_s, if_pos h, ux_cut, ux_add, ux_add, ux_add, ux_32, ux_32, ux_32, ux_32]
    rfl
  · rw [if_neg h, hv j (by omega)]
    rw [exW_s, if_neg h]
theorem rdM {F : Nat} {sh : Nat → Nat × Nat} {n e km kw ks : Nat} {z : St} (D : DgM sh n z.2.2 e km kw ks) {w : Nat → Int32} (hw : ∀ j, j < 64 → z.2.1 ks j = ux (w j)) (s : T8) {t f : Nat} (ht : t < 64) : fn_X12_block_L243 F sh n e (f + 1) z (ux s.1) (ux s.2.1) (ux s.2.2.1) (ux s.2.2.2.1) (ux s.2.2.2.2.1) (ux s.2.2.2.2.2.1) (ux s.2.2.2.2.2.2.1) (ux s.2.2.2.2.2.2.2) (nI t) = fn_X12_block_L243 F sh n e f z (ux (rd w t s).1) (ux (rd w t s).2.1) (ux (rd w t s).2.2.1) (ux (rd w t s).2.2.2.1) (ux (rd w t s).2.2.2.2.1) (ux (rd w t s).2.2.2.2.2.1) (ux (rd w t s).2.2.2.2.2.2.1) (ux (rd w t s).2.2.2.2.2.2.2) (nI (t + 1)) := by
  obtain ⟨d1, d2, d3, d4, d5, d6, d7, d8, d9, d10, d11, d12⟩ := D
  have hc : ¬ (64 : Int32) ≤ nI t := nI_ge (a := t) (b := 64) ht (by decide)
  have hI : okI (nI t) 64 = true := by
    have e := nI_toInt (n := t) (by omega)
    simp only [okI, Bool.and_eq_true, decide_eq_true_eq]
    omega
  rw [fn_X12_block_L243, if_neg hc, show nI t + 1 = nI (t + 1) from nI_1 t]
  simp only [cal_t (tu_6 _), cal_t (tu_11 _), cal_t (tu_25 _), cal_t (tu_2 _), cal_t (tu_13 _), cal_t (tu_22 _), grd_t hI, lnk_t d11, grd_t (okA_nI d7 d8 ht (by decide)), lt_t, nI_clamp (show t < 2 ^ 31 by omega), hw t ht, fs_CK t ht, ux_xor, ux_and, ux_not]
  have ex : ((((ux s.2.2.2.2.2.2.2 + ux (h1 s.2.2.2.2.1)) + ux ((s.2.2.2.2.1 &&& s.2.2.2.2.2.1) ^^^ (~~~s.2.2.2.2.1 &&& s.2.2.2.2.2.2.1))) + ux (fs_K t)) + ux (w t)).toInt32 = x1 w t s := by
    rw [ux_add, ux_add, ux_add, ux_add, ux_32, ux_32, ux_32, ux_32, ux_32]
    unfold x1
    rw [show s.2.2.2.2.1 ^^^ (-1) = ~~~s.2.2.2.2.1 from Int32.xor_neg_one]
    ac_rfl
  have ey : (ux (h2 s.1) + ux (((s.1 &&& s.2.1) ^^^ (s.1 &&& s.2.2.1)) ^^^ (s.2.1 &&& s.2.2.1))).toInt32 = x2 s := by
    rw [ux_add, ux_32, ux_32]
    rfl
  have e1 : ∀ a b : Int64, (a + b) &&& 4294967295 = ux (a.toInt32 + b.toInt32) := fun a b => by rw [ux_cut, ux_add]
  rw [e1, e1, ux_32]
  show fn_X12_block_L243 F sh n e f z (ux (((((ux s.2.2.2.2.2.2.2 + ux (h1 s.2.2.2.2.1)) + ux ((s.2.2.2.2.1 &&& s.2.2.2.2.2.1) ^^^ (~~~s.2.2.2.2.1 &&& s.2.2.2.2.2.2.1))) + ux (fs_K t)) + ux (w t)).toInt32 + (ux (h2 s.1) + ux (((s.1 &&& s.2.1) ^^^ (s.1 &&& s.2.2.1)) ^^^ (s.2.1 &&& s.2.2.1))).toInt32)) (ux s.1) (ux s.2.1) (ux s.2.2.1) (ux (s.2.2.2.1 + ((((ux s.2.2.2.2.2.2.2 + ux (h1 s.2.2.2.2.1)) + ux ((s.2.2.2.2.1 &&& s.2.2.2.2.2.1) ^^^ (~~~s.2.2.2.2.1 &&& s.2.2.2.2.2.2.1))) + ux (fs_K t)) + ux (w t)).toInt32)) (ux s.2.2.2.2.1) (ux s.2.2.2.2.2.1) (ux s.2.2.2.2.2.2.1) (nI (t + 1)) = _
  rw [ex, ey]
  rfl
theorem lt8 {j : Nat} (h : j < 8) : j = 0 ∨ j = 1 ∨ j = 2 ∨ j = 3 ∨ j = 4 ∨ j = 5 ∨ j = 6 ∨ j = 7 := by omega
theorem adM {F : Nat} {sh : Nat → Nat × Nat} {n e km kw ks : Nat} {z : St} (D : DgM sh n z.2.2 e km kw ks) {H : Nat → Int32} (hH : ∀ j, j < 8 → z.2.1 kw j = ux (H j)) (s : T8) {f : Nat} : ∃ G, (∀ j, j < 8 → G j = ux (adH H s j)) ∧ fn_X12_block_L243 F sh n e (f + 1) z (ux s.1) (ux s.2.1) (ux s.2.2.1) (ux s.2.2.2.1) (ux s.2.2.2.2.1) (ux s.2.2.2.2.2.1) (ux s.2.2.2.2.2.2.1) (ux s.2.2.2.2.2.2.2) (nI 64) = some (srl z kw G, ()) := by
  obtain ⟨d1, d2, d3, d4, d5, d6, d7, d8, d9, d10, d11, d12⟩ := D
  have A : ∀ j, j < 8 → okA sh n kw 102 (nI j) = true := fun j hj => okA_nI d5 d6 hj (by decide)
  have hc : (64 : Int32) ≤ nI 64 := by decide
  rw [fn_X12_block_L243, if_pos hc]
  have c0 : (0 : Int32).toNatClampNeg = 0 := rfl
  have c1 : (1 : Int32).toNatClampNeg = 1 := rfl
  have c2 : (2 : Int32).toNatClampNeg = 2 := rfl
  have c3 : (3 : Int32).toNatClampNeg = 3 := rfl
  have c4 : (4 : Int32).toNatClampNeg = 4 := rfl
  have c5 : (5 : Int32).toNatClampNeg = 5 := rfl
  have c6 : (6 : Int32).toNatClampNeg = 6 := rfl
  have c7 : (7 : Int32).toNatClampNeg = 7 := rfl
  have A0 : okA sh n kw 102 0 = true := A 0 (by decide)
  have A1 : okA sh n kw 102 1 = true := A 1 (by decide)
  have A2 : okA sh n kw 102 2 = true := A 2 (by decide)
  have A3 : okA sh n kw 102 3 = true := A 3 (by decide)
  have A4 : okA sh n kw 102 4 = true := A 4 (by decide)
  have A5 : okA sh n kw 102 5 = true := A 5 (by decide)
  have A6 : okA sh n kw 102 6 = true := A 6 (by decide)
  have A7 : okA sh n kw 102 7 = true := A 7 (by decide)
  simp only [lnk_t d10, grd_t A0, grd_t A1, grd_t A2, grd_t A3, grd_t A4, grd_t A5, grd_t A6, grd_t A7, lt_t, c0, c1, c2, c3, c4, c5, c6, c7, sl_3]
  simp only [sl_srl, srl_s, srl_srl]
  refine ⟨_, ?_, rfl⟩
  intro j hj
  have h0 := hH 0 (by decide)
  have h1 := hH 1 (by decide)
  have h2 := hH 2 (by decide)
  have h3 := hH 3 (by decide)
  have h4 := hH 4 (by decide)
  have h5 := hH 5 (by decide)
  have h6 := hH 6 (by decide)
  have h7 := hH 7 (by decide)
  rcases lt8 hj with h | h | h | h | h | h | h | h <;> subst h <;> simp [adH, h0, h1, h2, h3, h4, h5, h6, h7, cut1]
theorem exM_x {F : Nat} {sh : Nat → Nat × Nat} {n e km kw ks : Nat} {z : St} (D : DgM sh n z.2.2 e km kw ks) {f : Nat} : fn_X12_block_L66 F sh n e (f + 1) z (nI 64) = fn_X12_block_L243 F sh n e F z (z.2.1 kw 0) (z.2.1 kw 1) (z.2.1 kw 2) (z.2.1 kw 3) (z.2.1 kw 4) (z.2.1 kw 5) (z.2.1 kw 6) (z.2.1 kw 7) (nI 0) := by
  obtain ⟨d1, d2, d3, d4, d5, d6, d7, d8, d9, d10, d11, d12⟩ := D
  have A : ∀ j, j < 8 → okA sh n kw 102 (nI j) = true := fun j hj => okA_nI d5 d6 hj (by decide)
  rw [fn_X12_block_L66, if_pos (by decide)]
  have A0 : okA sh n kw 102 0 = true := A 0 (by decide)
  have A1 : okA sh n kw 102 1 = true := A 1 (by decide)
  have A2 : okA sh n kw 102 2 = true := A 2 (by decide)
  have A3 : okA sh n kw 102 3 = true := A 3 (by decide)
  have A4 : okA sh n kw 102 4 = true := A 4 (by decide)
  have A5 : okA sh n kw 102 5 = true := A 5 (by decide)
  have A6 : okA sh n kw 102 6 = true := A 6 (by decide)
  have A7 : okA sh n kw 102 7 = true := A 7 (by decide)
  simp only [grd_t (okO_of d1 d2), lnk_t d10, grd_t A0, grd_t A1, grd_t A2, grd_t A3, grd_t A4, grd_t A5, grd_t A6, grd_t A7, lt_t]
  rfl
theorem exM_l {F : Nat} {sh : Nat → Nat × Nat} {n e km kw ks : Nat} {z : St} (D : DgM sh n z.2.2 e km kw ks) (w : Nat → Int32) : ∀ (m i f : Nat) (v : Nat → Int64), m + i = 48 → (∀ j, j < 16 + i → v j = ux (exW i w j)) → ∃ v', (∀ j, j < 64 → v' j = ux (exW 48 w j)) ∧ fn_X12_block_L66 F sh n e (f + m) (srl z ks v) (nI (16 + i)) = fn_X12_block_L66 F sh n e f (srl z ks v') (nI 64) := by
  intro m
  induction m with
  | zero => intro i f v h hv; rw [show i = 48 by omega] at hv ⊢; exact ⟨v, hv, rfl⟩
  | succ m ih =>
    intro i f v h hv
    obtain ⟨v1, h1, e1⟩ := exM_s (F := F) (f := f + m) D w (by omega) hv
    obtain ⟨v2, h2, e2⟩ := ih (i + 1) f v1 (by omega) h1
    exact ⟨v2, h2, by rw [← Nat.add_assoc, e1, e2]⟩
theorem rdM_l {F : Nat} {sh : Nat → Nat × Nat} {n e km kw ks : Nat} {z : St} (D : DgM sh n z.2.2 e km kw ks) {w : Nat → Int32} (hw : ∀ j, j < 64 → z.2.1 ks j = ux (w j)) (s : T8) : ∀ m t f : Nat, m + t = 64 → fn_X12_block_L243 F sh n e (f + m) z (ux (rds w t s).1) (ux (rds w t s).2.1) (ux (rds w t s).2.2.1) (ux (rds w t s).2.2.2.1) (ux (rds w t s).2.2.2.2.1) (ux (rds w t s).2.2.2.2.2.1) (ux (rds w t s).2.2.2.2.2.2.1) (ux (rds w t s).2.2.2.2.2.2.2) (nI t) = fn_X12_block_L243 F sh n e f z (ux (rds w 64 s).1) (ux (rds w 64 s).2.1) (ux (rds w 64 s).2.2.1) (ux (rds w 64 s).2.2.2.1) (ux (rds w 64 s).2.2.2.2.1) (ux (rds w 64 s).2.2.2.2.2.1) (ux (rds w 64 s).2.2.2.2.2.2.1) (ux (rds w 64 s).2.2.2.2.2.2.2) (nI 64) := by
  intro m
  induction m with
  | zero => intro t f h; rw [show t = 64 by omega]; rfl
  | succ m ih => intro t f h; rw [← Nat.add_assoc, rdM D hw (rds w t s) (by omega)]; exact ih (t + 1) f (by omega)
/-! words out of bytes -/
theorem and255 (c : Int32) : c &&& 255 = nI (c.toBitVec.toNat % 256) := pk_and c 8 (by decide)
theorem shl_or {y c : Int32} (hy : y.toBitVec.toNat < 2 ^ 24) : ((y <<< ((8 : Int32) &&& 31)) ||| (c &&& 255)).toBitVec.toNat = y.toBitVec.toNat * 256 + c.toBitVec.toNat % 256 := by
  have hm : c.toBitVec.toNat % 256 < 2 ^ 8 := Nat.mod_lt _ (by decide)
  rw [Int32.toBitVec_or, BitVec.toNat_or, shl8, BitVec.toNat_shiftLeft, Nat.shiftLeft_eq, and255, pk_tn (by omega), Nat.mod_eq_of_lt (by omega), Nat.mul_comm _ (2 ^ 8), ← Nat.two_pow_add_eq_or_of_lt hm]
theorem pw_lt {b : Nat → Int32} {o : Nat} : ∀ k, k ≤ 4 → (pw 0 b o k).toBitVec.toNat < 2 ^ (8 * k) := by
  intro k
  induction k with
  | zero => intro _; exact Nat.one_pos
  | succ k ih =>
    intro hk
    have h := ih (by omega)
    have h24 : 2 ^ (8 * k) ≤ 2 ^ 24 := Nat.pow_le_pow_right (by decide) (by omega)
    have e : 2 ^ (8 * (k + 1)) = 2 ^ (8 * k) * 256 := by rw [show 8 * (k + 1) = 8 * k + 8 by omega, Nat.pow_add]
    rw [pw, shl_or (by omega), e]
    have hm : (b (o + k)).toBitVec.toNat % 256 < 256 := Nat.mod_lt _ (by decide)
    omega
theorem lN_nat {k : Nat} (h : k < 2 ^ 63) : (lN k).toBitVec.toNat = k := by
  show (BitVec.ofNat 64 k).toNat = k
  rw [BitVec.toNat_ofNat]
  omega
theorem asm1 {y c : Int32} (hy : y.toBitVec.toNat < 2 ^ 24) : 256 * ux y + (c &&& 255).toInt64 = ux ((y <<< ((8 : Int32) &&& 31)) ||| (c &&& 255)) := by
  have hm : c.toBitVec.toNat % 256 < 2 ^ 8 := Nat.mod_lt _ (by decide)
  apply b64_nat
  rw [ux_toNat, shl_or hy, and255, nI_l (by omega), Int64.toBitVec_add, BitVec.toNat_add, Int64.toBitVec_mul, BitVec.toNat_mul, ux_toNat, lN_nat (by omega)]
  show (256 * y.toBitVec.toNat % 2 ^ 64 + c.toBitVec.toNat % 256) % 2 ^ 64 = _
  omega
theorem lay_s {F : Nat} {sh : Nat → Nat × Nat} {n e km kw ks : Nat} {z : St} (D : DgM sh n z.2.2 e km kw ks) {b : Nat → Int32} {t x k f : Nat} {ko : St → Int32 → Option (St × Unit)} (hk : k < 4) (hm : x + 4 * t + k < 4096) (hb : z.1 km (x + 4 * t + k) &&& 255 = b (x + 4 * t + k) &&& 255) : fn_X12_block_L13 F sh n e (nI t) (nI x) ko (f + 1) z (ux (pw 0 b (x + 4 * t) k)) (nI k) = fn_X12_block_L13 F sh n e (nI t) (nI x) ko f z (ux (pw 0 b (x + 4 * t) (k + 1))) (nI (k + 1)) := by
  obtain ⟨d1, d2, d3, d4, d5, d6, d7, d8, d9, d10, d11, d12⟩ := D
  have hc : ¬ (4 : Int32) ≤ nI k := nI_ge (a := k) (b := 4) hk (by decide)
  have e0 : nI x + 4 * nI t + nI k = nI (x + 4 * t + k) := by
    rw [show (4 : Int32) * nI t = nI (4 * t) from pk_mul 4 t, nI_add, nI_add]
  have h24 : (pw 0 b (x + 4 * t) k).toBitVec.toNat < 2 ^ 24 := Nat.lt_of_lt_of_le (pw_lt k (by omega)) (Nat.pow_le_pow_right (by decide) (by omega))
  rw [fn_X12_block_L13, if_neg hc, e0, show nI k + 1 = nI (k + 1) from nI_1 k]
  simp only [grd_t (okO_of d1 d2), lnk_t d9, grd_t (okA_nI d3 d4 hm (by decide)), nI_clamp (show x + 4 * t + k < 2 ^ 31 by omega), lt_t, hb]
  rw [asm1 h24]
  rfl
theorem lay_w {F : Nat} {sh : Nat → Nat × Nat} {n e km kw ks : Nat} {z : St} (D : DgM sh n z.2.2 e km kw ks) {b : Nat → Int32} {t x f : Nat} {ko : St → Int32 → Option (St × Unit)} (ht : t < 16) (hm : x + 64 ≤ 4096) (hb : ∀ j, j < 64 → z.1 km (x + j) &&& 255 = b (x + j) &&& 255) : fn_X12_block_L13 F sh n e (nI t) (nI x) ko (f + 5) z 0 (nI 0) = ko (sl z ks t (ux (pw 0 b (x + 4 * t) 4))) (nI (t + 1)) := by
  have hb' : ∀ k, k < 4 → z.1 km (x + 4 * t + k) &&& 255 = b (x + 4 * t + k) &&& 255 := fun k hk => by
    have h := hb (4 * t + k) (by omega)
    rw [← Nat.add_assoc] at h
    exact h
  have e0 : (0 : Int64) = ux (pw 0 b (x + 4 * t) 0) := rfl
  rw [e0, lay_s D (f := f + 4) (k := 0) (by decide) (by omega) (hb' 0 (by decide)), lay_s D (f := f + 3) (k := 1) (by decide) (by omega) (hb' 1 (by decide)), lay_s D (f := f + 2) (k := 2) (by decide) (by omega) (hb' 2 (by decide)), lay_s D (f := f + 1) (k := 3) (by decide) (by omega) (hb' 3 (by decide))]
  obtain ⟨d1, d2, d3, d4, d5, d6, d7, d8, d9, d10, d11, d12⟩ := D
  rw [fn_X12_block_L13, if_pos (by decide), show nI t + 1 = nI (t + 1) from nI_1 t]
  simp only [grd_t (okO_of d1 d2), lnk_t d11, grd_t (okA_nI d7 d8 (show t < 64 by omega) (by decide)), nI_clamp (show t < 2 ^ 31 by omega), lt_t]
theorem lay_l {F : Nat} {sh : Nat → Nat × Nat} {n e km kw ks : Nat} {z : St} (D : DgM sh n z.2.2 e km kw ks) {b : Nat → Int32} {x : Nat} (hF : 5 ≤ F) (hm : x + 64 ≤ 4096) (hb : ∀ j, j < 64 → z.1 km (x + j) &&& 255 = b (x + j) &&& 255) : ∀ (m t f : Nat) (v : Nat → Int64), m + t = 16 → (∀ j, j < t → v j = ux (pw 0 b (x + 4 * j) 4)) → ∃ v', (∀ j, j < 16 → v' j = ux (pw 0 b (x + 4 * j) 4)) ∧ fn_X12_block_L2 F sh n e (nI x) (f + m + 1) (srl z ks v) (nI t) = fn_X12_block_L66 F sh n e F (srl z ks v') (nI 16) := by
  intro m
  induction m with
  | zero =>
    intro t f v h hv
    rw [show t = 16 by omega] at hv ⊢
    refine ⟨v, hv, ?_⟩
    rw [fn_X12_block_L2, if_pos (by decide)]
    rfl
  | succ m ih =>
    intro t f v h hv
    have hc : ¬ (16 : Int32) ≤ nI t := nI_ge (a := t) (b := 16) (by omega) (by decide)
    obtain ⟨v2, h2, e2⟩ := ih (t + 1) f (fun j => if j = t then ux (pw 0 b (x + 4 * t) 4) else v j) (by omega) (fun j hj => by
      by_cases e : j = t
      · subst e
        rw [if_pos rfl]
      · rw [if_neg e]
        exact hv j (by omega))
    refine ⟨v2, h2, ?_⟩
    rw [fn_X12_block_L2, if_neg hc]
    have hl := lay_w (F := F) (z := srl z ks v) D (b := b) (t := t) (x := x) (f := F - 5) (ko := fun z9 q2 => fn_X12_block_L2 F sh n e (nI x) (f + (m + 1)) z9 q2) (by omega) hm hb
    rw [show F - 5 + 5 = F by omega] at hl
    refine hl.trans ?_
    rw [sl_k]
    exact e2
/-- one block of the reference's digest -/
theorem blk_t {F : Nat} {sh : Nat → Nat × Nat} {n e km kw ks : Nat} {z : St} (D : DgM sh n z.2.2 e km kw ks) {b H : Nat → Int32} {q : Nat} (hF : 64 < F) (hm : 64 * q + 64 ≤ 4096) (hb : ∀ j, j < 64 → z.1 km (64 * q + j) &&& 255 = b (64 * q + j) &&& 255) (hH : ∀ j, j < 8 → z.2.1 kw j = ux (H j)) : ∃ V G, (∀ j, j < 8 → G j = ux (cmpr H (fun t => pw 0 b (64 * q + 4 * t) 4) j)) ∧ fn_X12_block F sh n z e (nI (64 * q)) = some (srl (srl z ks V) kw G, ()) := by
  have hne : kw ≠ ks := D.2.2.2.2.2.2.2.2.2.2.2.2
  obtain ⟨v1, h1, e1⟩ := lay_l (F := F) D (b := b) (x := 64 * q) (by omega) hm hb 16 0 (F - 17) (z.2.1 ks) rfl (fun j hj => absurd hj (by omega))
  rw [show F - 17 + 16 + 1 = F by omega, srl_id] at e1
  obtain ⟨v2, h2, e2⟩ := exM_l (F := F) D (fun t => pw 0 b (64 * q + 4 * t) 4) 48 0 (F - 48) v1 rfl h1
  rw [show F - 48 + 48 = F by omega] at e2
  have D' : DgM sh n (srl z ks v2).2.2 e km kw ks := D
  have e3 := exM_x (F := F) D' (f := F - 49)
  rw [show F - 49 + 1 = F - 48 by omega] at e3
  have hw : ∀ j, j < 64 → (srl z ks v2).2.1 ks j = ux (exW 48 (fun t => pw 0 b (64 * q + 4 * t) 4) j) := fun j hj => by rw [srl_s]; exact h2 j hj
  have hH' : ∀ j, j < 8 → (srl z ks v2).2.1 kw j = ux (H j) := fun j hj => by rw [srl_o hne]; exact hH j hj
  have e4 := rdM_l (F := F) D' hw (t8 H) 64 0 (F - 64) rfl
  rw [show F - 64 + 64 = F by omega] at e4
  obtain ⟨G, hG, e5⟩ := adM (F := F) D' hH' (rds (exW 48 (fun t => pw 0 b (64 * q + 4 * t) 4)) 64 (t8 H)) (f := F - 65)
  rw [show F - 65 + 1 = F - 64 by omega] at e5
  refine ⟨v2, G, hG, ?_⟩
  have e0 : fn_X12_block F sh n z e (nI (64 * q)) = fn_X12_block_L2 F sh n e (nI (64 * q)) F z (nI 0) := rfl
  rw [e0, e1]
  refine e2.trans (e3.trans ?_)
  rw [hH' 0 (by decide), hH' 1 (by decide), hH' 2 (by decide), hH' 3 (by decide), hH' 4 (by decide), hH' 5 (by decide), hH' 6 (by decide), hH' 7 (by decide)]
  exact e4.trans e5
