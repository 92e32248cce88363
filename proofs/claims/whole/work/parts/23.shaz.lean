/-! bytes of numbers; the padded message; both digests at their ends -/
theorem i8_and (x : Int32) : x.toInt8.toInt32 &&& 255 = x &&& 255 := by
  apply b32_ext
  intro i hi
  rw [Int32.toBitVec_and, Int32.toBitVec_and, BitVec.getLsbD_and, BitVec.getLsbD_and]
  by_cases h : i < 8
  · have e : (x.toInt8.toInt32).toBitVec.getLsbD i = x.toBitVec.getLsbD i := by
      rw [Int8.toBitVec_toInt32, BitVec.getLsbD_signExtend, Int32.toBitVec_toInt8, BitVec.getLsbD_signExtend]
      simp [hi, h]
    rw [e]
  · have e : (255 : Int32).toBitVec.getLsbD i = false := by
      show (BitVec.ofNat 32 255).getLsbD i = false
      rw [BitVec.getLsbD_ofNat, show (255 : Nat) = 2 ^ 8 - 1 from rfl, Nat.testBit_two_pow_sub_one]
      simp [h]
    rw [e]
    simp
/-- the byte number c of a long, counted from its low end -/
def lb (x : Int64) (c : Nat) : Int32 := nI (x.toBitVec.toNat / 2 ^ (8 * c) % 256)
theorem lb_and (x : Int64) (c : Nat) : lb x c &&& 255 = lb x c := by
  unfold lb
  have h : x.toBitVec.toNat / 2 ^ (8 * c) % 256 < 256 := Nat.mod_lt _ (by decide)
  rw [and255, pk_tn (by omega), Nat.mod_mod]
theorem lb_u {x : Int64} {c : Nat} {e : UInt64} (he : ((x.toUInt64 >>> e).toInt64).toBitVec = x.toBitVec >>> (8 * c)) : ((x.toUInt64 >>> e).toInt64).toInt32 &&& 255 = lb x c := by
  rw [and255, i32_bv, BitVec.toNat_setWidth, he, BitVec.toNat_ushiftRight, Nat.shiftRight_eq_div_pow]
  unfold lb
  congr 1
  omega
theorem lb_s {x : Int64} {c : Nat} (hc : c < 8) {e : Int64} (he : (x >>> e).toBitVec = x.toBitVec.sshiftRight (8 * c)) : (x >>> e).toInt32 &&& 255 = lb x c := by
  have h1 : (x >>> e).toInt32 &&& 255 = ((Int64.ofBitVec (x.toBitVec >>> (8 * c))).toInt32) &&& 255 := by
    apply b32_ext
    intro i hi
    rw [Int32.toBitVec_and, Int32.toBitVec_and, BitVec.getLsbD_and, BitVec.getLsbD_and, i32_bv, i32_bv, BitVec.getLsbD_setWidth, BitVec.getLsbD_setWidth, he]
    by_cases h : i < 8
    · have e1 : (x.toBitVec.sshiftRight (8 * c)).getLsbD i = x.toBitVec.getLsbD (8 * c + i) := by
        rw [BitVec.getLsbD_sshiftRight]
        have a1 : 8 * c + i < 64 := by omega
        have a2 : i < 64 := by omega
        simp [a1, a2]
      have e2 : (Int64.ofBitVec (x.toBitVec >>> (8 * c))).toBitVec.getLsbD i = x.toBitVec.getLsbD (8 * c + i) := by
        show (x.toBitVec >>> (8 * c)).getLsbD i = _
        rw [BitVec.getLsbD_ushiftRight]
      rw [e1, e2]
    · have e : (255 : Int32).toBitVec.getLsbD i = false := by
        show (BitVec.ofNat 32 255).getLsbD i = false
        rw [BitVec.getLsbD_ofNat, show (255 : Nat) = 2 ^ 8 - 1 from rfl, Nat.testBit_two_pow_sub_one]
        simp [h]
      rw [e]
      simp
  rw [h1, and255, i32_bv, BitVec.toNat_setWidth]
  show nI ((x.toBitVec >>> (8 * c)).toNat % 2 ^ 32 % 256) = _
  rw [BitVec.toNat_ushiftRight, Nat.shiftRight_eq_div_pow]
  unfold lb
  congr 1
  omega
theorem lb_X (x : Int64) {c : Nat} (hc : c < 8) : (((x : Int64).toUInt64 >>> ((nI (8 * c) : Int32).toInt64.toUInt64 &&& Int64.toUInt64 63)).toInt64 : Int64).toInt32 &&& 255 = lb x c := by
  apply lb_u
  rcases lt8 hc with h | h | h | h | h | h | h | h <;> subst h <;> rfl
theorem lb_M (x : Int64) {c : Nat} (hc : c < 8) : ((x >>> (((8 * nI c) : Int32).toInt64 &&& 63) : Int64)).toInt32 &&& 255 = lb x c := by
  apply lb_s hc
  rcases lt8 hc with h | h | h | h | h | h | h | h <;> subst h <;> rw [Int64.toBitVec_shiftRight] <;> rfl
/-! the class -/
def DP (sh : Nat → Nat × Nat) (n : Nat) (z : St) (d kw ks : Nat) (b : Nat → Int32) (p : Nat) : Prop := DI sh n z d kw ks b (p / 64) (p % 64)
theorem put_p {F : Nat} {sh : Nat → Nat × Nat} {n d kw ks p : Nat} {z : St} {b : Nat → Int32} {x : Int32} (I : DP sh n z d kw ks b p) (hF : 64 < F) (hx : x &&& 255 = b p &&& 255) : ∃ z', fn_X0_put F sh n z d x = some (z', ()) ∧ DP sh n z' d kw ks b (p + 1) ∧ frD z z' d kw ks := by
  have e : 64 * (p / 64) + p % 64 = p := by omega
  obtain ⟨z', h1, h2, h3⟩ := put_t (x := x) I hF (hx.trans (by rw [e]))
  refine ⟨z', h1, ?_, h3⟩
  unfold DP
  by_cases h : p % 64 = 63
  · rw [if_pos h, if_pos h] at h2
    rw [show (p + 1) / 64 = p / 64 + 1 by omega, show (p + 1) % 64 = 0 by omega]
    exact h2
  · rw [if_neg h, if_neg h] at h2
    rw [show (p + 1) / 64 = p / 64 by omega, show (p + 1) % 64 = p % 64 + 1 by omega]
    exact h2
theorem pw_lo {g : Int32} {b b' : Nat → Int32} {o : Nat} : ∀ r, (∀ i, i < r → b (o + i) = b' (o + i)) → pw g b o r = pw g b' o r := by
  intro r
  induction r with
  | zero => intro _; rfl
  | succ r ih =>
    intro h
    rw [pw, pw, ih (fun i hi => h i (by omega)), h r (by omega)]
theorem HS_lo {b b' : Nat → Int32} : ∀ q, (∀ i, i < 64 * q → b i = b' i) → ∀ j, j < 8 → HS b q j = HS b' q j := by
  intro q
  induction q with
  | zero => intro _ j _; rfl
  | succ q ih =>
    intro h j hj
    show cmpr (HS b q) _ j = cmpr (HS b' q) _ j
    exact cmpr_lo (ih (fun i hi => h i (by omega))) (fun t ht => pw_lo 4 (fun i hi => h _ (by omega))) j hj
theorem DP_lo {sh : Nat → Nat × Nat} {n d kw ks p : Nat} {z : St} {b b' : Nat → Int32} (I : DP sh n z d kw ks b p) (h : ∀ i, i < p → b i = b' i) : DP sh n z d kw ks b' p := by
  obtain ⟨D, hr, hH, hf, ht, hw, g, hg⟩ := I
  refine ⟨D, hr, fun j hj => (hH j hj).trans (HS_lo _ (fun i hi => h i (by omega)) j hj), hf, ht, fun t h4 => (hw t h4).trans (pw_lo 4 (fun i hi => h _ (by omega))), g, hg.trans (pw_lo _ (fun i hi => h _ (by omega)))⟩
theorem start_t {F : Nat} {sh : Nat → Nat × Nat} {n d kw ks : Nat} {z : St} (D : DgX sh n z.2.2 d kw ks) (b : Nat → Int32) : ∃ z', fn_X0_start F sh n z d = some (z', ()) ∧ DP sh n z' d kw ks b 0 ∧ frD z z' d kw ks := by
  obtain ⟨d1, d2, d3, d4, d5, d6, d7, d8, d9, d10, d11⟩ := id D
  have hC : okC 8 (sh kw).2 0 0 8 = true := by rw [d4]; decide
  have hO : okO sh n kw 101 = true := okO_of d3 (by rw [d4])
  unfold fn_X0_start
  simp only [grd_t (okO_of d1 d2), lnk_t d7, grd_t hO, grd_t hC, lt_t]
  refine ⟨_, rfl, ⟨D, by decide, ?_, ?_, ?_, fun t h => absurd h (by omega), _, rfl⟩, ?_, ?_, rfl⟩
  · intro j hj
    simp only [sl_1, si_1, if_neg (Ne.symm d9)]
    have e : ∀ a b c, (sc z kw fs_FIRST a b c).1 kw j = va_cpy fs_FIRST (z.1 kw) a b c j := fun a b c => by simp [sc]
    rw [e]
    show va_cpy fs_FIRST (z.1 kw) 0 0 8 j = HS b 0 j
    rw [pk_cpy_in (by omega) (by omega)]
    show fs_FIRST (0 + (j - 0)) = fs_FIRST j
    rw [Nat.zero_add, Nat.sub_zero]
  · simp [sl_1, si_1]
    rfl
  · simp [sl_2]
    rfl
  · intro k h1 h2 h3
    funext j
    simp [sl, si, sc, h1, h2]
  · intro k h1
    funext j
    rw [sl_2, if_neg h1]
    rfl
theorem putL_t {F : Nat} {sh : Nat → Nat × Nat} {n d kw ks : Nat} {b : Nat → Int32} {x : Int64} (hF : 64 < F) : ∀ (c f p : Nat) (z : St), DP sh n z d kw ks b p → c ≤ 8 → (∀ i, i < c → b (p + i) &&& 255 = lb x (c - 1 - i)) → ∃ z', fn_X0_putLong_L3 F sh n d x (f + c + 1) z (nI (8 * c) - 8) = some (z', ()) ∧ DP sh n z' d kw ks b (p + c) ∧ frD z z' d kw ks := by
  intro c
  induction c with
  | zero =>
    intro f p z I _ _
    refine ⟨z, ?_, I, fun _ _ _ _ => rfl, fun _ _ => rfl, rfl⟩
    rw [fn_X0_putLong_L3, if_pos (by decide)]
  | succ c ih =>
    intro f p z I hc hb
    have e0 : nI (8 * (c + 1)) - 8 = nI (8 * c) := (pk_sub (a := 8 * (c + 1)) (b := 8) (by omega)).trans (by rw [show 8 * (c + 1) - 8 = 8 * c by omega])
    obtain ⟨z1, h1, I1, f1⟩ := put_p (x := (((x : Int64).toUInt64 >>> ((nI (8 * c) : Int32).toInt64.toUInt64 &&& Int64.toUInt64 63)).toInt64 : Int64).toInt32) I hF (by
      have h := hb 0 (by omega)
      rw [Nat.add_zero, show c + 1 - 1 - 0 = c by omega] at h
      rw [lb_X x (by omega), h])
    obtain ⟨z2, h2, I2, f2⟩ := ih f (p + 1) z1 I1 (by omega) (fun i hi => by
      have h := hb (i + 1) (by omega)
      rw [show p + 1 + i = p + (i + 1) by omega, h, show c + 1 - 1 - (i + 1) = c - 1 - i by omega])
    refine ⟨z2, ?_, by rw [show p + (c + 1) = p + 1 + c by omega]; exact I2, frD_t f1 f2⟩
    rw [show f + (c + 1) + 1 = (f + c + 1) + 1 by omega, fn_X0_putLong_L3, e0, if_neg (nI_pos (by omega)), grd_t (okO_of I.1.1 I.1.2.1), cal_t h1, show nI (8 * c) + (-8) = nI (8 * c) - 8 from (Int32.sub_eq_add_neg _ _).symm]
    exact h2
theorem putL {F : Nat} {sh : Nat → Nat × Nat} {n d kw ks p : Nat} {z : St} {b : Nat → Int32} {x : Int64} (I : DP sh n z d kw ks b p) (hF : 64 < F) (hb : ∀ i, i < 8 → b (p + i) &&& 255 = lb x (7 - i)) : ∃ z', fn_X0_putLong F sh n z d x = some (z', ()) ∧ DP sh n z' d kw ks b (p + 8) ∧ frD z z' d kw ks := by
  obtain ⟨z', h1, h2, h3⟩ := putL_t (x := x) hF 8 (F - 9) p z I (by decide) hb
  rw [show F - 9 + 8 + 1 = F by omega] at h1
  exact ⟨z', h1, h2, h3⟩
/-- how many zeros are put in -/
def pz (m : Nat) : Nat := (119 - m % 64) % 64
/-- the padded message -/
def pb (b : Nat → Int32) (m : Nat) : Nat → Int32 := fun i => if i < m then b i else if i = m then 128 else if i < m + 1 + pz m then 0 else lb (lN (8 * m)) (7 - (i - (m + 1 + pz m)))
theorem finZ {F : Nat} {sh : Nat → Nat × Nat} {n d kw ks : Nat} {b : Nat → Int32} {v : Int64} (hF : 64 < F) : ∀ (k i f p : Nat) (z : St), DP sh n z d kw ks b p → k + i < 64 → (p + k) % 64 = 56 → (∀ j, j < k → (p + j) % 64 ≠ 56) → (∀ j, j < k → b (p + j) = 0) → ∃ z', fn_X0_finish_L18 F sh n d v (f + k + 1) z (nI i) = fn_X0_finish_L47 F sh n d v F z' 56 ∧ DP sh n z' d kw ks b (p + k) ∧ frD z z' d kw ks := by
  intro k
  induction k with
  | zero =>
    intro i f p z I hi he _ _
    refine ⟨z, ?_, I, fun _ _ _ _ => rfl, fun _ _ => rfl, rfl⟩
    have hc : ¬ (64 : Int32) ≤ nI i := nI_ge (a := i) (b := 64) (by omega) (by decide)
    rw [fn_X0_finish_L18, if_neg hc, I.2.2.2.1, show p % 64 = 56 from he, if_pos (show nI 56 = 56 from rfl)]
    rfl
  | succ k ih =>
    intro i f p z I hi he hn hb
    have hc : ¬ (64 : Int32) ≤ nI i := nI_ge (a := i) (b := 64) (by omega) (by decide)
    have h0 : p % 64 ≠ 56 := hn 0 (by omega)
    have hne : ¬ nI (p % 64) = 56 := fun e => h0 ((nI_eq (a := p % 64) (b := 56) (by omega) (by decide)).mp e)
    obtain ⟨z1, h1, I1, f1⟩ := put_p (x := 0) I hF (by have h := hb 0 (by omega); rw [Nat.add_zero] at h; rw [h])
    obtain ⟨z2, h2, I2, f2⟩ := ih (i + 1) f (p + 1) z1 I1 (by omega) (by rw [show p + 1 + k = p + (k + 1) by omega]; exact he) (fun j hj => by rw [show p + 1 + j = p + (j + 1) by omega]; exact hn (j + 1) (by omega)) (fun j hj => by rw [show p + 1 + j = p + (j + 1) by omega]; exact hb (j + 1) (by omega))
    refine ⟨z2, ?_, by rw [show p + (k + 1) = p + 1 + k by omega]; exact I2, frD_t f1 f2⟩
    rw [show f + (k + 1) + 1 = (f + k + 1) + 1 by omega, fn_X0_finish_L18, if_neg hc, I.2.2.2.1, if_neg hne, cal_t h1, show nI i + 1 = nI (i + 1) from nI_1 i]
    exact h2
theorem finL {F : Nat} {sh : Nat → Nat × Nat} {n d kw ks : Nat} {b : Nat → Int32} {x : Int64} (hF : 64 < F) : ∀ (c f p : Nat) (z : St), DP sh n z d kw ks b p → c ≤ 8 → (∀ i, i < c → b (p + i) &&& 255 = lb x (c - 1 - i)) → ∃ z', fn_X0_finish_L47 F sh n d x (f + c + 1) z (nI (8 * c) - 8) = some (z', ()) ∧ DP sh n z' d kw ks b (p + c) ∧ frD z z' d kw ks := by
  intro c
  induction c with
  | zero =>
    intro f p z I _ _
    refine ⟨z, ?_, I, fun _ _ _ _ => rfl, fun _ _ => rfl, rfl⟩
    rw [fn_X0_finish_L47, if_pos (by decide)]
  | succ c ih =>
    intro f p z I hc hb
    have e0 : nI (8 * (c + 1)) - 8 = nI (8 * c) := (pk_sub (a := 8 * (c + 1)) (b := 8) (by omega)).trans (by rw [show 8 * (c + 1) - 8 = 8 * c by omega])
    obtain ⟨z1, h1, I1, f1⟩ := put_p (x := (((x : Int64).toUInt64 >>> ((nI (8 * c) : Int32).toInt64.toUInt64 &&& Int64.toUInt64 63)).toInt64 : Int64).toInt32) I hF (by
      have h := hb 0 (by omega)
      rw [Nat.add_zero, show c + 1 - 1 - 0 = c by omega] at h
      rw [lb_X x (by omega), h])
    obtain ⟨z2, h2, I2, f2⟩ := ih f (p + 1) z1 I1 (by omega) (fun i hi => by
      have h := hb (i + 1) (by omega)
      rw [show p + 1 + i = p + (i + 1) by omega, h, show c + 1 - 1 - (i + 1) = c - 1 - i by omega])
    refine ⟨z2, ?_, by rw [show p + (c + 1) = p + 1 + c by omega]; exact I2, frD_t f1 f2⟩
    rw [show f + (c + 1) + 1 = (f + c + 1) + 1 by omega, fn_X0_finish_L47, e0, if_neg (nI_pos (by omega)), cal_t h1, show nI (8 * c) + (-8) = nI (8 * c) - 8 from (Int32.sub_eq_add_neg _ _).symm]
    exact h2
theorem fin_t {F : Nat} {sh : Nat → Nat × Nat} {n d kw ks m : Nat} {z : St} {b : Nat → Int32} (I : DP sh n z d kw ks b m) (hF : 64 < F) (hm : m < 2 ^ 30) : ∃ z', fn_X0_finish F sh n z d = some (z', ()) ∧ DgX sh n z'.2.2 d kw ks ∧ (∀ j, j < 8 → z'.1 kw j = HS (pb b m) ((m + 9 + pz m) / 64) j) ∧ frD z z' d kw ks := by
  have hz : pz m = (119 - m % 64) % 64 := rfl
  have I0 : DP sh n z d kw ks (pb b m) m := DP_lo I (fun i hi => by unfold pb; rw [if_pos hi])
  obtain ⟨z1, h1, I1, f1⟩ := put_p (x := 128) I0 hF (by unfold pb; rw [if_neg (Nat.lt_irrefl m), if_pos rfl])
  obtain ⟨z2, h2, I2, f2⟩ := finZ (v := lN (8 * m)) hF (pz m) 0 (F - pz m - 1) (m + 1) z1 I1 (by omega) (by omega) (fun j hj => by omega) (fun j hj => by
    unfold pb
    rw [if_neg (by omega), if_neg (by omega), if_pos (by omega)])
  rw [show F - pz m - 1 + pz m + 1 = F by omega] at h2
  obtain ⟨z3, h3, I3, f3⟩ := finL (x := lN (8 * m)) hF 8 (F - 9) (m + 1 + pz m) z2 I2 (by decide) (fun i hi => by
    have e : pb b m (m + 1 + pz m + i) = lb (lN (8 * m)) (7 - i) := by
      unfold pb
      rw [if_neg (by omega), if_neg (by omega), if_neg (by omega), show m + 1 + pz m + i - (m + 1 + pz m) = i by omega]
    rw [e, lb_and])
  rw [show F - 9 + 8 + 1 = F by omega] at h3
  refine ⟨z3, ?_, I3.1, ?_, frD_t (frD_t f1 f2) f3⟩
  · have ht : z.2.1 d 3 = lN m := by
      have h := I.2.2.2.2.1
      rw [show 64 * (m / 64) + m % 64 = m by omega] at h
      exact h
    unfold fn_X0_finish
    rw [grd_t (okO_of I.1.1 I.1.2.1), ht, show lN m * 8 = lN (8 * m) by rw [Nat.mul_comm]; exact lN_mul m 8]
    show cal (fn_X0_put F sh n z d 128) _ = _
    rw [cal_t h1]
    exact h2.trans h3
  · intro j hj
    have h := I3.2.2.1 j hj
    rw [show m + 1 + pz m + 8 = m + 9 + pz m by omega] at h
    exact h
theorem part_t {F : Nat} {sh : Nat → Nat × Nat} {n d kw ks i : Nat} {z : St} (D : DgX sh n z.2.2 d kw ks) (hi : i < 4) : fn_X0_part F sh n z d (nI i) = some (z, ((z.1 kw (2 * i)).toInt64 <<< ((32 : Int32).toInt64 &&& 63)) ||| ((z.1 kw (2 * i + 1)).toInt64 &&& 4294967295)) := by
  obtain ⟨d1, d2, d3, d4, d5, d6, d7, d8, d9, d10, d11⟩ := id D
  unfold fn_X0_part
  rw [show (2 : Int32) * nI i = nI (2 * i) from pk_mul 2 i, show nI (2 * i) + 1 = nI (2 * i + 1) from nI_1 (2 * i)]
  simp only [grd_t (okO_of d1 d2), lnk_t d7, grd_t (okA_nI d3 d4 (show 2 * i < 8 by omega) (by decide)), grd_t (okA_nI d3 d4 (show 2 * i + 1 < 8 by omega) (by decide)), nI_clamp (show 2 * i < 2 ^ 31 by omega), nI_clamp (show 2 * i + 1 < 2 ^ 31 by omega)]
