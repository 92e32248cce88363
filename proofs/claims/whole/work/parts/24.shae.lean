/-! the reference's digest -/
def MI (sh : Nat → Nat × Nat) (n : Nat) (z : St) (e km kw ks : Nat) (b : Nat → Int32) (m : Nat) : Prop := DgM sh n z.2.2 e km kw ks ∧ z.1 e 1 = nI m ∧ m ≤ 4096 ∧ ∀ i, i < m → z.1 km i &&& 255 = b i &&& 255
def frM (z z' : St) (e km kw ks : Nat) : Prop := (∀ k, k ≠ e → k ≠ km → z'.1 k = z.1 k) ∧ (∀ k, k ≠ kw → k ≠ ks → z'.2.1 k = z.2.1 k) ∧ z'.2.2 = z.2.2
theorem frM_r {z : St} {e km kw ks : Nat} : frM z z e km kw ks := ⟨fun _ _ _ => rfl, fun _ _ _ => rfl, rfl⟩
theorem frM_t {z z' z'' : St} {e km kw ks : Nat} (h : frM z z' e km kw ks) (h' : frM z' z'' e km kw ks) : frM z z'' e km kw ks := ⟨fun k a b => (h'.1 k a b).trans (h.1 k a b), fun k a b => (h'.2.1 k a b).trans (h.2.1 k a b), h'.2.2.trans h.2.2⟩
theorem MI_lo {sh : Nat → Nat × Nat} {n e km kw ks m : Nat} {z : St} {b b' : Nat → Int32} (I : MI sh n z e km kw ks b m) (h : ∀ i, i < m → b i = b' i) : MI sh n z e km kw ks b' m := ⟨I.1, I.2.1, I.2.2.1, fun i hi => by rw [← h i hi]; exact I.2.2.2 i hi⟩
theorem beg_t {F : Nat} {sh : Nat → Nat × Nat} {n e km kw ks : Nat} {z : St} (D : DgM sh n z.2.2 e km kw ks) (b : Nat → Int32) : ∃ z', fn_X12_begin F sh n z e = some (z', ()) ∧ MI sh n z' e km kw ks b 0 ∧ z'.2.1 = z.2.1 ∧ frM z z' e km kw ks := by
  unfold fn_X12_begin
  rw [grd_t (okO_of D.1 D.2.1)]
  refine ⟨_, rfl, ⟨D, ?_, by decide, fun i hi => absurd hi (by omega)⟩, rfl, ?_, fun _ _ _ => rfl, rfl⟩
  · simp [si_1]
    rfl
  · intro k h1 h2
    funext j
    simp [si_1, h1]
theorem add_t {F : Nat} {sh : Nat → Nat × Nat} {n e km kw ks m : Nat} {z : St} {b : Nat → Int32} {x : Int32} (I : MI sh n z e km kw ks b m) (hm : m < 4096) (hx : x &&& 255 = b m &&& 255) : ∃ z', fn_X12_add F sh n z e x = some (z', ()) ∧ MI sh n z' e km kw ks b (m + 1) ∧ z'.2.1 = z.2.1 ∧ frM z z' e km kw ks := by
  obtain ⟨D, hs, hm0, hb⟩ := I
  obtain ⟨d1, d2, d3, d4, d5, d6, d7, d8, d9, d10, d11, d12, d13⟩ := id D
  unfold fn_X12_add
  simp only [grd_t (okO_of d1 d2), lnk_t d9, hs, grd_t (okA_nI d3 d4 hm (by decide)), nI_clamp (show m < 2 ^ 31 by omega), lt_t]
  refine ⟨_, rfl, ⟨D, ?_, by omega, ?_⟩, rfl, ?_, fun _ _ _ => rfl, rfl⟩
  · simp only [si_1, if_true, if_neg d12, hs]
    exact nI_1 m
  · intro i hi
    simp only [si_1, if_neg (Ne.symm d12), if_true]
    by_cases h : i = m
    · subst h
      rw [if_pos rfl, pk_vb, i8_and, hx]
    · rw [if_neg h]
      exact hb i (by omega)
  · intro k h1 h2
    funext j
    simp [si_1, h1, h2]
theorem adn_t {F : Nat} {sh : Nat → Nat × Nat} {n e km kw ks : Nat} {b : Nat → Int32} {x : Int64} : ∀ (c f p : Nat) (z : St), MI sh n z e km kw ks b p → p + c ≤ 4096 → c ≤ 8 → (∀ i, i < c → b (p + i) &&& 255 = lb x (c - 1 - i)) → ∃ z', fn_X12_addNumber_L5 F sh n e x (f + c + 1) z (nI c - 1) = some (z', ()) ∧ MI sh n z' e km kw ks b (p + c) ∧ z'.2.1 = z.2.1 ∧ frM z z' e km kw ks := by
  intro c
  induction c with
  | zero =>
    intro f p z I _ _ _
    refine ⟨z, ?_, I, rfl, frM_r⟩
    rw [fn_X12_addNumber_L5, if_pos (by decide)]
  | succ c ih =>
    intro f p z I hp hc hb
    have e0 : nI (c + 1) - 1 = nI c := (pk_sub (a := c + 1) (b := 1) (by omega)).trans (by rw [show c + 1 - 1 = c by omega])
    obtain ⟨z1, h1, I1, l1, f1⟩ := add_t (F := F) (x := ((x >>> (((8 * nI c) : Int32).toInt64 &&& 63) : Int64)).toInt32) I (by omega) (by
      have h := hb 0 (by omega)
      rw [Nat.add_zero, show c + 1 - 1 - 0 = c by omega] at h
      rw [lb_M x (by omega), h])
    obtain ⟨z2, h2, I2, l2, f2⟩ := ih f (p + 1) z1 I1 (by omega) (by omega) (fun i hi => by
      have h := hb (i + 1) (by omega)
      rw [show p + 1 + i = p + (i + 1) by omega, h, show c + 1 - 1 - (i + 1) = c - 1 - i by omega])
    refine ⟨z2, ?_, by rw [show p + (c + 1) = p + 1 + c by omega]; exact I2, l2.trans l1, frM_t f1 f2⟩
    rw [show f + (c + 1) + 1 = (f + c + 1) + 1 by omega, fn_X12_addNumber_L5, e0, if_neg (nI_pos (by omega)), grd_t (okO_of I.1.1 I.1.2.1), cal_t h1, show nI c + (-1) = nI c - 1 from (Int32.sub_eq_add_neg _ _).symm]
    exact h2
theorem adn {F : Nat} {sh : Nat → Nat × Nat} {n e km kw ks p c : Nat} {z : St} {b : Nat → Int32} {x : Int64} (I : MI sh n z e km kw ks b p) (hF : 64 < F) (hp : p + c ≤ 4096) (hc : c ≤ 8) (hb : ∀ i, i < c → b (p + i) &&& 255 = lb x (c - 1 - i)) : ∃ z', fn_X12_addNumber F sh n z e x (nI c) = some (z', ()) ∧ MI sh n z' e km kw ks b (p + c) ∧ z'.2.1 = z.2.1 ∧ frM z z' e km kw ks := by
  obtain ⟨z', h1, h2⟩ := adn_t (F := F) (x := x) c (F - c - 1) p z I hp hc hb
  rw [show F - c - 1 + c + 1 = F by omega] at h1
  exact ⟨z', h1, h2⟩
theorem endB {F : Nat} {sh : Nat → Nat × Nat} {n e km kw ks : Nat} {b : Nat → Int32} {v : Int32} {M : Nat} (hF : 64 < F) (hM : 64 * M ≤ 4096) : ∀ (k q f : Nat) (z : St), k + q = M → MI sh n z e km kw ks b (64 * M) → (∀ j, j < 8 → z.2.1 kw j = ux (HS b q j)) → ∃ z', fn_X12_end_L120 F sh n e v (f + k + 1) z (nI (64 * q)) = some (si z' e 1 v, ()) ∧ DgM sh n z'.2.2 e km kw ks ∧ z'.1 = z.1 ∧ (∀ j, j < 8 → z'.2.1 kw j = ux (HS b M j)) ∧ frM z z' e km kw ks := by
  intro k
  induction k with
  | zero =>
    intro q f z h I hH
    have h : q = M := by omega
    subst h
    refine ⟨z, ?_, I.1, rfl, hH, frM_r⟩
    rw [fn_X12_end_L120, I.2.1, if_pos (nI_le (Nat.le_refl _) (by omega))]
    rfl
  | succ k ih =>
    intro q f z h I hH
    have hlt : ¬ nI (64 * M) ≤ nI (64 * q) := nI_ge (by omega) (by omega)
    obtain ⟨V, G, hG, e1⟩ := blk_t (F := F) I.1 (b := b) (H := HS b q) (q := q) hF (by omega) (fun j hj => I.2.2.2 (64 * q + j) (by omega)) hH
    have hne : kw ≠ ks := I.1.2.2.2.2.2.2.2.2.2.2.2.2
    obtain ⟨z2, h2, D2, n2, H2, f2⟩ := ih (q + 1) f (srl (srl z ks V) kw G) (by omega) ⟨I.1, I.2.1, I.2.2.1, I.2.2.2⟩ (fun j hj => by rw [srl_s]; exact hG j hj)
    have f1 : frM z (srl (srl z ks V) kw G) e km kw ks := ⟨fun _ _ _ => rfl, fun k a b => by rw [srl_o a, srl_o b], rfl⟩
    refine ⟨z2, ?_, D2, n2, H2, frM_t f1 f2⟩
    rw [show f + (k + 1) + 1 = (f + k + 1) + 1 by omega, fn_X12_end_L120, I.2.1, if_neg hlt, cal_t e1, show nI (64 * q) + 64 = nI (64 * (q + 1)) from (nI_add (64 * q) 64).trans (by rw [show 64 * q + 64 = 64 * (q + 1) by omega])]
    exact h2
theorem endZ {F : Nat} {sh : Nat → Nat × Nat} {n e km kw ks : Nat} {b : Nat → Int32} {v : Int32} : ∀ (k f p : Nat) (z : St), MI sh n z e km kw ks b p → p + k < 4096 → (p + k) % 64 = 56 → (∀ j, j < k → (p + j) % 64 ≠ 56) → (∀ j, j < k → b (p + j) = 0) → ∃ z', fn_X12_end_L86 F sh n e v (f + k + 1) z = cal (fn_X12_addNumber F sh n z' e (8 * v.toInt64) 8) (fun z1 _ => fn_X12_end_L120 F sh n e v F z1 0) ∧ MI sh n z' e km kw ks b (p + k) ∧ z'.2.1 = z.2.1 ∧ frM z z' e km kw ks := by
  intro k
  induction k with
  | zero =>
    intro f p z I hp he _ _
    refine ⟨z, ?_, I, rfl, frM_r⟩
    rw [fn_X12_end_L86, I.2.1, show nI p - nI p / 64 * 64 = nI (p % 64) from pk_rem (by omega) (by decide) (by decide), show p % 64 = 56 from he, if_pos (show nI 56 = 56 from rfl)]
  | succ k ih =>
    intro f p z I hp he hn hb
    have h0 : p % 64 ≠ 56 := hn 0 (by omega)
    have hne : ¬ nI (p % 64) = 56 := fun e => h0 ((nI_eq (a := p % 64) (b := 56) (by omega) (by decide)).mp e)
    obtain ⟨z1, h1, I1, l1, f1⟩ := add_t (F := F) (x := 0) I (by omega) (by have h := hb 0 (by omega); rw [Nat.add_zero] at h; rw [h])
    obtain ⟨z2, h2, I2, l2, f2⟩ := ih f (p + 1) z1 I1 (by omega) (by rw [show p + 1 + k = p + (k + 1) by omega]; exact he) (fun j hj => by rw [show p + 1 + j = p + (j + 1) by omega]; exact hn (j + 1) (by omega)) (fun j hj => by rw [show p + 1 + j = p + (j + 1) by omega]; exact hb (j + 1) (by omega))
    refine ⟨z2, ?_, by rw [show p + (k + 1) = p + 1 + k by omega]; exact I2, l2.trans l1, frM_t f1 f2⟩
    rw [show f + (k + 1) + 1 = (f + k + 1) + 1 by omega, fn_X12_end_L86, I.2.1, show nI p - nI p / 64 * 64 = nI (p % 64) from pk_rem (by omega) (by decide) (by decide), if_neg hne, cal_t h1]
    exact h2
theorem end_t {F : Nat} {sh : Nat → Nat × Nat} {n e km kw ks m : Nat} {z : St} {b : Nat → Int32} (I : MI sh n z e km kw ks b m) (hF : 100 < F) (hm : m ≤ 3900) : ∃ z', fn_X12_end F sh n z e = some (z', ()) ∧ MI sh n z' e km kw ks b m ∧ (∀ j, j < 8 → z'.2.1 kw j = ux (HS (pb b m) ((m + 9 + pz m) / 64) j)) ∧ frM z z' e km kw ks := by
  have hz : pz m = (119 - m % 64) % 64 := rfl
  obtain ⟨d1, d2, d3, d4, d5, d6, d7, d8, d9, d10, d11, d12, d13⟩ := id I.1
  have A : ∀ j, j < 8 → okA sh n kw 102 (nI j) = true := fun j hj => okA_nI d5 d6 hj (by decide)
  have A0 : okA sh n kw 102 0 = true := A 0 (by decide)
  have A1 : okA sh n kw 102 1 = true := A 1 (by decide)
  have A2 : okA sh n kw 102 2 = true := A 2 (by decide)
  have A3 : okA sh n kw 102 3 = true := A 3 (by decide)
  have A4 : okA sh n kw 102 4 = true := A 4 (by decide)
  have A5 : okA sh n kw 102 5 = true := A 5 (by decide)
  have A6 : okA sh n kw 102 6 = true := A 6 (by decide)
  have A7 : okA sh n kw 102 7 = true := A 7 (by decide)
  have c0 : (0 : Int32).toNatClampNeg = 0 := rfl
  have c1 : (1 : Int32).toNatClampNeg = 1 := rfl
  have c2 : (2 : Int32).toNatClampNeg = 2 := rfl
  have c3 : (3 : Int32).toNatClampNeg = 3 := rfl
  have c4 : (4 : Int32).toNatClampNeg = 4 := rfl
  have c5 : (5 : Int32).toNatClampNeg = 5 := rfl
  have c6 : (6 : Int32).toNatClampNeg = 6 := rfl
  have c7 : (7 : Int32).toNatClampNeg = 7 := rfl
  unfold fn_X12_end
  simp only [grd_t (okO_of d1 d2), lnk_t d10, grd_t A0, grd_t A1, grd_t A2, grd_t A3, grd_t A4, grd_t A5, grd_t A6, grd_t A7, lt_t, c0, c1, c2, c3, c4, c5, c6, c7, sl_3, sl_1, I.2.1]
  simp only [sl_srl, srl_s, srl_srl]
  have hW : ∃ G : Nat → Int64, (∀ j, j < 8 → G j = ux (fs_FIRST j)) ∧ (fun j' => if j' = 7 then (1541459225 : Int64) else if j' = 6 then 528734635 else if j' = 5 then 2600822924 else if j' = 4 then 1359893119 else if j' = 3 then 2773480762 else if j' = 2 then 1013904242 else if j' = 1 then 3144134277 else if j' = 0 then 1779033703 else z.2.1 kw j') = G := by
    refine ⟨_, ?_, rfl⟩
    intro j hj
    rcases lt8 hj with h | h | h | h | h | h | h | h <;> subst h <;> rfl
  obtain ⟨G, hG, eG⟩ := hW
  rw [eG]
  have I0 : MI sh n (srl z kw G) e km kw ks (pb b m) m := MI_lo ⟨I.1, I.2.1, I.2.2.1, I.2.2.2⟩ (fun i hi => by unfold pb; rw [if_pos hi])
  have f0 : frM z (srl z kw G) e km kw ks := ⟨fun _ _ _ => rfl, fun k h1 _ => srl_o h1, rfl⟩
  obtain ⟨z1, h1, I1, l1, f1⟩ := add_t (F := F) (x := 128) I0 (by omega) (by unfold pb; rw [if_neg (Nat.lt_irrefl m), if_pos rfl])
  rw [cal_t h1]
  obtain ⟨z2, h2, I2, l2, f2⟩ := endZ (F := F) (v := nI m) (pz m) (F - pz m - 1) (m + 1) z1 I1 (by omega) (by omega) (fun j hj => by omega) (fun j hj => by
    unfold pb
    rw [if_neg (by omega), if_neg (by omega), if_pos (by omega)])
  rw [show F - pz m - 1 + pz m + 1 = F by omega] at h2
  obtain ⟨z3, h3, I3, l3, f3⟩ := adn (F := F) (x := lN (8 * m)) (c := 8) I2 (by omega) (by omega) (by decide) (fun i hi => by
    have e : pb b m (m + 1 + pz m + i) = lb (lN (8 * m)) (7 - i) := by
      unfold pb
      rw [if_neg (by omega), if_neg (by omega), if_neg (by omega), show m + 1 + pz m + i - (m + 1 + pz m) = i by omega]
    rw [e, lb_and])
  have hM : m + 1 + pz m + 8 = 64 * ((m + 9 + pz m) / 64) := by omega
  rw [hM] at I3
  obtain ⟨z4, h4, D4, n4, H4, f4⟩ := endB (F := F) (v := nI m) (M := (m + 9 + pz m) / 64) (by omega) (by omega) ((m + 9 + pz m) / 64) 0 (F - (m + 9 + pz m) / 64 - 1) z3 rfl I3 (fun j hj => by
    rw [l3, l2, l1, srl_s]
    exact hG j hj)
  rw [show F - (m + 9 + pz m) / 64 - 1 + (m + 9 + pz m) / 64 + 1 = F by omega] at h4
  refine ⟨si z4 e 1 (nI m), ?_, ⟨D4, ?_, by omega, ?_⟩, H4, ?_⟩
  · rw [h2, show (8 : Int64) * (nI m).toInt64 = lN (8 * m) by rw [nI_l (by omega)]; exact lN_mul 8 m]
    rw [cal_t (show fn_X12_addNumber F sh n z2 e (lN (8 * m)) 8 = some (z3, ()) from h3)]
    exact h4
  · simp [si_1]
  · intro i hi
    simp only [si_1, if_neg (Ne.symm d12)]
    rw [n4]
    have h := I3.2.2.2 i (by omega)
    rw [h]
    unfold pb
    rw [if_pos hi]
  · have ff := frM_t f0 (frM_t f1 (frM_t f2 (frM_t f3 f4)))
    refine ⟨fun k a b => ?_, ff.2.1, ff.2.2⟩
    funext j
    simp only [si_1, if_neg a]
    rw [ff.1 k a b]
theorem four_t {F : Nat} {sh : Nat → Nat × Nat} {n e km kw ks i : Nat} {z : St} (D : DgM sh n z.2.2 e km kw ks) (hi : i < 4) : fn_X12_four F sh n z e (nI i) = some (z, (z.2.1 kw (2 * i) <<< ((32 : Int32).toInt64 &&& 63)) ||| z.2.1 kw (2 * i + 1)) := by
  obtain ⟨d1, d2, d3, d4, d5, d6, d7, d8, d9, d10, d11, d12, d13⟩ := id D
  unfold fn_X12_four
  rw [show (2 : Int32) * nI i = nI (2 * i) from pk_mul 2 i, show nI (2 * i) + 1 = nI (2 * i + 1) from nI_1 (2 * i)]
  simp only [grd_t (okO_of d1 d2), lnk_t d10, grd_t (okA_nI d5 d6 (show 2 * i < 8 by omega) (by decide)), grd_t (okA_nI d5 d6 (show 2 * i + 1 < 8 by omega) (by decide)), nI_clamp (show 2 * i < 2 ^ 31 by omega), nI_clamp (show 2 * i + 1 < 2 ^ 31 by omega)]
/-- a part of the digest is one number on both sides -/
theorem part_four (x y : Int32) : (x.toInt64 <<< ((32 : Int32).toInt64 &&& 63)) ||| (y.toInt64 &&& 4294967295) = (ux x <<< ((32 : Int32).toInt64 &&& 63)) ||| ux y := by
  have hs : ∀ v : Int64, (v <<< ((32 : Int32).toInt64 &&& 63)).toBitVec = v.toBitVec <<< 32 := fun v => by rw [Int64.toBitVec_shiftLeft]; rfl
  have hy : y.toInt64 &&& 4294967295 = ux y := by
    rw [ux_cut]
    congr 1
    simp
  have hx : x.toInt64 <<< ((32 : Int32).toInt64 &&& 63) = ux x <<< ((32 : Int32).toInt64 &&& 63) := by
    apply b64_ext
    intro i hi
    rw [hs, hs, BitVec.getLsbD_shiftLeft, BitVec.getLsbD_shiftLeft, ux_bv, BitVec.getLsbD_setWidth, Int32.toBitVec_toInt64, BitVec.getLsbD_signExtend]
    by_cases h : i < 32
    · simp [h]
    · have h2 : i - 32 < 32 := by omega
      have h3 : i - 32 < 64 := by omega
      simp [h, hi, h2, h3]
  rw [hy, hx]
