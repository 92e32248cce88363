/-! THE CLASS'S LOOKER: a function is prepared -/
def CnB (F : Nat) (sh : Nat → Nat × Nat) (n : Nat) (z : St) (kp : Nat) (U : Md) (f : Nat) : Prop := fn_X5_localCount F sh n z kp (nI f) = some (z, nI (locOf U f).length) ∧ ∀ k, k < (locOf U f).length → fn_X5_localType F sh n z kp (nI f) (nI k) = some (z, tL ((locOf U f).getD k []))
theorem Onl.fa {l : List Nat} {z z' : St} (f : Onl l z z') (h : ∀ k, k ∈ l → 62 ≤ k ∧ k ≤ 72) : FrA z z' := ⟨f.1, fun k q => f.2 k (fun m => by have := h k m; omega)⟩
section
variable {F n : Nat} {sh : Nat → Nat × Nat} {z z' : St} {kp f w ns : Nat} {U : Md} {pl ab : Nat → Nat}
theorem pr22 (hL : Lay sh n z) {len : Nat} (hl : len ≤ 1024) (x0 : Int32) : ∀ r p g z1, p + r = len → r < g → Onl [68, 69] z z1 → (∀ k, k < p → z1.1 68 k = 0 ∧ z1.1 69 k = 0) → ∃ z', fn_X3_prepare_L22 F sh n (nI len) 62 x0 g z1 (nI p) = fn_X3_prepare_L49 F sh n (nI len) 62 x0 F z' 0 ∧ Onl [68, 69] z z' ∧ ∀ k, k < len → z'.1 68 k = 0 ∧ z'.1 69 k = 0 := by
  intro r
  induction r with
  | zero =>
    intro p g z1 ep hg O hz
    obtain ⟨g, rfl⟩ : ∃ q, g = q + 1 := ⟨g - 1, by omega⟩
    conv => enter [1, z', 1, 1]; unfold fn_X3_prepare_L22
    rw [if_pos ((nI_leI (by omega) (by omega)).mpr (by omega))]
    exact ⟨z1, rfl, O, fun k hk => hz k (by omega)⟩
  | succ r ih =>
    intro p g z1 ep hg O hz
    obtain ⟨g, rfl⟩ : ∃ q, g = q + 1 := ⟨g - 1, by omega⟩
    have L1 : Lay sh n z1 := hL.of O.1
    obtain ⟨okT, cT⟩ := okt L1 (t := p) (by omega)
    have n0 : vp_nar .boolean 0 = 0 := nar_bI false
    have O2 : Onl [68, 69] z (si (si z1 68 p 0) 69 p 0) := ⟨O.1, fun k hk => by
      have hk' : k ≠ 68 ∧ k ≠ 69 := by simpa using hk
      refine ⟨?_, (O.2 k hk).2⟩
      funext j
      rw [si_ok hk'.2, si_ok hk'.1, (O.2 k hk).1]⟩
    obtain ⟨z2, s1, s2, s3⟩ := ih (p + 1) g (si (si z1 68 p 0) 69 p 0) (by omega) (by omega) O2 (fun k hk => by
      rw [si_ok (by omega)]
      by_cases c : k = p
      · subst c; rw [si_ss, si_ss]; exact ⟨rfl, rfl⟩
      · rw [si_oj c, si_oj c, si_ok (by omega)]; exact hz k (by omega))
    refine ⟨z2, ?_, s2, s3⟩
    rw [← s1]
    conv => lhs; unfold fn_X3_prepare_L22
    rw [if_neg (fun q => by have := (nI_leI (by omega) (by omega)).mp q; omega), L1.2.2 62 17 68 rfl, lnk_s, okT 68 103 rfl (by omega), grd_true, lt_t, cT, n0, si_3, L1.2.2 62 18 69 rfl, lnk_s, okT 69 103 rfl (by omega), grd_true, lt_t, nI_1]
def prepT (F : Nat) (sh : Nat → Nat × Nat) (n : Nat) (x0 : Int32) (z_15 : St) : Option (St × Unit) := lt_ (si z_15 62 8 0) (fun z_19 => lt_ (sl z_19 62 13 0) (fun z_21 => lnk (z_21.2.2 62 2) (fun k_22 => grd (okO sh n k_22 5) (cal (fn_X5_takes F sh n z_21 k_22 x0) (fun z_23 r_24 => lt_ (sl z_23 62 12 (((1 <<< ((r_24 : Int32).toInt64 &&& 63))) - 1)) (fun z_28 => lt_ (sl z_28 62 11 0) (fun z_30 => fn_X3_prepare_L159 F sh n 62 x0 F z_30 0)))))))
theorem pr49 (hL : Lay sh n z) (l2 : z.2.2 62 2 = some kp) (hu : ∀ z', FrA z z' → CnA F sh n z' kp U f pl ab) (hc : CdO U f) : ∀ r p g z1, p + r = (codeOf U f).length → r < g → Onl [68] z z1 → (∀ t, t < (codeOf U f).length → z1.1 68 t = bI (tgP U f p t)) → ∃ z', fn_X3_prepare_L49 F sh n (nI (codeOf U f).length) 62 (nI f) g z1 (nI p) = prepT F sh n (nI f) z' ∧ Onl [68] z z' ∧ ∀ t, t < (codeOf U f).length → z'.1 68 t = bI (tgOf U f t) := by
  obtain ⟨len, cod⟩ := hc
  intro r
  induction r with
  | zero =>
    intro p g z1 ep hg O hz
    obtain ⟨g, rfl⟩ : ∃ q, g = q + 1 := ⟨g - 1, by omega⟩
    conv => enter [1, z', 1, 1]; unfold fn_X3_prepare_L49
    rw [if_pos ((nI_leI (by omega) (by omega)).mpr (by omega))]
    have ep' : p = (codeOf U f).length := by omega
    subst ep'
    exact ⟨z1, rfl, O, hz⟩
  | succ r ih =>
    intro p g z1 ep hg O hz
    obtain ⟨g, rfl⟩ : ∃ q, g = q + 1 := ⟨g - 1, by omega⟩
    have L1 : Lay sh n z1 := hL.of O.1
    have l2' : z1.2.2 62 2 = some kp := by rw [O.1]; exact l2
    obtain ⟨u1, ⟨u2, u3⟩, _⟩ := hu z1 (O.fa (fun k hk => by simp at hk; omega))
    have pl : p < (codeOf U f).length := by omega
    obtain ⟨o, x, y, hi⟩ : ∃ o x y, (codeOf U f)[p]? = some (o, x, y) := ⟨_, _, _, List.getElem?_eq_getElem pl⟩
    obtain ⟨v1, v2⟩ := u3 p o x y hi
    obtain ⟨r1, _, _, ⟨rn, rn1, rn2⟩, _⟩ := v2
    obtain ⟨io, ix, iy, it⟩ := cod p o x y hi
    have nx : ∀ z2, Onl [68] z z2 → (∀ t, t < (codeOf U f).length → z2.1 68 t = bI (tgP U f (p + 1) t)) → ∃ z', fn_X3_prepare_B120 F sh n (nI p) (fun z9 q3 => fn_X3_prepare_L49 F sh n (nI (codeOf U f).length) 62 (nI f) g z9 q3) z2 = prepT F sh n (nI f) z' ∧ Onl [68] z z' ∧ ∀ t, t < (codeOf U f).length → z'.1 68 t = bI (tgOf U f t) := fun z2 O2 h2 => by
      unfold fn_X3_prepare_B120
      rw [nI_1]
      exact ih (p + 1) g z2 (by omega) (by omega) O2 h2
    have ho := io.1
    conv => enter [1, z', 1, 1]; unfold fn_X3_prepare_L49
    rw [if_neg (fun q => by have := (nI_leI (by omega) (by omega)).mp q; omega), l2', lnk_s, u1.1, grd_true, v1, cal_s, l2', lnk_s, u1.1, grd_true, rn1, cal_s, lt_t, l2', lnk_s, u1.1, grd_true, r1, cal_s]
    by_cases c1 : o < 2
    · rw [if_pos ((nIlt (x := 2) 2 rfl (by omega) (by omega)).mpr c1)]
      refine nx z1 O (fun t ht => ?_)
      rw [tgP_s, hi]
      show _ = bI (tgP U f p t || (decide (2 ≤ o ∧ o < 5) && x.toInt.toNat == t))
      rw [decide_eq_false (by omega), Bool.false_and, Bool.or_false]; exact hz t ht
    rw [if_neg (fun q => c1 ((nIlt (x := 2) 2 rfl (by omega) (by omega)).mp q)), l2', lnk_s, u1.1, grd_true, r1, cal_s]
    by_cases c2 : 4 < o
    · rw [if_pos ((nIgt (x := 4) 4 rfl (by omega) (by omega)).mpr c2)]
      refine nx z1 O (fun t ht => ?_)
      rw [tgP_s, hi]
      show _ = bI (tgP U f p t || (decide (2 ≤ o ∧ o < 5) && x.toInt.toNat == t))
      rw [decide_eq_false (by omega), Bool.false_and, Bool.or_false]; exact hz t ht
    obtain ⟨to, w1, w2, w3⟩ := rn2 (by omega) (by omega)
    have et : x.toInt.toNat = to := by rw [w3]; exact lN_tI (by omega)
    have tl := it (by omega) (by omega)
    rw [et] at tl
    obtain ⟨okT, cT⟩ := okt L1 (t := to) (by omega)
    have n1 : vp_nar .boolean 1 = 1 := nar_bI true
    rw [if_neg (fun q => c2 ((nIgt (x := 4) 4 rfl (by omega) (by omega)).mp q)), w2, if_neg (fun q => by have := (nI_leI (by omega) (by omega)).mp q; omega), L1.2.2 62 17 68 rfl, lnk_s, okT 68 103 rfl (by omega), grd_true, lt_t, cT, n1]
    refine nx (si z1 68 to 1) ⟨O.1, fun k hk => ?_⟩ (fun t ht => ?_)
    · have hk' : k ≠ 68 := by simpa using hk
      refine ⟨?_, (O.2 k hk).2⟩
      funext j
      rw [si_ok hk', (O.2 k hk).1]
    · rw [tgP_s, hi]
      show _ = bI (tgP U f p t || (decide (2 ≤ o ∧ o < 5) && x.toInt.toNat == t))
      rw [decide_eq_true (show 2 ≤ o ∧ o < 5 by omega), Bool.true_and, et]
      by_cases c : t = to
      · subst c; rw [si_ss, beq_self_eq_true, Bool.or_true]; rfl
      · rw [si_oj c, hz t ht, beq_eq_false_iff_ne.mpr (fun q => c q.symm), Bool.or_false]
/-- a local's type, a truth where there is none -/
def tyA (U : Md) (f k : Nat) : Ty := if k < (locOf U f).length then (locOf U f).getD k [] else [1]
def orA (U : Md) (f k : Nat) : Int64 := if (decide (k < (tksOf U f).length) && isR (tyA U f k)) = true then bitO (40 + k) else 0
def prepE (F : Nat) (sh : Nat → Nat × Nat) (n : Nat) (z_32 : St) : Option (St × Unit) := lt_ (si z_32 62 16 1) (fun z_36 => lnk (z_36.2.2 62 17) (fun k_37 => grd (okA sh n k_37 103 0) (if ((z_36.1 k_37 (0 : Int32).toNatClampNeg) : Int32) = 0 then some (z_36, ()) else cal (fn_X3_join F sh n z_36 62 0) (fun z_40 _ => some (z_40, ())))))
theorem pr159 (hF : 1100 ≤ F) (hL : Lay sh n z) (l2 : z.2.2 62 2 = some kp) (hu : ∀ z', FrA z z' → CnA F sh n z' kp U f pl ab ∧ CnB F sh n z' kp U f) (hm : MdO U) (hf : f < faOf U) (hl : ∀ k, k < (locOf U f).length → LsO U.1.2.2 ((locOf U f).getD k [])) (h40 : (locOf U f).length ≤ 40) : ∀ r p g z1, p + r = 40 → r < g → Onl [62, 66, 67] z z1 → (z1.1 62 = z.1 62 ∧ ∀ j, j ≠ 11 → z1.2.1 62 j = z.2.1 62 j) → (∀ k, k < p → z1.2.1 66 k = tL (tyA U f k) ∧ z1.2.1 67 k = orA U f k) → (∀ j, ob (z1.2.1 62 11) j = (decide (j < p) && hasD U (tyA U f j))) → ∃ z', fn_X3_prepare_L159 F sh n 62 (nI f) g z1 (nI p) = prepE F sh n z' ∧ Onl [62, 66, 67] z z' ∧ (z'.1 62 = z.1 62 ∧ ∀ j, j ≠ 11 → z'.2.1 62 j = z.2.1 62 j) ∧ (∀ k, k < 40 → z'.2.1 66 k = tL (tyA U f k) ∧ z'.2.1 67 k = orA U f k) ∧ ∀ j, ob (z'.2.1 62 11) j = (decide (j < 40) && hasD U (tyA U f j)) := by
  have t8 := (hm.2.2.2.2 f hf).2.1
  intro r
  induction r with
  | zero =>
    intro p g z1 ep hg O h62 hz hd
    obtain ⟨g, rfl⟩ : ∃ q, g = q + 1 := ⟨g - 1, by omega⟩
    have ep' : p = 40 := by omega
    subst ep'
    conv => enter [1, z', 1, 1]; unfold fn_X3_prepare_L159
    rw [if_pos (show (40 : Int32) ≤ nI 40 by decide)]
    exact ⟨z1, rfl, O, h62, hz, hd⟩
  | succ r ih =>
    intro p g z1 ep hg O h62 hz hd
    obtain ⟨g, rfl⟩ : ∃ q, g = q + 1 := ⟨g - 1, by omega⟩
    have L1 : Lay sh n z1 := hL.of O.1
    have l2' : ∀ z2 : St, z2.2.2 = z1.2.2 → z2.2.2 62 2 = some kp := fun z2 e => by rw [e, O.1]; exact l2
    have fz : FrA z z1 := O.fa (fun k hk => by simp at hk; omega)
    obtain ⟨⟨u1, _, _⟩, b1, b2⟩ := hu z1 fz
    have ok40 : ∀ k, shF k = (102, 40) → k < 513 → okA sh n k 102 (nI p) = true := fun k ee hk => by rw [lay_a L1 k 102 40 hk ee]; exact okI_nI (by omega) (by omega)
    have cp : (nI p).toNatClampNeg = p := nI_clamp (by omega)
    have tt : TBr U.1.2.2 (tyA U f p) := by
      unfold tyA
      by_cases c : p < (locOf U f).length
      · rw [if_pos c]; exact (hl p c).1
      · rw [if_neg c]; exact TBrk (by omega) (by omega)
    -- one turn
    have b190 : ∃ z', fn_X3_prepare_B190 F sh n 62 (nI p) (nI f) (fun z9 q3 => fn_X3_prepare_L159 F sh n 62 (nI f) g z9 q3) z1 (tL (tyA U f p)) = prepE F sh n z' ∧ Onl [62, 66, 67] z z' ∧ (z'.1 62 = z.1 62 ∧ ∀ j, j ≠ 11 → z'.2.1 62 j = z.2.1 62 j) ∧ (∀ k, k < 40 → z'.2.1 66 k = tL (tyA U f k) ∧ z'.2.1 67 k = orA U f k) ∧ ∀ j, ob (z'.2.1 62 11) j = (decide (j < 40) && hasD U (tyA U f j)) := by
      have f2 : FrA z1 (sl z1 66 p (tL (tyA U f p))) := ⟨rfl, fun k hk => ⟨rfl, by funext j; rw [sl_ok (by omega)]⟩⟩
      obtain ⟨⟨v1, _, _⟩, _⟩ := hu _ (fz.trans f2)
      have b235 : fn_X3_prepare_B235 F sh n 67 (nI p) 62 (tL (tyA U f p)) (fun z9 q3 => fn_X3_prepare_L159 F sh n 62 (nI f) g z9 q3) (sl z1 66 p (tL (tyA U f p))) (orA U f p) = fn_X3_prepare_L159 F sh n 62 (nI f) g (sl (sl (sl z1 66 p (tL (tyA U f p))) 67 p (orA U f p)) 62 11 (z1.2.1 62 11 ||| (if hasD U (tyA U f p) then bitO p else 0))) (nI (p + 1)) := by
        have f3 : FrA z1 (sl (sl z1 66 p (tL (tyA U f p))) 67 p (orA U f p)) := f2.trans ⟨rfl, fun k hk => ⟨rfl, by funext j; rw [sl_ok (by omega)]⟩⟩
        obtain ⟨⟨w1, _, _⟩, _⟩ := hu _ (fz.trans f3)
        have hs : ∀ s, endS (tyA U f p) = some s → fn_X5_structureColumn F sh n (sl (sl z1 66 p (tL (tyA U f p))) 67 p (orA U f p)) kp (nI s) 0 = some ((sl (sl z1 66 p (tL (tyA U f p))) 67 p (orA U f p)), nI (U.2.1 s)) ∧ U.2.1 s < 16 := fun s q => ⟨w1.2.2.2.1 s (tt.2.2 s q), hm.1 s (tt.2.2 s q)⟩
        have ab := abilC_t (F := F) (U := U) (by omega) tt.1 w1.1 hs
        have a16 : abT U (tyA U f p) < 16 := abT_16 (fun s q => (hs s q).2)
        obtain ⟨m1, m2, m3⟩ := ab1 _ a16
        unfold fn_X3_prepare_B235
        rw [ok40 67 rfl (by omega), grd_true, lt_t, cp, sl_3, sl_3, l2' z1 rfl, lnk_s, w1.1, grd_true, ab, cal_s]
        unfold fn_X3_prepare_B262
        have e11 : (sl (sl z1 66 p (tL (tyA U f p))) 67 p (orA U f p)).2.1 62 11 = z1.2.1 62 11 := by rw [sl_ok (by omega), sl_ok (by omega)]
        rw [lt_t, lt_t, nI_1, e11, bit_n (by omega)]
        unfold hasD
        by_cases c : abT U (tyA U f p) / 2 % 2 = 0
        · rw [if_pos (m2.mpr c), c]; rfl
        · rw [if_neg (fun q => c (m2.mp q)), show abT U (tyA U f p) / 2 % 2 = 1 by omega]; rfl
      obtain ⟨z2, s1, s2, s3, s4, s5⟩ := ih (p + 1) g (sl (sl (sl z1 66 p (tL (tyA U f p))) 67 p (orA U f p)) 62 11 (z1.2.1 62 11 ||| (if hasD U (tyA U f p) then bitO p else 0))) (by omega) (by omega) ⟨O.1, fun k hk => by
          have hk' : k ≠ 62 ∧ k ≠ 66 ∧ k ≠ 67 := by simpa using hk
          refine ⟨(O.2 k hk).1, ?_⟩
          funext j
          rw [sl_ok hk'.1, sl_ok hk'.2.2, sl_ok hk'.2.1, (O.2 k hk).2]⟩ ⟨h62.1, fun j hj => by rw [sl_oj hj, sl_ok (by omega), sl_ok (by omega)]; exact h62.2 j hj⟩ (fun k hk => by
          have v66 : ∀ W, (sl (sl (sl z1 66 p (tL (tyA U f p))) 67 p (orA U f p)) 62 11 W).2.1 66 k = if k = p then tL (tyA U f p) else z1.2.1 66 k := fun W => by
            rw [sl_ok (show (66 : Nat) ≠ 62 by omega), sl_ok (show (66 : Nat) ≠ 67 by omega)]
            by_cases c : k = p
            · rw [if_pos c, c, sl_ss]
            · rw [if_neg c, sl_oj c]
          have v67 : ∀ W, (sl (sl (sl z1 66 p (tL (tyA U f p))) 67 p (orA U f p)) 62 11 W).2.1 67 k = if k = p then orA U f p else z1.2.1 67 k := fun W => by
            rw [sl_ok (show (67 : Nat) ≠ 62 by omega)]
            by_cases c : k = p
            · rw [if_pos c, c, sl_ss]
            · rw [if_neg c, sl_oj c, sl_ok (show (67 : Nat) ≠ 66 by omega)]
          rw [v66, v67]
          by_cases c : k = p
          · rw [if_pos c, if_pos c, c]; exact ⟨rfl, rfl⟩
          · rw [if_neg c, if_neg c]; exact hz k (by omega)) (fun j => by
          rw [sl_ss, ob_or, hd j]
          cases e : hasD U (tyA U f p) with
          | true =>
            rw [if_pos rfl, ob_bitd (by omega)]
            by_cases c : p = j
            · subst c; rw [decide_eq_true (show p < p + 1 by omega), decide_eq_true rfl, e, Bool.or_true]; rfl
            · rw [decide_eq_false c, Bool.or_false]
              by_cases d : j < p
              · rw [decide_eq_true d, decide_eq_true (show j < p + 1 by omega)]
              · rw [decide_eq_false d, decide_eq_false (show ¬ j < p + 1 by omega)]
          | false =>
            rw [if_neg (by simp), show ob 0 j = false from ob_zero.mp rfl j, Bool.or_false]
            by_cases c : p = j
            · subst c; rw [decide_eq_true (show p < p + 1 by omega), decide_eq_false (show ¬ p < p by omega), e]; rfl
            · by_cases d : j < p
              · rw [decide_eq_true d, decide_eq_true (show j < p + 1 by omega)]
              · rw [decide_eq_false d, decide_eq_false (show ¬ j < p + 1 by omega)])
      refine ⟨z2, ?_, s2, s3, s4, s5⟩
      rw [← s1, ← b235]
      unfold fn_X3_prepare_B190
      rw [L1.2.2 62 9 66 rfl, lnk_s, ok40 66 rfl (by omega), grd_true, lt_t, cp, sl_3, L1.2.2 62 10 67 rfl, lnk_s, l2' z1 rfl, lnk_s, v1.1, grd_true, ((v1.2.1 f hf).1).1, cal_s]
      unfold fn_X3_prepare_B234
      by_cases c : (tksOf U f).length ≤ p
      · have eo : orA U f p = 0 := by unfold orA; rw [decide_eq_false (by omega), Bool.false_and]; rfl
        rw [if_pos ((nI_leI (by omega) (by omega)).mpr c), eo]
      · rw [if_neg (fun q => c ((nI_leI (by omega) (by omega)).mp q)), isRefC_t (by omega) tt.1, cal_s]
        cases e : isR (tyA U f p) with
        | false =>
          have eo : orA U f p = 0 := by unfold orA; rw [e, Bool.and_false]; rfl
          rw [if_pos (show bI false = 0 from rfl), eo]
        | true =>
          have eo : orA U f p = bitO (40 + p) := by unfold orA; rw [e, decide_eq_true (show p < (tksOf U f).length by omega)]; rfl
          rw [if_neg (show ¬ bI true = 0 from one0), eo, show (40 : Int32) + nI p = nI (40 + p) from nI_add 40 p, bit_n (by omega)]
    conv => enter [1, z', 1, 1]; unfold fn_X3_prepare_L159
    rw [if_neg (fun q => by have := (nIge (x := 40) 40 rfl (by omega) (by omega)).mp q; omega), l2' z1 rfl, lnk_s, u1.1, grd_true, b1, cal_s]
    by_cases c : p < (locOf U f).length
    · have ey : tyA U f p = (locOf U f).getD p [] := by unfold tyA; rw [if_pos c]
      rw [if_neg (fun q => by have := (nI_leI (by omega) (by omega)).mp q; omega), l2' z1 rfl, lnk_s, u1.1, grd_true, b2 p c, cal_s, ← ey]
      exact b190
    · have ey : tL (tyA U f p) = 1 := by unfold tyA; rw [if_neg c, tLk]; rfl
      rw [ey] at b190
      rw [if_pos ((nI_leI (by omega) (by omega)).mpr (by omega))]
      exact b190
end
