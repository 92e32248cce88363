/-! BYTES ARE TYPED -/
theorem b8_sr (b : BitVec 64) {s : Nat} (hs : s ≤ 56) : ((b >>> s).signExtend 32).signExtend 8 = ((b.sshiftRight s).signExtend 32).signExtend 8 := by
  apply BitVec.eq_of_getLsbD_eq
  intro i hi
  simp only [BitVec.getLsbD_signExtend, BitVec.getLsbD_ushiftRight, BitVec.getLsbD_sshiftRight, hi, show i < 32 by omega, show i < 64 by omega, show ¬ 64 ≤ i by omega, show s + i < 64 by omega, decide_true, decide_false, Bool.true_and, Bool.not_false, if_true]
theorem sar_b (x : Int64) : ∀ p, p < 8 → (((x.toUInt64 >>> (((8 * nI p) : Int32).toInt64.toUInt64 &&& Int64.toUInt64 63)).toInt64).toInt32).toInt8 = ((x >>> (((8 * nI p) : Int32).toInt64 &&& 63)).toInt32).toInt8 := by
  intro p hp
  apply Int8.toBitVec_inj.mp
  match p, hp with
  | 0, _ => exact b8_sr x.toBitVec (s := 0) (by omega)
  | 1, _ => exact b8_sr x.toBitVec (s := 8) (by omega)
  | 2, _ => exact b8_sr x.toBitVec (s := 16) (by omega)
  | 3, _ => exact b8_sr x.toBitVec (s := 24) (by omega)
  | 4, _ => exact b8_sr x.toBitVec (s := 32) (by omega)
  | 5, _ => exact b8_sr x.toBitVec (s := 40) (by omega)
  | 6, _ => exact b8_sr x.toBitVec (s := 48) (by omega)
  | 7, _ => exact b8_sr x.toBitVec (s := 56) (by omega)
theorem fits_b (v : Int32) : fits .byte (.int (vp_nar .byte v)) = true := by
  have a := Int8.le_toInt v.toInt8
  have b := Int8.toInt_lt v.toInt8
  have c : (vp_nar .byte v).toInt = v.toInt8.toInt := Int8.toInt_toInt32 _
  have d : (-128 : Int32).toInt = -128 := by decide
  have e : (127 : Int32).toInt = 127 := by decide
  show (decide ((-128 : Int32) ≤ vp_nar .byte v) && decide (vp_nar .byte v ≤ 127)) = true
  rw [Bool.and_eq_true, decide_eq_true_eq, decide_eq_true_eq, Int32.le_iff_toInt_le, Int32.le_iff_toInt_le]
  omega
def FzE (z z' : St) : Prop := z'.2 = z.2 ∧ (∀ k, k ≠ 337 → k ≠ 399 → z'.1 k = z.1 k) ∧ ∀ j, j ≠ 50 → z'.1 337 j = z.1 337 j
def FyE (y y' : St) : Prop := y'.2 = y.2 ∧ (∀ k, k ≠ 0 → k ≠ 1 → y'.1 k = y.1 k) ∧ ∀ j, j ≠ 1 → y'.1 0 j = y.1 0 j
theorem FzE.trans {z z' z'' : St} (f : FzE z z') (g : FzE z' z'') : FzE z z'' := ⟨g.1.trans f.1, fun k a b => (g.2.1 k a b).trans (f.2.1 k a b), fun j a => (g.2.2 j a).trans (f.2.2 j a)⟩
theorem FyE.trans {z z' z'' : St} (f : FyE z z') (g : FyE z' z'') : FyE z z'' := ⟨g.1.trans f.1, fun k a b => (g.2.1 k a b).trans (f.2.1 k a b), fun j a => (g.2.2 j a).trans (f.2.2 j a)⟩
section
variable {RV : RtV} {F n : Nat} {sh : Nat → Nat × Nat} {z z' y y' : St} {w : Nat}
theorem ty_L (x0 : Int64) : ∀ m len z y f, m ≤ 8 → len + m ≤ 2048 → m < f → Lay sh n z → Lay sh n y → Tap z y len w → ∃ z' y', fn_X11_type_L33 F sh n 0 x0 f y (nI m - 1) = some (y', nI (len + m)) ∧ fn_X18_type_L33 F sh n 337 x0 f z (nI m - 1) = some (z', nI (len + m)) ∧ Tap z' y' (len + m) w ∧ FzE z z' ∧ FyE y y' := by
  intro m
  induction m with
  | zero =>
    intro len z y f _ _ hf hz hy t
    cases f with
    | zero => omega
    | succ f =>
      refine ⟨z, y, ?_, ?_, t, ⟨rfl, fun _ _ _ => rfl, fun _ _ => rfl⟩, ⟨rfl, fun _ _ _ => rfl, fun _ _ => rfl⟩⟩
      · unfold fn_X11_type_L33
        rw [if_pos (by decide), t.1.1]; rfl
      · unfold fn_X18_type_L33
        rw [if_pos (by decide), t.1.2.1]; rfl
  | succ m ih =>
    intro len z y f h8 hl hf hz hy t
    cases f with
    | zero => omega
    | succ f =>
      have em : nI (m + 1) - 1 = nI m := pk_sub (a := m + 1) (b := 1) (by omega)
      have e1 : nI m + (-1) = nI m - 1 := (Int32.sub_eq_add_neg _ _).symm
      have n0 : ¬ nI m < 0 := by
        rw [Int32.lt_iff_toInt_lt, nI_toInt (by omega)]
        show ¬ ((m : Int) < 0)
        omega
      have oi : okI (nI len) 2048 = true := okI_nI (by omega) (by omega)
      have cl : (nI len).toNatClampNeg = len := nI_clamp (by omega)
      have e2 : nI len + 1 = nI (len + 1) := nI_add len 1
      obtain ⟨⟨t1, t2, t3⟩, t4, t5, t6, t7, t8⟩ := t
      obtain ⟨b, eb⟩ : ∃ b, b = vp_nar .byte (((x0 >>> (((8 * nI m) : Int32).toInt64 &&& 63)).toInt32).toInt8.toInt32) := ⟨_, rfl⟩
      have T1 : Tap (si (si z 399 len b) 337 50 (nI (len + 1))) (si (si y 0 1 (nI (len + 1))) 1 len b) (len + 1) w := by
        refine ⟨⟨?_, ?_, by omega⟩, fun p hp => ?_, fun p hp => ?_, ?_, ?_, t8⟩
        · rw [si_ok (by omega), si_ss]
        · rw [si_ss]
        · rw [si_ok (k' := 399) (by omega)]
          by_cases c : p = len
          · subst c; rw [si_ss, si_ss]
          · rw [si_oj c, si_oj c, si_ok (by omega)]; exact t4 p (by omega)
        · by_cases c : p = len
          · subst c; rw [si_ss, eb]; exact fits_b _
          · rw [si_oj c, si_ok (by omega)]; exact t5 p hp
        · rw [si_ok (by omega), si_oj (by omega)]; exact t6
        · rw [si_oj (by omega), si_ok (by omega)]; exact t7
      obtain ⟨z', y', r1, r2, r3, r4, r5⟩ := ih (len + 1) _ _ f (by omega) (by omega) (by omega) (hz.of rfl : Lay sh n (si (si z 399 len b) 337 50 (nI (len + 1)))) (hy.of rfl : Lay sh n (si (si y 0 1 (nI (len + 1))) 1 len b)) T1
      refine ⟨z', y', ?_, ?_, by rw [show len + (m + 1) = len + 1 + m by omega]; exact r3, FzE.trans (z' := si (si z 399 len b) 337 50 (nI (len + 1))) ⟨rfl, fun k a c => ?_, fun j a => ?_⟩ r4, FyE.trans (z' := si (si y 0 1 (nI (len + 1))) 1 len b) ⟨rfl, fun k a c => ?_, fun j a => ?_⟩ r5⟩
      · unfold fn_X11_type_L33
        rw [em, if_neg n0, (b_ledg hy).2.1, lnk_s, t1, lt_t, lt_t, lay_a hy 1 100 2048 (by decide) rfl, oi, grd_true, cl, lt_t, e1, e2, sar_b x0 m (by omega), ← eb, r1, show len + (m + 1) = len + 1 + m by omega]
      · unfold fn_X18_type_L33
        rw [em, if_neg n0, hz.2.2 337 49 399 rfl, lnk_s, t2, lay_a hz 399 100 2048 (by decide) rfl, oi, grd_true, cl, lt_t, lt_t, ← eb, si_ok (by omega), t2, e1, e2, r2, show len + (m + 1) = len + 1 + m by omega]
      · rw [si_ok a, si_ok c]
      · rw [si_oj a, si_ok (by omega)]
      · rw [si_ok c, si_ok a]
      · rw [si_ok (by omega), si_oj a]
theorem m_type (hF : 300 ≤ F) (y0 : Int64) (y1 : Int32) (hn : n ≤ 10 ^ 12) (h : Top RV sh n z y) : ∃ z' y' r, fn_X11_type F sh n y 0 y0 y1 = some (y', r) ∧ fn_X18_type F sh n z 337 y0 y1 = some (z', r) ∧ Top RV sh n z' y' := by
  have h0 := h
  obtain ⟨ws, wc, dp, bs, nc, ac, nr, rs, so, D, a1, a2, a3, ⟨cnt, dn, a4⟩, ⟨len, w, a5⟩, l2, a6⟩ := h
  unfold fn_X11_type fn_X18_type
  rw [(b_ledg a1.2.1.1).1, grd_true, (b_model a1.1.1).1, grd_true, a5.1.1, a5.1.2.1]
  rcases i32_3 y1 (m := 9) (by omega) with c | ⟨c1, c2, _⟩ | ⟨m, c1, c2, _⟩
  · have : y1 < 1 := by
      rw [Int32.lt_iff_toInt_lt] at c ⊢
      have : (0 : Int32).toInt = 0 := rfl
      have : (1 : Int32).toInt = 1 := rfl
      omega
    rw [if_pos this, if_pos this]; exact ⟨_, _, _, rfl, rfl, h0⟩
  · have k9 : (nI 9).toInt = 9 := rfl
    have k8 : (8 : Int32).toInt = 8 := rfl
    have k1 : (1 : Int32).toInt = 1 := rfl
    have n1 : ¬ y1 < 1 := by
      rw [Int32.le_iff_toInt_le] at c2
      rw [Int32.lt_iff_toInt_lt]; omega
    have n8 : ¬ y1 ≤ 8 := by
      rw [Int32.le_iff_toInt_le] at c2 ⊢; omega
    rw [if_neg n1, if_neg n1, if_neg n8, if_neg n8]; exact ⟨_, _, _, rfl, rfl, h0⟩
  · subst c2
    by_cases m0 : m = 0
    · subst m0
      rw [if_pos (by decide), if_pos (by decide)]; exact ⟨_, _, _, rfl, rfl, h0⟩
    · have n1 : ¬ nI m < 1 := fun e => by
        have := (nI_ltW (b := 1) (by omega) (by omega)).mp e
        omega
      have p8 : nI m ≤ 8 := (nI_leW (b := 8) (by omega) (by omega)).mpr (by omega)
      have l31 := a5.1.2.2
      rw [if_neg n1, if_neg n1, if_pos p8, if_pos p8, nI_add]
      by_cases q : len + m ≤ 2048
      · have q' : nI (len + m) ≤ 2048 := (nI_leW (b := 2048) (by omega) (by omega)).mpr q
        obtain ⟨z', y', r1, r2, r3, r4, r5⟩ := ty_L (F := F) y0 m len z y F (by omega) q (by omega) a1.1.1 a1.2.1.1 a5
        rw [if_pos q', if_pos q', lt_t, lt_t]
        have e2 : z'.2.1 = z.2.1 ∧ z'.2.2 = z.2.2 := by rw [r4.1]; exact ⟨rfl, rfl⟩
        have f2 : y'.2.1 = y.2.1 ∧ y'.2.2 = y.2.2 := by rw [r5.1]; exact ⟨rfl, rfl⟩
        have fz : FzB z z' := ⟨e2.2, fun k a b => ⟨r4.2.1 k a (by omega), by rw [e2.1]⟩, fun j q => r4.2.2 j (by omega), by rw [e2.1]⟩
        have fy : FyB y y' := ⟨fun _ _ _ => by rw [f2.2], fun k a => ⟨r5.2.1 k (by omega) (by omega), by rw [f2.1]⟩⟩
        have ft : FzT z z' := fun k a b => ⟨r4.2.1 k (by omega) (by omega), by rw [e2.1]⟩
        have gt : FyT y y' := ⟨f2.2, fun k a => ⟨r5.2.1 k (by omega) (by omega), by rw [f2.1]⟩⟩
        exact ⟨z', y', _, r1, r2, ws, wc, dp, bs, nc, ac, nr, rs, so, D, a1.bk fz fy, a2.bk fz fy, a3.bk fy, ⟨cnt, dn, a4.of (r4.2.2 52 (by omega)) (r4.2.2 53 (by omega)) (r5.2.2 4 (by omega)) (r5.2.2 5 (by omega)) (fun t _ => ft.e) (fun t _ => gt.e) (Nat.le_refl _) (fun _ _ => rfl) hn⟩, ⟨len + m, w, r3⟩, l2, a6.of ⟨r4.2.2 75 (by omega), r4.2.1 420 (by omega) (by omega)⟩ ⟨r5.2.2 12 (by omega), r5.2.1 86 (by omega) (by omega)⟩⟩
      · have q' : ¬ nI (len + m) ≤ 2048 := fun e => q ((nI_leW (b := 2048) (by omega) (by omega)).mp e)
        rw [if_neg q', if_neg q']
        exact ⟨_, _, _, rfl, rfl, h0⟩
end
