/-! the reference's division -/
theorem shk_n : ∀ k, k < 64 → (((nI k).toInt64 &&& 63).toBitVec.smod 64).toNat = k := by
  have h : (List.range 64).all (fun k => (((nI k).toInt64 &&& 63).toBitVec.smod 64).toNat == k) = true := by decide +kernel
  intro k hk
  exact eq_of_beq (List.all_eq_true.mp h k (List.mem_range.mpr hk))
theorem shk {x : Int64} {k : Nat} (hk : k < 64) : (x >>> ((nI k).toInt64 &&& 63)).toBitVec = x.toBitVec.sshiftRight k := by
  rw [Int64.toBitVec_shiftRight]
  show x.toBitVec.sshiftRight (((nI k).toInt64 &&& 63).toBitVec.smod 64).toNat = _
  rw [shk_n k hk]
theorem m1 (i : Nat) : (1 : Int64).toBitVec.getLsbD i = decide (i < 1) := by
  show (BitVec.ofNat 64 1).getLsbD i = _
  rw [BitVec.getLsbD_ofNat, show (1 : Nat) = 2 ^ 1 - 1 from rfl, Nat.testBit_two_pow_sub_one]
  by_cases h : i < 1
  · simp [h]; omega
  · simp [h]
theorem bitK {x : Int64} {k : Nat} (hk : k < 64) : N ((x >>> ((nI k).toInt64 &&& 63)) &&& 1) = N x / 2 ^ k % 2 := by
  rw [asr_low k 1 (by omega) (shk hk) m1 (by decide)]
  have h : N x / 2 ^ k % 2 ^ 1 < 2 := Nat.mod_lt _ (by decide)
  exact lN_nat (by omega)
theorem bitLo {h l : Int64} {k : Nat} (hk : k < 64) : N l / 2 ^ k % 2 = V2 h l / 2 ^ k % 2 := by
  unfold V2
  have e : (2 : Nat) ^ 64 = 2 ^ k * (2 * 2 ^ (63 - k)) := by rw [← Nat.pow_succ', ← Nat.pow_add]; congr 1; omega
  rw [e, show N h * (2 ^ k * (2 * 2 ^ (63 - k))) + N l = N l + 2 ^ k * (2 * (N h * 2 ^ (63 - k))) by rw [Nat.mul_left_comm, Nat.mul_left_comm (N h)]; omega, Nat.add_mul_div_left _ _ (Nat.two_pow_pos _), Nat.add_mul_mod_self_left]
theorem bitHi {h l : Int64} {k : Nat} (hk : 64 ≤ k) : N h / 2 ^ (k - 64) % 2 = V2 h l / 2 ^ k % 2 := by
  have a := N_lt l
  unfold V2
  have e : (2 : Nat) ^ k = 2 ^ 64 * 2 ^ (k - 64) := by rw [← Nat.pow_add]; congr 1; omega
  rw [e, ← Nat.div_div_eq_div_mul, show (N h * 2 ^ 64 + N l) / 2 ^ 64 = N h by omega]
theorem divM_s {F : Nat} {sh : Nat → Nat × Nat} {n w A B i f : Nat} {z : St} {x0 x1 : Int32} {ah al bh bl rh rl qh ql : Int64} (hAV : V2 ah al = A) (hB : V2 bh bl = B) (hB0 : 0 < B) (hi : i < 128) (hR : V2 rh rl = (dvs A B i).2) (hQ : V2 qh ql = (dvs A B i).1) : ∃ rh' rl' qh' ql', V2 rh' rl' = (dvs A B (i + 1)).2 ∧ V2 qh' ql' = (dvs A B (i + 1)).1 ∧ fn_X17_divide_L55 F sh n x0 w x1 bh bl al ah (f + 1) z rh rl qh ql (nI (127 - i)) = fn_X17_divide_L55 F sh n x0 w x1 bh bl al ah f z rh' rl' qh' ql' (nI (127 - i) + (-1)) := by
  have hA : A < 2 ^ 128 := by rw [← hAV]; exact V2_lt _ _
  obtain ⟨-, o2, o3⟩ := dvs_ok hA hB0 i (by omega)
  have hBlt : B < 2 ^ 128 := by rw [← hB]; exact V2_lt _ _
  have hbit : A / 2 ^ (127 - i) % 2 < 2 := Nat.mod_lt _ (by decide)
  have hQ2 : (dvs A B i).1 < 2 ^ 127 := Nat.lt_of_lt_of_le o3 (Nat.pow_le_pow_right (by decide) (by omega))
  have a3 := N_lt rh
  have a4 := N_lt rl
  have lost : (0 : Int64) ≤ rh ↔ 2 * (dvs A B i).2 < 2 ^ 128 := by
    rw [neg_top, ← hR]
    unfold V2
    omega
  have key : ∀ y x : Int64, (y + (-9223372036854775808)) ≤ (x + (-9223372036854775808)) ↔ N y ≤ N x := fun y x => by
    rw [Int64.le_iff_toInt_le, plus_toInt, plus_toInt]
    omega
  have fin : ∀ (g : Int32) (p48 p49 : Int64), (g = 0 ∨ g = 1) → fn_X17_divide_B188 F sh n qh ql g (nI (127 - i)) (fun z9 q11 q13 q15 q17 q19 => fn_X17_divide_L55 F sh n x0 w x1 bh bl al ah f z9 q11 q13 q15 q17 q19) z p48 p49 = fn_X17_divide_L55 F sh n x0 w x1 bh bl al ah f z p48 p49 ((qh <<< ((1 : Int32).toInt64 &&& 63)) ||| (ql.toUInt64 >>> ((63 : Int32).toInt64.toUInt64 &&& Int64.toUInt64 63)).toInt64) ((ql <<< ((1 : Int32).toInt64 &&& 63)) ||| (if g = 0 then 0 else 1)) (nI (127 - i) + (-1)) := by
    intro g p48 p49 hg
    unfold fn_X17_divide_B188 fn_X17_divide_B214
    simp only [lt_t]
    rcases hg with e | e <;> subst e
    · rw [if0, if0]
    · rw [if1, if1]
  have small : ∀ v45 : Int64, V2 ((rh <<< ((1 : Int32).toInt64 &&& 63)) ||| (rl.toUInt64 >>> ((63 : Int32).toInt64.toUInt64 &&& Int64.toUInt64 63)).toInt64) v45 = 2 * (dvs A B i).2 + A / 2 ^ (127 - i) % 2 → 2 * (dvs A B i).2 + A / 2 ^ (127 - i) % 2 < B → ∃ rh' rl' qh' ql', V2 rh' rl' = (dvs A B (i + 1)).2 ∧ V2 qh' ql' = (dvs A B (i + 1)).1 ∧ fn_X17_divide_B141 F sh n qh ql (nI (127 - i)) ((rh <<< ((1 : Int32).toInt64 &&& 63)) ||| (rl.toUInt64 >>> ((63 : Int32).toInt64.toUInt64 &&& Int64.toUInt64 63)).toInt64) v45 bl bh (fun z9 q11 q13 q15 q17 q19 => fn_X17_divide_L55 F sh n x0 w x1 bh bl al ah f z9 q11 q13 q15 q17 q19) z 0 = fn_X17_divide_L55 F sh n x0 w x1 bh bl al ah f z rh' rl' qh' ql' (nI (127 - i) + (-1)) := by
    intro v45 hv hlt
    have e := fin 0 ((rh <<< ((1 : Int32).toInt64 &&& 63)) ||| (rl.toUInt64 >>> ((63 : Int32).toInt64.toUInt64 &&& Int64.toUInt64 63)).toInt64) v45 (Or.inl rfl)
    refine ⟨_, _, _, _, ?_, ?_, Eq.trans (by unfold fn_X17_divide_B141; rw [if0]) e⟩
    · rw [hv, dvs, if_pos hlt]
    · rw [if0, V2_shl (by rw [N_0]; decide), hQ, N_0, dvs, if_pos hlt]
      show (2 * (dvs A B i).1 + 0) % 2 ^ 128 = 2 * (dvs A B i).1
      omega
  have big : ∀ v45 : Int64, V2 ((rh <<< ((1 : Int32).toInt64 &&& 63)) ||| (rl.toUInt64 >>> ((63 : Int32).toInt64.toUInt64 &&& Int64.toUInt64 63)).toInt64) v45 = (2 * (dvs A B i).2 + A / 2 ^ (127 - i) % 2) % 2 ^ 128 → ¬ 2 * (dvs A B i).2 + A / 2 ^ (127 - i) % 2 < B → ∃ rh' rl' qh' ql', V2 rh' rl' = (dvs A B (i + 1)).2 ∧ V2 qh' ql' = (dvs A B (i + 1)).1 ∧ fn_X17_divide_B141 F sh n qh ql (nI (127 - i)) ((rh <<< ((1 : Int32).toInt64 &&& 63)) ||| (rl.toUInt64 >>> ((63 : Int32).toInt64.toUInt64 &&& Int64.toUInt64 63)).toInt64) v45 bl bh (fun z9 q11 q13 q15 q17 q19 => fn_X17_divide_L55 F sh n x0 w x1 bh bl al ah f z9 q11 q13 q15 q17 q19) z 1 = fn_X17_divide_L55 F sh n x0 w x1 bh bl al ah f z rh' rl' qh' ql' (nI (127 - i) + (-1)) := by
    intro v45 hv hge
    generalize ev42 : ((rh <<< ((1 : Int32).toInt64 &&& 63)) ||| (rl.toUInt64 >>> ((63 : Int32).toInt64.toUInt64 &&& Int64.toUInt64 63)).toInt64) = v42 at hv ⊢
    have hsub : ∀ c : Int64, N c = (if N v45 < N bl then 1 else 0) → V2 (v42 - bh - c) (v45 - bl) = (dvs A B (i + 1)).2 := by
      intro c hc
      rw [V2_sub hc, hv, hB, dvs, if_neg hge]
      show _ = 2 * (dvs A B i).2 + A / 2 ^ (127 - i) % 2 - B
      omega
    have hq : V2 ((qh <<< ((1 : Int32).toInt64 &&& 63)) ||| (ql.toUInt64 >>> ((63 : Int32).toInt64.toUInt64 &&& Int64.toUInt64 63)).toInt64) ((ql <<< ((1 : Int32).toInt64 &&& 63)) ||| (if (1 : Int32) = 0 then 0 else 1)) = (dvs A B (i + 1)).1 := by
      rw [if1, V2_shl (by rw [N_1]; decide), hQ, N_1, dvs, if_neg hge]
      show (2 * (dvs A B i).1 + 1) % 2 ^ 128 = 2 * (dvs A B i).1 + 1
      omega
    by_cases q : N v45 < N bl
    · refine ⟨v42 - bh - 1, v45 - bl, _, _, hsub 1 (by rw [if_pos q]; rfl), hq, ?_⟩
      unfold fn_X17_divide_B141 fn_X17_divide_B169
      rw [if1, if_neg (fun e => absurd ((key bl v45).mp e) (by omega))]
      simp only [lt_t]
      exact fin 1 _ _ (Or.inr rfl)
    · refine ⟨v42 - bh - 0, v45 - bl, _, _, hsub 0 (by rw [if_neg q]; rfl), hq, ?_⟩
      unfold fn_X17_divide_B141 fn_X17_divide_B169
      rw [if1, if_pos ((key bl v45).mpr (by omega))]
      simp only [lt_t]
      exact fin 1 _ _ (Or.inr rfl)
  have mid : ∀ (p : Int32) (p43 : Int64), N (p43 &&& 1) = A / 2 ^ (127 - i) % 2 → ((p = 0 ∧ 2 * (dvs A B i).2 < 2 ^ 128) ∨ (p = 1 ∧ ¬ 2 * (dvs A B i).2 < 2 ^ 128)) → ∃ rh' rl' qh' ql', V2 rh' rl' = (dvs A B (i + 1)).2 ∧ V2 qh' ql' = (dvs A B (i + 1)).1 ∧ fn_X17_divide_B112 F sh n rl p ((rh <<< ((1 : Int32).toInt64 &&& 63)) ||| (rl.toUInt64 >>> ((63 : Int32).toInt64.toUInt64 &&& Int64.toUInt64 63)).toInt64) bh bl qh ql (nI (127 - i)) (fun z9 q11 q13 q15 q17 q19 => fn_X17_divide_L55 F sh n x0 w x1 bh bl al ah f z9 q11 q13 q15 q17 q19) z p43 = fn_X17_divide_L55 F sh n x0 w x1 bh bl al ah f z rh' rl' qh' ql' (nI (127 - i) + (-1)) := by
    intro p p43 hb hp
    have hv : V2 ((rh <<< ((1 : Int32).toInt64 &&& 63)) ||| (rl.toUInt64 >>> ((63 : Int32).toInt64.toUInt64 &&& Int64.toUInt64 63)).toInt64) ((rl <<< ((1 : Int32).toInt64 &&& 63)) ||| (p43 &&& 1)) = (2 * (dvs A B i).2 + A / 2 ^ (127 - i) % 2) % 2 ^ 128 := by
      rw [V2_shl (by rw [hb]; exact hbit), hR, hb]
    unfold fn_X17_divide_B112
    rw [lt_t]
    rcases hp with ⟨hp, h2⟩ | ⟨hp, h2⟩ <;> subst hp
    · rw [if0, cal_t (cmpM_t _ _ _ _)]
      have hv2 := hv
      rw [Nat.mod_eq_of_lt (show 2 * (dvs A B i).2 + A / 2 ^ (127 - i) % 2 < 2 ^ 128 by omega)] at hv2
      rw [hv2, hB]
      by_cases q2 : 2 * (dvs A B i).2 + A / 2 ^ (127 - i) % 2 < B
      · rw [if_pos q2, if_pos (show (-1 : Int32) < 0 by decide)]
        exact small _ hv2 q2
      · rw [if_neg q2]
        unfold fn_X17_divide_B136
        by_cases q3 : 2 * (dvs A B i).2 + A / 2 ^ (127 - i) % 2 = B
        · rw [if_pos q3, if_neg (show ¬ (0 : Int32) < 0 by decide)]
          exact big _ hv q2
        · rw [if_neg q3, if_neg (show ¬ (1 : Int32) < 0 by decide)]
          exact big _ hv q2
    · rw [if1]
      unfold fn_X17_divide_B136
      exact big _ hv (by omega)
  have step : ∀ p : Int32, ((p = 0 ∧ 2 * (dvs A B i).2 < 2 ^ 128) ∨ (p = 1 ∧ ¬ 2 * (dvs A B i).2 < 2 ^ 128)) → ∃ rh' rl' qh' ql', V2 rh' rl' = (dvs A B (i + 1)).2 ∧ V2 qh' ql' = (dvs A B (i + 1)).1 ∧ fn_X17_divide_B72 F sh n rh rl (nI (127 - i)) bh bl qh ql al ah (fun z9 q11 q13 q15 q17 q19 => fn_X17_divide_L55 F sh n x0 w x1 bh bl al ah f z9 q11 q13 q15 q17 q19) z p = fn_X17_divide_L55 F sh n x0 w x1 bh bl al ah f z rh' rl' qh' ql' (nI (127 - i) + (-1)) := by
    intro p hp
    unfold fn_X17_divide_B72
    rw [lt_t]
    by_cases c : 127 - i ≤ 63
    · rw [if_pos (show nI (127 - i) ≤ 63 from nI_le (b := 63) c (by decide))]
      exact mid p _ (by rw [bitK (by omega), bitLo (h := ah) (by omega), hAV]) hp
    · rw [if_neg (show ¬ nI (127 - i) ≤ 63 from nI_ge (a := 63) (b := 127 - i) (by omega) (by omega)), show nI (127 - i) - 64 = nI (127 - i - 64) from pk_sub (a := 127 - i) (b := 64) (by omega)]
      exact mid p _ (by rw [bitK (by omega), bitHi (l := al) (by omega), hAV]) hp
  rw [fn_X17_divide_L55, if_neg (nI_pos (by omega))]
  by_cases q : (0 : Int64) ≤ rh
  · rw [if_pos q]
    exact step 0 (Or.inl ⟨rfl, lost.mp q⟩)
  · rw [if_neg q]
    exact step 1 (Or.inr ⟨rfl, fun h => q (lost.mpr h)⟩)
