/-! the class's division -/
def gs (G : Nat → Int64) : Nat → Int64 := fun j => if j = 1 then G 1 <<< ((1 : Int32).toInt64 &&& 63) else if j = 0 then (G 0 <<< ((1 : Int32).toInt64 &&& 63)) ||| ((G 1).toUInt64 >>> ((63 : Int32).toInt64.toUInt64 &&& Int64.toUInt64 63)).toInt64 else if j = 4 then (G 4 <<< ((1 : Int32).toInt64 &&& 63)) ||| ((G 0).toUInt64 >>> ((63 : Int32).toInt64.toUInt64 &&& Int64.toUInt64 63)).toInt64 else if j = 3 then (G 3 <<< ((1 : Int32).toInt64 &&& 63)) ||| ((G 4).toUInt64 >>> ((63 : Int32).toInt64.toUInt64 &&& Int64.toUInt64 63)).toInt64 else G j
def gt (G : Nat → Int64) (bh bl c : Int64) : Nat → Int64 := fun j => if j = 1 then G 1 ||| 1 else if j = 4 then G 4 - bl else if j = 3 then G 3 - bh - c else G j
theorem b63_t {F : Nat} {sh : Nat → Nat × Nat} {n w : Nat} {z : St} {bh bl : Int64} {i p : Int32} {ko : St → Int32 → Option (St × Unit)} (G : Nat → Int64) : fn_X10_divide_B63 F sh n w bh bl i ko (srl z w G) p = if p = 0 then cal (fn_X10_compare F sh n (srl z w (gs G)) (gs G 3) (gs G 4) bh bl) (fun z1 r => if r < 0 then fn_X10_divide_B198 F sh n i (fun z9 q6 => ko z9 q6) z1 else fn_X10_divide_B150 F sh n w bl bh i (fun z9 q6 => ko z9 q6) z1) else fn_X10_divide_B150 F sh n w bl bh i (fun z9 q6 => ko z9 q6) (srl z w (gs G)) := by
  unfold fn_X10_divide_B63
  simp only [lt_t, srl_s, sl_k]
  rfl
theorem b150_t {F : Nat} {sh : Nat → Nat × Nat} {n w : Nat} {z : St} {bh bl : Int64} {i : Int32} {ko : St → Int32 → Option (St × Unit)} (G : Nat → Int64) : ∃ c, N c = (if N (G 4) < N bl then 1 else 0) ∧ fn_X10_divide_B150 F sh n w bl bh i ko (srl z w G) = ko (srl z w (gt G bh bl c)) (i + 1) := by
  unfold fn_X10_divide_B150
  rw [srl_s, cal_t (below_t (G 4) bl)]
  by_cases q : N (G 4) < N bl
  · rw [if_pos q, if_pos q, if1]
    refine ⟨(1 : Int32).toInt64, rfl, ?_⟩
    unfold fn_X10_divide_B173 fn_X10_divide_B198
    simp only [lt_t, srl_s, sl_k]
    rfl
  · rw [if_neg q, if_neg q, if0]
    refine ⟨(0 : Int32).toInt64, rfl, ?_⟩
    unfold fn_X10_divide_B173 fn_X10_divide_B198
    simp only [lt_t, srl_s, sl_k]
    rfl
theorem split_top {A i : Nat} (hi : i < 128) : A % 2 ^ (128 - i) = A / 2 ^ (127 - i) % 2 * 2 ^ (127 - i) + A % 2 ^ (127 - i) := by
  have e : 2 ^ (128 - i) = 2 ^ (127 - i) * 2 := by rw [← Nat.pow_succ]; congr 1; omega
  rw [e, mod_split]
theorem top_bit {A i Q V : Nat} (hi : i < 128) (hQ : Q < 2 ^ i) (hV : V = A % 2 ^ (128 - i) * 2 ^ i + Q) : V / 2 ^ 127 = A / 2 ^ (127 - i) % 2 ∧ 2 * V % 2 ^ 128 = A % 2 ^ (127 - i) * 2 ^ (i + 1) + 2 * Q := by
  have p1 : 2 ^ (127 - i) * 2 ^ i = 2 ^ 127 := by rw [← Nat.pow_add]; congr 1; omega
  have hl : A % 2 ^ (127 - i) < 2 ^ (127 - i) := Nat.mod_lt _ (Nat.two_pow_pos _)
  have hb : A / 2 ^ (127 - i) % 2 < 2 := Nat.mod_lt _ (by decide)
  have h1 : (A % 2 ^ (127 - i) + 1) * 2 ^ i ≤ 2 ^ (127 - i) * 2 ^ i := Nat.mul_le_mul_right _ hl
  rw [p1, Nat.add_mul, Nat.one_mul] at h1
  have e : V = A / 2 ^ (127 - i) % 2 * 2 ^ 127 + (A % 2 ^ (127 - i) * 2 ^ i + Q) := by
    rw [hV, split_top hi, Nat.add_mul, Nat.mul_assoc, p1]
    omega
  have e3 : A % 2 ^ (127 - i) * 2 ^ (i + 1) = 2 * (A % 2 ^ (127 - i) * 2 ^ i) := by
    rw [Nat.pow_succ, Nat.mul_comm (2 ^ i) 2, Nat.mul_left_comm]
  rw [e3]
  generalize A / 2 ^ (127 - i) % 2 = b at *
  generalize A % 2 ^ (127 - i) * 2 ^ i = Y at *
  generalize 2 ^ i = pi at *
  constructor
  · rw [e]; omega
  · rw [e]; omega
theorem or_1 {x : Int64} (h : N x % 2 = 0) : N (x ||| 1) = N x + 1 := by
  rw [N_or, N_1]
  have e : N x = 2 ^ 1 * (N x / 2) := by omega
  rw [e, ← Nat.two_pow_add_eq_or_of_lt (i := 1) (by decide)]
theorem divX_s {F : Nat} {sh : Nat → Nat × Nat} {n w A B i f : Nat} {z : St} {bh bl : Int64} {x2 : Int32} (hz : z.1 w 2 = 0) (hB : V2 bh bl = B) (hA : A < 2 ^ 128) (hB0 : 0 < B) (hi : i < 128) (G : Nat → Int64) (hR : V2 (G 3) (G 4) = (dvs A B i).2) (hQ : V2 (G 0) (G 1) = A % 2 ^ (128 - i) * 2 ^ i + (dvs A B i).1) : ∃ G', V2 (G' 3) (G' 4) = (dvs A B (i + 1)).2 ∧ V2 (G' 0) (G' 1) = A % 2 ^ (128 - (i + 1)) * 2 ^ (i + 1) + (dvs A B (i + 1)).1 ∧ fn_X10_divide_L34 F sh n x2 w bh bl (f + 1) (srl z w G) (nI i) = fn_X10_divide_L34 F sh n x2 w bh bl f (srl z w G') (nI (i + 1)) := by
  obtain ⟨-, o2, o3⟩ := dvs_ok hA hB0 i (by omega)
  have hBlt : B < 2 ^ 128 := by rw [← hB]; exact V2_lt _ _
  obtain ⟨t1, t2⟩ := top_bit hi o3 hQ
  have a0 := N_lt (G 0)
  have a1 := N_lt (G 1)
  have a3 := N_lt (G 3)
  have a4 := N_lt (G 4)
  have hc : ¬ (128 : Int32) ≤ nI i := nI_ge (a := i) (b := 128) hi (by decide)
  have g0 : N ((G 0).toUInt64 >>> ((63 : Int32).toInt64.toUInt64 &&& Int64.toUInt64 63)).toInt64 = A / 2 ^ (127 - i) % 2 := by
    rw [N_top, ← t1]
    unfold V2
    omega
  have hbit : A / 2 ^ (127 - i) % 2 < 2 := Nat.mod_lt _ (by decide)
  have v34 : V2 (gs G 3) (gs G 4) = (2 * (dvs A B i).2 + A / 2 ^ (127 - i) % 2) % 2 ^ 128 := by
    rw [← g0, ← hR]
    exact V2_shl (by rw [g0]; exact hbit)
  have v01 : V2 (gs G 0) (gs G 1) = A % 2 ^ (127 - i) * 2 ^ (i + 1) + 2 * (dvs A B i).1 := by
    rw [← t2]
    exact V2_shl0
  have lost : (0 : Int64) ≤ G 3 ↔ 2 * (dvs A B i).2 < 2 ^ 128 := by
    rw [neg_top, ← hR]
    unfold V2
    omega
  have e128 : 128 - (i + 1) = 127 - i := by omega
  rw [e128]
  have big : ¬ 2 * (dvs A B i).2 + A / 2 ^ (127 - i) % 2 < B → ∃ G', V2 (G' 3) (G' 4) = (dvs A B (i + 1)).2 ∧ V2 (G' 0) (G' 1) = A % 2 ^ (127 - i) * 2 ^ (i + 1) + (dvs A B (i + 1)).1 ∧ fn_X10_divide_B150 F sh n w bl bh (nI i) (fun z9 q6 => fn_X10_divide_L34 F sh n x2 w bh bl f z9 q6) (srl z w (gs G)) = fn_X10_divide_L34 F sh n x2 w bh bl f (srl z w G') (nI (i + 1)) := by
    intro hge
    obtain ⟨c, c1, c2⟩ := b150_t (F := F) (sh := sh) (n := n) (w := w) (z := z) (bh := bh) (bl := bl) (i := nI i) (ko := fun z9 q6 => fn_X10_divide_L34 F sh n x2 w bh bl f z9 q6) (gs G)
    refine ⟨gt (gs G) bh bl c, ?_, ?_, by rw [c2, show nI i + 1 = nI (i + 1) from nI_1 i]⟩
    · show V2 (gs G 3 - bh - c) (gs G 4 - bl) = _
      rw [V2_sub c1, v34, hB, dvs, if_neg hge]
      show _ = 2 * (dvs A B i).2 + A / 2 ^ (127 - i) % 2 - B
      omega
    · show V2 (gs G 0) (gs G 1 ||| 1) = _
      have ev : N (gs G 1) % 2 = 0 := by
        show N (G 1 <<< ((1 : Int32).toInt64 &&& 63)) % 2 = 0
        rw [N_shl1]
        omega
      rw [dvs, if_neg hge]
      show N (gs G 0) * 2 ^ 64 + N (gs G 1 ||| 1) = A % 2 ^ (127 - i) * 2 ^ (i + 1) + (2 * (dvs A B i).1 + 1)
      rw [or_1 ev]
      unfold V2 at v01
      omega
  have small : 2 * (dvs A B i).2 + A / 2 ^ (127 - i) % 2 < B → ∃ G', V2 (G' 3) (G' 4) = (dvs A B (i + 1)).2 ∧ V2 (G' 0) (G' 1) = A % 2 ^ (127 - i) * 2 ^ (i + 1) + (dvs A B (i + 1)).1 ∧ fn_X10_divide_B198 F sh n (nI i) (fun z9 q6 => fn_X10_divide_L34 F sh n x2 w bh bl f z9 q6) (srl z w (gs G)) = fn_X10_divide_L34 F sh n x2 w bh bl f (srl z w G') (nI (i + 1)) := by
    intro hlt
    refine ⟨gs G, ?_, ?_, ?_⟩
    · rw [v34, dvs, if_pos hlt]
      show _ = 2 * (dvs A B i).2 + A / 2 ^ (127 - i) % 2
      omega
    · rw [v01, dvs, if_pos hlt]
    · unfold fn_X10_divide_B198
      rw [show nI i + 1 = nI (i + 1) from nI_1 i]
  rw [fn_X10_divide_L34, if_neg hc, show (srl z w G).1 w 2 = 0 from hz, if0, srl_s]
  by_cases q : (0 : Int64) ≤ G 3
  · rw [if_pos q, b63_t, if0, cal_t (cmpX_t _ _ _ _)]
    have h1 := lost.mp q
    have v34' : V2 (gs G 3) (gs G 4) = 2 * (dvs A B i).2 + A / 2 ^ (127 - i) % 2 := by
      rw [v34]
      omega
    rw [v34', hB]
    by_cases q2 : 2 * (dvs A B i).2 + A / 2 ^ (127 - i) % 2 < B
    · rw [if_pos q2, if_pos (show (-1 : Int32) < 0 by decide)]
      exact small q2
    · rw [if_neg q2]
      by_cases q3 : 2 * (dvs A B i).2 + A / 2 ^ (127 - i) % 2 = B
      · rw [if_pos q3, if_neg (show ¬ (0 : Int32) < 0 by decide)]
        exact big q2
      · rw [if_neg q3, if_neg (show ¬ (1 : Int32) < 0 by decide)]
        exact big q2
  · rw [if_neg q, b63_t, if1]
    have h1 : ¬ 2 * (dvs A B i).2 < 2 ^ 128 := fun h => q (lost.mpr h)
    exact big (by omega)
