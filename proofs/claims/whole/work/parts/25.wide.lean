/-! WIDE NUMBERS: longs as naturals below 2^64; two of them as one below 2^128 -/
def N (x : Int64) : Nat := x.toBitVec.toNat
theorem N_lt (x : Int64) : N x < 2 ^ 64 := x.toBitVec.isLt
theorem N_inj {x y : Int64} (h : N x = N y) : x = y := b64_nat h
theorem N_add (x y : Int64) : N (x + y) = (N x + N y) % 2 ^ 64 := by unfold N; rw [Int64.toBitVec_add, BitVec.toNat_add]
theorem N_sub (x y : Int64) : N (x - y) = (2 ^ 64 - N y + N x) % 2 ^ 64 := by unfold N; rw [Int64.toBitVec_sub, BitVec.toNat_sub]
theorem N_mul (x y : Int64) : N (x * y) = (N x * N y) % 2 ^ 64 := by unfold N; rw [Int64.toBitVec_mul, BitVec.toNat_mul]
theorem N_mask (x : Int64) : N (x &&& 4294967295) = N x % 2 ^ 32 := and_mask x
theorem N_0 : N 0 = 0 := rfl
theorem N_1 : N 1 = 1 := rfl
theorem N_eq0 {x : Int64} : x = 0 ↔ N x = 0 := ⟨fun h => by rw [h]; rfl, fun h => N_inj (by rw [h]; rfl)⟩
theorem N_ushr {x : Int64} {e : UInt64} (s : Nat) (h : ((x.toUInt64 >>> e).toInt64).toBitVec = x.toBitVec >>> s) : N ((x.toUInt64 >>> e).toInt64) = N x / 2 ^ s := by
  unfold N
  rw [h, BitVec.toNat_ushiftRight, Nat.shiftRight_eq_div_pow]
theorem N_shl {x e : Int64} (s : Nat) (h : (x <<< e).toBitVec = x.toBitVec <<< s) : N (x <<< e) = N x * 2 ^ s % 2 ^ 64 := by
  unfold N
  rw [h, BitVec.toNat_shiftLeft, Nat.shiftLeft_eq]
theorem xor63 {a : Nat} (h : a < 2 ^ 63) : a ^^^ 2 ^ 63 = a + 2 ^ 63 := by
  apply Nat.eq_of_testBit_eq
  intro i
  rw [Nat.testBit_xor, Nat.testBit_two_pow, Nat.add_comm]
  by_cases h1 : i = 63
  · subst h1
    rw [Nat.testBit_two_pow_add_eq]
    simp
  · by_cases h2 : i < 63
    · rw [Nat.testBit_two_pow_add_gt h2]
      have : ¬ 63 = i := fun e => h1 e.symm
      simp [this]
    · have e1 : a.testBit i = false := Nat.testBit_lt_two_pow (Nat.lt_of_lt_of_le h (Nat.pow_le_pow_right (by decide) (by omega)))
      have e2 : (2 ^ 63 + a).testBit i = false := Nat.testBit_lt_two_pow (Nat.lt_of_lt_of_le (show 2 ^ 63 + a < 2 ^ 64 by omega) (Nat.pow_le_pow_right (by decide) (by omega)))
      have : ¬ 63 = i := fun e => h1 e.symm
      rw [e1, e2]
      simp [this]
theorem top_toInt {x : Int64} (h : N x < 2 ^ 64) : x.toInt = if N x < 2 ^ 63 then (N x : Int) else (N x : Int) - 2 ^ 64 := by
  show x.toBitVec.toInt = _
  rw [BitVec.toInt_eq_toNat_cond]
  unfold N
  by_cases h1 : x.toBitVec.toNat < 2 ^ 63
  · rw [if_pos (by omega), if_pos h1]
  · rw [if_neg (by omega), if_neg h1]
    rfl
theorem flip_toInt (x : Int64) : (x ^^^ (-9223372036854775808)).toInt = (N x : Int) - 2 ^ 63 := by
  have hx := N_lt x
  have e : N (x ^^^ (-9223372036854775808)) = N x ^^^ 2 ^ 63 := by
    unfold N
    rw [Int64.toBitVec_xor, BitVec.toNat_xor]
    rfl
  rw [top_toInt (N_lt _), e]
  by_cases h : N x < 2 ^ 63
  · rw [xor63 h, if_neg (by omega)]
    omega
  · have e2 : N x ^^^ 2 ^ 63 = N x - 2 ^ 63 := by
      have h3 := xor63 (a := N x - 2 ^ 63) (by omega)
      rw [show N x - 2 ^ 63 + 2 ^ 63 = N x by omega] at h3
      rw [← h3, Nat.xor_assoc, Nat.xor_self, Nat.xor_zero]
      omega
    rw [e2, if_pos (by omega)]
    omega
theorem plus_toInt (x : Int64) : (x + (-9223372036854775808)).toInt = (N x : Int) - 2 ^ 63 := by
  have hx := N_lt x
  have e : N (x + (-9223372036854775808)) = (N x + 2 ^ 63) % 2 ^ 64 := N_add x _
  rw [top_toInt (N_lt _), e]
  by_cases h : N x < 2 ^ 63
  · rw [show (N x + 2 ^ 63) % 2 ^ 64 = N x + 2 ^ 63 by omega, if_neg (by omega)]
    omega
  · rw [show (N x + 2 ^ 63) % 2 ^ 64 = N x - 2 ^ 63 by omega, if_pos (by omega)]
    omega
theorem below_t {F : Nat} {sh : Nat → Nat × Nat} {n : Nat} {z : St} (x y : Int64) : fn_X10_below F sh n z x y = some (z, if N x < N y then 1 else 0) := by
  unfold fn_X10_below
  have h : ((y ^^^ (-9223372036854775808)) ≤ (x ^^^ (-9223372036854775808))) ↔ N y ≤ N x := by
    rw [Int64.le_iff_toInt_le, flip_toInt, flip_toInt]
    omega
  by_cases c : N y ≤ N x
  · rw [if_pos (h.mpr c), if_neg (by omega)]
  · rw [if_neg (fun q => c (h.mp q)), if_pos (by omega)]
/-- two longs as one number -/
def V2 (h l : Int64) : Nat := N h * 2 ^ 64 + N l
theorem V2_lt (h l : Int64) : V2 h l < 2 ^ 128 := by
  have a := N_lt h
  have b := N_lt l
  unfold V2
  omega
theorem V2_inj {h l h' l' : Int64} (e : V2 h l = V2 h' l') : h = h' ∧ l = l' := by
  have a := N_lt l
  have b := N_lt l'
  unfold V2 at e
  exact ⟨N_inj (by omega), N_inj (by omega)⟩
theorem cmpX_t {F : Nat} {sh : Nat → Nat × Nat} {n : Nat} {z : St} (ah al bh bl : Int64) : fn_X10_compare F sh n z ah al bh bl = some (z, if V2 ah al < V2 bh bl then -1 else if V2 ah al = V2 bh bl then 0 else 1) := by
  have a := N_lt al
  have b := N_lt bl
  unfold fn_X10_compare
  by_cases h1 : ah = bh
  · subst h1
    rw [if_pos rfl]
    by_cases h2 : al = bl
    · subst h2
      rw [if_pos rfl, if_neg (Nat.lt_irrefl _), if_pos rfl]
    · have h3 : N al ≠ N bl := fun e => h2 (N_inj e)
      rw [if_neg h2, cal_t (below_t al bl)]
      by_cases h4 : N al < N bl
      · have h5 : V2 ah al < V2 ah bl := by unfold V2; omega
        rw [if_pos h4, if_pos h5]
        rfl
      · have h5 : ¬ V2 ah al < V2 ah bl := by unfold V2; omega
        have h6 : ¬ V2 ah al = V2 ah bl := by unfold V2; omega
        rw [if_neg h4, if_neg h5, if_neg h6]
        rfl
  · have h3 : N ah ≠ N bh := fun e => h1 (N_inj e)
    rw [if_neg h1, cal_t (below_t ah bh)]
    by_cases h4 : N ah < N bh
    · have h5 : V2 ah al < V2 bh bl := by unfold V2; omega
      rw [if_pos h4, if_pos h5]
      rfl
    · have h5 : ¬ V2 ah al < V2 bh bl := by unfold V2; omega
      have h6 : ¬ V2 ah al = V2 bh bl := by unfold V2; omega
      rw [if_neg h4, if_neg h5, if_neg h6]
      rfl
/-- the class's wide object at cell w: what it holds, and what it says of being beyond -/
def wz (z : St) (w : Nat) (h l : Int64) (b : Int32) : St := sl (sl (si z w 2 b) w 0 h) w 1 l
theorem if1 {α : Type} {A B : α} : (if (1 : Int32) = 0 then A else B) = B := if_neg (by decide)
theorem if0 {α : Type} {A B : α} : (if (0 : Int32) = 0 then A else B) = A := if_pos rfl
theorem addX_t {F : Nat} {sh : Nat → Nat × Nat} {n w : Nat} {z : St} (h0 : w < n) (h1 : (sh w).1 = 10) (bh bl : Int64) : ∃ h l, fn_X10_add F sh n z w bh bl = some (wz z w h l (if V2 (z.2.1 w 0) (z.2.1 w 1) + V2 bh bl < 2 ^ 128 then 0 else 1), ()) ∧ V2 h l = (V2 (z.2.1 w 0) (z.2.1 w 1) + V2 bh bl) % 2 ^ 128 := by
  generalize ea : z.2.1 w 0 = ah
  generalize el : z.2.1 w 1 = al
  have a1 := N_lt ah
  have a2 := N_lt al
  have a3 := N_lt bh
  have a4 := N_lt bl
  have e1 := N_add al bl
  have e2 := N_add ah bh
  unfold fn_X10_add
  rw [grd_t (okO_of h0 h1), el]
  show ∃ h l, cal (fn_X10_below F sh n z (al + bl) bl) _ = _ ∧ _
  rw [cal_t (below_t (al + bl) bl)]
  by_cases c : N (al + bl) < N bl
  · rw [if_pos c]
    have e3 := N_add (ah + bh) 1
    rw [N_1] at e3
    refine ⟨ah + bh + 1, al + bl, ?_, ?_⟩
    · show fn_X10_add_B22 F sh n w bh (al + bl) z 1 = _
      unfold fn_X10_add_B22
      rw [ea]
      show cal (fn_X10_below F sh n z (ah + bh) bh) _ = _
      rw [cal_t (below_t (ah + bh) bh)]
      by_cases c2 : N (ah + bh) < N bh
      · rw [if_pos c2, if1, if_neg (show ¬ V2 ah al + V2 bh bl < 2 ^ 128 by unfold V2; omega)]
        rfl
      · rw [if_neg c2, if0]
        show cal (fn_X10_below F sh n z (ah + bh + 1) 1) _ = _
        rw [cal_t (below_t (ah + bh + 1) 1), N_1]
        by_cases c3 : N (ah + bh + 1) < 1
        · rw [if_pos c3, if1, if_neg (show ¬ V2 ah al + V2 bh bl < 2 ^ 128 by unfold V2; omega)]
          rfl
        · rw [if_neg c3, if0, if_pos (show V2 ah al + V2 bh bl < 2 ^ 128 by unfold V2; omega)]
          rfl
    · unfold V2
      omega
  · rw [if_neg c]
    have e3 := N_add (ah + bh) 0
    rw [N_0] at e3
    refine ⟨ah + bh + 0, al + bl, ?_, ?_⟩
    · show fn_X10_add_B22 F sh n w bh (al + bl) z 0 = _
      unfold fn_X10_add_B22
      rw [ea]
      show cal (fn_X10_below F sh n z (ah + bh) bh) _ = _
      rw [cal_t (below_t (ah + bh) bh)]
      by_cases c2 : N (ah + bh) < N bh
      · rw [if_pos c2, if1, if_neg (show ¬ V2 ah al + V2 bh bl < 2 ^ 128 by unfold V2; omega)]
        rfl
      · rw [if_neg c2, if0]
        show cal (fn_X10_below F sh n z (ah + bh + 0) 0) _ = _
        rw [cal_t (below_t (ah + bh + 0) 0), N_0, if_neg (Nat.not_lt_zero _), if0, if_pos (show V2 ah al + V2 bh bl < 2 ^ 128 by unfold V2; omega)]
        rfl
    · unfold V2
      omega
theorem subX_t {F : Nat} {sh : Nat → Nat × Nat} {n w : Nat} {z : St} (h0 : w < n) (h1 : (sh w).1 = 10) (bh bl : Int64) : ∃ h l, fn_X10_subtract F sh n z w bh bl = some (wz z w h l (if V2 bh bl ≤ V2 (z.2.1 w 0) (z.2.1 w 1) then 0 else 1), ()) ∧ V2 h l = (2 ^ 128 - V2 bh bl + V2 (z.2.1 w 0) (z.2.1 w 1)) % 2 ^ 128 := by
  generalize ea : z.2.1 w 0 = ah
  generalize el : z.2.1 w 1 = al
  have a1 := N_lt ah
  have a2 := N_lt al
  have a3 := N_lt bh
  have a4 := N_lt bl
  have e1 := N_sub al bl
  have e2 := N_sub ah bh
  unfold fn_X10_subtract
  rw [grd_t (okO_of h0 h1), ea, el, cal_t (cmpX_t ah al bh bl)]
  have key : ∀ p : Int32, okZ p = true → fn_X10_subtract_B22 F sh n w bl bh z p = some (wz z w (ah - bh - (if N al < N bl then (1 : Int32) else 0).toInt64) (al - bl) p, ()) := by
    intro p hp
    unfold fn_X10_subtract_B22
    rw [grd_t hp]
    show cal (fn_X10_below F sh n (si z w 2 p) ((si z w 2 p).2.1 w 1) bl) _ = _
    rw [show (si z w 2 p).2.1 w 1 = al from el, cal_t (below_t al bl)]
    have e9 : ∀ (y : St) (v : Int64), (sl y w 0 v).2.1 w 1 = y.2.1 w 1 := fun y v => by simp [sl]
    by_cases c : N al < N bl
    · rw [if_pos c, if1]
      show fn_X10_subtract_B48 F sh n w (si z w 2 p) bh bl (si z w 2 p) 1 = _
      unfold fn_X10_subtract_B48
      rw [show (si z w 2 p).2.1 w 0 = ah from ea]
      show some (sl (sl (si z w 2 p) w 0 (ah - bh - (1 : Int32).toInt64)) w 1 ((sl (si z w 2 p) w 0 (ah - bh - (1 : Int32).toInt64)).2.1 w 1 - bl), ()) = _
      rw [e9, show (si z w 2 p).2.1 w 1 = al from el]
      rfl
    · rw [if_neg c, if0]
      show fn_X10_subtract_B48 F sh n w (si z w 2 p) bh bl (si z w 2 p) 0 = _
      unfold fn_X10_subtract_B48
      rw [show (si z w 2 p).2.1 w 0 = ah from ea]
      show some (sl (sl (si z w 2 p) w 0 (ah - bh - (0 : Int32).toInt64)) w 1 ((sl (si z w 2 p) w 0 (ah - bh - (0 : Int32).toInt64)).2.1 w 1 - bl), ()) = _
      rw [e9, show (si z w 2 p).2.1 w 1 = al from el]
      rfl
  refine ⟨ah - bh - (if N al < N bl then (1 : Int32) else 0).toInt64, al - bl, ?_, ?_⟩
  · by_cases c : V2 ah al < V2 bh bl
    · rw [if_pos c, if_neg (show ¬ (0 : Int32) ≤ -1 by decide), if_neg (show ¬ V2 bh bl ≤ V2 ah al by omega)]
      exact key 1 rfl
    · rw [if_neg c, if_pos (show V2 bh bl ≤ V2 ah al by omega)]
      by_cases c2 : V2 ah al = V2 bh bl
      · rw [if_pos c2, if_pos (by decide)]
        exact key 0 rfl
      · rw [if_neg c2, if_pos (by decide)]
        exact key 0 rfl
  · by_cases c : N al < N bl
    · have e3 := N_sub (ah - bh) 1
      rw [N_1] at e3
      rw [if_pos c]
      show N (ah - bh - 1) * 2 ^ 64 + N (al - bl) = _
      unfold V2
      omega
    · have e3 := N_sub (ah - bh) 0
      rw [N_0] at e3
      rw [if_neg c]
      show N (ah - bh - 0) * 2 ^ 64 + N (al - bl) = _
      unfold V2
      omega
