/-! how wide a number may be -/
def kb (k : Int32) : Nat := if k = 4 then 128 else if k = 3 then 64 else 8
def bb2 (b : Int32) : Nat := if b = 128 then 128 else if b = 64 then 64 else 8
theorem s8 (x : Int64) : N ((x.toUInt64 >>> ((8 : Int32).toInt64.toUInt64 &&& Int64.toUInt64 63)).toInt64) = N x / 2 ^ 8 := N_ushr 8 (by rfl)
theorem s8_0 (x : Int64) : (x.toUInt64 >>> ((8 : Int32).toInt64.toUInt64 &&& Int64.toUInt64 63)).toInt64 = 0 ↔ N x < 2 ^ 8 := by
  rw [N_eq0, s8]
  omega
theorem V2_64 {h l : Int64} : V2 h l < 2 ^ 64 ↔ h = 0 := by
  have a := N_lt l
  rw [N_eq0]
  unfold V2
  omega
theorem V2_8 {h l : Int64} : V2 h l < 2 ^ 8 ↔ h = 0 ∧ N l < 2 ^ 8 := by
  have a := N_lt l
  rw [N_eq0]
  unfold V2
  omega
theorem isOf_t {F : Nat} {sh : Nat → Nat × Nat} {n : Nat} {z : St} (h l : Int64) (b : Int32) : fn_X17_isOf F sh n z h l b = some (z, if V2 h l < 2 ^ bb2 b then 1 else 0) := by
  have hv := V2_lt h l
  unfold fn_X17_isOf bb2
  by_cases c1 : b = 128
  · rw [if_pos c1, if_pos c1, if_pos hv]
  · rw [if_neg c1, if_neg c1]
    by_cases c2 : b = 64
    · rw [if_pos c2, if_pos c2]
      by_cases c3 : h = 0
      · rw [if_pos c3, if_pos (V2_64.mpr c3)]
      · rw [if_neg c3, if_neg (fun q => c3 (V2_64.mp q))]
    · rw [if_neg c2, if_neg c2]
      by_cases c3 : h = 0
      · rw [if_pos c3]
        by_cases c4 : (l.toUInt64 >>> ((8 : Int32).toInt64.toUInt64 &&& Int64.toUInt64 63)).toInt64 = 0
        · rw [if_pos c4, if_pos (V2_8.mpr ⟨c3, (s8_0 l).mp c4⟩)]
        · rw [if_neg c4, if_neg (fun q => c4 ((s8_0 l).mpr (V2_8.mp q).2))]
      · rw [if_neg c3, if_neg (fun q => c3 (V2_8.mp q).1)]
theorem fits_t {F : Nat} {sh : Nat → Nat × Nat} {n w : Nat} {z : St} (h0 : w < n) (h1 : (sh w).1 = 10) (k : Int32) : fn_X10_fits F sh n z w k = some (z, if z.1 w 2 = 0 ∧ V2 (z.2.1 w 0) (z.2.1 w 1) < 2 ^ kb k then 1 else 0) := by
  generalize ea : z.2.1 w 0 = h
  generalize el : z.2.1 w 1 = l
  have hv := V2_lt h l
  unfold fn_X10_fits kb
  rw [grd_t (okO_of h0 h1), ea, el]
  by_cases c0 : z.1 w 2 = 0
  · rw [if_pos c0]
    by_cases c1 : k = 4
    · rw [if_pos c1, if_pos c1, if_pos ⟨c0, hv⟩]
    · rw [if_neg c1, if_neg c1]
      by_cases c2 : k = 3
      · rw [if_pos c2, if_pos c2]
        by_cases c3 : h = 0
        · rw [if_pos c3, if_pos ⟨c0, V2_64.mpr c3⟩]
        · rw [if_neg c3, if_neg (fun q => c3 (V2_64.mp q.2))]
      · rw [if_neg c2, if_neg c2]
        by_cases c3 : h = 0
        · rw [if_pos c3]
          by_cases c4 : (l.toUInt64 >>> ((8 : Int32).toInt64.toUInt64 &&& Int64.toUInt64 63)).toInt64 = 0
          · rw [if_pos c4, if_pos ⟨c0, V2_8.mpr ⟨c3, (s8_0 l).mp c4⟩⟩]
          · rw [if_neg c4, if_neg (fun q => c4 ((s8_0 l).mpr (V2_8.mp q.2).2))]
        · rw [if_neg c3, if_neg (fun q => c3 (V2_8.mp q.2).1)]
  · rw [if_neg c0, if_neg (fun q => c0 q.1)]
theorem cmpM_t {F : Nat} {sh : Nat → Nat × Nat} {n : Nat} {z : St} (ah al bh bl : Int64) : fn_X17_compare F sh n z ah al bh bl = some (z, if V2 ah al < V2 bh bl then -1 else if V2 ah al = V2 bh bl then 0 else 1) := by
  have a := N_lt al
  have b := N_lt bl
  have key : ∀ x y : Int64, (y + (-9223372036854775808)) ≤ (x + (-9223372036854775808)) ↔ N y ≤ N x := fun x y => by
    rw [Int64.le_iff_toInt_le, plus_toInt, plus_toInt]
    omega
  unfold fn_X17_compare
  by_cases h1 : ah = bh
  · subst h1
    rw [if_pos rfl]
    by_cases h2 : al = bl
    · subst h2
      rw [if_pos rfl, if_neg (Nat.lt_irrefl _), if_pos rfl]
    · have h3 : N al ≠ N bl := fun e => h2 (N_inj e)
      rw [if_neg h2]
      by_cases h4 : N al < N bl
      · have h5 : V2 ah al < V2 ah bl := by unfold V2; omega
        rw [if_neg (fun q => absurd ((key al bl).mp q) (by omega)), if_pos h5]
      · have h5 : ¬ V2 ah al < V2 ah bl := by unfold V2; omega
        have h6 : ¬ V2 ah al = V2 ah bl := by unfold V2; omega
        rw [if_pos ((key al bl).mpr (by omega)), if_neg h5, if_neg h6]
  · have h3 : N ah ≠ N bh := fun e => h1 (N_inj e)
    rw [if_neg h1]
    by_cases h4 : N ah < N bh
    · have h5 : V2 ah al < V2 bh bl := by unfold V2; omega
      rw [if_neg (fun q => absurd ((key ah bh).mp q) (by omega)), if_pos h5]
    · have h5 : ¬ V2 ah al < V2 bh bl := by unfold V2; omega
      have h6 : ¬ V2 ah al = V2 bh bl := by unfold V2; omega
      rw [if_pos ((key ah bh).mpr (by omega)), if_neg h5, if_neg h6]
/-! the reference's digits of 16 bits -/
def dg (X k : Nat) : Nat := X / 2 ^ (16 * k) % 2 ^ 16
theorem asr_low {x e : Int64} (s m : Nat) (hsm : s + m ≤ 64) (he : (x >>> e).toBitVec = x.toBitVec.sshiftRight s) {k : Int64} (hk : ∀ i, k.toBitVec.getLsbD i = decide (i < m)) (hm : m ≤ 32) : (x >>> e) &&& k = lN (N x / 2 ^ s % 2 ^ m) := by
  have hp : N x / 2 ^ s % 2 ^ m < 2 ^ m := Nat.mod_lt _ (Nat.two_pow_pos m)
  have hp2 : 2 ^ m ≤ 2 ^ 32 := Nat.pow_le_pow_right (by decide) hm
  apply b64_ext
  intro i hi
  rw [Int64.toBitVec_and, BitVec.getLsbD_and, hk, he, BitVec.getLsbD_sshiftRight]
  show _ = (BitVec.ofNat 64 (N x / 2 ^ s % 2 ^ m)).getLsbD i
  rw [BitVec.getLsbD_ofNat, Nat.testBit_mod_two_pow, Nat.testBit_div_two_pow]
  by_cases h : i < m
  · have a1 : s + i < 64 := by omega
    have a2 : ¬ 64 ≤ i := by omega
    simp [h, hi, a1, a2]
    rw [Nat.add_comm i s]
    rfl
  · simp [h]
