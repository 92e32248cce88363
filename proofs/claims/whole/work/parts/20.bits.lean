/-! PURE ROWS: stepping through the functions -/
theorem grd_t {β : Type} {b : Bool} {x : Option β} (h : b = true) : grd b x = x := by rw [h]; rfl
theorem lnk_t {β : Type} {q : Option Nat} {k : Nat} {f : Nat → Option β} (h : q = some k) : lnk q f = f k := by rw [h]; rfl
theorem cal_t {α β : Type} {o : Option (St × α)} {z : St} {r : α} {f : St → α → Option β} (h : o = some (z, r)) : cal o f = f z r := by rw [h]; rfl
theorem lt_t {α β : Type} {v : α} {f : α → Option β} : lt_ v f = f v := rfl
theorem okO_of {sh : Nat → Nat × Nat} {n k c : Nat} (hk : k < n) (hs : (sh k).1 = c) : okO sh n k c = true := by
  simp only [okO, Bool.and_eq_true, decide_eq_true_eq, beq_iff_eq]
  exact ⟨hk, hs⟩
theorem okA_of {sh : Nat → Nat × Nat} {n k c w : Nat} {i : Int32} (hk : k < n) (hs : sh k = (c, w)) (h0 : 0 ≤ i.toInt) (h1 : i.toInt < w) : okA sh n k c i = true := by
  simp only [okA, Bool.and_eq_true, decide_eq_true_eq]
  refine ⟨okO_of hk (by rw [hs]), h0, ?_⟩
  rw [hs]
  exact h1
theorem okA_nI {sh : Nat → Nat × Nat} {n k c w j : Nat} (hk : k < n) (hs : sh k = (c, w)) (hj : j < w) (hw : w < 2 ^ 31) : okA sh n k c (nI j) = true := by
  have e := nI_toInt (n := j) (by omega)
  exact okA_of hk hs (by omega) (by omega)
theorem si_1 (z : St) (k j : Nat) (v : Int32) (k' j' : Nat) : (si z k j v).1 k' j' = if k' = k then (if j' = j then v else z.1 k j') else z.1 k' j' := rfl
theorem si_2 (z : St) (k j : Nat) (v : Int32) : (si z k j v).2.1 = z.2.1 := rfl
theorem si_3 (z : St) (k j : Nat) (v : Int32) : (si z k j v).2.2 = z.2.2 := rfl
theorem sl_1 (z : St) (k j : Nat) (v : Int64) : (sl z k j v).1 = z.1 := rfl
theorem sl_2 (z : St) (k j : Nat) (v : Int64) (k' j' : Nat) : (sl z k j v).2.1 k' j' = if k' = k then (if j' = j then v else z.2.1 k j') else z.2.1 k' j' := rfl
theorem sl_3 (z : St) (k j : Nat) (v : Int64) : (sl z k j v).2.2 = z.2.2 := rfl
/-! an int as a long of 32 bits -/
def ux (x : Int32) : Int64 := Int64.ofBitVec (x.toBitVec.setWidth 64)
theorem ux_bv (x : Int32) : (ux x).toBitVec = x.toBitVec.setWidth 64 := rfl
theorem b64_ext {x y : Int64} (h : ∀ i : Nat, i < 64 → x.toBitVec.getLsbD i = y.toBitVec.getLsbD i) : x = y := by
  apply Int64.toBitVec_inj.mp
  apply BitVec.eq_of_getLsbD_eq
  exact h
theorem b32_ext {x y : Int32} (h : ∀ i : Nat, i < 32 → x.toBitVec.getLsbD i = y.toBitVec.getLsbD i) : x = y := by
  apply Int32.toBitVec_inj.mp
  apply BitVec.eq_of_getLsbD_eq
  exact h
theorem mask32 (i : Nat) : (4294967295 : Int64).toBitVec.getLsbD i = decide (i < 32) := by
  show (BitVec.ofNat 64 4294967295).getLsbD i = _
  rw [BitVec.getLsbD_ofNat, show (4294967295 : Nat) = 2 ^ 32 - 1 from rfl, Nat.testBit_two_pow_sub_one]
  by_cases h : i < 32
  · simp [h]; omega
  · simp [h]
theorem ux_and (x y : Int32) : ux x &&& ux y = ux (x &&& y) := by
  apply b64_ext
  intro i hi
  simp only [Int64.toBitVec_and, ux_bv, BitVec.getLsbD_and, BitVec.getLsbD_setWidth, Int32.toBitVec_and]
  simp [hi]
theorem ux_xor (x y : Int32) : ux x ^^^ ux y = ux (x ^^^ y) := by
  apply b64_ext
  intro i hi
  simp only [Int64.toBitVec_xor, ux_bv, BitVec.getLsbD_xor, BitVec.getLsbD_setWidth, Int32.toBitVec_xor]
  simp [hi]
theorem ux_toNat (x : Int32) : (ux x).toBitVec.toNat = x.toBitVec.toNat := by
  rw [ux_bv, BitVec.toNat_setWidth]
  exact Nat.mod_eq_of_lt (by have := x.toBitVec.isLt; omega)
theorem b64_nat {x y : Int64} (h : x.toBitVec.toNat = y.toBitVec.toNat) : x = y := Int64.toBitVec_inj.mp (BitVec.eq_of_toNat_eq h)
theorem b32_nat {x y : Int32} (h : x.toBitVec.toNat = y.toBitVec.toNat) : x = y := Int32.toBitVec_inj.mp (BitVec.eq_of_toNat_eq h)
theorem and_mask (x : Int64) : (x &&& 4294967295).toBitVec.toNat = x.toBitVec.toNat % 2 ^ 32 := by
  rw [Int64.toBitVec_and, BitVec.toNat_and]
  show x.toBitVec.toNat &&& (BitVec.ofNat 64 4294967295).toNat = _
  rw [show (BitVec.ofNat 64 4294967295).toNat = 2 ^ 32 - 1 from rfl, Nat.and_two_pow_sub_one_eq_mod]
theorem i32_bv (x : Int64) : x.toInt32.toBitVec = x.toBitVec.setWidth 32 := by
  rw [Int64.toBitVec_toInt32]
  first
    | exact BitVec.signExtend_eq_setWidth_of_le _ (by decide)
    | exact BitVec.signExtend_eq_setWidth_of_lt _ (by decide)
    | (apply BitVec.eq_of_getLsbD_eq; intro i hi; rw [BitVec.getLsbD_signExtend, BitVec.getLsbD_setWidth]; simp [hi]; omega)
/-- sums of longs that are cut to 32 bits are sums of ints -/
theorem ux_cut (x : Int64) : x &&& 4294967295 = ux (x.toInt32) := by
  apply b64_nat
  rw [and_mask, ux_toNat]
  show _ = (x.toInt32.toBitVec).toNat
  rw [i32_bv, BitVec.toNat_setWidth]
theorem ux_32 (x : Int32) : (ux x).toInt32 = x := by
  apply b32_nat
  rw [i32_bv, BitVec.toNat_setWidth, ux_toNat]
  exact Nat.mod_eq_of_lt x.toBitVec.isLt
theorem ux_add (x y : Int64) : (x + y).toInt32 = x.toInt32 + y.toInt32 := by
  apply b32_nat
  rw [i32_bv, BitVec.toNat_setWidth, Int64.toBitVec_add, BitVec.toNat_add, Int32.toBitVec_add, BitVec.toNat_add, i32_bv, i32_bv, BitVec.toNat_setWidth, BitVec.toNat_setWidth]
  omega
theorem ux_not (x y : Int32) : (4294967295 - ux x) &&& ux y = ux (~~~x &&& y) := by
  have e : 4294967295 - ux x = ux (~~~x) := by
    apply b64_nat
    rw [Int64.toBitVec_sub, BitVec.toNat_sub, ux_toNat, ux_toNat, Int32.toBitVec_not, BitVec.toNat_not]
    have h := x.toBitVec.isLt
    show (2 ^ 64 - x.toBitVec.toNat + 4294967295) % 2 ^ 64 = 2 ^ 32 - 1 - x.toBitVec.toNat
    omega
  rw [e, ux_and]
/-- turning: a long of 32 bits, as the reference turns it; an int, as the class does -/
theorem ux_turn (x : Int32) (s : Nat) (hs : s < 32) (h0 : 0 < s) {a b : Int64} {c d : Int32} {e : UInt32} (ha : (ux x >>> a).toBitVec = (ux x).toBitVec.sshiftRight s) (hb : (ux x <<< b).toBitVec = (ux x).toBitVec <<< (32 - s)) (hc : ((x.toUInt32 >>> e).toInt32).toBitVec = x.toBitVec >>> s) (hd : (x <<< d).toBitVec = x.toBitVec <<< (32 - s)) : ((ux x >>> a) ||| (ux x <<< b)) &&& 4294967295 = ux ((x.toUInt32 >>> e).toInt32 ||| (x <<< d)) := by
  apply b64_ext
  intro i hi
  rw [Int64.toBitVec_and, BitVec.getLsbD_and, mask32, Int64.toBitVec_or, BitVec.getLsbD_or, ha, hb, ux_bv, ux_bv, BitVec.getLsbD_setWidth, Int32.toBitVec_or, BitVec.getLsbD_or, hc, hd]
  rw [BitVec.getLsbD_sshiftRight, BitVec.getLsbD_shiftLeft, BitVec.getLsbD_ushiftRight, BitVec.getLsbD_shiftLeft]
  have hm : (BitVec.setWidth 64 x.toBitVec).msb = false := by
    rw [BitVec.msb_setWidth]
    simp
  have hz : ∀ k, 32 ≤ k → x.toBitVec.getLsbD k = false := fun k hk => BitVec.getLsbD_of_ge _ _ hk
  have h64 : ∀ k, (BitVec.setWidth 64 x.toBitVec).getLsbD k = x.toBitVec.getLsbD k := by
    intro k
    rw [BitVec.getLsbD_setWidth]
    by_cases hk : k < 64
    · simp [hk]
    · simp [hk, hz k (by omega)]
  rw [h64, h64, hm]
  by_cases h32 : i < 32
  · by_cases h : i < 32 - s
    · by_cases g : s + i < 64
      · simp [h32, hi, h, g]
      · exact absurd (show s + i < 64 by omega) g
    · by_cases g : s + i < 64
      · have hi2 : ¬ 64 ≤ i := by omega
        simp [h32, hi, h, g, hi2]
      · exact absurd (show s + i < 64 by omega) g
  · simp [h32, hi, hz (s + i) (by omega)]
theorem ux_shr (x : Int32) (s : Nat) {a : Int64} {e : UInt32} (ha : (ux x >>> a).toBitVec = (ux x).toBitVec.sshiftRight s) (hc : ((x.toUInt32 >>> e).toInt32).toBitVec = x.toBitVec >>> s) : ux x >>> a = ux ((x.toUInt32 >>> e).toInt32) := by
  apply b64_ext
  intro i hi
  rw [ha, ux_bv, ux_bv, BitVec.getLsbD_setWidth, hc, BitVec.getLsbD_sshiftRight, BitVec.getLsbD_ushiftRight]
  have hm : (BitVec.setWidth 64 x.toBitVec).msb = false := by
    rw [BitVec.msb_setWidth]
    simp
  have hz : ∀ k, 32 ≤ k → x.toBitVec.getLsbD k = false := fun k hk => BitVec.getLsbD_of_ge _ _ hk
  have h64 : ∀ k, (BitVec.setWidth 64 x.toBitVec).getLsbD k = x.toBitVec.getLsbD k := by
    intro k
    rw [BitVec.getLsbD_setWidth]
    by_cases hk : k < 64
    · simp [hk]
    · simp [hk, hz k (by omega)]
  rw [h64, hm]
  by_cases h : s + i < 64
  · simp [h, hi]
  · simp [h, hi, hz (s + i) (by omega)]
theorem tst_a (y : Int64) : (y >>> ((7 : Int32).toInt64 &&& 63)).toBitVec = y.toBitVec.sshiftRight 7 := by
  rw [Int64.toBitVec_shiftRight]
  rfl
theorem tst_b (y : Int64) : (y <<< (((32 - 7) : Int32).toInt64 &&& 63)).toBitVec = y.toBitVec <<< 25 := by
  rw [Int64.toBitVec_shiftLeft]
  rfl
theorem tst_c (x : Int32) : ((x.toUInt32 >>> ((7 : Int32).toUInt32 &&& Int32.toUInt32 31)).toInt32).toBitVec = x.toBitVec >>> 7 := by
  rfl
theorem tst_d (x : Int32) : (x <<< ((25 : Int32) &&& 31)).toBitVec = x.toBitVec <<< 25 := by
  rw [Int32.toBitVec_shiftLeft]
  rfl
