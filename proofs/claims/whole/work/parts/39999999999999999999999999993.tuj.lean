/-! KEYS AS NUMBERS -/
/-- words from p on as one number -/
def wdN (w : Nat → Int64) : Nat → Nat → Nat
  | 0, _ => 0
  | m + 1, p => N (w p) * 2 ^ (64 * m) + wdN w m (p + 1)
theorem wdN_s (w : Nat → Int64) (m p : Nat) : wdN w (m + 1) p = N (w p) * 2 ^ (64 * m) + wdN w m (p + 1) := rfl
theorem wdN_b (w : Nat → Int64) : ∀ m p, wdN w m p < 2 ^ (64 * m)
  | 0, _ => by show (0 : Nat) < 2 ^ 0; decide
  | m + 1, p => by
    have h1 := wdN_b w m (p + 1)
    have h2 := N_lt (w p)
    rw [wdN_s, show 64 * (m + 1) = 64 + 64 * m by omega, Nat.pow_add]
    have h3 : (N (w p) + 1) * 2 ^ (64 * m) ≤ 2 ^ 64 * 2 ^ (64 * m) := Nat.mul_le_mul_right _ (by omega)
    rw [Nat.add_mul, Nat.one_mul] at h3
    omega
theorem wdN_l1 {w v : Nat → Int64} {m p : Nat} (h : N (w p) < N (v p)) : wdN w (m + 1) p < wdN v (m + 1) p := by
  have h1 := wdN_b w m (p + 1)
  have h3 : (N (w p) + 1) * 2 ^ (64 * m) ≤ N (v p) * 2 ^ (64 * m) := Nat.mul_le_mul_right _ (by omega)
  rw [Nat.add_mul, Nat.one_mul] at h3
  rw [wdN_s, wdN_s]
  omega
theorem wdN_l2 {w v : Nat → Int64} {m p : Nat} (h : w p = v p) : wdN w (m + 1) p < wdN v (m + 1) p ↔ wdN w m (p + 1) < wdN v m (p + 1) := by
  rw [wdN_s, wdN_s, h]
  omega
theorem wdN_c {w v : Nat → Int64} : ∀ m p, (∀ i, i < m → w (p + i) = v (p + i)) → wdN w m p = wdN v m p
  | 0, _, _ => rfl
  | m + 1, p, h => by
    rw [wdN_s, wdN_s, show w p = v p from h 0 (by omega), wdN_c (w := w) (v := v) m (p + 1) (fun i hi => by rw [show p + 1 + i = p + (i + 1) by omega]; exact h (i + 1) (by omega))]
theorem wdN_e {w v : Nat → Int64} : ∀ m p, wdN w m p = wdN v m p → ∀ i, i < m → w (p + i) = v (p + i)
  | 0, _, _, i, hi => absurd hi (by omega)
  | m + 1, p, h, i, hi => by
    have e : N (w p) = N (v p) := by
      rcases Nat.lt_trichotomy (N (w p)) (N (v p)) with c | c | c
      · have := wdN_l1 (m := m) c; omega
      · exact c
      · have := wdN_l1 (m := m) c; omega
    have e' : w p = v p := N_inj e
    cases i with
    | zero => exact e'
    | succ i =>
      rw [wdN_s, wdN_s, e'] at h
      have := wdN_e (w := w) (v := v) m (p + 1) (by omega) i (by omega)
      rw [show p + (i + 1) = p + 1 + i by omega]
      exact this
theorem wdN_a (w : Nat → Int64) (b : Nat) : ∀ a p, wdN w (a + b) p = wdN w a p * 2 ^ (64 * b) + wdN w b (p + a)
  | 0, p => by rw [Nat.zero_add, Nat.add_zero]; show _ = 0 * _ + _; rw [Nat.zero_mul, Nat.zero_add]
  | a + 1, p => by
    rw [show a + 1 + b = (a + b) + 1 by omega, wdN_s, wdN_s, wdN_a w b a (p + 1), show p + 1 + a = p + (a + 1) by omega, Nat.add_mul, Nat.mul_assoc, ← Nat.pow_add, show 64 * a + 64 * b = 64 * (a + b) by omega, Nat.add_assoc]
/-- the first L bits of a key -/
def cut (k L : Nat) : Nat := k / 2 ^ (256 - L)
theorem cut_s {k L : Nat} (h : L < 256) : cut k (L + 1) / 2 = cut k L := by
  unfold cut
  rw [Nat.div_div_eq_div_mul, show 2 ^ (256 - (L + 1)) * 2 = 2 ^ (256 - L) from by rw [show 256 - L = (256 - (L + 1)) + 1 by omega, Nat.pow_succ]]
theorem cut_0 {k : Nat} (h : k < 2 ^ 256) : cut k 0 = 0 := Nat.div_eq_of_lt h
theorem cut_256 {k : Nat} : cut k 256 = k := Nat.div_one k
theorem cut_m {k k' L : Nat} (h : k ≤ k') : cut k L ≤ cut k' L := Nat.div_le_div_right h
theorem cut_d {k L : Nat} : ∀ j, j + L ≤ 256 → cut k (L + j) / 2 ^ j = cut k L
  | 0, _ => by rw [Nat.add_zero, Nat.pow_zero, Nat.div_one]
  | j + 1, h => by
    rw [Nat.pow_succ, Nat.mul_comm, ← Nat.div_div_eq_div_mul, show L + (j + 1) = (L + j) + 1 by omega, cut_s (by omega), cut_d j (by omega)]
theorem cut_lo {k k' L M : Nat} (h : cut k L = cut k' L) (hM : M ≤ L) (hL : L ≤ 256) : cut k M = cut k' M := by
  have a := cut_d (k := k) (L := M) (L - M) (by omega)
  have b := cut_d (k := k') (L := M) (L - M) (by omega)
  rw [show M + (L - M) = L by omega] at a b
  rw [← a, ← b, h]
/-- bit number L of a key -/
def kbt (k L : Nat) : Nat := cut k (L + 1) % 2
theorem kbt_c {k L : Nat} (h : L < 256) : cut k (L + 1) = 2 * cut k L + kbt k L := by
  have := cut_s (k := k) h
  unfold kbt
  omega
theorem kbt_2 {k L : Nat} : kbt k L = 0 ∨ kbt k L = 1 := by
  unfold kbt
  omega
theorem cut_w {w : Nat → Int64} {q t : Nat} (hq : q < 4) (ht : t ≤ 64) : cut (wdN w 4 0) (64 * q + t) = wdN w q 0 * 2 ^ t + N (w q) / 2 ^ (64 - t) := by
  have e1 : wdN w 4 0 = (wdN w q 0 * 2 ^ 64 + N (w q)) * 2 ^ (64 * (3 - q)) + wdN w (3 - q) (q + 1) := by
    have a := wdN_a w (4 - q) q 0
    rw [show q + (4 - q) = 4 by omega, Nat.zero_add] at a
    rw [a]
    have b := wdN_s w (3 - q) q
    rw [show 3 - q + 1 = 4 - q by omega] at b
    rw [b, Nat.add_mul, Nat.mul_assoc, ← Nat.pow_add, show 64 + 64 * (3 - q) = 64 * (4 - q) by omega, Nat.add_assoc]
  have h1 := wdN_b w (3 - q) (q + 1)
  unfold cut
  rw [show 256 - (64 * q + t) = 64 * (3 - q) + (64 - t) by omega, Nat.pow_add, ← Nat.div_div_eq_div_mul, e1, Nat.add_comm, Nat.add_mul_div_right _ _ (Nat.two_pow_pos _), Nat.div_eq_of_lt h1, Nat.zero_add]
  rw [show (2 : Nat) ^ 64 = 2 ^ t * 2 ^ (64 - t) by rw [← Nat.pow_add, show t + (64 - t) = 64 by omega], ← Nat.mul_assoc, Nat.add_comm, Nat.add_mul_div_right _ _ (Nat.two_pow_pos _), Nat.add_comm]
/-- the bit is a bit of a word -/
theorem kbt_w {w : Nat → Int64} {b : Nat} (hb : b < 256) : kbt (wdN w 4 0) b = N (w (b / 64)) / 2 ^ (63 - b % 64) % 2 := by
  unfold kbt
  have e := cut_w (w := w) (q := b / 64) (t := b % 64 + 1) (by omega) (by omega)
  rw [show 64 * (b / 64) + (b % 64 + 1) = b + 1 by omega, show 64 - (b % 64 + 1) = 63 - b % 64 by omega] at e
  rw [e, Nat.pow_succ, Nat.mul_comm (2 ^ (b % 64)) 2, ← Nat.mul_assoc, Nat.mul_comm _ 2, Nat.mul_assoc]
  omega
/-- words that are equal up to q: cuts within word q -/
theorem cut_q {w v : Nat → Int64} {q t : Nat} (hq : q < 4) (ht : t ≤ 64) (h : ∀ i, i < q → w i = v i) : cut (wdN w 4 0) (64 * q + t) = cut (wdN v 4 0) (64 * q + t) ↔ N (w q) / 2 ^ (64 - t) = N (v q) / 2 ^ (64 - t) := by
  rw [cut_w hq ht, cut_w hq ht, wdN_c (w := w) (v := v) q 0 (fun i hi => by rw [Nat.zero_add]; exact h i hi)]
  omega
/-- the first bits of two words -/
theorem xor_s {x y : Int64} {s : Nat} : (x.toBitVec ^^^ y.toBitVec) >>> s = 0#64 ↔ N x / 2 ^ s = N y / 2 ^ s := by
  rw [BitVec.ushiftRight_xor_distrib, BitVec.xor_eq_zero_iff]
  constructor
  · intro h
    have := congrArg BitVec.toNat h
    rw [BitVec.toNat_ushiftRight, BitVec.toNat_ushiftRight, Nat.shiftRight_eq_div_pow, Nat.shiftRight_eq_div_pow] at this
    exact this
  · intro h
    apply BitVec.eq_of_toNat_eq
    rw [BitVec.toNat_ushiftRight, BitVec.toNat_ushiftRight, Nat.shiftRight_eq_div_pow, Nat.shiftRight_eq_div_pow]
    exact h
theorem xor_0 {x y : Int64} : x ^^^ y = 0 ↔ x = y := by
  constructor
  · intro h
    have := congrArg Int64.toBitVec h
    rw [Int64.toBitVec_xor] at this
    exact Int64.toBitVec_inj.mp (BitVec.xor_eq_zero_iff.mp this)
  · intro h
    rw [h]
    apply Int64.toBitVec_inj.mp
    rw [Int64.toBitVec_xor]
    exact BitVec.xor_self
theorem xor_u {x y : Int64} {k : Nat} (hk : k < 64) : ((x ^^^ y).toUInt64 >>> ((nI k).toInt64.toUInt64 &&& Int64.toUInt64 63)).toInt64 = 0 ↔ N x / 2 ^ k = N y / 2 ^ k := by
  rw [← xor_s]
  have e := N_ushK (x := x ^^^ y) hk
  constructor
  · intro h
    rw [h, N_0] at e
    apply BitVec.eq_of_toNat_eq
    rw [BitVec.toNat_ushiftRight, Nat.shiftRight_eq_div_pow]
    have : (x ^^^ y).toBitVec = x.toBitVec ^^^ y.toBitVec := Int64.toBitVec_xor ..
    rw [← this]
    exact e.symm
  · intro h
    apply N_inj
    rw [e, N_0]
    have := congrArg BitVec.toNat h
    rw [BitVec.toNat_ushiftRight, Nat.shiftRight_eq_div_pow] at this
    have e2 : (x ^^^ y).toBitVec = x.toBitVec ^^^ y.toBitVec := Int64.toBitVec_xor ..
    rw [← e2] at this
    exact this
theorem bit_t (a j : Nat) : a.testBit j = decide (a / 2 ^ j % 2 = 1) := Nat.testBit_eq_decide_div_mod_eq
/-- is the bit t of two words the same -/
theorem xor_b {x y : Int64} {t : Nat} (ht : t < 64) : (0 : Int64) ≤ (x ^^^ y) <<< ((nI t).toInt64 &&& 63) ↔ N x / 2 ^ (63 - t) % 2 = N y / 2 ^ (63 - t) % 2 := by
  have e := N_shlK (x := x ^^^ y) ht
  have l0 : ∀ v : Int64, (0 : Int64) ≤ v ↔ N v < 2 ^ 63 := fun v => by
    rw [Int64.le_iff_toInt_le]
    have e0 : (0 : Int64).toInt = 0 := rfl
    have e1 : v.toInt = v.toBitVec.toInt := rfl
    have e2 := BitVec.toInt_eq_toNat_cond v.toBitVec
    have e3 := N_lt v
    unfold N at e3 ⊢
    split at e2 <;> omega
  rw [l0, e]
  have b1 : N (x ^^^ y) / 2 ^ (63 - t) % 2 = (N x / 2 ^ (63 - t) + N y / 2 ^ (63 - t)) % 2 := by
    have h : (N (x ^^^ y)).testBit (63 - t) = ((N x).testBit (63 - t) ^^ (N y).testBit (63 - t)) := by
      have : N (x ^^^ y) = N x ^^^ N y := by
        unfold N
        rw [Int64.toBitVec_xor, BitVec.toNat_xor]
      rw [this, Nat.testBit_xor]
    rw [bit_t, bit_t, bit_t] at h
    have c1 : N (x ^^^ y) / 2 ^ (63 - t) % 2 < 2 := Nat.mod_lt _ (by decide)
    by_cases p : N x / 2 ^ (63 - t) % 2 = 1
    · by_cases q : N y / 2 ^ (63 - t) % 2 = 1
      · have : ¬ N (x ^^^ y) / 2 ^ (63 - t) % 2 = 1 := by
          intro w; rw [decide_eq_true w, decide_eq_true p, decide_eq_true q] at h; exact absurd h (by decide)
        omega
      · have : N (x ^^^ y) / 2 ^ (63 - t) % 2 = 1 := by
          rw [decide_eq_true p, decide_eq_false q] at h
          exact of_decide_eq_true h
        omega
    · by_cases q : N y / 2 ^ (63 - t) % 2 = 1
      · have : N (x ^^^ y) / 2 ^ (63 - t) % 2 = 1 := by
          rw [decide_eq_false p, decide_eq_true q] at h
          exact of_decide_eq_true h
        omega
      · have : ¬ N (x ^^^ y) / 2 ^ (63 - t) % 2 = 1 := by
          intro w; rw [decide_eq_true w, decide_eq_false p, decide_eq_false q] at h; exact absurd h (by decide)
        omega
  have b2 : N (x ^^^ y) * 2 ^ t % 2 ^ 64 < 2 ^ 63 ↔ N (x ^^^ y) / 2 ^ (63 - t) % 2 = 0 := by
    generalize N (x ^^^ y) = a
    have p1 : (2 : Nat) ^ 64 = 2 ^ t * 2 ^ (64 - t) := by rw [← Nat.pow_add, show t + (64 - t) = 64 by omega]
    have p2 : (2 : Nat) ^ 63 = 2 ^ t * 2 ^ (63 - t) := by rw [← Nat.pow_add, show t + (63 - t) = 63 by omega]
    have p3 : (2 : Nat) ^ (64 - t) = 2 ^ (63 - t) * 2 := by rw [show 64 - t = (63 - t) + 1 by omega, Nat.pow_succ]
    rw [p1, p2, Nat.mul_comm a, Nat.mul_mod_mul_left, Nat.mul_lt_mul_left (Nat.two_pow_pos t), p3, Nat.mod_mul]
    have m1 : a % 2 ^ (63 - t) < 2 ^ (63 - t) := Nat.mod_lt _ (Nat.two_pow_pos _)
    have m2 : a / 2 ^ (63 - t) % 2 = 0 ∨ a / 2 ^ (63 - t) % 2 = 1 := by omega
    rcases m2 with c | c
    · rw [c, Nat.mul_zero, Nat.add_zero]; exact ⟨fun _ => rfl, fun _ => m1⟩
    · rw [c, Nat.mul_one]; exact ⟨fun h => by omega, fun h => by omega⟩
  rw [b2, b1]
  omega
