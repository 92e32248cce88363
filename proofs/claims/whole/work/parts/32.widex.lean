/-! the reference's products -/
theorem lN_and16 {v : Nat} (h : v < 2 ^ 63) : (lN v &&& 65535).toInt32 = nI (v % 65536) := by
  have e : lN v &&& 65535 = lN (v % 65536) := by
    apply b64_nat
    rw [lN_nat (by omega), Int64.toBitVec_and, BitVec.toNat_and, lN_nat h]
    show v &&& (2 ^ 16 - 1) = _
    rw [Nat.and_two_pow_sub_one_eq_mod]
  rw [e, lN_i]
theorem lN_shr16 {v : Nat} (h : v < 2 ^ 63) : lN v >>> ((16 : Int32).toInt64 &&& 63) = lN (v / 65536) := by
  apply b64_nat
  have hm : (lN v).toBitVec.msb = false := by
    rw [BitVec.msb_eq_decide, lN_nat h]
    simp
    omega
  have e : (lN v >>> ((16 : Int32).toInt64 &&& 63)).toBitVec = (lN v).toBitVec.sshiftRight 16 := by rw [Int64.toBitVec_shiftRight]; rfl
  rw [e, BitVec.sshiftRight_eq_of_msb_false hm, BitVec.toNat_ushiftRight, Nat.shiftRight_eq_div_pow, lN_nat h, lN_nat (by omega)]
/-- what digits are worth -/
def rv (r : Nat → Nat) : Nat → Nat
  | 0 => 0
  | k + 1 => rv r k + r k * 2 ^ (16 * k)
theorem rv_lo {r s : Nat → Nat} : ∀ n, (∀ k, k < n → r k = s k) → rv r n = rv s n := by
  intro n
  induction n with
  | zero => intro _; rfl
  | succ n ih => intro h; rw [rv, rv, ih (fun k hk => h k (by omega)), h n (by omega)]
theorem rv_up {r : Nat → Nat} {p v : Nat} : ∀ n, p < n → rv (fun k => if k = p then v else r k) n + r p * 2 ^ (16 * p) = rv r n + v * 2 ^ (16 * p) := by
  intro n
  induction n with
  | zero => intro h; omega
  | succ n ih =>
    intro h
    rw [rv, rv]
    by_cases c : n = p
    · subst c
      rw [if_pos rfl, rv_lo (s := r) n (fun k hk => if_neg (by omega))]
      omega
    · rw [if_neg c]
      have := ih (by omega)
      omega
theorem rv_lt {r : Nat → Nat} : ∀ n, (∀ k, k < n → r k < 65536) → rv r n < 2 ^ (16 * n) := by
  intro n
  induction n with
  | zero => intro _; exact Nat.one_pos
  | succ n ih =>
    intro h
    have h1 := ih (fun k hk => h k (by omega))
    have h2 := h n (by omega)
    have e : 2 ^ (16 * (n + 1)) = 2 ^ (16 * n) * 65536 := by rw [show 16 * (n + 1) = 16 * n + 16 by omega, Nat.pow_add]
    have h3 : r n * 2 ^ (16 * n) ≤ 65535 * 2 ^ (16 * n) := Nat.mul_le_mul_right _ (by omega)
    rw [rv, e]
    omega
theorem rv_dg {r : Nat → Nat} {k : Nat} : ∀ n, (∀ k, k < n → r k < 65536) → k < n → dg (rv r n) k = r k := by
  intro n
  induction n with
  | zero => intro _ h; omega
  | succ n ih =>
    intro h hk
    have h1 := rv_lt n (fun k hk => h k (by omega))
    rw [rv]
    by_cases c : k = n
    · subst c
      unfold dg
      rw [Nat.add_mul_div_right _ _ (Nat.two_pow_pos _), Nat.div_eq_of_lt h1, Nat.zero_add, Nat.mod_eq_of_lt (h k (by omega))]
    · have e := ih (fun k hk => h k (by omega)) (by omega)
      rw [← e]
      unfold dg
      have p : 2 ^ (16 * n) = 2 ^ (16 * k) * (2 ^ 16 * 2 ^ (16 * (n - k - 1))) := by
        rw [← Nat.pow_add, ← Nat.pow_add]
        congr 1
        omega
      rw [p, show rv r n + r n * (2 ^ (16 * k) * (2 ^ 16 * 2 ^ (16 * (n - k - 1)))) = rv r n + 2 ^ (16 * k) * (2 ^ 16 * (r n * 2 ^ (16 * (n - k - 1)))) by rw [Nat.mul_left_comm (r n), Nat.mul_left_comm (r n)], Nat.add_mul_div_left _ _ (Nat.two_pow_pos _), Nat.add_mul_mod_self_left]
theorem dg_sum {X : Nat} : ∀ n, rv (fun k => dg X k) n = X % 2 ^ (16 * n) := by
  intro n
  induction n with
  | zero => rw [rv, Nat.mul_zero, Nat.pow_zero, Nat.mod_one]
  | succ n ih =>
    have e : 2 ^ (16 * (n + 1)) = 2 ^ (16 * n) * 2 ^ 16 := by rw [← Nat.pow_add]; congr 1
    rw [rv, ih, e, mod_split]
    unfold dg
    omega
