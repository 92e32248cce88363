/-! THE CLASS'S MACHINE: a digest as a row of bytes (59) -/
theorem hb_sh : ∀ k, k < 32 → (56 : Int32) - (nI k - nI k / 8 * 8) * 8 = nI (56 - 8 * (k % 8)) ∧ nI k / 8 = nI (k / 8) ∧ (24 : Int32) - 8 * (nI k - nI k / 4 * 4) = nI (24 - 8 * (k % 4)) ∧ (nI k / 4).toNatClampNeg = k / 4 := by decide
theorem asrK {x : Int64} {c : Nat} (hc : c < 4) : (x >>> ((nI (24 - 8 * c)).toInt64 &&& 63)).toBitVec = x.toBitVec.sshiftRight (24 - 8 * c) := by
  have : c = 0 ∨ c = 1 ∨ c = 2 ∨ c = 3 := by omega
  rcases this with e | e | e | e <;> subst e <;> rw [Int64.toBitVec_shiftRight] <;> rfl
theorem m255 : ∀ i, (255 : Int64).toBitVec.getLsbD i = decide (i < 8) := fun i => by
  show (BitVec.ofNat 64 255).getLsbD i = _
  rw [BitVec.getLsbD_ofNat, show (255 : Nat) = 2 ^ 8 - 1 from rfl, Nat.testBit_two_pow_sub_one]
  by_cases c : i < 8
  · simp [c]; omega
  · simp [c]
theorem dgB_v {w : Nat → Int64} {k : Nat} (hk : k < 32) : (dgB w k).toInt64 = lN (N (w (k / 4)) / 2 ^ (24 - 8 * (k % 4)) % 2 ^ 8) := by
  obtain ⟨_, _, e3, e4⟩ := hb_sh k hk
  unfold dgB
  rw [e3, e4, asr_low (24 - 8 * (k % 4)) 8 (by omega) (asrK (Nat.mod_lt _ (by decide))) m255 (by decide), lN_i]
  have : N (w (k / 4)) / 2 ^ (24 - 8 * (k % 4)) % 2 ^ 8 < 2 ^ 8 := Nat.mod_lt _ (by decide)
  exact nI_l (by omega)
theorem pt_N (x y : Int32) : N ((ux x <<< ((32 : Int32).toInt64 &&& 63)) ||| ux y) = N (ux x) * 2 ^ 32 + N (ux y) := by
  have hx : N (ux x) < 2 ^ 32 := by unfold N; rw [ux_toNat]; exact x.toBitVec.isLt
  have hy : N (ux y) < 2 ^ 32 := by unfold N; rw [ux_toNat]; exact y.toBitVec.isLt
  have hs := N_shl (x := ux x) (e := (32 : Int32).toInt64 &&& 63) 32 (by rw [Int64.toBitVec_shiftLeft]; rfl)
  rw [N_or, hs]
  generalize N (ux x) = A at *
  generalize N (ux y) = B at *
  rw [Nat.mod_eq_of_lt (by omega), show A * 2 ^ 32 = 2 ^ 32 * A from Nat.mul_comm _ _, ← Nat.two_pow_add_eq_or_of_lt hy]
theorem ptB {W : Nat → Int32} {k : Nat} (hk : k < 32) {x y : Int64} (hx : x = ux (W (2 * (k / 8)))) (hy : y = ux (W (2 * (k / 8) + 1))) : ((((x <<< ((32 : Int32).toInt64 &&& 63)) ||| y : Int64).toUInt64 >>> ((nI (56 - 8 * (k % 8))).toInt64.toUInt64 &&& Int64.toUInt64 63)).toInt64 : Int64) &&& 255 = lN (N (ux (W (k / 4))) / 2 ^ (24 - 8 * (k % 4)) % 2 ^ 8) := by
  subst hx; subst hy
  apply N_inj
  have hp : N (ux (W (k / 4))) / 2 ^ (24 - 8 * (k % 4)) % 2 ^ 8 < 2 ^ 8 := Nat.mod_lt _ (by decide)
  rw [N_255, N_ushK (by omega), pt_N, N_lN (by omega)]
  have hA : N (ux (W (2 * (k / 8)))) < 2 ^ 32 := by unfold N; rw [ux_toNat]; exact (W (2 * (k / 8))).toBitVec.isLt
  have hB : N (ux (W (2 * (k / 8) + 1))) < 2 ^ 32 := by unfold N; rw [ux_toNat]; exact (W (2 * (k / 8) + 1)).toBitVec.isLt
  have hr : k % 8 = 0 ∨ k % 8 = 1 ∨ k % 8 = 2 ∨ k % 8 = 3 ∨ k % 8 = 4 ∨ k % 8 = 5 ∨ k % 8 = 6 ∨ k % 8 = 7 := by omega
  have lo : k % 8 < 4 → k / 4 = 2 * (k / 8) ∧ k % 4 = k % 8 := by omega
  have hi : ¬ k % 8 < 4 → k / 4 = 2 * (k / 8) + 1 ∧ k % 4 = k % 8 - 4 := by omega
  by_cases c : k % 8 < 4
  · obtain ⟨e1, e2⟩ := lo c
    rw [e1, e2]
    generalize N (ux (W (2 * (k / 8)))) = A at *
    generalize N (ux (W (2 * (k / 8) + 1))) = B at *
    have : k % 8 = 0 ∨ k % 8 = 1 ∨ k % 8 = 2 ∨ k % 8 = 3 := by omega
    rcases this with e | e | e | e <;> rw [e] <;> simp only [Nat.reduceMul, Nat.reduceSub, Nat.reducePow] <;> omega
  · obtain ⟨e1, e2⟩ := hi c
    rw [e1, e2]
    generalize N (ux (W (2 * (k / 8)))) = A at *
    generalize N (ux (W (2 * (k / 8) + 1))) = B at *
    have : k % 8 = 4 ∨ k % 8 = 5 ∨ k % 8 = 6 ∨ k % 8 = 7 := by omega
    rcases this with e | e | e | e <;> rw [e] <;> simp only [Nat.reduceMul, Nat.reduceSub, Nat.reducePow] <;> omega
/-- a byte of the digest on both sides -/
theorem dg_byte {W : Nat → Int32} {w : Nat → Int64} {k : Nat} (hk : k < 32) (hw : ∀ j, j < 8 → w j = ux (W j)) {x y : Int64} (hx : x = ux (W (2 * (k / 8)))) (hy : y = ux (W (2 * (k / 8) + 1))) : ((((x <<< ((32 : Int32).toInt64 &&& 63)) ||| y : Int64).toUInt64 >>> (((56 - ((nI k - nI k / 8 * 8) * 8)) : Int32).toInt64.toUInt64 &&& Int64.toUInt64 63)).toInt64 : Int64) &&& 255 = (dgB w k).toInt64 := by
  rw [(hb_sh k hk).1, ptB hk hx hy, dgB_v hk, hw _ (by omega)]
def dgC (H : Hp) (m : Nat) (w : Nat → Int64) (p : Nat) : Hp := fun i => if i = m then (7, 0, 0, ((List.range p).map (fun k => m + 1 + k)).reverse) else if m < i ∧ i ≤ m + p then (2, 0, (dgB w (i - m - 1)).toInt64, []) else H i
theorem dgC_m {H : Hp} {m : Nat} {w : Nat → Int64} {p : Nat} : dgC H m w p m = (7, 0, 0, ((List.range p).map (fun k => m + 1 + k)).reverse) := if_pos rfl
theorem dgC_0 {H : Hp} {m : Nat} {w : Nat → Int64} : dgC H m w 0 = upH H m (7, 0, 0, []) := by
  funext i
  unfold dgC upH
  by_cases c : i = m
  · simp [c]
  · rw [if_neg c, if_neg c, if_neg (by omega)]
theorem dgC_s {H : Hp} {m : Nat} {w : Nat → Int64} {p : Nat} : upH (upH (dgC H m w p) (m + 1 + p) (2, 0, (dgB w p).toInt64, [])) m (setC ((upH (dgC H m w p) (m + 1 + p) (2, 0, (dgB w p).toInt64, [])) m) ((m + 1 + p) :: ((upH (dgC H m w p) (m + 1 + p) (2, 0, (dgB w p).toInt64, [])) m).2.2.2)) = dgC H m w (p + 1) := by
  have e0 : (upH (dgC H m w p) (m + 1 + p) (2, 0, (dgB w p).toInt64, [])) m = (7, 0, 0, ((List.range p).map (fun k => m + 1 + k)).reverse) := by
    rw [upH_n (by omega)]; exact dgC_m
  rw [e0]
  funext i
  by_cases c : i = m
  · subst c
    rw [upH_s, dgC_m]
    simp [setC, List.range_succ]
  · rw [upH_n c]
    by_cases d : i = m + 1 + p
    · subst d
      rw [upH_s]
      unfold dgC
      rw [if_neg (by omega), if_pos ⟨by omega, by omega⟩, show m + 1 + p - m - 1 = p by omega]
    · rw [upH_n d]
      unfold dgC
      rw [if_neg c, if_neg c]
      by_cases e : m < i ∧ i ≤ m + p
      · rw [if_pos e, if_pos ⟨e.1, by omega⟩]
      · rw [if_neg e, if_neg (by omega)]
