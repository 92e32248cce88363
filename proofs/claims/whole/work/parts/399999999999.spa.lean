/-! THE CLASS'S LOOKER: single bits -/
theorem N_bitO {b : Nat} (hb : b < 64) : N (bitO b) = 2 ^ b := by
  rw [← bit_l hb, N_shlK hb, N_1, Nat.one_mul, Nat.mod_eq_of_lt (Nat.pow_lt_pow_right (by omega) hb)]
theorem mtB_bit {o : Int64} {b : Nat} (hb : b < 64) : mtB o (bitO b) = ob o b := by
  have e : ob o b = Nat.testBit (N o) b := rfl
  have k : (o &&& bitO b = 0) ↔ ob o b = false := by
    rw [N_eq0, N_and, N_bitO hb, e]
    constructor
    · intro q
      have t := congrArg (fun y => Nat.testBit y b) q
      simpa [Nat.testBit_and, Nat.testBit_two_pow_self] using t
    · intro q
      apply Nat.eq_of_testBit_eq
      intro i
      rw [Nat.testBit_and, Nat.testBit_two_pow, Nat.zero_testBit]
      by_cases c : b = i
      · subst c; rw [q]; rfl
      · rw [decide_eq_false c, Bool.and_false]
  cases m : mtB o (bitO b) with
  | false => exact (k.mp (mtB_0.mpr m)).symm
  | true =>
    cases q : ob o b with
    | true => rfl
    | false => have := mtB_0.mp (k.mpr q); rw [m] at this; exact absurd this (by simp)
theorem lvB_pt (ls : List Ty) (L : Lks) {b : Nat} (hb : b < 64) (wr : Bool) : lvB ls L (bitO b) wr = lPt ls L b wr := by
  unfold lvB lPt
  simp only [mtB_bit hb]
section
variable {F n : Nat} {sh : Nat → Nat × Nat} {z z' : St} {kp f ns : Nat} {ls : List Ty} {L : Lks}
theorem CK.there (h : CK sh n z kp f ls ns L) {k : Nat} (hk : k < ls.length) : fn_X3_isThere F sh n z 62 (nI k) = some (z, bI (L.2.1 k)) := by
  have o3 := h.cb.o3
  obtain ⟨a1, a2, a3, a4, ⟨b1, b2, b3⟩, ⟨c0, c1⟩, c2, c3⟩ := h
  have e : ob (z.2.1 62 12) k = L.2.1 k := by rw [(c2 k).1, decide_eq_true hk, Bool.true_and]
  unfold fn_X3_isThere
  rw [o3, grd_true]
  cases c : L.2.1 k with
  | false => rw [c] at e; rw [if_pos ((ob_ush (by omega)).mpr e)]; rfl
  | true => rw [c] at e; rw [if_neg (fun q => by have := (ob_ush (by omega)).mp q; rw [e] at this; exact absurd this (by simp))]; rfl
end
