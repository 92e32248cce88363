/-! MISFITS, THE REFERENCE: foreign functions -/
theorem lN_shr8 {v : Nat} (h : v < 2 ^ 63) : lN v >>> ((8 : Int32).toInt64 &&& 63) = lN (v / 256) := by
  apply Int64.toBitVec_inj.mp
  have e : (lN v >>> ((8 : Int32).toInt64 &&& 63)).toBitVec = (lN v).toBitVec.sshiftRight 8 := rfl
  have m : (lN v).toBitVec.msb = false := by
    rw [BitVec.msb_eq_decide]
    apply decide_eq_false
    show ¬ 2 ^ (64 - 1) ≤ v % 2 ^ 64
    rw [Nat.mod_eq_of_lt (by omega)]
    omega
  rw [e, BitVec.sshiftRight_eq_of_msb_false m]
  apply BitVec.eq_of_toNat_eq
  rw [BitVec.toNat_ushiftRight]
  show (v % 2 ^ 64) >>> 8 = (v / 256) % 2 ^ 64
  rw [Nat.mod_eq_of_lt (by omega), Nat.shiftRight_eq_div_pow, Nat.mod_eq_of_lt (by omega)]
theorem lN_a255 {v : Nat} (h : v < 2 ^ 63) : lN v &&& 255 = lN (v % 256) := by
  apply Int64.toBitVec_inj.mp
  rw [Int64.toBitVec_and]
  apply BitVec.eq_of_toNat_eq
  rw [BitVec.toNat_and]
  show v % 2 ^ 64 &&& 255 = v % 256 % 2 ^ 64
  rw [Nat.mod_eq_of_lt (show v < 2 ^ 64 by omega), show (255 : Nat) = 2 ^ 8 - 1 from rfl, Nat.and_two_pow_sub_one_eq_mod]
  omega
theorem lN_e {v w : Nat} (hv : v < 2 ^ 63) (hw : w < 2 ^ 63) : lN v = lN w ↔ v = w := by
  constructor
  · intro e
    have := congrArg (fun x => x.toBitVec.toNat) e
    have this' : v % 2 ^ 64 = w % 2 ^ 64 := this
    omega
  · intro e; rw [e]
section
variable {F n : Nat} {sh : Nat → Nat × Nat} {z z' : St} {ku len : Nat} {b : Nat → Nat} {M : MP} {ws : Nat → Md} {wc : Nat} {dp : Nat → Nat → Nat}
theorem endsR_t {t : Ty} (h : TB t) : fn_X18_endsInStructure F sh n z (tL t) = some (z, bI (decide (tV t / 256 % 256 = 6))) := by
  have l := h.lt.1
  unfold fn_X18_endsInStructure tL
  have le : (lN (tV t) ≤ 255) ↔ tV t ≤ 255 := by
    rw [Int64.le_iff_toInt_le]
    have e1 : (lN (tV t)).toInt = (tV t : Int) := by
      show (Int64.ofNat (tV t)).toInt = _
      rw [Int64.toInt_ofNat_of_lt (by omega)]
    rw [e1, show (255 : Int64).toInt = 255 from rfl]
    omega
  rw [lN_shr8 (by omega), lN_a255 (by omega)]
  have six : (lN (tV t / 256 % 256) = 6) ↔ tV t / 256 % 256 = 6 := lN_e (w := 6) (by omega) (by omega)
  by_cases c : tV t ≤ 255
  · rw [if_pos (le.mpr c), decide_eq_false (by omega)]; rfl
  · rw [if_neg (fun y => c (le.mp y))]
    by_cases d : tV t / 256 % 256 = 6
    · rw [if_pos (six.mpr d), decide_eq_true d]; rfl
    · rw [if_neg (fun y => d (six.mp y)), decide_eq_false d]; rfl
theorem RWo.same (hF : 300 ≤ F) (h : RWo sh n z ws wc dp) (hN : WNo ws wc) (hu : UM sh n z ku b len M) (h6 : 6 ≤ len) {hm i : Nat} (hh : hm < 65536) (e : wfi ws hm (wc + 1) 0 = some i) {t t' : Ty} (ht : TBr (M.1.length + M.2.1.length) t) (ht' : TBr (ws i).1.2.2 t') (hi : ∀ s, s < (ws i).1.2.2 → (ws i).2.2.2.1 s / 256 < 65536) : fn_X18_isSame F sh n z 337 ku (tL t) (nI hm) (tL t') = some (z, bI (tySb (mdOf b M) (ws i) t t')) := by
  have l := ht.1.lt.1
  have l' := ht'.1.lt.1
  have hb : ∀ q, q < len → b q < 256 := fun q hq => (hu.1.2.2.2.2 q hq).2
  unfold fn_X18_isSame tySb
  rw [endsR_t ht.1, cal_s, endsR_t ht'.1, cal_s]
  have e1 : (tL t >>> ((8 : Int32).toInt64 &&& 63) = tL t' >>> ((8 : Int32).toInt64 &&& 63)) ↔ tV t / 256 = tV t' / 256 := by
    unfold tL
    rw [lN_shr8 (by omega), lN_shr8 (by omega)]
    exact lN_e (by omega) (by omega)
  have e0 : (tL t = tL t') ↔ tV t = tV t' := lN_e (by omega) (by omega)
  by_cases d : tV t / 256 % 256 = 6
  · rw [if_pos d, decide_eq_true d, show bI true = 1 from rfl]
    by_cases d' : tV t' / 256 % 256 = 6
    · rw [decide_eq_true d', show bI true = 1 from rfl, if_pos rfl, endsR_t ht.1, decide_eq_true d, cal_s, show bI true = 1 from rfl, if_neg (by decide)]
      by_cases c : tV t / 256 = tV t' / 256
      · have s1 := ht.ends d
        have s2 := ht'.ends d'
        have i1 := id_lt hu.2.2 hb h6 s1
        have i2 := hi _ s2
        have g1 : ((tL t &&& 255) : Int64).toInt32 = nI (tV t % 256) := by unfold tL; rw [lN_a255 (by omega), lN_i32]
        have g2 : ((tL t' &&& 255) : Int64).toInt32 = nI (tV t' % 256) := by unfold tL; rw [lN_a255 (by omega), lN_i32]
        rw [if_pos (e1.mpr c), hu.1.o, grd_true, g1, g2, hu.identity h6 s1, cal_s, (b_model h.1).1, grd_true, (h.there hF hN hh e).2.1 _ s2, cal_s, decide_eq_true c, Bool.true_and]
        by_cases k : (mdOf b M).2.2.2.1 (tV t % 256) = (ws i).2.2.2.1 (tV t' % 256)
        · rw [if_pos (by rw [k]), decide_eq_true k]; rfl
        · rw [if_neg (fun y => k ((nI_eq (by omega) (by omega)).mp y)), decide_eq_false k]; rfl
      · rw [if_neg (fun y => c (e1.mp y)), decide_eq_false c, Bool.false_and]; rfl
    · rw [decide_eq_false d', show bI false = 0 from rfl, if_neg (by decide), decide_eq_false (show ¬ tV t / 256 = tV t' / 256 from fun y => d' (by rw [← y]; exact d)), Bool.false_and]; rfl
  · rw [if_neg d, decide_eq_false d, show bI false = 0 from rfl]
    by_cases d' : tV t' / 256 % 256 = 6
    · rw [decide_eq_true d', show bI true = 1 from rfl, if_neg (by decide), decide_eq_false (show ¬ tV t / 256 = tV t' / 256 from fun y => d (by rw [y]; exact d')), Bool.false_and]; rfl
    · rw [decide_eq_false d', show bI false = 0 from rfl, if_pos rfl, endsR_t ht.1, decide_eq_false d, cal_s, show bI false = 0 from rfl, if_pos rfl]
      by_cases k : tV t = tV t'
      · rw [if_pos (e0.mpr k), decide_eq_true k, decide_eq_true (by rw [k])]; rfl
      · rw [if_neg (fun y => k (e0.mp y)), decide_eq_false k, Bool.and_false]; rfl
end
