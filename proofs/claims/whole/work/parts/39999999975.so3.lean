/-! WHAT A TYPE CAN: both sides -/
theorem ab9 : ∀ a, a < 16 → nI a &&& (-9) = nI (a % 8) := by decide
theorem ab1 : ∀ a, a < 16 → ((nI a &&& 1 = 0) ↔ a % 2 = 0) ∧ ((nI a &&& 2 = 0) ↔ a / 2 % 2 = 0) ∧ ((nI a &&& 8 = 0) ↔ a / 8 % 2 = 0) := by decide
theorem abT_16 {U : Md} {t : Ty} (h : ∀ s, endS t = some s → U.2.1 s < 16) : abT U t < 16 := by
  unfold abT
  by_cases c : isR t = true
  · rw [if_pos c]; omega
  · rw [if_neg c]
    cases q : endS t with
    | none => show 7 < 16; omega
    | some s =>
      have := h s q
      show (if hdT t = 7 then U.2.1 s % 8 else U.2.1 s) < 16
      by_cases d : hdT t = 7
      · rw [if_pos d]; omega
      · rw [if_neg d]; omega
section
variable {F n : Nat} {sh : Nat → Nat × Nat} {z : St} {U : Md} {t : Ty}
theorem abilC_t (hF : 300 ≤ F) (h : TB t) {h0 : Nat} (ok : okO sh n h0 5 = true) (hs : ∀ s, endS t = some s → fn_X5_structureColumn F sh n z h0 (nI s) 0 = some (z, nI (U.2.1 s)) ∧ U.2.1 s < 16) : fn_X5_abilities F sh n z h0 (tL t) = some (z, nI (abT U t)) := by
  have h9 := h.2.1
  unfold fn_X5_abilities abT
  rw [(shiftC_t hF h).2, cal_s]
  by_cases c : hdT t < 8
  · have nr : isR t = false := by unfold isR; rw [beq_eq_false_iff_ne.mpr (by omega), beq_eq_false_iff_ne.mpr (by omega)]; rfl
    rw [if_pos ((nIlt (x := 8) 8 rfl (by omega) (by omega)).mpr c), (endsC_t h).1, cal_s, if_neg (show ¬ isR t = true by rw [nr]; simp)]
    cases q : endS t with
    | none =>
      rw [if_pos (show bI (none : Option Nat).isSome = 0 from rfl)]
      unfold fn_X5_abilities_B37
      by_cases d : nI (hdT t) = 7
      · rw [if_pos d, show (7 : Int32) &&& (-9) = nI 7 by decide]
      · rw [if_neg d, show (7 : Int32) = nI 7 from rfl]
    | some s =>
      obtain ⟨s1, s2⟩ := hs s q
      rw [if_neg (show ¬ bI (some s).isSome = 0 from one0), ok, grd_true, (endsC_t (F := F) (n := n) (sh := sh) (z := z) h).2 s q, s1, cal_s]
      unfold fn_X5_abilities_B37
      show _ = some (z, nI (if hdT t = 7 then U.2.1 s % 8 else U.2.1 s))
      by_cases d : hdT t = 7
      · rw [if_pos ((nIe (x := 7) 7 rfl (by omega) (by omega)).mpr d), if_pos d, ab9 _ s2]
      · rw [if_neg (fun w => d ((nIe (x := 7) 7 rfl (by omega) (by omega)).mp w)), if_neg d]
  · have ir : isR t = true := by
      unfold isR
      have : hdT t = 8 ∨ hdT t = 9 := by omega
      rcases this with e | e <;> rw [e] <;> rfl
    rw [if_neg (fun q => c ((nIlt (x := 8) 8 rfl (by omega) (by omega)).mp q)), if_pos ir]
    rfl
theorem abilR_t (hF : 300 ≤ F) (hL : Lay sh n z) (h : TB t) {ku : Nat} (hu : z.2.2 355 0 = some ku) (ok : okO sh n ku 16 = true) (hs : ∀ s, endS t = some s → fn_X16_abilitiesOf F sh n z ku (nI s) = some (z, nI (U.2.1 s)) ∧ U.2.1 s < 16) : fn_X13_abilitiesFor F sh n z 355 (tL t) = some (z, nI (abT U t)) := by
  have h9 := h.2.1
  have l := h.len
  have O13 : okO sh n 355 13 = true := lay_o hL 355 13 0 (by decide) rfl
  unfold fn_X13_abilitiesFor abT
  rw [isRefR_t hF h, cal_s]
  cases r : isR t with
  | true => rw [if_neg (show ¬ bI true = 0 from one0), if_pos (show true = true from rfl)]; rfl
  | false =>
    have b0 : fn_X13_byteOf F sh n z (tL t) 0 = some (z, nI (tV t / 256 ^ 0 % 256)) := byteOf_t (k := 0) h (by omega)
    rw [if_pos (show bI false = 0 from rfl), bytesOf_t hF h, cal_s, b0, cal_s, first_t hF h, cal_s, if_neg (show ¬ false = true by simp)]
    have e0 : tV t / 256 ^ 0 % 256 = tV t % 256 := by rw [Nat.pow_zero, Nat.div_one]
    have key : ∀ v : Bool, (v = true ↔ hdT t = 7) → fn_X13_abilitiesFor_B38 F sh n (nI t.length) 355 (nI (tV t / 256 ^ 0 % 256)) (tL t) z (bI v) = some (z, nI (match endS t with
        | some s => if hdT t = 7 then U.2.1 s % 8 else U.2.1 s
        | none => 7)) := fun v hv => by
      have b81 : ∀ a, a < 16 → fn_X13_abilitiesFor_B81 F sh n (bI v) z (nI a) = some (z, nI (if hdT t = 7 then a % 8 else a)) := fun a ha => by
        unfold fn_X13_abilitiesFor_B81
        cases v with
        | true => rw [if_neg (show ¬ bI true = 0 from one0), if_pos (hv.mp rfl), ab9 a ha]
        | false => rw [if_pos (show bI false = 0 from rfl), if_neg (fun q => absurd (hv.mpr q) (by simp))]
      unfold fn_X13_abilitiesFor_B38
      have e7 : (if hdT t = 7 then 7 % 8 else 7) = 7 := by by_cases d : hdT t = 7 <;> simp [d]
      rw [h.ends]
      by_cases c1 : t.length ≤ 1
      · have z1 : tV t / 256 = 0 := by have := (h.zero 1).mpr c1; rwa [Nat.pow_one] at this
        rw [if_pos ((nIle (x := 1) 1 rfl (by omega) (by omega)).mpr c1), if_neg (by rw [z1]; omega)]
        unfold fn_X13_abilitiesFor_B59 fn_X13_abilitiesFor_B60
        rw [if_pos rfl]
        have := b81 7 (by omega)
        rw [e7] at this
        exact this
      · rw [if_neg (fun q => c1 ((nIle (x := 1) 1 rfl (by omega) (by omega)).mp q)), show (1 : Int32) = nI 1 from rfl, byteOf_t h (by omega), cal_s, Nat.pow_one]
        by_cases c6 : tV t / 256 % 256 = 6
        · rw [if_pos ((nIe (x := 6) 6 rfl (by omega) (by omega)).mpr c6), if_pos c6]
          unfold fn_X13_abilitiesFor_B60
          obtain ⟨s1, s2⟩ := hs (tV t % 256) (by rw [h.ends, if_pos c6])
          rw [if_neg (show ¬ nI 1 = 0 from one0), O13, grd_true, hu, lnk_s, ok, grd_true, e0, s1, cal_s, b81 _ s2]
        · rw [if_neg (fun q => c6 ((nIe (x := 6) 6 rfl (by omega) (by omega)).mp q)), if_neg c6]
          unfold fn_X13_abilitiesFor_B59 fn_X13_abilitiesFor_B60
          rw [if_pos rfl]
          have := b81 7 (by omega)
          rw [e7] at this
          exact this
    by_cases d : hdT t = 7
    · rw [if_pos ((nIe (x := 7) 7 rfl (by omega) (by omega)).mpr d)]
      exact key true ⟨fun _ => d, fun _ => rfl⟩
    · rw [if_neg (fun w => d ((nIe (x := 7) 7 rfl (by omega) (by omega)).mp w))]
      exact key false ⟨fun w => absurd w (by simp), fun w => absurd w d⟩
end
