/-! THE CLASS'S READER: numbers, types -/
theorem cu_b {α β : Type} (x : Ex (α × Nat)) (g : α × Nat → Ex β) (a0 : α) : (x >>= g) = (cu x >>= fun p => g ((match x with | .ok q => q.1 | .error _ => a0), p)) := by cases x <;> rfl
section
variable {F n : Nat} {sh : Nat → Nat × Nat} {z z' : St} {kp kb len : Nat} {b : Nat → Nat} {J : Bool} {r : Ex Nat} {ks js hs : List Nat}
theorem KX.b29 (h : KX sh n z kp kb b len J r) (v : Nat) : fn_X6_readNumber_B29 F sh n 60 (nI v) z = some (z, nI (match r with | .ok _ => v | .error _ => 0)) := by
  unfold fn_X6_readNumber_B29
  cases r with
  | error e => rw [if_neg h.ne0]; rfl
  | ok p => rw [if_pos h.is0]
theorem KX.byteA {e : Nat × Nat} (h : KX sh n z kp kb b len J (.error e)) : fn_X6_readByte F sh n z 60 = some (z, nI 0) := h.byte_e
theorem KX.number (h : KX sh n z kp kb b len J r) {lo hi : Nat} {il ih : Int32} (el : il = nI lo) (eh : ih = nI hi) (hl : lo < 256) (hh : hi < 256) : ∃ z', fn_X6_readNumber F sh n z 60 il ih = some (z', nI (vN (r >>= rN b len lo hi))) ∧ KX sh n z' kp kb b len J (cu (r >>= rN b len lo hi)) ∧ FC kp z z' := by
  subst el eh
  obtain ⟨z1, q1, q2, q3⟩ := h.byte (F := F)
  unfold fn_X6_readNumber
  rw [h.1.o, grd_true, lt_t, q1, cal_s]
  cases r with
  | error e =>
    have fe := q2.fail_e (F := F) 3 (z.1 60 3)
    have b29 := q2.b29 (F := F) 0
    have vz : vN ((Except.error e : Ex Nat) >>= rBy b len) = 0 := rfl
    have b23 : fn_X6_readNumber_B23 F sh n 60 (z.1 60 3) (nI 0) z1 = some (z1, nI 0) := by
      unfold fn_X6_readNumber_B23
      rw [fe, cal_s]; exact b29
    rw [vz, b23]
    refine ⟨z1, ?_, q2, q3⟩
    split
    · rfl
    · split
      · exact b29
      · rfl
  | ok p =>
    have at3 : z.1 60 3 = nI p := h.2.1
    rw [ok_bq] at q2 ⊢
    rw [ok_bq]
    unfold rN
    cases e : rBy b len p with
    | error w =>
      rw [e] at q2
      have fe := q2.fail_e (F := F) 3 (z.1 60 3)
      have b29 := q2.b29 (F := F) 0
      have b23 : fn_X6_readNumber_B23 F sh n 60 (z.1 60 3) (nI 0) z1 = some (z1, nI 0) := by
        unfold fn_X6_readNumber_B23
        rw [fe, cal_s]; exact b29
      show ∃ z', (if nI 0 < nI lo then fn_X6_readNumber_B23 F sh n 60 (z.1 60 3) (nI 0) z1 else if nI 0 ≤ nI hi then fn_X6_readNumber_B29 F sh n 60 (nI 0) z1 else fn_X6_readNumber_B23 F sh n 60 (z.1 60 3) (nI 0) z1) = some (z', nI 0) ∧ _
      rw [b23]
      refine ⟨z1, ?_, q2, q3⟩
      split
      · rfl
      · split
        · exact b29
        · rfl
    | ok q =>
      obtain ⟨c1, c2⟩ := rBy_ok e
      subst c2
      rw [e] at q2
      have q2' : KX sh n z1 kp kb b len J (.ok (p + 1)) := q2
      obtain ⟨v, _, _, b8⟩ := h.1.2.2.2.2.2.2.2.1 p c1
      have l8 := h.1.2.2.2.2.2.2.1
      obtain ⟨z2, s1, s2, s3⟩ := q2'.fail (F := F) (w := 3) (f := fun _ => p) (iw := 3) (x := z.1 60 3) rfl (fun _ _ => at3) (by omega) (by omega)
      have s2' : KX sh n z2 kp kb b len J (.error (3, p)) := s2
      have b23 : fn_X6_readNumber_B23 F sh n 60 (z.1 60 3) (nI (b p)) z1 = some (z2, nI 0) := by
        unfold fn_X6_readNumber_B23
        rw [s1, cal_s]; exact s2'.b29 (b p)
      show ∃ z', (if nI (b p) < nI lo then fn_X6_readNumber_B23 F sh n 60 (z.1 60 3) (nI (b p)) z1 else if nI (b p) ≤ nI hi then fn_X6_readNumber_B29 F sh n 60 (nI (b p)) z1 else fn_X6_readNumber_B23 F sh n 60 (z.1 60 3) (nI (b p)) z1) = some (z', nI (vN (if b p < lo ∨ hi < b p then .error (3, p) else .ok (b p, p + 1)))) ∧ KX sh n z' kp kb b len J (cu (if b p < lo ∨ hi < b p then .error (3, p) else .ok (b p, p + 1) : Ex (Nat × Nat))) ∧ _
      rw [b23]
      by_cases d1 : b p < lo
      · rw [if_pos ((nI_ltI (by omega) (by omega)).mpr d1), if_pos (Or.inl d1)]
        exact ⟨z2, rfl, s2, q3.trans s3⟩
      rw [if_neg (fun x => d1 ((nI_ltI (by omega) (by omega)).mp x))]
      by_cases d2 : b p ≤ hi
      · rw [if_pos ((nI_leI (by omega) (by omega)).mpr d2), if_neg (show ¬ (b p < lo ∨ hi < b p) by omega), q2'.b29]
        exact ⟨z1, rfl, q2', q3⟩
      · rw [if_neg (fun x => d2 ((nI_leI (by omega) (by omega)).mp x)), if_pos (show b p < lo ∨ hi < b p by omega)]
        exact ⟨z2, rfl, s2, q3.trans s3⟩
theorem vN_lt (h : KX sh n z kp kb b len J r) : vN (r >>= rBy b len) < 256 := by
  cases r with
  | error e => show 0 < 256; omega
  | ok p =>
    rw [ok_bq]
    unfold rBy
    by_cases c : p < len
    · rw [if_pos c]
      obtain ⟨v, _, _, b8⟩ := h.1.2.2.2.2.2.2.2.1 p c
      exact b8
    · rw [if_neg c]; show 0 < 256; omega
theorem KX.short (h : KX sh n z kp kb b len J r) : ∃ z' v, fn_X6_readShort F sh n z 60 = some (z', nI v) ∧ v < 65536 ∧ (∀ p, r = .ok p → p + 2 ≤ len → v = shB b p) ∧ KX sh n z' kp kb b len J (cu (r >>= sk len 2)) ∧ FC kp z z' := by
  obtain ⟨z1, q1, q2, q3⟩ := h.byte (F := F)
  obtain ⟨z2, t1, t2, t3⟩ := q2.byte (F := F)
  have l1 := vN_lt h
  have l2 := vN_lt q2
  unfold fn_X6_readShort
  rw [h.1.o, grd_true, q1, cal_s, t1, cal_s, or8 (by omega) l2]
  refine ⟨z2, _, rfl, by omega, ?_, ?_, q3.trans t3⟩
  · intro p e hp
    subst e
    rw [ok_bq]
    have e1 : rBy b len p = .ok (b p, p + 1) := by unfold rBy; rw [if_pos (by omega)]
    have e2 : rBy b len (p + 1) = .ok (b (p + 1), p + 2) := by unfold rBy; rw [if_pos (by omega)]
    rw [e1]
    show 256 * b p + vN (rBy b len (p + 1)) = shB b p
    rw [e2]; rfl
  · cases r with
    | error e => exact t2
    | ok p =>
      rw [ok_bq] at t2 ⊢
      have es : cu (cu (rBy b len p) >>= rBy b len) = cu (sk len 2 p) := by
        unfold sk
        by_cases c1 : p < len
        · have e1 : rBy b len p = .ok (b p, p + 1) := by unfold rBy; rw [if_pos c1]
          rw [e1]
          show cu (rBy b len (p + 1)) = _
          unfold rBy
          by_cases c2 : p + 1 < len
          · rw [if_pos c2, if_pos (show p + 2 ≤ len by omega)]; rfl
          · rw [if_neg c2, if_neg (show ¬ p + 2 ≤ len by omega)]; rfl
        · have e1 : rBy b len p = .error (2, len) := by unfold rBy; rw [if_neg c1]
          rw [e1, if_neg (show ¬ p + 2 ≤ len by omega)]; rfl
      rw [← es]; exact t2
/-- a type's end -/
theorem KX.b111 (h : KX sh n z kp kb b len J r) {jo : Option Nat} (ej : jo.isSome = J) (hj : ∀ m, jo = some m → z.1 kp 9 = nI m ∧ m < 256) {t : Ty} {c : Nat} (hc : c < 256) {v : Int64} (hv : ∀ p, r = .ok p → v = tL t) (ht : tV t < 2 ^ 47) : ∃ z' x, fn_X6_readOneType_B111 F sh n v (nI c) 60 z = some (z', x) ∧ KX sh n z' kp kb b len J (cu (r >>= fun p => if c = 6 then rBy b len p >>= fun q => if (match jo with | none => false | some m => decide (m ≤ q.1)) = true then .error (7, p) else .ok (t ++ [6, q.1], q.2) else .ok (t ++ [c], p))) ∧ (∀ q, (r >>= fun p => if c = 6 then rBy b len p >>= fun q => if (match jo with | none => false | some m => decide (m ≤ q.1)) = true then .error (7, p) else .ok (t ++ [6, q.1], q.2) else .ok (t ++ [c], p)) = .ok q → x = tL q.1) ∧ FC kp z z' := by
  unfold fn_X6_readOneType_B111
  rw [lt_t]
  by_cases c6 : c = 6
  · subst c6
    obtain ⟨z1, q1, q2, q3⟩ := h.byte (F := F)
    have l1 := vN_lt h
    rw [if_pos (show nI 6 = 6 from rfl), lt_t, q1, cal_s, q2.1.2.2.2.2.2.2.2.2]
    have hf : ∀ q, (cu (r >>= rBy b len)) = .ok q → v = tL t := fun q e => by
      cases r with
      | error w => cases e
      | ok p => exact hv p rfl
    cases er : r with
    | error w =>
      subst er
      refine ⟨z1, ?_⟩
      by_cases cj : bI J = 0
      · rw [if_pos cj]; exact ⟨_, rfl, q2, fun q e => (by cases e), q3⟩
      · rw [if_neg cj, q2.1.2.2.1, lnk_s, q2.1.p, grd_true, q2.fail_e, cal_s, ite_self]; exact ⟨_, rfl, q2, fun q e => (by cases e), q3⟩
    | ok p =>
      subst er
      rw [ok_bq] at q2 l1
      rw [ok_bq, ok_bq, hv p rfl]
      have o8 : (tL t <<< ((8 : Int32).toInt64 &&& 63)) ||| (nI 6).toInt64 = lN (256 * tV t + 6) := or8L (by omega) (by omega)
      rw [o8, or8L (by omega) l1, if_pos rfl]
      cases e : rBy b len p with
      | error w =>
        rw [e] at q2
        have q2' : KX sh n z1 kp kb b len J (.error w) := q2
        refine ⟨z1, ?_⟩
        by_cases cj : bI J = 0
        · rw [if_pos cj]; exact ⟨_, rfl, q2, fun q e => (by cases e), q3⟩
        · rw [if_neg cj, q2.1.2.2.1, lnk_s, q2.1.p, grd_true, q2'.fail_e, cal_s, ite_self]; exact ⟨_, rfl, q2, fun q e => (by cases e), q3⟩
      | ok q =>
        obtain ⟨c1, c2⟩ := rBy_ok e
        subst c2
        rw [e] at q2
        have q2' : KX sh n z1 kp kb b len J (.ok (p + 1)) := q2
        rw [e] at l1
        have l1' : b p < 256 := l1
        have vl : lN (256 * (256 * tV t + 6) + b p) = tL (t ++ [6, b p]) := by
          unfold tL
          rw [show t ++ [6, b p] = (t ++ [6]) ++ [b p] by simp, tV_app, tV_app]
        cases jo with
        | none =>
          show ∃ z' x, (if bI J = 0 then some (z1, lN (256 * (256 * tV t + 6) + b p)) else lnk (z1.2.2 60 2) (fun k_28 => grd (okO sh n k_28 5) (if nI (b p) < (z1.1 k_28 9) then some (z1, lN (256 * (256 * tV t + 6) + b p)) else cal (fn_X6_fail F sh n z1 60 7 (z.1 60 3)) (fun z_31 _ => some (z_31, lN (256 * (256 * tV t + 6) + b p)))))) = some (z', x) ∧ KX sh n z' kp kb b len J (cu (if false = true then .error (7, p) else .ok (t ++ [6, b p], p + 1))) ∧ (∀ q, (if false = true then .error (7, p) else .ok (t ++ [6, b p], p + 1) : Ex (Ty × Nat)) = .ok q → x = tL q.1) ∧ FC kp z z'
          have : J = false := ej.symm
          subst this
          rw [vl]
          rw [if_pos (show bI false = 0 from rfl), if_neg (show ¬ false = true by decide)]
          exact ⟨z1, _, rfl, q2', fun q e => (by cases e; rfl), q3⟩
        | some m =>
          show ∃ z' x, (if bI J = 0 then some (z1, lN (256 * (256 * tV t + 6) + b p)) else lnk (z1.2.2 60 2) (fun k_28 => grd (okO sh n k_28 5) (if nI (b p) < (z1.1 k_28 9) then some (z1, lN (256 * (256 * tV t + 6) + b p)) else cal (fn_X6_fail F sh n z1 60 7 (z.1 60 3)) (fun z_31 _ => some (z_31, lN (256 * (256 * tV t + 6) + b p)))))) = some (z', x) ∧ KX sh n z' kp kb b len J (cu (if decide (m ≤ b p) = true then .error (7, p) else .ok (t ++ [6, b p], p + 1))) ∧ (∀ q, (if decide (m ≤ b p) = true then .error (7, p) else .ok (t ++ [6, b p], p + 1) : Ex (Ty × Nat)) = .ok q → x = tL q.1) ∧ FC kp z z'
          have : J = true := ej.symm
          subst this
          rw [vl]
          obtain ⟨m1, m2⟩ := hj m rfl
          rw [if_neg (show ¬ bI true = 0 by decide), q2'.1.2.2.1, lnk_s, q2'.1.p, grd_true, q3.2.2.2.1 9 (by simp), m1]
          by_cases cm : m ≤ b p
          · obtain ⟨z2, s1, s2, s3⟩ := q2'.fail (F := F) (w := 7) (f := fun _ => p) (iw := 7) (x := z.1 60 3) rfl (fun _ _ => h.2.1) (by omega) (by omega)
            rw [if_neg (fun x => by have := (nI_ltI (by omega) (by omega)).mp x; omega), s1, cal_s, if_pos (show decide (m ≤ b p) = true from decide_eq_true cm)]
            exact ⟨z2, _, rfl, s2, fun q e => (by cases e), q3.trans s3⟩
          · rw [if_pos ((nI_ltI (by omega) (by omega)).mpr (by omega)), if_neg (show ¬ decide (m ≤ b p) = true from fun y => cm (of_decide_eq_true y))]
            exact ⟨z1, _, rfl, q2', fun q e => (by cases e; rfl), q3⟩
  · rw [if_neg (fun x => c6 ((nIe (x := 6) 6 rfl (by omega) (by omega)).mp x))]
    refine ⟨z, _, rfl, ?_, ?_, FrKd.rfl'⟩
    · cases r with
      | error w => exact h
      | ok p => rw [ok_bq, if_neg c6]; exact h
    · intro q e
      cases r with
      | error w => cases e
      | ok p =>
        rw [ok_bq, if_neg c6] at e
        cases e
        rw [hv p rfl]
        show (tL t <<< ((8 : Int32).toInt64 &&& 63)) ||| (nI c).toInt64 = tL (t ++ [c])
        unfold tL
        rw [or8L (by omega) hc, tV_app]
end
