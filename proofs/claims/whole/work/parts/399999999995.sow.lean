/-! THE CLASS'S LOOKER: putting, taking only -/
section
variable {F n : Nat} {sh : Nat → Nat × Nat} {z z' : St} {kp f ns : Nat} {ls : List Ty} {L : Lks}
theorem CK.put (h : CK sh n z kp f ls ns L) {t : Ty} (ht : TBr ns t) (o : Int64) (b : Bool) (hp : isR t = false → o = 0 ∧ b = false) : ∃ z', fn_X3_putReference F sh n z 62 (tL t) o (bI b) = some (z', ()) ∧ CR sh n z' kp f ls ns (lPush (t, o, b) L) ∧ FrQc z z' := by
  have h' := h
  obtain ⟨a1, a2, a3, a4, ⟨b1, b2, b3⟩, c1, c2, c3⟩ := h
  unfold fn_X3_putReference lPush
  rw [h'.cb.o3, grd_true, b1]
  by_cases c : L.1.1 < 64
  · have ok : ∀ k c, shF k = (c, 64) → k < 513 → okA sh n k c (nI L.1.1) = true := fun k c' ee hk => by rw [lay_a a1 k c' 64 hk ee]; exact okI_nI (by omega) (by omega)
    have cp : (nI L.1.1).toNatClampNeg = L.1.1 := nI_clamp (by omega)
    rw [if_pos ((nIlt (x := 64) 64 rfl (by omega) (by omega)).mpr c), a1.2.2 62 5 63 rfl, lnk_s, ok 63 102 rfl (by omega), grd_true, lt_t, cp, sl_3, a1.2.2 62 6 64 rfl, lnk_s, sl_1, b1, ok 64 102 rfl (by omega), grd_true, lt_t, sl_3, sl_3, a1.2.2 62 7 65 rfl, lnk_s, sl_1, sl_1, b1, ok 65 103 rfl (by omega), grd_true, lt_t, cp, nar_bI, si_ok (show (62 : Nat) ≠ 65 by omega), sl_1, sl_1, b1, nI_1, lt_t, if_neg (show ¬ 64 ≤ L.1.1 by omega)]
    refine ⟨_, rfl, ⟨a1.of rfl, a2, ?_, ?_, ⟨si_ss, by show L.1.1 + 1 ≤ 64; omega, fun k hk => ?_⟩, ⟨c1.1, fun k hk => ?_⟩, fun k => ?_, fun k hk => ?_⟩, (((FrQc.sl (.inr (.inl rfl))).trans (FrQc.sl (.inr (.inr (.inl rfl))))).trans (FrQc.si (.inr rfl))).trans (FrQc.si (.inl ⟨rfl, by omega⟩))⟩
    · rw [si_oj (by omega), si_ok (by omega), sl_1, sl_1]; exact a3
    · rw [si_oj (by omega), si_ok (by omega), sl_1, sl_1]; exact a4
    · have hk' : k < L.1.1 + 1 := hk
      show _ = tL (if k = L.1.1 then (t, o, b) else L.1.2 k).1 ∧ _ = (if k = L.1.1 then (t, o, b) else L.1.2 k).2.1 ∧ _ = bI (if k = L.1.1 then (t, o, b) else L.1.2 k).2.2 ∧ TBr ns (if k = L.1.1 then (t, o, b) else L.1.2 k).1 ∧ (isR (if k = L.1.1 then (t, o, b) else L.1.2 k).1 = false → (if k = L.1.1 then (t, o, b) else L.1.2 k).2.1 = 0 ∧ (if k = L.1.1 then (t, o, b) else L.1.2 k).2.2 = false)
      by_cases d : k = L.1.1
      · subst d
        rw [if_pos rfl]
        exact ⟨by rw [si_2, si_2, sl_ok (by omega), sl_ss], by rw [si_2, si_2, sl_ss], by rw [si_ok (by omega), si_ss], ht, hp⟩
      · rw [if_neg d]
        obtain ⟨s1, s2, s3, s4, s5⟩ := b3 k (by omega)
        exact ⟨by rw [si_2, si_2, sl_ok (by omega), sl_oj d]; exact s1, by rw [si_2, si_2, sl_oj d, sl_ok (by omega)]; exact s2, by rw [si_ok (by omega), si_oj d, sl_1, sl_1]; exact s3, s4, s5⟩
    · rw [si_2, si_2, sl_ok (by omega), sl_ok (by omega)]; exact c1.2 k hk
    · rw [si_2, si_2, sl_ok (by omega), sl_ok (by omega)]; exact c2 k
    · rw [si_2, si_2, sl_ok (by omega), sl_ok (by omega)]; exact c3 k hk
  · obtain ⟨z1, q1, q2, q3⟩ := h'.cb.fail (F := F) (v := 2) (by omega)
    have q1' : fn_X3_fail F sh n z 62 2 = some (z1, ()) := q1
    rw [if_neg (fun q => c ((nIlt (x := 64) 64 rfl (by omega) (by omega)).mp q)), q1', cal_s, if_pos (show 64 ≤ L.1.1 by omega)]
    exact ⟨z1, rfl, ⟨by omega, q2⟩, q3⟩
theorem CK.only (h : CK sh n z kp f ls ns L) {t : Ty} (ht : TB t) : ∃ z', fn_X3_takeOnly F sh n z 62 (tL t) = some (z', ()) ∧ CR sh n z' kp f ls ns (lTakeT t L) ∧ FrQc z z' ∧ ∀ q, lTake L = .ok q → tknC z' q.1 := by
  obtain ⟨z1, x, q1, q2, q3⟩ := h.take (F := F)
  unfold fn_X3_takeOnly lTakeT
  rw [h.cb.o3, grd_true, q1, cal_s]
  rcases q3 with ⟨e1, e2, e3⟩ | ⟨q, e1, e2, e3, e4, e5, e6⟩
  · rw [e1, e2, if_neg (fun c => tL_0 ht c.symm), e3.fail_e (by omega), cal_s]
    exact ⟨z1, rfl, ⟨by omega, e3⟩, q2, fun q e => by cases e⟩
  · rw [e1, e2, ok_b]
    by_cases c : q.1.1 = t
    · rw [if_pos (by rw [c]), show (q.1.1 == t) = true from beq_iff_eq.mpr c]
      exact ⟨z1, rfl, e3, q2, fun q' e => by cases e; exact e4⟩
    · obtain ⟨z2, s1, s2, s3⟩ := e3.cb.fail (F := F) (v := 3) (by omega)
      have s1' : fn_X3_fail F sh n z1 62 3 = some (z2, ()) := s1
      rw [if_neg (fun q' => c ((e5.1.inj ht).mp q')), s1', cal_s, show (q.1.1 == t) = false from beq_eq_false_iff_ne.mpr c]
      refine ⟨z2, rfl, ⟨by decide, s2⟩, q2.trans s3, fun q' e => ?_⟩
      cases e
      unfold tknC
      have e : z2.2.1 62 14 = z1.2.1 62 14 ∧ z2.1 62 15 = z1.1 62 15 := by
        unfold fn_X3_fail at s1'
        rw [e3.cb.o3, grd_true, e3.2.2.2.1, if_pos (show nI 0 = 0 from rfl), lt_t] at s1'
        cases s1'
        exact ⟨rfl, by rw [si_oj (by omega)]⟩
      rw [e.1, e.2]; exact e4
end
