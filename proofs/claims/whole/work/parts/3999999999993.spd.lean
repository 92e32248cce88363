/-! THE CLASS'S LOOKER: references are taken -/
def CT (sh : Nat → Nat × Nat) (n : Nat) (z : St) (kp f : Nat) (ls : List Ty) (ns : Nat) : Px (SS × Lks) → Prop
  | .ok q => CK sh n z kp f ls ns q.2 ∧ tknC z q.1 ∧ TBr ns q.1.1 ∧ (isR q.1.1 = false → q.1.2.1 = 0 ∧ q.1.2.2 = false)
  | .error w => 0 < w ∧ CB sh n z kp f w
section
variable {F n : Nat} {sh : Nat → Nat × Nat} {z z' : St} {kp f ns : Nat} {ls : List Ty} {L : Lks}
theorem CK.refTo (hF : 300 ≤ F) (h : CK sh n z kp f ls ns L) {t : Ty} (ht : TB t) (wr : Bool) : ∃ z', fn_X3_takeReferenceTo F sh n z 62 (tL t) (bI wr) = some (z', ()) ∧ CT sh n z' kp f ls ns (lTakeR (some t) wr L) ∧ FrQc z z' := by
  obtain ⟨z1, x, q1, q2, q3⟩ := h.take (F := F)
  unfold fn_X3_takeReferenceTo lTakeR
  rw [h.cb.o3, grd_true, q1, cal_s]
  rcases q3 with ⟨e1, e2, e3⟩ | ⟨q, e1, e2, e3, e4, e5, e6⟩
  · rw [e1, e2, (head_0 hF).2.1, cal_s, if_pos rfl, e3.fail_e (by omega), cal_s]
    exact ⟨z1, rfl, ⟨by omega, e3⟩, q2⟩
  · obtain ⟨z2, s1, s2, s3⟩ := e3.cb.fail (F := F) (v := 3) (by omega)
    have s1' : fn_X3_fail F sh n z1 62 3 = some (z2, ()) := s1
    rw [e1, e2, isRefC_t hF e5.1, cal_s, ok_b]
    cases r : isR q.1.1 with
    | false =>
      rw [if_pos (show bI false = 0 from rfl), s1', cal_s]
      exact ⟨z2, rfl, ⟨by decide, s2⟩, q2.trans s3⟩
    | true =>
      obtain ⟨b, u, eu⟩ : ∃ b u, q.1.1 = b :: u := by
        cases e : q.1.1 with
        | nil => rw [e] at r; simp [isR, hdT] at r
        | cons b u => exact ⟨b, u, rfl⟩
      have tb := e5.1
      have tt := (e5.2.1 r).1
      rw [eu] at tb tt
      have tt' : TB u := tt
      rw [if_neg (show ¬ bI true = 0 from one0), eu, pointC_t hF tb, cal_s, Bool.true_and]
      show ∃ z', _ ∧ CT sh n z' kp f ls ns (nd_ (u == t) 3 >>= fun _ => nd_ (!wr || hdT (b :: u) == 9) 7 >>= fun _ => .ok q) ∧ _
      by_cases c : u = t
      · rw [if_pos (by rw [c]), show (u == t) = true from beq_iff_eq.mpr c, nd_t, ok_b]
        have fin : CT sh n z1 kp f ls ns (.ok q) := ⟨e3, e4, e5, e6⟩
        cases wr with
        | false => rw [if_pos (show bI false = 0 from rfl)]; exact ⟨z1, rfl, fin, q2⟩
        | true =>
          rw [if_neg (show ¬ bI true = 0 from one0), writesC_t hF tb, cal_s]
          cases e : (hdT (b :: u) == 9) with
          | true => rw [if_neg (show ¬ bI true = 0 from one0)]; exact ⟨z1, rfl, fin, q2⟩
          | false =>
            obtain ⟨z3, u1, u2, u3⟩ := e3.cb.fail (F := F) (v := 7) (by omega)
            have u1' : fn_X3_fail F sh n z1 62 7 = some (z3, ()) := u1
            rw [if_pos (show bI false = 0 from rfl), u1', cal_s]
            exact ⟨z3, rfl, ⟨by decide, u2⟩, q2.trans u3⟩
      · rw [if_neg (fun w => c ((tt'.inj ht).mp w)), s1', cal_s, show (u == t) = false from beq_eq_false_iff_ne.mpr c]
        exact ⟨z2, rfl, ⟨by decide, s2⟩, q2.trans s3⟩
end
