/-! THE CLASS'S LOOKER: putting and taking, behind a fault or not -/
section
variable {F n : Nat} {sh : Nat → Nat × Nat} {z z' : St} {kp f ns : Nat} {ls : List Ty} {L : Lks}
theorem CR.o3 {r : Px Lks} (h : CR sh n z kp f ls ns r) : okO sh n 62 3 = true := by
  cases r with
  | error w => exact h.2.o3
  | ok M => exact (CK.cb h).o3
theorem CR.putR {r : Px Lks} (h : CR sh n z kp f ls ns r) {t : Ty} {x o : Int64} {b : Bool} (ht : ∀ M, r = .ok M → TBr ns t ∧ x = tL t ∧ (isR t = false → o = 0 ∧ b = false)) : ∃ z', fn_X3_putReference F sh n z 62 x o (bI b) = some (z', ()) ∧ CR sh n z' kp f ls ns (r >>= lPush (t, o, b)) ∧ FrQc z z' := by
  cases r with
  | error w =>
    obtain ⟨z1, q1, q2, q3⟩ := CB.put_e (F := F) h.2 h.1 x o b
    exact ⟨z1, q1, ⟨h.1, q2⟩, q3⟩
  | ok M =>
    obtain ⟨t1, t2, t3⟩ := ht M rfl
    subst t2
    exact CK.put (F := F) h t1 o b t3
theorem CR.put {r : Px Lks} (h : CR sh n z kp f ls ns r) {t : Ty} {x : Int64} (ht : ∀ M, r = .ok M → TBr ns t ∧ x = tL t) : ∃ z', fn_X3_put F sh n z 62 x = some (z', ()) ∧ CR sh n z' kp f ls ns (r >>= lPush (t, 0, false)) ∧ FrQc z z' := by
  obtain ⟨z1, q1, q2, q3⟩ := h.putR (F := F) (t := t) (x := x) (o := 0) (b := false) (fun M e => ⟨(ht M e).1, (ht M e).2, fun _ => ⟨rfl, rfl⟩⟩)
  have q1' : fn_X3_putReference F sh n z 62 x 0 0 = some (z1, ()) := q1
  unfold fn_X3_put
  rw [h.o3, grd_true, q1', cal_s]
  exact ⟨z1, rfl, q2, q3⟩
theorem CR.only {r : Px Lks} (h : CR sh n z kp f ls ns r) {t : Ty} {x : Int64} (ht : ∀ M, r = .ok M → TB t ∧ x = tL t) : ∃ z', fn_X3_takeOnly F sh n z 62 x = some (z', ()) ∧ CR sh n z' kp f ls ns (r >>= lTakeT t) ∧ FrQc z z' := by
  cases r with
  | error w =>
    obtain ⟨z1, q1, q2, q3⟩ := CB.only_e (F := F) h.2 h.1 x
    exact ⟨z1, q1, ⟨h.1, q2⟩, q3⟩
  | ok M =>
    obtain ⟨t1, t2⟩ := ht M rfl
    subst t2
    obtain ⟨z1, q1, q2, q3, _⟩ := CK.only (F := F) h t1
    exact ⟨z1, q1, q2, q3⟩
/-- a fault, if there is none yet -/
theorem CR.need {r : Px Lks} (h : CR sh n z kp f ls ns r) {v : Nat} (hv : v < 16) (h0 : 0 < v) (b : Bool) : ∃ z', (if b = true then some (z, ()) else fn_X3_fail F sh n z 62 (nI v)) = some (z', ()) ∧ CR sh n z' kp f ls ns (r >>= fun L => nd_ b v >>= fun _ => .ok L) ∧ FrQc z z' := by
  cases b with
  | true =>
    rw [if_pos rfl]
    refine ⟨z, rfl, ?_, FrQc.rfl'⟩
    cases r <;> exact h
  | false =>
    rw [if_neg (by simp)]
    cases r with
    | error w => exact ⟨z, h.2.fail_e h.1 _, h, FrQc.rfl'⟩
    | ok M =>
      obtain ⟨z1, q1, q2, q3⟩ := CB.fail (F := F) (CK.cb h) hv
      exact ⟨z1, q1, ⟨h0, q2⟩, q3⟩
end
