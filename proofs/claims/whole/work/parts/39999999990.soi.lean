/-! THE REFERENCE'S LOOKER: coming again, coming back -/
theorem RcS.f5 {z z' : St} {nl : Nat} {R : Nat → Option Lc} (h : RcS z nl R) (f : Fr5 z z') : RcS z' nl R := by
  have r : ∀ {j b o i}, rcA z j b o i → rcA z' j b o i := fun {j b o i} q => ⟨by rw [(f 359 (by omega)).1]; exact q.1, by rw [(f 360 (by omega)).2]; exact q.2.1, by rw [(f 361 (by omega)).1]; exact q.2.2⟩
  exact fun t' ht' => ⟨by rw [(f 357 (by omega)).1]; exact (h t' ht').1, fun Q e k hk => r ((h t' ht').2 Q e k hk)⟩
section
variable {F n : Nat} {sh : Nat → Nat × Nat} {z z' : St} {ku f w ns : Nat} {ls : List Ty} {L M : Lks} {U : Md}
theorem meet_t (hF : 300 ≤ F) (h : RK sh n z ku f ls U.1.2.2 0 L) (hu : UnL F sh n z ku U) (hm : MdO U) {Q : Lc} {j p : Nat} (hj : j < 41000) (hp : p < ls.length) (ha : rcA z j (Q.1 p) (Q.2.1 p) (Q.2.2 p)) : ∃ z1, fn_X13_meet F sh n z 355 (nI j) (nI p) = some (st3 z1 j ((mgO Q L.2).1 p) ((mgO Q L.2).2.1 p) ((mgO Q L.2).2.2 p), ()) ∧ RK sh n z1 ku f ls U.1.2.2 (wq 0 (mgB U ls Q L.2 p) 9) L ∧ FrLk z z1 ∧ Fr5 z z1 := by
  obtain ⟨okj, cj⟩ := h.ok40 hj
  obtain ⟨ok, cp, e1, e2, e3⟩ := h.lr hp
  obtain ⟨t1, t2⟩ := h.2.1.2.2.2.2 p hp
  obtain ⟨z1, q1, q2, q3, q5⟩ := h.ndw (F := F) (mgB U ls Q L.2 p) (v := 9) (by omega) (by omega)
  have a1 : rcA z1 j (Q.1 p) (Q.2.1 p) (Q.2.2 p) := ⟨by rw [(q5 359 (by omega)).1]; exact ha.1, by rw [(q5 360 (by omega)).2]; exact ha.2.1, by rw [(q5 361 (by omega)).1]; exact ha.2.2⟩
  obtain ⟨_, _, g1, g2, g3⟩ := q2.lr hp
  refine ⟨z1, ?_, q2, q3, q5⟩
  have b97 : ∀ b : Bool, (mgO Q L.2).1 p = b → fn_X13_meet_B97 F sh n 360 (nI j) 355 (bI b) (nI p) (si z1 359 j (bI b)) ((mgO Q L.2).2.1 p) = some (st3 z1 j b ((mgO Q L.2).2.1 p) ((mgO Q L.2).2.2 p), ()) := fun b eb => by
    have ei : (mgO Q L.2).2.2 p = (b && (Q.2.2 p || L.2.2.2 p)) := by rw [← eb]; rfl
    have o60 := okj 360 102 rfl (by omega)
    have o61 := okj 361 103 rfl (by omega)
    have o67 := ok 367 103 rfl (by omega)
    have l10 := q2.1.2.2 355 10 361 rfl
    have l17 := q2.1.2.2 355 17 367 rfl
    unfold fn_X13_meet_B97
    simp only [o60, o61, o67, grd_true, lt_t, cj, cp, sl_3, si_3, l10, l17, lnk_s, sl_1]
    rw [ei]
    cases b with
    | false => rw [if_pos (show bI false = 0 from rfl)]; rfl
    | true =>
      rw [if_neg (show ¬ bI true = 0 from one0), si_ok (by omega), a1.2.2]
      cases d : Q.2.2 p with
      | true => rw [if_neg (show ¬ bI true = 0 from one0)]; rfl
      | false =>
        rw [if_pos (show bI false = 0 from rfl), si_ok (by omega), g3]
        cases d2 : L.2.2.2 p with
        | false => rw [if_pos (show bI false = 0 from rfl)]; rfl
        | true => rw [if_neg (show ¬ bI true = 0 from one0)]; rfl
  have b63 : ∀ b : Bool, (mgO Q L.2).1 p = b → fn_X13_meet_B63 F sh n 355 (nI j) (nI p) z1 (bI b) = some (st3 z1 j b ((mgO Q L.2).2.1 p) ((mgO Q L.2).2.2 p), ()) := fun b eb => by
    have bb := b97 b eb
    have eo : (mgO Q L.2).2.1 p = if b = true then Q.2.1 p ||| L.2.2.1 p else 0 := by rw [← eb]; rfl
    unfold fn_X13_meet_B63
    rw [q2.1.2.2 355 8 359 rfl, lnk_s, okj 359 103 rfl (by omega), grd_true, lt_t, cj, nar_bI, si_3, q2.1.2.2 355 9 360 rfl, lnk_s]
    cases b with
    | false =>
      rw [if_pos (show bI false = 0 from rfl)]
      rw [show (0 : Int64) = (mgO Q L.2).2.1 p by rw [eo]; rfl]
      exact bb
    | true =>
      rw [if_neg (show ¬ bI true = 0 from one0), lnk_s, okj 360 102 rfl (by omega), grd_true, q2.1.2.2 355 16 366 rfl, lnk_s, ok 366 102 rfl (by omega), grd_true, si_2, a1.2.1, cp, g2]
      rw [show Q.2.1 p ||| L.2.2.1 p = (mgO Q L.2).2.1 p by rw [eo]; rfl]
      exact bb
  have b35 : ∀ b : Bool, b = mgB U ls Q L.2 p → fn_X13_meet_B35 F sh n 355 (nI j) (nI p) z (bI b) = some (st3 z1 j ((mgO Q L.2).1 p) ((mgO Q L.2).2.1 p) ((mgO Q L.2).2.2 p), ()) := fun b eb => by
    have q1' : fn_X13_need F sh n z 355 (bI (mgB U ls Q L.2 p)) 9 = some (z1, ()) := q1
    unfold fn_X13_meet_B35
    rw [eb, q1', cal_s, q2.1.2.2 355 8 359 rfl, lnk_s, okj 359 103 rfl (by omega), grd_true, cj, a1.1]
    have em : (mgO Q L.2).1 p = (Q.1 p && L.2.1 p) := rfl
    cases c : Q.1 p with
    | false =>
      rw [c, Bool.false_and] at em
      rw [if_pos (show bI false = 0 from rfl), em]
      exact b63 false em
    | true =>
      rw [c, Bool.true_and] at em
      rw [if_neg (show ¬ bI true = 0 from one0), q2.1.2.2 355 15 365 rfl, lnk_s, ok 365 103 rfl (by omega), grd_true, cp, g1]
      cases d : L.2.1 p with
      | false => rw [d] at em; rw [if_pos (show bI false = 0 from rfl), em]; exact b63 false em
      | true => rw [d] at em; rw [if_neg (show ¬ bI true = 0 from one0), em]; exact b63 true em
  unfold fn_X13_meet
  rw [h.o13, grd_true, h.1.2.2 355 8 359 rfl, lnk_s, okj 359 103 rfl (by omega), grd_true, h.1.2.2 355 15 365 rfl, lnk_s, ok 365 103 rfl (by omega), grd_true, cj, cp, ha.1, e1]
  by_cases c : Q.1 p = L.2.1 p
  · rw [if_pos (by rw [c])]
    exact b35 true (by unfold mgB; rw [show (Q.1 p == L.2.1 p) = true from beq_iff_eq.mpr c]; rfl)
  · have eq : mgB U ls Q L.2 p = hasD U (ls.getD p []) := by unfold mgB; rw [show (Q.1 p == L.2.1 p) = false from beq_eq_false_iff_ne.mpr c]; rfl
    rw [if_neg (fun q => c (bI_eq.mp q)), h.1.2.2 355 3 356 rfl, lnk_s, ok 356 102 rfl (by omega), grd_true, t1, (h.has hF hu hm t2).2.1, cal_s]
    cases d : hasD U (ls.getD p []) with
    | false => rw [if_pos (show bI false = 0 from rfl)]; exact b35 false (by rw [eq, d])
    | true => rw [if_neg (show ¬ bI true = 0 from one0)]; exact b35 true (by rw [eq, d])
theorem back_t (hF : 300 ≤ F) (h : RK sh n z ku f ls U.1.2.2 0 L) (hu : UnL F sh n z ku U) (hm : MdO U) {Q : Lc} {j p : Nat} (hj : j < 41000) (hp : p < ls.length) (ha : rcA z j (Q.1 p) (Q.2.1 p) (Q.2.2 p)) : ∃ z1, fn_X13_back F sh n z 355 (nI j) (nI p) = some (z1, ()) ∧ RK sh n z1 ku f ls U.1.2.2 (wq 0 (bkO U ls Q L.2 p) 9) L ∧ FrLk z z1 ∧ Fr5 z z1 := by
  obtain ⟨okj, cj⟩ := h.ok40 hj
  obtain ⟨ok, cp, e1, e2, e3⟩ := h.lr hp
  obtain ⟨t1, t2⟩ := h.2.1.2.2.2.2 p hp
  obtain ⟨z1, q1, q2, q3, q5⟩ := h.ndw (F := F) (bkO U ls Q L.2 p) (v := 9) (by omega) (by omega)
  refine ⟨z1, ?_, q2, q3, q5⟩
  have nx : ∀ b : Bool, b = bkO U ls Q L.2 p → cal (fn_X13_need F sh n z 355 (bI b) 9) (fun z9 _ => some (z9, ())) = some (z1, ()) := fun b eb => by
    have q1' : fn_X13_need F sh n z 355 (bI (bkO U ls Q L.2 p)) 9 = some (z1, ()) := q1
    rw [eb, q1', cal_s]
  unfold fn_X13_back
  rw [h.o13, grd_true, h.1.2.2 355 8 359 rfl, lnk_s, okj 359 103 rfl (by omega), grd_true, h.1.2.2 355 15 365 rfl, lnk_s, ok 365 103 rfl (by omega), grd_true, cj, cp, ha.1, e1]
  cases c : Q.1 p with
  | false =>
    have eq : bkO U ls Q L.2 p = (!L.2.1 p || hasD U (ls.getD p [])) := by unfold bkO; rw [c]; rfl
    rw [if_pos (show bI false = 0 from rfl)]
    cases d : L.2.1 p with
    | false => rw [if_pos (show bI false = 0 from rfl)]; exact nx true (by rw [eq, d]; rfl)
    | true =>
      rw [if_neg (show ¬ bI true = 0 from one0), h.1.2.2 355 3 356 rfl, lnk_s, ok 356 102 rfl (by omega), grd_true, t1, (h.has hF hu hm t2).2.1, cal_s]
      cases d2 : hasD U (ls.getD p []) with
      | false => rw [if_pos (show bI false = 0 from rfl)]; exact nx false (by rw [eq, d, d2]; rfl)
      | true => rw [if_neg (show ¬ bI true = 0 from one0)]; exact nx true (by rw [eq, d, d2]; rfl)
  | true =>
    have eq : bkO U ls Q L.2 p = (L.2.1 p && (L.2.2.1 p &&& (Q.2.1 p ^^^ (-1)) == 0) && (!L.2.2.2 p || Q.2.2 p)) := by unfold bkO; rw [c]; rfl
    rw [if_neg (show ¬ bI true = 0 from one0), lnk_s, ok 365 103 rfl (by omega), grd_true, e1]
    cases d : L.2.1 p with
    | false => rw [if_pos (show bI false = 0 from rfl)]; exact nx false (by rw [eq, d]; rfl)
    | true =>
      rw [if_neg (show ¬ bI true = 0 from one0), h.1.2.2 355 16 366 rfl, lnk_s, ok 366 102 rfl (by omega), grd_true, h.1.2.2 355 9 360 rfl, lnk_s, okj 360 102 rfl (by omega), grd_true, e2, ha.2.1]
      by_cases b : L.2.2.1 p &&& (Q.2.1 p ^^^ (-1)) = 0
      · have eb : (L.2.2.1 p &&& (Q.2.1 p ^^^ (-1)) == 0) = true := beq_iff_eq.mpr b
        rw [if_pos b, h.1.2.2 355 17 367 rfl, lnk_s, ok 367 103 rfl (by omega), grd_true, e3]
        cases i1 : L.2.2.2 p with
        | false => rw [if_pos (show bI false = 0 from rfl)]; exact nx true (by rw [eq, d, eb, i1]; rfl)
        | true =>
          rw [if_neg (show ¬ bI true = 0 from one0), h.1.2.2 355 10 361 rfl, lnk_s, okj 361 103 rfl (by omega), grd_true, ha.2.2]
          cases i2 : Q.2.2 p with
          | false => rw [if_pos (show bI false = 0 from rfl)]; exact nx false (by rw [eq, d, eb, i1, i2]; rfl)
          | true => rw [if_neg (show ¬ bI true = 0 from one0)]; exact nx true (by rw [eq, d, eb, i1, i2]; rfl)
      · have eb : (L.2.2.1 p &&& (Q.2.1 p ^^^ (-1)) == 0) = false := beq_eq_false_iff_ne.mpr b
        rw [if_neg b]
        exact nx false (by rw [eq, d, eb]; rfl)
end
