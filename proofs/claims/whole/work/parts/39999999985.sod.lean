/-! THE REFERENCE'S LOOKER: calls, what they need -/
def Fr5 (z z' : St) : Prop := ∀ k, k ≠ 355 → z'.1 k = z.1 k ∧ z'.2.1 k = z.2.1 k
theorem Fr5.rfl' {z : St} : Fr5 z z := fun _ _ => ⟨rfl, rfl⟩
theorem Fr5.trans {z z' z'' : St} (f : Fr5 z z') (g : Fr5 z' z'') : Fr5 z z'' := fun k h => ⟨(g k h).1.trans (f k h).1, (g k h).2.trans (f k h).2⟩
theorem orO_a (xs : List SS) (s : SS) : orO (xs ++ [s]) = orO xs ||| s.2.1 := by
  induction xs with
  | nil => show s.2.1 ||| 0 = 0 ||| s.2.1; rw [Int64.or_comm]
  | cons x xs ih => show x.2.1 ||| orO (xs ++ [s]) = x.2.1 ||| orO xs ||| s.2.1; rw [ih, Int64.or_assoc]
/-- the topmost sixteen bits -/
theorem top16 (x : Int64) : ((x.toUInt64 >>> ((48 : Int32).toInt64.toUInt64 &&& Int64.toUInt64 63)).toInt64 = 0) ↔ ((List.range 16).any (fun b => ob x (48 + b)) = false) := by
  have e : N ((x.toUInt64 >>> ((48 : Int32).toInt64.toUInt64 &&& Int64.toUInt64 63)).toInt64) = N x / 2 ^ 48 := N_ushK (k := 48) (by omega)
  rw [N_eq0, e]
  constructor
  · intro h
    rw [List.any_eq_false]
    intro b hb
    have hb := List.mem_range.mp hb
    have : ob x (48 + b) = Nat.testBit (N x) (48 + b) := rfl
    rw [this]
    have hl : N x < 2 ^ 48 := by
      rcases Nat.div_eq_zero_iff.mp h with q | q
      · exact absurd q (by simp)
      · exact q
    rw [Nat.testBit_lt_two_pow (Nat.lt_of_lt_of_le hl (Nat.pow_le_pow_right (by omega) (by omega)))]
    simp
  · intro h
    rw [List.any_eq_false] at h
    apply Nat.div_eq_of_lt
    apply Nat.lt_pow_two_of_testBit
    intro i hi
    by_cases c : i < 64
    · have := h (i - 48) (List.mem_range.mpr (by omega))
      rw [show 48 + (i - 48) = i by omega] at this
      have t2 : ob x i = false := by simpa using this
      exact t2
    · exact Nat.testBit_lt_two_pow (Nat.lt_of_lt_of_le (N_lt x) (Nat.pow_le_pow_right (by omega) (by omega)))
section
variable {F n : Nat} {sh : Nat → Nat × Nat} {z z' : St} {ku f w ns : Nat} {ls : List Ty} {L : Lks} {U : Md}
theorem RK.fl5 (h : RK sh n z ku f ls ns w L) {v : Int32} (q : fn_X13_fail F sh n z 355 v = some (z', ())) : Fr5 z z' ∧ z'.2.2 = z.2.2 := by
  unfold fn_X13_fail at q
  rw [h.o13, grd_true] at q
  by_cases c : z.1 355 18 = 0
  · rw [if_pos c, lt_t] at q
    cases q
    exact ⟨fun k hk => ⟨by funext j; rw [si_ok hk], rfl⟩, rfl⟩
  · rw [if_neg c] at q
    cases q
    exact ⟨Fr5.rfl', rfl⟩
theorem RK.need5 (h : RK sh n z ku f ls ns w L) {b : Bool} {v : Int32} (q : fn_X13_need F sh n z 355 (bI b) v = some (z', ())) : Fr5 z z' := by
  unfold fn_X13_need at q
  cases b with
  | true =>
    rw [if_neg (show ¬ bI true = 0 from one0)] at q
    cases q
    exact Fr5.rfl'
  | false =>
    rw [if_pos (show bI false = 0 from rfl), h.o13, grd_true] at q
    cases r : fn_X13_fail F sh n z 355 v with
    | none => rw [r] at q; cases q
    | some y =>
      obtain ⟨z1, u⟩ := y
      cases u
      rw [r, cal_s] at q
      cases q
      exact (h.fl5 r).1
theorem RK.takeT5 (h : RK sh n z ku f ls ns 0 L) {x : Int64} (q : fn_X13_take_ F sh n z 355 x = some (z', ())) : Fr5 z z' := by
  have tk : ∀ z1, fn_X13_take F sh n z 355 = some (z1, ()) → Fr5 z z1 := fun z1 q => by
    have h' := h
    obtain ⟨a1, ⟨a2, a3, a4, a5, a6⟩, ⟨b1, b2, b3, b4⟩, c1, d1, d2⟩ := h
    unfold fn_X13_take at q
    rw [h'.o13, grd_true, h'.e0, if_pos rfl, b1] at q
    by_cases c : L.1.1 = 0
    · rw [if_pos (by rw [c]; rfl)] at q
      cases r : fn_X13_fail F sh n z 355 1 with
      | none => rw [r] at q; cases q
      | some y =>
        obtain ⟨z2, u⟩ := y
        cases u
        rw [r, cal_s] at q
        cases q
        exact (h'.fl5 r).1
    · obtain ⟨m, em⟩ : ∃ m, L.1.1 = m + 1 := ⟨L.1.1 - 1, by omega⟩
      have e1 : nI L.1.1 - 1 = nI m := by rw [em, ← nI_1, Int32.add_sub_cancel]
      have ok : ∀ k c, 362 ≤ k → k ≤ 364 → shF k = (c, 200) → okA sh n k c (nI m) = true := fun k c k1 k2 e => by rw [lay_a a1 k c 200 (by omega) e]; exact okI_nI (by omega) (by omega)
      have cp : (nI m).toNatClampNeg = m := nI_clamp (by omega)
      obtain ⟨s1, s2, s3, s4⟩ := b4 m (by omega)
      have L1 : Lay sh n (si z 355 14 (nI m)) := a1.of rfl
      have v1 : (si z 355 14 (nI m)).1 355 14 = nI m := si_ss
      have L2 : ∀ x, Lay sh n (sl (si z 355 14 (nI m)) 355 19 x) := fun x => a1.of rfl
      have L3 : ∀ x y, Lay sh n (sl (sl (si z 355 14 (nI m)) 355 19 x) 355 20 y) := fun x y => a1.of rfl
      have v4 : ∀ x y, (sl (sl (si z 355 14 (nI m)) 355 19 x) 355 20 y).1 364 m = bI (L.1.2 m).2.2 := fun x y => by rw [sl_1, sl_1, si_ok (by omega)]; exact s3
      have okz : okZ (bI (L.1.2 m).2.2) = true := by cases (L.1.2 m).2.2 <;> rfl
      rw [if_neg (nI_ne0 (by omega) (by omega)), e1, lt_t, L1.2.2 355 11 362 rfl, lnk_s, v1, ok 362 102 (by omega) (by omega) rfl, grd_true, lt_t, (L2 _).2.2 355 12 363 rfl, lnk_s, sl_1, v1, ok 363 102 (by omega) (by omega) rfl, grd_true, lt_t, (L3 _ _).2.2 355 13 364 rfl, lnk_s, sl_1, sl_1, v1, ok 364 103 (by omega) (by omega) rfl, grd_true, cp, si_ok (show (364 : Nat) ≠ 355 by omega), s3, okz, grd_true, lt_t] at q
      cases q
      exact fun k hk => ⟨by funext j; rw [si_ok hk, sl_1, sl_1, si_ok hk], by funext j; rw [si_2, sl_ok hk, sl_ok hk, si_2]⟩
  unfold fn_X13_take_ at q
  rw [h.o13, grd_true] at q
  obtain ⟨z1, p1, p2, p3⟩ := h.takeP (F := F)
  rw [p1, cal_s] at q
  have t5 := tk z1 p1
  by_cases c : z1.1 355 18 = 0
  · rw [if_pos c] at q
    by_cases c2 : z1.2.1 355 19 = x
    · rw [if_pos c2] at q
      cases q
      exact t5
    · rw [if_neg c2] at q
      have f5 : ∀ w M, RK sh n z1 ku f ls ns w M → Fr5 z z' := fun w M k => by
        cases r : fn_X13_fail F sh n z1 355 3 with
        | none => rw [r] at q; cases q
        | some y =>
          obtain ⟨z2, u⟩ := y
          cases u
          rw [r, cal_s] at q
          cases q
          exact t5.trans (k.fl5 r).1
      cases r : lTake L with
      | error w => rw [r] at p2; obtain ⟨_, M, p2⟩ := p2; exact f5 w M p2
      | ok q' => rw [r] at p2; exact f5 0 _ p2.1
  · rw [if_neg c] at q
    cases q
    exact t5
theorem RR.takeT5 {r : Px Lks} (h : RR sh n z ku f ls ns r) {x : Int64} (q : fn_X13_take_ F sh n z 355 x = some (z', ())) : Fr5 z z' := by
  cases r with
  | error w =>
    obtain ⟨w0, M, h⟩ := h
    rw [h.takeT_e (by omega)] at q
    cases q
    exact Fr5.rfl'
  | ok M => exact RK.takeT5 h q
theorem aTakes_ok : ∀ (ts : List Ty) (L M : Lks), aTakes ts L = .ok M → ts.length ≤ L.1.1 ∧ M = ((L.1.1 - ts.length, L.1.2), L.2)
  | [], L, M, h => by cases h; exact ⟨Nat.zero_le _, rfl⟩
  | t :: ts, L, M, h => by
    have h' : (lTakeT t L >>= aTakes ts) = .ok M := h
    unfold lTakeT lTake at h'
    by_cases c : L.1.1 = 0
    · rw [if_pos c] at h'; cases h'
    · rw [if_neg c, ok_b] at h'
      cases e : ((L.1.2 (L.1.1 - 1)).1 == t) with
      | false => rw [e] at h'; cases h'
      | true =>
        rw [e, nd_t, ok_b, ok_b] at h'
        obtain ⟨i1, i2⟩ := aTakes_ok ts _ M h'
        have i1' : ts.length ≤ L.1.1 - 1 := i1
        refine ⟨by rw [List.length_cons]; omega, ?_⟩
        rw [i2, List.length_cons]
        show ((L.1.1 - 1 - ts.length, L.1.2), L.2) = _
        rw [show L.1.1 - 1 - ts.length = L.1.1 - (ts.length + 1) by omega]
theorem RR.pushP (hF : 300 ≤ F) {r : Px Lks} (h : RR sh n z ku f ls ns r) {t : Ty} (ht : TBr ns t) (o : Int64) (b : Bool) : ∃ z', fn_X13_push F sh n z 355 (tL t) o (bI b) = some (z', ()) ∧ RR sh n z' ku f ls ns (r >>= lPush (t, rO t o, rI t b)) ∧ FrLk z z' := by
  cases r with
  | error w =>
    obtain ⟨w0, M, h⟩ := h
    exact ⟨z, h.push_e (by omega) _ _ _, ⟨w0, M, h⟩, FrLk.rfl'⟩
  | ok M =>
    obtain ⟨z', q1, q2, q3, q4⟩ := RK.pushP (F := F) hF h ht o b
    exact ⟨z', q1, q2, q3⟩
end
