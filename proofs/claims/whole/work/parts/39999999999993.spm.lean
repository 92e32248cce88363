/-! THE CLASS'S LOOKER: numbers -/
def fitB (o : Nat) (t : Ty) : Bool := if o = 34 then t == [1] else if o = 36 ∨ o = 37 then !isR t else isN t || (decide (29 ≤ o ∧ o ≤ 31) && t == [1])
def tlB (U : Md) (o : Nat) (t : Ty) (M : Lks) : Px Lks := (if o ≤ 31 ∨ (36 ≤ o ∧ o ≤ 41) then lTakeT t M else .ok M) >>= fun M => (if o = 36 ∨ o = 37 then nd_ (hasD U t) 4 else .ok ()) >>= fun _ => lPush (if 42 ≤ o then [o - 40] else if o ≤ 33 then t else [1], 0, false) M
theorem aNum_u (U : Md) (o : Nat) (L : Lks) (h1 : 24 ≤ o) (h2 : o < 45) (h3 : o ≠ 35) : aNum U o L = (if o = 32 ∨ o = 33 then lTakeT [2] L else .ok L) >>= fun L => lTake L >>= fun q => nd_ (fitB o q.1.1) 3 >>= fun _ => tlB U o q.1.1 q.2 := by
  have P : ∀ (s : SS) (M : Lks), ((Except.ok M : Px Lks) >>= lPush s) = lPush s M := fun s M => rfl
  unfold aNum tlB fitB
  by_cases c1 : o < 32
  · have e : decide (28 < o) = decide (29 ≤ o ∧ o ≤ 31) := by
      by_cases d : 28 < o
      · rw [decide_eq_true d, decide_eq_true (by omega)]
      · rw [decide_eq_false d, decide_eq_false (by omega)]
    simp only [if_pos c1, if_neg (show ¬ (o = 32 ∨ o = 33) by omega), ok_b, if_neg (show ¬ o = 34 by omega), if_neg (show ¬ (o = 36 ∨ o = 37) by omega), if_pos (show o ≤ 31 ∨ (36 ≤ o ∧ o ≤ 41) by omega), if_neg (show ¬ 42 ≤ o by omega), if_pos (show o ≤ 33 by omega), e]
  rw [if_neg c1]
  by_cases c2 : o < 34
  · simp only [if_pos c2, if_pos (show o = 32 ∨ o = 33 by omega), ok_b, if_neg (show ¬ o = 34 by omega), if_neg (show ¬ (o = 36 ∨ o = 37) by omega), if_neg (show ¬ (o ≤ 31 ∨ (36 ≤ o ∧ o ≤ 41)) by omega), if_neg (show ¬ 42 ≤ o by omega), if_pos (show o ≤ 33 by omega), decide_eq_false (show ¬ (29 ≤ o ∧ o ≤ 31) by omega), Bool.false_and, Bool.or_false]
  rw [if_neg c2, if_neg (show ¬ (o = 32 ∨ o = 33) by omega)]
  by_cases c3 : o = 34
  · simp only [if_pos c3, ok_b, if_neg (show ¬ (o = 36 ∨ o = 37) by omega), if_neg (show ¬ (o ≤ 31 ∨ (36 ≤ o ∧ o ≤ 41)) by omega), if_neg (show ¬ 42 ≤ o by omega), if_neg (show ¬ o ≤ 33 by omega)]
    unfold lTakeT
    simp only [bA, ok_b]
  rw [if_neg c3]
  by_cases c4 : o < 38
  · simp only [if_pos c4, ok_b, if_neg c3, if_pos (show o = 36 ∨ o = 37 by omega), if_pos (show o ≤ 31 ∨ (36 ≤ o ∧ o ≤ 41) by omega), if_neg (show ¬ 42 ≤ o by omega), if_neg (show ¬ o ≤ 33 by omega)]
  rw [if_neg c4]
  by_cases c5 : o < 42
  · simp only [if_pos c5, ok_b, if_neg c3, if_neg (show ¬ (o = 36 ∨ o = 37) by omega), if_pos (show o ≤ 31 ∨ (36 ≤ o ∧ o ≤ 41) by omega), if_neg (show ¬ 42 ≤ o by omega), if_neg (show ¬ o ≤ 33 by omega), decide_eq_false (show ¬ (29 ≤ o ∧ o ≤ 31) by omega), Bool.false_and, Bool.or_false]
  · simp only [if_neg c5, ok_b, if_neg c3, if_neg (show ¬ (o = 36 ∨ o = 37) by omega), if_neg (show ¬ (o ≤ 31 ∨ (36 ≤ o ∧ o ≤ 41)) by omega), if_pos (show 42 ≤ o by omega), decide_eq_false (show ¬ (29 ≤ o ∧ o ≤ 31) by omega), Bool.false_and, Bool.or_false]
section
variable {F n : Nat} {sh : Nat → Nat × Nat} {z z' : St} {kp f w ns : Nat} {ls : List Ty} {L : Lks} {U : Md}
theorem isNumC_e (x : Int64) : ∃ r, fn_X3_isNumber F sh n z x = some (z, r) := by
  unfold fn_X3_isNumber
  by_cases c : x < 2
  · rw [if_pos c]; exact ⟨_, rfl⟩
  · rw [if_neg c]
    by_cases d : 4 < x
    · rw [if_pos d]; exact ⟨_, rfl⟩
    · rw [if_neg d]; exact ⟨_, rfl⟩
theorem isNumC_t {t : Ty} (h : TB t) : fn_X3_isNumber F sh n z (tL t) = some (z, bI (isN t)) := by
  have v := h.lt.1
  have k : ∀ j, 1 ≤ j → j ≤ 5 → (tV t = j ↔ t = [j]) := fun j a b => by
    constructor
    · intro q
      exact (h.inj (TBk a b)).mp (by rw [tLk]; unfold tL; rw [q])
    · intro q; subst q; simp [tV]
  unfold fn_X3_isNumber isN tL
  by_cases c2 : tV t < 2
  · rw [if_pos ((lNlt (x := 2) 2 rfl (by omega) (by omega)).mpr c2), beq_eq_false_iff_ne.mpr (fun q => by have := (k 2 (by omega) (by omega)).mpr q; omega), beq_eq_false_iff_ne.mpr (fun q => by have := (k 3 (by omega) (by omega)).mpr q; omega), beq_eq_false_iff_ne.mpr (fun q => by have := (k 4 (by omega) (by omega)).mpr q; omega)]; rfl
  rw [if_neg (fun q => c2 ((lNlt (x := 2) 2 rfl (by omega) (by omega)).mp q))]
  by_cases c4 : 4 < tV t
  · rw [if_pos ((lNgt (x := 4) 4 rfl (by omega) (by omega)).mpr c4), beq_eq_false_iff_ne.mpr (fun q => by have := (k 2 (by omega) (by omega)).mpr q; omega), beq_eq_false_iff_ne.mpr (fun q => by have := (k 3 (by omega) (by omega)).mpr q; omega), beq_eq_false_iff_ne.mpr (fun q => by have := (k 4 (by omega) (by omega)).mpr q; omega)]; rfl
  rw [if_neg (fun q => c4 ((lNgt (x := 4) 4 rfl (by omega) (by omega)).mp q))]
  have cs : tV t = 2 ∨ tV t = 3 ∨ tV t = 4 := by omega
  rcases cs with c | c | c
  · rw [(k 2 (by omega) (by omega)).mp c]; rfl
  · rw [(k 3 (by omega) (by omega)).mp c]; rfl
  · rw [(k 4 (by omega) (by omega)).mp c]; rfl
theorem is1_t {t : Ty} (h : TB t) : tL t = 1 ↔ t = [1] := by
  have : tL t = tL [1] ↔ t = [1] := h.inj (TBk (by omega) (by omega))
  rw [tLk] at this
  exact this
/-- from the type on: is it fit -/
theorem fit_t (hF : 300 ≤ F) {o : Nat} (h2 : o < 45) (x : Int64) : ∃ p : Int32, (∀ t, TB t → x = tL t → p = bI (fitB o t)) ∧ cal (fn_X3_isNumber F sh n z x) (fun z_6 r_7 => if nI o < 29 then fn_X3_reckon_B63 F sh n (nI o) x 62 z_6 r_7 else if (31 : Int32) < nI o then fn_X3_reckon_B63 F sh n (nI o) x 62 z_6 r_7 else if (r_7 : Int32) = 0 then if x = 1 then fn_X3_reckon_B53 F sh n 62 (nI o) x z_6 else fn_X3_reckon_B58 F sh n 62 (nI o) x z_6 0 else fn_X3_reckon_B53 F sh n 62 (nI o) x z_6) = fn_X3_reckon_B111 F sh n 62 (nI o) x z p := by
  have E : ∀ (m : Nat) (x : Int32), x = nI m → m < 100 → (nI o = x ↔ o = m) := fun m x e hm => nIe m e (by omega) (by omega)
  obtain ⟨r, er⟩ := isNumC_e (F := F) (z := z) (sh := sh) (n := n) x
  have rt : ∀ t, TB t → x = tL t → r = bI (isN t) := fun t tb ex => by
    rw [ex, isNumC_t tb] at er
    cases er; rfl
  obtain ⟨r2, er2⟩ := isRef_e (F := F) (z := z) (sh := sh) (n := n) hF x
  have rt2 : ∀ t, TB t → x = tL t → r2 = bI (isR t) := fun t tb ex => by
    rw [ex, isRefC_t hF tb] at er2
    cases er2; rfl
  rw [er, cal_s]
  have b63 : (o < 29 ∨ 31 < o) → ∃ p : Int32, (∀ t, TB t → x = tL t → p = bI (fitB o t)) ∧ fn_X3_reckon_B63 F sh n (nI o) x 62 z r = fn_X3_reckon_B111 F sh n 62 (nI o) x z p := fun ho => by
    unfold fn_X3_reckon_B63
    by_cases c34 : o = 34
    · rw [if_pos ((E 34 34 rfl (by omega)).mpr c34)]
      by_cases cx : x = 1
      · rw [if_pos cx]
        refine ⟨1, fun t tb ex => ?_, rfl⟩
        unfold fitB
        rw [if_pos c34, (is1_t tb).mp (by rw [← ex]; exact cx)]; rfl
      · rw [if_neg cx]
        refine ⟨0, fun t tb ex => ?_, rfl⟩
        unfold fitB
        rw [if_pos c34, beq_eq_false_iff_ne.mpr (fun q => cx (by rw [ex]; exact (is1_t tb).mpr q))]; rfl
    rw [if_neg (fun q => c34 ((E 34 34 rfl (by omega)).mp q))]
    have b97 : (o = 36 ∨ o = 37) → ∃ p : Int32, (∀ t, TB t → x = tL t → p = bI (fitB o t)) ∧ fn_X3_reckon_B97 F sh n x 62 (nI o) z = fn_X3_reckon_B111 F sh n 62 (nI o) x z p := fun hh => by
      unfold fn_X3_reckon_B97
      rw [er2, cal_s]
      by_cases c : r2 = 0
      · rw [if_pos c]
        refine ⟨1, fun t tb ex => ?_, rfl⟩
        have := rt2 t tb ex
        rw [c] at this
        unfold fitB
        rw [if_neg c34, if_pos hh]
        cases e : isR t with
        | false => rfl
        | true => rw [e] at this; exact absurd this (by decide)
      · rw [if_neg c]
        refine ⟨0, fun t tb ex => ?_, rfl⟩
        have := rt2 t tb ex
        unfold fitB
        rw [if_neg c34, if_pos hh]
        cases e : isR t with
        | false => rw [e] at this; exact absurd this c
        | true => rfl
    by_cases c36 : o = 36
    · rw [if_pos ((E 36 36 rfl (by omega)).mpr c36)]; exact b97 (.inl c36)
    rw [if_neg (fun q => c36 ((E 36 36 rfl (by omega)).mp q))]
    by_cases c37 : o = 37
    · rw [if_pos ((E 37 37 rfl (by omega)).mpr c37)]; exact b97 (.inr c37)
    rw [if_neg (fun q => c37 ((E 37 37 rfl (by omega)).mp q))]
    refine ⟨r, fun t tb ex => ?_, rfl⟩
    unfold fitB
    rw [if_neg c34, if_neg (by omega), decide_eq_false (by omega), Bool.false_and, Bool.or_false]
    exact rt t tb ex
  by_cases c1 : o < 29
  · rw [if_pos ((nIlt (x := 29) 29 rfl (by omega) (by omega)).mpr c1)]; exact b63 (.inl c1)
  rw [if_neg (fun q => c1 ((nIlt (x := 29) 29 rfl (by omega) (by omega)).mp q))]
  by_cases c2 : 31 < o
  · rw [if_pos ((nIgt (x := 31) 31 rfl (by omega) (by omega)).mpr c2)]; exact b63 (.inr c2)
  rw [if_neg (fun q => c2 ((nIgt (x := 31) 31 rfl (by omega) (by omega)).mp q))]
  have ef : ∀ t, fitB o t = (isN t || t == [1]) := fun t => by
    unfold fitB
    rw [if_neg (by omega), if_neg (by omega), decide_eq_true (by omega), Bool.true_and]
  by_cases cr : r = 0
  · rw [if_pos cr]
    by_cases cx : x = 1
    · rw [if_pos cx]
      refine ⟨1, fun t tb ex => ?_, rfl⟩
      rw [ef, (is1_t tb).mp (by rw [← ex]; exact cx)]; rfl
    · rw [if_neg cx]
      refine ⟨0, fun t tb ex => ?_, rfl⟩
      have := rt t tb ex
      rw [ef, beq_eq_false_iff_ne.mpr (fun q => cx (by rw [ex]; exact (is1_t tb).mpr q)), Bool.or_false, ← this, cr]
  · rw [if_neg cr]
    refine ⟨1, fun t tb ex => ?_, rfl⟩
    have := rt t tb ex
    rw [ef]
    cases e : isN t with
    | false => rw [e] at this; exact absurd this cr
    | true => rfl
theorem CR.rk121 (hF : 300 ≤ F) {r : Px Lks} (h : CR sh n z kp f ls U.1.2.2 r) (hu : ∀ z', FrQc z z' → CnL F sh n z' kp U) (hm : MdO U) {o : Nat} (h1 : 24 ≤ o) (h2 : o < 45) {x : Int64} {t : Ty} (ht : ∀ M, r = .ok M → TBr U.1.2.2 t ∧ x = tL t) (ha : o = 36 ∨ o = 37 → AbO U.1.2.2 x) : ∃ z', fn_X3_reckon_B121 F sh n (nI o) 62 x z = some (z', ()) ∧ CR sh n z' kp f ls U.1.2.2 (r >>= tlB U o t) ∧ FrQc z z' := by
  have E : ∀ (m : Nat) (x : Int32), x = nI m → m < 100 → (nI o = x ↔ o = m) := fun m x e hm => nIe m e (by omega) (by omega)
  have b170 : ∀ z1 (r1 : Px Lks), CR sh n z1 kp f ls U.1.2.2 r1 → (∀ M, r1 = .ok M → TBr U.1.2.2 t ∧ x = tL t) → ∃ z', fn_X3_reckon_B170 F sh n (nI o) 62 x z1 = some (z', ()) ∧ CR sh n z' kp f ls U.1.2.2 (r1 >>= lPush (if 42 ≤ o then [o - 40] else if o ≤ 33 then t else [1], 0, false)) ∧ FrQc z1 z' := fun z1 r1 k1 ht1 => by
    unfold fn_X3_reckon_B170
    by_cases c : o < 42
    · rw [if_pos ((nIlt (x := 42) 42 rfl (by omega) (by omega)).mpr c), if_neg (show ¬ 42 ≤ o by omega)]
      by_cases d : 33 < o
      · obtain ⟨z2, q1, q2, q3⟩ := k1.put (F := F) (t := [1]) (x := 1) (fun _ _ => ⟨TBrk (by omega) (by omega), by rw [tLk]; rfl⟩)
        rw [if_pos ((nIgt (x := 33) 33 rfl (by omega) (by omega)).mpr d), if_neg (show ¬ o ≤ 33 by omega), q1, cal_s]
        exact ⟨z2, rfl, q2, q3⟩
      · obtain ⟨z2, q1, q2, q3⟩ := k1.put (F := F) (t := t) (x := x) ht1
        rw [if_neg (fun q => d ((nIgt (x := 33) 33 rfl (by omega) (by omega)).mp q)), if_pos (show o ≤ 33 by omega), q1, cal_s]
        exact ⟨z2, rfl, q2, q3⟩
    · have e : (nI o - 40).toInt64 = tL [o - 40] := by
        rw [tLk]
        have : nI o - 40 = nI (o - 40) := pk_sub (b := 40) (by omega)
        rw [this, nI_l (by omega)]
      obtain ⟨z2, q1, q2, q3⟩ := k1.put (F := F) (t := [o - 40]) (x := tL [o - 40]) (fun _ _ => ⟨TBrk (by omega) (by omega), rfl⟩)
      rw [if_neg (fun q => c ((nIlt (x := 42) 42 rfl (by omega) (by omega)).mp q)), if_pos (show 42 ≤ o by omega), e, q1, cal_s]
      exact ⟨z2, rfl, q2, q3⟩
  have b144 : ∀ z1 (r1 : Px Lks), CR sh n z1 kp f ls U.1.2.2 r1 → (∀ M, r1 = .ok M → TBr U.1.2.2 t ∧ x = tL t) → FrQc z z1 → ∃ z', fn_X3_reckon_B144 F sh n (nI o) 62 x z1 = some (z', ()) ∧ CR sh n z' kp f ls U.1.2.2 (r1 >>= fun M => (if o = 36 ∨ o = 37 then nd_ (hasD U t) 4 else .ok ()) >>= fun _ => lPush (if 42 ≤ o then [o - 40] else if o ≤ 33 then t else [1], 0, false) M) ∧ FrQc z1 z' := fun z1 r1 k1 ht1 fz => by
    unfold fn_X3_reckon_B144
    by_cases c : o = 36 ∨ o = 37
    · obtain ⟨z2, q1, q2, q3, _⟩ := k1.chk (F := F) (v := 4) (iv := 4) rfl (by omega) (by omega) (g := fun _ => hasD U t) (X := fn_X3_has F sh n z1 62 x 2) (fun M e => by
        obtain ⟨t1, t2⟩ := ht1 M e
        rw [t2]
        exact (k1.has_c (U := U) hF (hu z1 fz) hm t1).2.1) (fun w e => k1.has_x hF (hu z1 fz) (ha c) 2) (k := fun z => fn_X3_reckon_B170 F sh n (nI o) 62 x z)
      obtain ⟨z3, s1, s2, s3⟩ := b170 z2 _ q2 (fun M e => by
        cases er : r1 with
        | error w => rw [er] at e; cases e
        | ok M' => exact ht1 M' er)
      have e156 : fn_X3_reckon_B156 F sh n 62 x (nI o) z1 = some (z3, ()) := by
        unfold fn_X3_reckon_B156
        rw [q1, s1]
      refine ⟨z3, ?_, ?_, q3.trans s3⟩
      · rw [e156]
        rcases c with c | c
        · rw [if_pos ((E 36 36 rfl (by omega)).mpr c)]
        · rw [if_pos ((E 37 37 rfl (by omega)).mpr c)]
          by_cases d : nI o = 36
          · rw [if_pos d]
          · rw [if_neg d]
      · simp only [if_pos c]
        simpa only [bA, ok_b] using s2
    · rw [if_neg (fun q => c (.inl ((E 36 36 rfl (by omega)).mp q))), if_neg (fun q => c (.inr ((E 37 37 rfl (by omega)).mp q)))]
      simp only [if_neg c, ok_b]
      exact b170 z1 r1 k1 ht1
  have b139 : (o ≤ 31 ∨ (36 ≤ o ∧ o ≤ 41)) → ∃ z', fn_X3_reckon_B139 F sh n 62 x (nI o) z = some (z', ()) ∧ CR sh n z' kp f ls U.1.2.2 (r >>= tlB U o t) ∧ FrQc z z' := fun ho => by
    obtain ⟨z2, q1, q2, q3⟩ := h.only (F := F) (t := t) (x := x) (fun M e => ⟨(ht M e).1.1, (ht M e).2⟩)
    obtain ⟨z3, s1, s2, s3⟩ := b144 z2 _ q2 (fun M e => by
      cases er : r with
      | error w => rw [er] at e; cases e
      | ok M' => exact ht M' er) q3
    unfold fn_X3_reckon_B139
    rw [q1, cal_s]
    refine ⟨z3, s1, ?_, q3.trans s3⟩
    unfold tlB
    simp only [if_pos ho]
    rw [px_assoc] at s2
    exact s2
  have b144' : ¬ (o ≤ 31 ∨ (36 ≤ o ∧ o ≤ 41)) → ∃ z', fn_X3_reckon_B144 F sh n (nI o) 62 x z = some (z', ()) ∧ CR sh n z' kp f ls U.1.2.2 (r >>= tlB U o t) ∧ FrQc z z' := fun ho => by
    obtain ⟨z3, s1, s2, s3⟩ := b144 z _ h ht FrQc.rfl'
    refine ⟨z3, s1, ?_, s3⟩
    unfold tlB
    simp only [if_neg ho, ok_b]
    exact s2
  unfold fn_X3_reckon_B121
  by_cases c1 : o ≤ 31
  · rw [if_pos ((nIle (x := 31) 31 rfl (by omega) (by omega)).mpr c1)]; exact b139 (.inl c1)
  rw [if_neg (fun q => c1 ((nIle (x := 31) 31 rfl (by omega) (by omega)).mp q))]
  by_cases c2 : o < 36
  · rw [if_pos ((nIlt (x := 36) 36 rfl (by omega) (by omega)).mpr c2)]; exact b144' (by omega)
  rw [if_neg (fun q => c2 ((nIlt (x := 36) 36 rfl (by omega) (by omega)).mp q))]
  by_cases c3 : 41 < o
  · rw [if_pos ((nIgt (x := 41) 41 rfl (by omega) (by omega)).mpr c3)]; exact b144' (by omega)
  rw [if_neg (fun q => c3 ((nIgt (x := 41) 41 rfl (by omega) (by omega)).mp q))]
  exact b139 (by omega)
theorem CR.rk111 (hF : 300 ≤ F) {r : Px Lks} (h : CR sh n z kp f ls U.1.2.2 r) (hu : ∀ z', FrQc z z' → CnL F sh n z' kp U) (hm : MdO U) {o : Nat} (h1 : 24 ≤ o) (h2 : o < 45) {x : Int64} {t : Ty} (ht : ∀ M, r = .ok M → TBr U.1.2.2 t ∧ x = tL t) (ha : o = 36 ∨ o = 37 → AbO U.1.2.2 x) {p : Int32} (hp : ∀ t, TB t → x = tL t → p = bI (fitB o t)) : ∃ z', fn_X3_reckon_B111 F sh n 62 (nI o) x z p = some (z', ()) ∧ CR sh n z' kp f ls U.1.2.2 (r >>= fun M => nd_ (fitB o t) 3 >>= fun _ => tlB U o t M) ∧ FrQc z z' := by
  obtain ⟨z2, q1, q2, q3, _⟩ := h.chkI (F := F) (c := p = 0) (v := 3) (iv := 3) rfl (by omega) (by omega) (g := fun _ => fitB o t) (fun M e => by
    obtain ⟨t1, t2⟩ := ht M e
    rw [hp t t1.1 t2]
    cases fitB o t <;> simp [bI]) (k := fun z => fn_X3_reckon_B121 F sh n (nI o) 62 x z)
  obtain ⟨z3, s1, s2, s3⟩ := q2.rk121 (F := F) hF (fun z' q => hu z' (q3.trans q)) hm h1 h2 (x := x) (t := t) (fun M e => by
    cases er : r with
    | error w => rw [er] at e; cases e
    | ok M' => exact ht M' er) ha
  unfold fn_X3_reckon_B111
  rw [q1, s1]
  refine ⟨z3, rfl, ?_, q3.trans s3⟩
  simpa only [bA, ok_b] using s2
theorem CK.reckon (hF : 300 ≤ F) (h : CK sh n z kp f ls U.1.2.2 L) (hu : ∀ z', FrQc z z' → CnL F sh n z' kp U) (hm : MdO U) {o : Nat} (h1 : 24 ≤ o) (h2 : o < 45) (h3 : o ≠ 35) : ∃ z', fn_X3_reckon F sh n z 62 (nI o) = some (z', ()) ∧ CR sh n z' kp f ls U.1.2.2 (aNum U o L) ∧ FrQc z z' := by
  have E : ∀ (m : Nat) (x : Int32), x = nI m → m < 100 → (nI o = x ↔ o = m) := fun m x e hm => nIe m e (by omega) (by omega)
  have k0 : CR sh n z kp f ls U.1.2.2 (.ok L) := h
  have b19 : ∀ z1 (r : Px Lks), CR sh n z1 kp f ls U.1.2.2 r → FrQc z z1 → ((∃ w, r = .error w) → ¬ (o = 36 ∨ o = 37)) → ∃ z', fn_X3_reckon_B19 F sh n 62 (nI o) z1 = some (z', ()) ∧ CR sh n z' kp f ls U.1.2.2 (r >>= fun L => lTake L >>= fun q => nd_ (fitB o q.1.1) 3 >>= fun _ => tlB U o q.1.1 q.2) ∧ FrQc z1 z' := fun z1 r k1 fz hne => by
    unfold fn_X3_reckon_B19
    rw [k1.o3, grd_true]
    cases er : r with
    | error w =>
      rw [er] at k1
      obtain ⟨z2, x, q1, q2, q3⟩ := k1.2.take_e (F := F) k1.1
      have k2 : CR sh n z2 kp f ls U.1.2.2 (.error w) := ⟨k1.1, q2⟩
      obtain ⟨p, p1, p2⟩ := fit_t (F := F) (sh := sh) (n := n) (z := z2) hF h2 x
      obtain ⟨z3, s1, s2, s3⟩ := k2.rk111 (F := F) hF (fun z' q => hu z' ((fz.trans q3).trans q)) hm h1 h2 (x := x) (t := [1]) (fun M e => by cases e) (fun c => absurd c (hne ⟨w, er⟩)) p1
      rw [q1, cal_s, p2, s1]
      exact ⟨z3, rfl, s2, q3.trans s3⟩
    | ok M =>
      rw [er] at k1
      have k1' : CK sh n z1 kp f ls U.1.2.2 M := k1
      obtain ⟨z2, x, q1, q2, q3⟩ := k1'.take (F := F)
      obtain ⟨p, p1, p2⟩ := fit_t (F := F) (sh := sh) (n := n) (z := z2) hF h2 x
      rw [q1, cal_s, p2, ok_b]
      rcases q3 with ⟨e1, e2, e3⟩ | ⟨q, e1, e2, e3, e4, e5, e6⟩
      · have k2 : CR sh n z2 kp f ls U.1.2.2 (.error 1) := ⟨by omega, e3⟩
        obtain ⟨z3, s1, s2, s3⟩ := k2.rk111 (F := F) hF (fun z' q => hu z' ((fz.trans q2).trans q)) hm h1 h2 (x := x) (t := [1]) (fun M e => by cases e) (fun c => by rw [e2]; exact AbO.z0 _) p1
        rw [e1]
        exact ⟨z3, s1, s2, q2.trans s3⟩
      · have k2 : CR sh n z2 kp f ls U.1.2.2 (.ok q.2) := e3
        obtain ⟨z3, s1, s2, s3⟩ := k2.rk111 (F := F) hF (fun z' q => hu z' ((fz.trans q2).trans q)) hm h1 h2 (x := x) (t := q.1.1) (fun M e => ⟨e5, e2⟩) (fun c => by rw [e2]; exact AbO.tb e5) p1
        rw [e1]
        exact ⟨z3, s1, s2, q2.trans s3⟩
  rw [aNum_u U o L h1 h2 h3]
  unfold fn_X3_reckon
  by_cases c : o = 32 ∨ o = 33
  · obtain ⟨z1, q1, q2, q3⟩ := k0.only (F := F) (t := [2]) (x := 2) (fun _ _ => ⟨TBk (by omega) (by omega), by rw [tLk]; rfl⟩)
    obtain ⟨z2, s1, s2, s3⟩ := b19 z1 _ q2 q3 (fun _ => by omega)
    have e12 : fn_X3_reckon_B12 F sh n 62 (nI o) z = some (z2, ()) := by
      unfold fn_X3_reckon_B12
      rw [h.cb.o3, grd_true, q1, cal_s, s1]
    refine ⟨z2, ?_, ?_, q3.trans s3⟩
    · rw [e12]
      by_cases d : nI o = 32
      · rw [if_pos d]
      · rw [if_neg d, if_pos ((E 33 33 rfl (by omega)).mpr (by
          rcases c with c | c
          · exact absurd ((E 32 32 rfl (by omega)).mpr c) d
          · exact c))]
    · rw [if_pos c]; exact s2
  · rw [if_neg (fun q => c (.inl ((E 32 32 rfl (by omega)).mp q))), if_neg (fun q => c (.inr ((E 33 33 rfl (by omega)).mp q))), if_neg c]
    exact b19 z _ k0 FrQc.rfl' (fun ⟨w, e⟩ => by cases e)
end
