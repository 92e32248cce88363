/-! THE REFERENCE'S LOOKER: rows of values, structures -/
section
variable {F n : Nat} {sh : Nat → Nat × Nat} {z z' : St} {ku f w ns : Nat} {ls : List Ty} {L : Lks} {U : Md}
theorem RR.takeT {r : Px Lks} (h : RR sh n z ku f ls ns r) {t : Ty} (ht : TB t) : ∃ z', fn_X13_take_ F sh n z 355 (tL t) = some (z', ()) ∧ RR sh n z' ku f ls ns (r >>= lTakeT t) ∧ FrLk z z' := by
  cases r with
  | error w =>
    obtain ⟨w0, M, h⟩ := h
    exact ⟨z, h.takeT_e (by omega) _, ⟨w0, M, h⟩, FrLk.rfl'⟩
  | ok M =>
    obtain ⟨z1, q1, q2, q3⟩ := RK.takeTP (F := F) h ht
    refine ⟨z1, q1, ?_, q3⟩
    rw [ok_b, lTakeT_q]
    exact q2.rr
theorem RR.takeR (hF : 300 ≤ F) {r : Px Lks} (h : RR sh n z ku f ls ns r) {t : Ty} (ht : TB t) (wr : Bool) : ∃ z', fn_X13_takeReference F sh n z 355 (tL t) (bI wr) = some (z', ()) ∧ RT sh n z' ku f ls ns (r >>= lTakeR (some t) wr) ∧ FrLk z z' := by
  cases r with
  | error w =>
    obtain ⟨w0, M, h⟩ := h
    exact ⟨z, h.takeR_e (by omega) _ _, ⟨w0, M, h⟩, FrLk.rfl'⟩
  | ok M => exact RK.takeRP (F := F) hF h (some t) (fun u e => by cases e; exact ht) wr
theorem RR.o13 {r : Px Lks} (h : RR sh n z ku f ls ns r) : okO sh n 355 13 = true := by
  cases r with
  | error w => obtain ⟨_, M, h⟩ := h; exact h.o13
  | ok M => exact RK.o13 h
theorem RR.un {r : Px Lks} (h : RR sh n z ku f ls ns r) : z.2.2 355 0 = some ku := by
  cases r with
  | error w => obtain ⟨_, M, h⟩ := h; exact h.2.1.1
  | ok M => exact h.2.1.1
theorem PlO.vec {t : Ty} (h : PlO ns t) : TBr ns (7 :: t) ∧ isR (7 :: t) = false := by
  obtain ⟨⟨h1, h2, h3⟩, hp, h6⟩ := h
  refine ⟨⟨⟨by rw [List.length_cons]; omega, ⟨by show 1 ≤ 7; omega, by show 7 ≤ 9; omega⟩, fun b hb => ?_⟩, fun q => by simp [isR, hdT] at q, fun s hs => h3 s ?_⟩, by simp [isR, hdT]⟩
  · rcases List.mem_cons.mp hb with e | e
    · omega
    · exact h1.2.2 b e
  · obtain ⟨b, p, e, _⟩ := h1.ne
    subst e
    cases p with
    | nil => simp [endS] at hs
    | cons c p => exact hs
theorem RK.onVector (hF : 300 ≤ F) (h : RK sh n z ku f ls U.1.2.2 0 L) (hu : ∀ z', FrLk z z' → UnL F sh n z' ku U) (hm : MdO U) {o a b : Nat} (o1 : 52 ≤ o) (o2 : o < 60) (ha : o < 59 → a < (elsOf U).length) (hb : b < 256) : OpR sh n z ku f ls U.1.2.2 (fn_X13_onVector F sh n z 355 (nI o) (nI a) (nI b)) (aVec U ls o a b L) := by
  unfold fn_X13_onVector aVec
  have h0 : RR sh n z ku f ls U.1.2.2 (.ok L) := h
  by_cases c59 : o = 59
  · rw [if_pos ((nIe (x := 59) 59 rfl (by omega) (by omega)).mpr c59), if_pos c59, h.o13, grd_true]
    have tb : TBr U.1.2.2 [7, 2] := (PlO.vec (t := [2]) ⟨TBrk (by omega) (by omega), by simp [isR, hdT], by simp⟩).1
    have e : tL [7, 2] = 1794 := by simp [tL, tV]; rfl
    obtain ⟨z1, q1, q2, q3⟩ := h0.takeT (F := F) tb.1
    rw [e] at q1
    obtain ⟨z2, p1, p2, p3⟩ := q2.give (F := F) hF (t := [7, 2]) (x := 1794) (fun _ _ => ⟨tb, e.symm⟩)
    rw [q1, cal_s, p1, cal_s]
    exact ⟨z2, rfl, p2, q3.trans p3⟩
  · rw [if_neg (fun q => c59 ((nIe (x := 59) 59 rfl (by omega) (by omega)).mp q)), if_neg c59]
    have ha' := ha (by omega)
    have un := hu z FrLk.rfl'
    have pl : PlO U.1.2.2 ((elsOf U).getD a []) := hm.2.2.2.1 _ (by
      rw [List.getD_eq_getElem?_getD, List.getElem?_eq_getElem ha']; exact List.getElem_mem ha')
    have bb := beforeR_t (F := F) (n := n) (sh := sh) (z := z) (b := 7) hF (by omega) pl.1.1 pl.2.2
    have bb' : fn_X13_before F sh n z 7 (tL ((elsOf U).getD a [])) = some (z, tL (7 :: (elsOf U).getD a [])) := bb
    rw [h.o13, grd_true, h.2.1.1, lnk_s, un.1, grd_true, un.2.2.2.2 a ha', cal_s, bb', cal_s]
    simp only
    generalize (elsOf U).getD a [] = e at *
    obtain ⟨tv, _⟩ := pl.vec
    by_cases c52 : o = 52
    · rw [if_pos ((nIe (x := 52) 52 rfl (by omega) (by omega)).mpr c52), if_pos c52]
      have lp : ∀ r p g z1 rr, p + r = b → r < g → RR sh n z1 ku f ls U.1.2.2 rr → ∃ z', fn_X13_onVector_L49 F sh n (nI b) 355 (tL (7 :: e)) (tL e) g z1 (nI p) = some (z', ()) ∧ RR sh n z' ku f ls U.1.2.2 (rr >>= aTakes (List.replicate r e) >>= lPush (7 :: e, 0, false)) ∧ FrLk z1 z' := by
        intro r
        induction r with
        | zero =>
          intro p g z1 rr ep hg T
          obtain ⟨g, rfl⟩ : ∃ q, g = q + 1 := ⟨g - 1, by omega⟩
          obtain ⟨z2, p1, p2, p3⟩ := T.give (F := F) hF (t := 7 :: e) (x := tL (7 :: e)) (fun _ _ => ⟨tv, rfl⟩)
          conv => enter [1, z', 1, 1]; unfold fn_X13_onVector_L49
          rw [if_pos ((nI_leI (by omega) (by omega)).mpr (by omega)), p1, cal_s]
          refine ⟨z2, rfl, ?_, p3⟩
          cases rr <;> exact p2
        | succ r ih =>
          intro p g z1 rr ep hg T
          obtain ⟨g, rfl⟩ : ∃ q, g = q + 1 := ⟨g - 1, by omega⟩
          obtain ⟨z2, p1, p2, p3⟩ := T.takeT (F := F) pl.1.1
          obtain ⟨z3, s1, s2, s3⟩ := ih (p + 1) g z2 _ (by omega) (by omega) p2
          conv => enter [1, z', 1, 1]; unfold fn_X13_onVector_L49
          rw [if_neg (fun q => by have := (nI_leI (by omega) (by omega)).mp q; omega), p1, cal_s, nI_1, s1]
          refine ⟨z3, rfl, ?_, p3.trans s3⟩
          rw [px_assoc rr] at s2
          exact s2
      obtain ⟨z3, s1, s2, s3⟩ := lp b 0 F z (.ok L) (by omega) (by omega) h0
      exact ⟨z3, s1, s2, s3⟩
    · rw [if_neg (fun q => c52 ((nIe (x := 52) 52 rfl (by omega) (by omega)).mp q)), if_neg c52]
      have t3 : TB [3] := TBk (by omega) (by omega)
      have e3 : tL [3] = 3 := by rw [tLk]; rfl
      have pick : ∀ (k : Nat) (x : Int32), x = nI k → k < 2 ^ 31 → (nI o = x ↔ o = k) := fun k x hx hk => nIe k hx (by omega) hk
      -- the end: RT to the last push
      have tail : ∀ z1 rr, RR sh n z1 ku f ls U.1.2.2 rr → FrLk z z1 → OpR sh n z ku f ls U.1.2.2 (fn_X13_onVector_B124 F sh n (nI o) 355 (tL (7 :: e)) (tL e) z1) (rr >>= fun L => lTakeR (some (7 :: e)) (decide (54 < o)) L >>= fun q => nd_ (!decide (55 < o) || lSole ls q.2 q.1.2.1) 6 >>= fun _ => if o = 53 then lPush ([3], 0, false) q.2 else if o = 57 then lPush (e, 0, false) q.2 else if o < 56 then lPush ((if o = 55 then 9 else 8) :: e, q.1.2.1, true) q.2 else .ok q.2) := fun z1 rr T fz => by
        have b138 : OpR sh n z ku f ls U.1.2.2 (fn_X13_onVector_B138 F sh n 355 (tL (7 :: e)) (nI o) (tL e) z1 (bI (decide (54 < o)))) (rr >>= fun L => lTakeR (some (7 :: e)) (decide (54 < o)) L >>= fun q => nd_ (!decide (55 < o) || lSole ls q.2 q.1.2.1) 6 >>= fun _ => if o = 53 then lPush ([3], 0, false) q.2 else if o = 57 then lPush (e, 0, false) q.2 else if o < 56 then lPush ((if o = 55 then 9 else 8) :: e, q.1.2.1, true) q.2 else .ok q.2) := by
          obtain ⟨z2, q1, q2, q3⟩ := T.takeR (F := F) hF tv.1 (decide (54 < o))
          unfold fn_X13_onVector_B138
          rw [q1, cal_s, lt_t, ← px_assoc]
          cases r : (rr >>= lTakeR (some (7 :: e)) (decide (54 < o))) with
          | error w =>
            rw [r] at q2
            obtain ⟨w0, M, q2⟩ := q2
            rw [if_neg (q2.ee w0)]
            exact ⟨z2, rfl, ⟨w0, M, q2⟩, fz.trans q3⟩
          | ok q =>
            rw [r] at q2
            obtain ⟨k1, k2, k3⟩ := q2
            rw [if_pos k1.e0, k2.2.1, ok_b]
            refine OpR.lift (fz.trans q3) ?_
            -- behind the need, with no fault
            have b173 : ∀ z3, RK sh n z3 ku f ls U.1.2.2 0 q.2 → OpR sh n z3 ku f ls U.1.2.2 (fn_X13_onVector_B173 F sh n (nI o) 355 (tL e) q.1.2.1 z3) (if o = 53 then lPush ([3], 0, false) q.2 else if o = 57 then lPush (e, 0, false) q.2 else if o < 56 then lPush ((if o = 55 then 9 else 8) :: e, q.1.2.1, true) q.2 else .ok q.2) := fun z3 k => by
              have o5 : o = 53 ∨ o = 54 ∨ o = 55 ∨ o = 56 ∨ o = 57 ∨ o = 58 := by omega
              rcases o5 with eo | eo | eo | eo | eo | eo
              · subst eo
                obtain ⟨z4, g1, g2, g3⟩ := k.giveP (F := F) hF (t := [3]) (TBrk (by omega) (by omega))
                rw [e3] at g1
                refine ⟨z4, ?_, g2, g3⟩
                show cal (fn_X13_give F sh n z3 355 3) (fun z_39 _ => fn_X13_onVector_B186 F sh n (nI 53) (tL e) 355 q.1.2.1 z_39) = _
                rw [g1, cal_s]; rfl
              · subst eo
                obtain ⟨z4, g0, g1, g2, g3⟩ := k.pushB (F := F) hF pl.1 pl.2.1 pl.2.2 (r := 8) (.inl rfl) q.1.2.1 true
                have g0' : fn_X13_before F sh n z3 8 (tL e) = some (z3, tL (8 :: e)) := g0
                have g1' : fn_X13_push F sh n z3 355 (tL (8 :: e)) q.1.2.1 1 = some (z4, ()) := g1
                refine ⟨z4, ?_, g2, g3⟩
                show fn_X13_onVector_B212 F sh n (tL e) 355 q.1.2.1 (nI 54) z3 8 = _
                unfold fn_X13_onVector_B212
                rw [g0', cal_s, g1', cal_s]; rfl
              · subst eo
                obtain ⟨z4, g0, g1, g2, g3⟩ := k.pushB (F := F) hF pl.1 pl.2.1 pl.2.2 (r := 9) (.inr rfl) q.1.2.1 true
                have g0' : fn_X13_before F sh n z3 9 (tL e) = some (z3, tL (9 :: e)) := g0
                have g1' : fn_X13_push F sh n z3 355 (tL (9 :: e)) q.1.2.1 1 = some (z4, ()) := g1
                refine ⟨z4, ?_, g2, g3⟩
                show fn_X13_onVector_B212 F sh n (tL e) 355 q.1.2.1 (nI 55) z3 9 = _
                unfold fn_X13_onVector_B212
                rw [g0', cal_s, g1', cal_s]; rfl
              · subst eo; exact ⟨z3, rfl, k, FrLk.rfl'⟩
              · subst eo
                obtain ⟨z4, g1, g2, g3⟩ := k.giveP (F := F) hF pl.1
                refine ⟨z4, ?_, g2, g3⟩
                show cal (fn_X13_give F sh n z3 355 (tL e)) (fun z_25 _ => some (z_25, ())) = _
                rw [g1, cal_s]
              · subst eo; exact ⟨z3, rfl, k, FrLk.rfl'⟩
            by_cases c55 : o ≤ 55
            · rw [if_pos ((nIle (x := 55) 55 rfl (by omega) (by omega)).mpr c55), decide_eq_false (show ¬ 55 < o by omega), Bool.not_false, Bool.true_or, nd_t, ok_b]
              exact b173 z2 k1
            · rw [if_neg (fun x => c55 ((nIle (x := 55) 55 rfl (by omega) (by omega)).mp x)), k1.sole hF, cal_s, decide_eq_true (show 55 < o by omega), Bool.not_true, Bool.false_or]
              obtain ⟨z3, v1, v2, v3, v4, v5⟩ := k1.nd (F := F) (lSole ls q.2 q.1.2.1) (v := 6) (by omega) (by omega)
              have v1' : fn_X13_need F sh n z2 355 (bI (lSole ls q.2 q.1.2.1)) 6 = some (z3, ()) := v1
              rw [v1', cal_s]
              cases e6 : lSole ls q.2 q.1.2.1 with
              | true => exact OpR.lift v2 (b173 z3 (v4 e6))
              | false =>
                have k := v5 e6
                refine ⟨z3, ?_, ⟨by decide, _, k⟩, v2⟩
                have o5 : o = 56 ∨ o = 57 ∨ o = 58 := by omega
                rcases o5 with eo | eo | eo
                · subst eo; rfl
                · subst eo
                  show cal (fn_X13_give F sh n z3 355 (tL e)) (fun z_25 _ => some (z_25, ())) = _
                  rw [k.give_e (by omega), cal_s]
                · subst eo; rfl
        unfold fn_X13_onVector_B124
        by_cases c54 : o ≤ 54
        · rw [if_pos ((nIle (x := 54) 54 rfl (by omega) (by omega)).mpr c54)]
          have : bI (decide (54 < o)) = 0 := by rw [decide_eq_false (show ¬ 54 < o by omega)]; rfl
          rw [this] at b138
          exact b138
        · rw [if_neg (fun x => c54 ((nIle (x := 54) 54 rfl (by omega) (by omega)).mp x))]
          have : bI (decide (54 < o)) = 1 := by rw [decide_eq_true (show 54 < o by omega)]; rfl
          rw [this] at b138
          exact b138
      have o5 : o = 53 ∨ o = 54 ∨ o = 55 ∨ o = 56 ∨ o = 57 ∨ o = 58 := by omega
      have one3 : ∀ z1 rr, RR sh n z1 ku f ls U.1.2.2 rr → ∃ z', fn_X13_take_ F sh n z1 355 3 = some (z', ()) ∧ RR sh n z' ku f ls U.1.2.2 (rr >>= lTakeT [3]) ∧ FrLk z1 z' := fun z1 rr T => by
        obtain ⟨z2, q1, q2, q3⟩ := T.takeT (F := F) t3
        rw [e3] at q1
        exact ⟨z2, q1, q2, q3⟩
      rcases o5 with eo | eo | eo | eo | eo | eo
      · subst eo; exact tail z _ h0 FrLk.rfl'
      · subst eo
        obtain ⟨z2, q1, q2, q3⟩ := one3 z _ h0
        show OpR sh n z ku f ls U.1.2.2 (cal (fn_X13_take_ F sh n z 355 3) (fun z_55 _ => fn_X13_onVector_B99 F sh n (nI 54) 355 (tL e) (tL (7 :: e)) z_55)) _
        rw [q1, cal_s]
        exact tail z2 _ q2 q3
      · subst eo
        obtain ⟨z2, q1, q2, q3⟩ := one3 z _ h0
        show OpR sh n z ku f ls U.1.2.2 (cal (fn_X13_take_ F sh n z 355 3) (fun z_55 _ => fn_X13_onVector_B99 F sh n (nI 55) 355 (tL e) (tL (7 :: e)) z_55)) _
        rw [q1, cal_s]
        exact tail z2 _ q2 q3
      · subst eo
        obtain ⟨z2, q1, q2, q3⟩ := h0.takeT (F := F) pl.1.1
        show OpR sh n z ku f ls U.1.2.2 (cal (fn_X13_take_ F sh n z 355 (tL e)) (fun z_49 _ => fn_X13_onVector_B124 F sh n (nI 56) 355 (tL (7 :: e)) (tL e) z_49)) _
        rw [q1, cal_s]
        exact tail z2 _ q2 q3
      · subst eo; exact tail z _ h0 FrLk.rfl'
      · subst eo
        obtain ⟨z2, q1, q2, q3⟩ := one3 z _ h0
        obtain ⟨z3, p1, p2, p3⟩ := one3 z2 _ q2
        show OpR sh n z ku f ls U.1.2.2 (cal (fn_X13_take_ F sh n z 355 3) (fun z_55 _ => fn_X13_onVector_B99 F sh n (nI 58) 355 (tL e) (tL (7 :: e)) z_55)) _
        rw [q1, cal_s]
        show OpR sh n z ku f ls U.1.2.2 (cal (fn_X13_take_ F sh n z2 355 3) (fun z_52 _ => fn_X13_onVector_B112 F sh n (nI 58) 355 (tL e) (tL (7 :: e)) z_52)) _
        rw [p1, cal_s]
        have := tail z3 _ p2 (q3.trans p3)
        rw [px_assoc] at this
        exact this
end
